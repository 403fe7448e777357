theorem dX0_init_0 : decode cX0_init 0 = .ok (.aload_n 0, 1) := by decide +kernel
theorem dX0_init_1 : decode cX0_init 1 = .ok (.invokespecial 3, 3) := by decide +kernel
theorem dX0_init_4 : decode cX0_init 4 = .ok (.aload_n 0, 1) := by decide +kernel
theorem dX0_init_5 : decode cX0_init 5 = .ok (.bipush 6, 2) := by decide +kernel
theorem dX0_init_7 : decode cX0_init 7 = .ok (.newarray .long, 2) := by decide +kernel
theorem dX0_init_9 : decode cX0_init 9 = .ok (.putfield 9, 3) := by decide +kernel
theorem dX0_init_12 : decode cX0_init 12 = .ok (.aload_n 0, 1) := by decide +kernel
theorem dX0_init_13 : decode cX0_init 13 = .ok (.bipush 6, 2) := by decide +kernel
theorem dX0_init_15 : decode cX0_init 15 = .ok (.newarray .int, 2) := by decide +kernel
theorem dX0_init_17 : decode cX0_init 17 = .ok (.putfield 15, 3) := by decide +kernel
theorem dX0_init_20 : decode cX0_init 20 = .ok (.aload_n 0, 1) := by decide +kernel
theorem dX0_init_21 : decode cX0_init 21 = .ok (.bipush 21, 2) := by decide +kernel
theorem dX0_init_23 : decode cX0_init 23 = .ok (.newarray .long, 2) := by decide +kernel
theorem dX0_init_25 : decode cX0_init 25 = .ok (.putfield 19, 3) := by decide +kernel
theorem dX0_init_28 : decode cX0_init 28 = .ok (.aload_n 0, 1) := by decide +kernel
theorem dX0_init_29 : decode cX0_init 29 = .ok (.bipush 61, 2) := by decide +kernel
theorem dX0_init_31 : decode cX0_init 31 = .ok (.newarray .int, 2) := by decide +kernel
theorem dX0_init_33 : decode cX0_init 33 = .ok (.putfield 22, 3) := by decide +kernel
theorem dX0_init_36 : decode cX0_init 36 = .ok (.return_, 1) := by decide +kernel
theorem dX0_setOut_0 : decode cX0_setOut 0 = .ok (.aload_n 0, 1) := by decide +kernel
theorem dX0_setOut_1 : decode cX0_setOut 1 = .ok (.aload_n 1, 1) := by decide +kernel
theorem dX0_setOut_2 : decode cX0_setOut 2 = .ok (.getfield 25, 3) := by decide +kernel
theorem dX0_setOut_5 : decode cX0_setOut 5 = .ok (.putfield 31, 3) := by decide +kernel
theorem dX0_setOut_8 : decode cX0_setOut 8 = .ok (.aload_n 0, 1) := by decide +kernel
theorem dX0_setOut_9 : decode cX0_setOut 9 = .ok (.aload_n 1, 1) := by decide +kernel
theorem dX0_setOut_10 : decode cX0_setOut 10 = .ok (.getfield 32, 3) := by decide +kernel
theorem dX0_setOut_13 : decode cX0_setOut 13 = .ok (.putfield 35, 3) := by decide +kernel
theorem dX0_setOut_16 : decode cX0_setOut 16 = .ok (.aload_n 0, 1) := by decide +kernel
theorem dX0_setOut_17 : decode cX0_setOut 17 = .ok (.aload_n 1, 1) := by decide +kernel
theorem dX0_setOut_18 : decode cX0_setOut 18 = .ok (.getfield 36, 3) := by decide +kernel
theorem dX0_setOut_21 : decode cX0_setOut 21 = .ok (.putfield 39, 3) := by decide +kernel
theorem dX0_setOut_24 : decode cX0_setOut 24 = .ok (.iconst 0, 1) := by decide +kernel
theorem dX0_setOut_25 : decode cX0_setOut 25 = .ok (.istore_n 2, 1) := by decide +kernel
theorem dX0_setOut_26 : decode cX0_setOut 26 = .ok (.iload_n 2, 1) := by decide +kernel
theorem dX0_setOut_27 : decode cX0_setOut 27 = .ok (.aload_n 0, 1) := by decide +kernel
theorem dX0_setOut_28 : decode cX0_setOut 28 = .ok (.getfield 31, 3) := by decide +kernel
theorem dX0_setOut_31 : decode cX0_setOut 31 = .ok (.if_icmp .ge 46, 3) := by decide +kernel
theorem dX0_setOut_34 : decode cX0_setOut 34 = .ok (.aload_n 0, 1) := by decide +kernel
theorem dX0_setOut_35 : decode cX0_setOut 35 = .ok (.getfield 15, 3) := by decide +kernel
theorem dX0_setOut_38 : decode cX0_setOut 38 = .ok (.iload_n 2, 1) := by decide +kernel
theorem dX0_setOut_39 : decode cX0_setOut 39 = .ok (.aload_n 1, 1) := by decide +kernel
theorem dX0_setOut_40 : decode cX0_setOut 40 = .ok (.getfield 42, 3) := by decide +kernel
theorem dX0_setOut_43 : decode cX0_setOut 43 = .ok (.iload_n 2, 1) := by decide +kernel
theorem dX0_setOut_44 : decode cX0_setOut 44 = .ok (.iaload, 1) := by decide +kernel
theorem dX0_setOut_45 : decode cX0_setOut 45 = .ok (.iastore, 1) := by decide +kernel
theorem dX0_setOut_46 : decode cX0_setOut 46 = .ok (.aload_n 0, 1) := by decide +kernel
theorem dX0_setOut_47 : decode cX0_setOut 47 = .ok (.getfield 9, 3) := by decide +kernel
theorem dX0_setOut_50 : decode cX0_setOut 50 = .ok (.iload_n 2, 1) := by decide +kernel
theorem dX0_setOut_51 : decode cX0_setOut 51 = .ok (.aload_n 1, 1) := by decide +kernel
theorem dX0_setOut_52 : decode cX0_setOut 52 = .ok (.getfield 43, 3) := by decide +kernel
theorem dX0_setOut_55 : decode cX0_setOut 55 = .ok (.iload_n 2, 1) := by decide +kernel
theorem dX0_setOut_56 : decode cX0_setOut 56 = .ok (.iaload, 1) := by decide +kernel
theorem dX0_setOut_57 : decode cX0_setOut 57 = .ok (.aload_n 1, 1) := by decide +kernel
theorem dX0_setOut_58 : decode cX0_setOut 58 = .ok (.getfield 46, 3) := by decide +kernel
theorem dX0_setOut_61 : decode cX0_setOut 61 = .ok (.iload_n 2, 1) := by decide +kernel
theorem dX0_setOut_62 : decode cX0_setOut 62 = .ok (.iaload, 1) := by decide +kernel
theorem dX0_setOut_63 : decode cX0_setOut 63 = .ok (.aload_n 1, 1) := by decide +kernel
theorem dX0_setOut_64 : decode cX0_setOut 64 = .ok (.getfield 49, 3) := by decide +kernel
theorem dX0_setOut_67 : decode cX0_setOut 67 = .ok (.invokestatic 52, 3) := by decide +kernel
theorem dX0_setOut_70 : decode cX0_setOut 70 = .ok (.lastore, 1) := by decide +kernel
theorem dX0_setOut_71 : decode cX0_setOut 71 = .ok (.iinc 2 1, 3) := by decide +kernel
theorem dX0_setOut_74 : decode cX0_setOut 74 = .ok (.goto (-48), 3) := by decide +kernel
theorem dX0_setOut_77 : decode cX0_setOut 77 = .ok (.return_, 1) := by decide +kernel
theorem dX0_ride_0 : decode cX0_ride 0 = .ok (.aload_n 0, 1) := by decide +kernel
theorem dX0_ride_1 : decode cX0_ride 1 = .ok (.iload_n 2, 1) := by decide +kernel
theorem dX0_ride_2 : decode cX0_ride 2 = .ok (.invokevirtual 56, 3) := by decide +kernel
theorem dX0_ride_5 : decode cX0_ride 5 = .ok (.aload_n 0, 1) := by decide +kernel
theorem dX0_ride_6 : decode cX0_ride 6 = .ok (.getfield 39, 3) := by decide +kernel
theorem dX0_ride_9 : decode cX0_ride 9 = .ok (.istore_n 3, 1) := by decide +kernel
theorem dX0_ride_10 : decode cX0_ride 10 = .ok (.aload_n 0, 1) := by decide +kernel
theorem dX0_ride_11 : decode cX0_ride 11 = .ok (.getfield 22, 3) := by decide +kernel
theorem dX0_ride_14 : decode cX0_ride 14 = .ok (.iconst 0, 1) := by decide +kernel
theorem dX0_ride_15 : decode cX0_ride 15 = .ok (.iload_n 3, 1) := by decide +kernel
theorem dX0_ride_16 : decode cX0_ride 16 = .ok (.iastore, 1) := by decide +kernel
theorem dX0_ride_17 : decode cX0_ride 17 = .ok (.iconst 0, 1) := by decide +kernel
theorem dX0_ride_18 : decode cX0_ride 18 = .ok (.istore 4, 2) := by decide +kernel
theorem dX0_ride_20 : decode cX0_ride 20 = .ok (.iload 4, 2) := by decide +kernel
theorem dX0_ride_22 : decode cX0_ride 22 = .ok (.iload_n 1, 1) := by decide +kernel
theorem dX0_ride_23 : decode cX0_ride 23 = .ok (.if_icmp .ge 65, 3) := by decide +kernel
theorem dX0_ride_26 : decode cX0_ride 26 = .ok (.iload 4, 2) := by decide +kernel
theorem dX0_ride_28 : decode cX0_ride 28 = .ok (.bipush 60, 2) := by decide +kernel
theorem dX0_ride_30 : decode cX0_ride 30 = .ok (.if_icmp .ge 58, 3) := by decide +kernel
theorem dX0_ride_33 : decode cX0_ride 33 = .ok (.iload_n 3, 1) := by decide +kernel
theorem dX0_ride_34 : decode cX0_ride 34 = .ok (.aload_n 0, 1) := by decide +kernel
theorem dX0_ride_35 : decode cX0_ride 35 = .ok (.getfield 35, 3) := by decide +kernel
theorem dX0_ride_38 : decode cX0_ride 38 = .ok (.if_icmp .ge 19, 3) := by decide +kernel
theorem dX0_ride_41 : decode cX0_ride 41 = .ok (.aload_n 0, 1) := by decide +kernel
theorem dX0_ride_42 : decode cX0_ride 42 = .ok (.getfield 19, 3) := by decide +kernel
theorem dX0_ride_45 : decode cX0_ride 45 = .ok (.iload_n 3, 1) := by decide +kernel
theorem dX0_ride_46 : decode cX0_ride 46 = .ok (.laload, 1) := by decide +kernel
theorem dX0_ride_47 : decode cX0_ride 47 = .ok (.iload 4, 2) := by decide +kernel
theorem dX0_ride_49 : decode cX0_ride 49 = .ok (.lushr, 1) := by decide +kernel
theorem dX0_ride_50 : decode cX0_ride 50 = .ok (.lconst 1, 1) := by decide +kernel
theorem dX0_ride_51 : decode cX0_ride 51 = .ok (.land, 1) := by decide +kernel
theorem dX0_ride_52 : decode cX0_ride 52 = .ok (.lconst 0, 1) := by decide +kernel
theorem dX0_ride_53 : decode cX0_ride 53 = .ok (.lcmp, 1) := by decide +kernel
theorem dX0_ride_54 : decode cX0_ride 54 = .ok (.ifCond .eq 7, 3) := by decide +kernel
theorem dX0_ride_57 : decode cX0_ride 57 = .ok (.iconst 1, 1) := by decide +kernel
theorem dX0_ride_58 : decode cX0_ride 58 = .ok (.goto 4, 3) := by decide +kernel
theorem dX0_ride_61 : decode cX0_ride 61 = .ok (.iconst 0, 1) := by decide +kernel
theorem dX0_ride_62 : decode cX0_ride 62 = .ok (.istore 5, 2) := by decide +kernel
theorem dX0_ride_64 : decode cX0_ride 64 = .ok (.iload 5, 2) := by decide +kernel
theorem dX0_ride_66 : decode cX0_ride 66 = .ok (.ifCond .ne 6, 3) := by decide +kernel
theorem dX0_ride_69 : decode cX0_ride 69 = .ok (.iinc 3 1, 3) := by decide +kernel
theorem dX0_ride_72 : decode cX0_ride 72 = .ok (.aload_n 0, 1) := by decide +kernel
theorem dX0_ride_73 : decode cX0_ride 73 = .ok (.getfield 22, 3) := by decide +kernel
theorem dX0_ride_76 : decode cX0_ride 76 = .ok (.iload 4, 2) := by decide +kernel
theorem dX0_ride_78 : decode cX0_ride 78 = .ok (.iconst 1, 1) := by decide +kernel
theorem dX0_ride_79 : decode cX0_ride 79 = .ok (.iadd, 1) := by decide +kernel
theorem dX0_ride_80 : decode cX0_ride 80 = .ok (.iload_n 3, 1) := by decide +kernel
theorem dX0_ride_81 : decode cX0_ride 81 = .ok (.iastore, 1) := by decide +kernel
theorem dX0_ride_82 : decode cX0_ride 82 = .ok (.iinc 4 1, 3) := by decide +kernel
theorem dX0_ride_85 : decode cX0_ride 85 = .ok (.goto (-65), 3) := by decide +kernel
theorem dX0_ride_88 : decode cX0_ride 88 = .ok (.iload_n 3, 1) := by decide +kernel
theorem dX0_ride_89 : decode cX0_ride 89 = .ok (.ireturn, 1) := by decide +kernel
theorem dX0_gatherStands_0 : decode cX0_gatherStands 0 = .ok (.aload_n 0, 1) := by decide +kernel
theorem dX0_gatherStands_1 : decode cX0_gatherStands 1 = .ok (.getfield 19, 3) := by decide +kernel
theorem dX0_gatherStands_4 : decode cX0_gatherStands 4 = .ok (.lconst 0, 1) := by decide +kernel
theorem dX0_gatherStands_5 : decode cX0_gatherStands 5 = .ok (.invokestatic 60, 3) := by decide +kernel
theorem dX0_gatherStands_8 : decode cX0_gatherStands 8 = .ok (.iconst 0, 1) := by decide +kernel
theorem dX0_gatherStands_9 : decode cX0_gatherStands 9 = .ok (.istore_n 2, 1) := by decide +kernel
theorem dX0_gatherStands_10 : decode cX0_gatherStands 10 = .ok (.iload_n 2, 1) := by decide +kernel
theorem dX0_gatherStands_11 : decode cX0_gatherStands 11 = .ok (.aload_n 0, 1) := by decide +kernel
theorem dX0_gatherStands_12 : decode cX0_gatherStands 12 = .ok (.getfield 31, 3) := by decide +kernel
theorem dX0_gatherStands_15 : decode cX0_gatherStands 15 = .ok (.if_icmp .ge 37, 3) := by decide +kernel
theorem dX0_gatherStands_18 : decode cX0_gatherStands 18 = .ok (.iload_n 1, 1) := by decide +kernel
theorem dX0_gatherStands_19 : decode cX0_gatherStands 19 = .ok (.iload_n 2, 1) := by decide +kernel
theorem dX0_gatherStands_20 : decode cX0_gatherStands 20 = .ok (.ishr, 1) := by decide +kernel
theorem dX0_gatherStands_21 : decode cX0_gatherStands 21 = .ok (.iconst 1, 1) := by decide +kernel
theorem dX0_gatherStands_22 : decode cX0_gatherStands 22 = .ok (.iand, 1) := by decide +kernel
theorem dX0_gatherStands_23 : decode cX0_gatherStands 23 = .ok (.ifCond .eq 23, 3) := by decide +kernel
theorem dX0_gatherStands_26 : decode cX0_gatherStands 26 = .ok (.aload_n 0, 1) := by decide +kernel
theorem dX0_gatherStands_27 : decode cX0_gatherStands 27 = .ok (.getfield 19, 3) := by decide +kernel
theorem dX0_gatherStands_30 : decode cX0_gatherStands 30 = .ok (.aload_n 0, 1) := by decide +kernel
theorem dX0_gatherStands_31 : decode cX0_gatherStands 31 = .ok (.getfield 15, 3) := by decide +kernel
theorem dX0_gatherStands_34 : decode cX0_gatherStands 34 = .ok (.iload_n 2, 1) := by decide +kernel
theorem dX0_gatherStands_35 : decode cX0_gatherStands 35 = .ok (.iaload, 1) := by decide +kernel
theorem dX0_gatherStands_36 : decode cX0_gatherStands 36 = .ok (.dup2, 1) := by decide +kernel
theorem dX0_gatherStands_37 : decode cX0_gatherStands 37 = .ok (.laload, 1) := by decide +kernel
theorem dX0_gatherStands_38 : decode cX0_gatherStands 38 = .ok (.aload_n 0, 1) := by decide +kernel
theorem dX0_gatherStands_39 : decode cX0_gatherStands 39 = .ok (.getfield 9, 3) := by decide +kernel
theorem dX0_gatherStands_42 : decode cX0_gatherStands 42 = .ok (.iload_n 2, 1) := by decide +kernel
theorem dX0_gatherStands_43 : decode cX0_gatherStands 43 = .ok (.laload, 1) := by decide +kernel
theorem dX0_gatherStands_44 : decode cX0_gatherStands 44 = .ok (.lor, 1) := by decide +kernel
theorem dX0_gatherStands_45 : decode cX0_gatherStands 45 = .ok (.lastore, 1) := by decide +kernel
theorem dX0_gatherStands_46 : decode cX0_gatherStands 46 = .ok (.iinc 2 1, 3) := by decide +kernel
theorem dX0_gatherStands_49 : decode cX0_gatherStands 49 = .ok (.goto (-39), 3) := by decide +kernel
theorem dX0_gatherStands_52 : decode cX0_gatherStands 52 = .ok (.return_, 1) := by decide +kernel
theorem dX0_minutesAt_0 : decode cX0_minutesAt 0 = .ok (.iconst 0, 1) := by decide +kernel
theorem dX0_minutesAt_1 : decode cX0_minutesAt 1 = .ok (.istore_n 3, 1) := by decide +kernel
theorem dX0_minutesAt_2 : decode cX0_minutesAt 2 = .ok (.iconst 0, 1) := by decide +kernel
theorem dX0_minutesAt_3 : decode cX0_minutesAt 3 = .ok (.istore 4, 2) := by decide +kernel
theorem dX0_minutesAt_5 : decode cX0_minutesAt 5 = .ok (.iload 4, 2) := by decide +kernel
theorem dX0_minutesAt_7 : decode cX0_minutesAt 7 = .ok (.iload_n 2, 1) := by decide +kernel
theorem dX0_minutesAt_8 : decode cX0_minutesAt 8 = .ok (.if_icmp .ge 51, 3) := by decide +kernel
theorem dX0_minutesAt_11 : decode cX0_minutesAt 11 = .ok (.iload 4, 2) := by decide +kernel
theorem dX0_minutesAt_13 : decode cX0_minutesAt 13 = .ok (.bipush 60, 2) := by decide +kernel
theorem dX0_minutesAt_15 : decode cX0_minutesAt 15 = .ok (.if_icmp .ge 44, 3) := by decide +kernel
theorem dX0_minutesAt_18 : decode cX0_minutesAt 18 = .ok (.iload_n 3, 1) := by decide +kernel
theorem dX0_minutesAt_19 : decode cX0_minutesAt 19 = .ok (.aload_n 0, 1) := by decide +kernel
theorem dX0_minutesAt_20 : decode cX0_minutesAt 20 = .ok (.getfield 22, 3) := by decide +kernel
theorem dX0_minutesAt_23 : decode cX0_minutesAt 23 = .ok (.iload 4, 2) := by decide +kernel
theorem dX0_minutesAt_25 : decode cX0_minutesAt 25 = .ok (.iaload, 1) := by decide +kernel
theorem dX0_minutesAt_26 : decode cX0_minutesAt 26 = .ok (.iload_n 1, 1) := by decide +kernel
theorem dX0_minutesAt_27 : decode cX0_minutesAt 27 = .ok (.if_icmp .ne 20, 3) := by decide +kernel
theorem dX0_minutesAt_30 : decode cX0_minutesAt 30 = .ok (.aload_n 0, 1) := by decide +kernel
theorem dX0_minutesAt_31 : decode cX0_minutesAt 31 = .ok (.getfield 22, 3) := by decide +kernel
theorem dX0_minutesAt_34 : decode cX0_minutesAt 34 = .ok (.iload 4, 2) := by decide +kernel
theorem dX0_minutesAt_36 : decode cX0_minutesAt 36 = .ok (.iconst 1, 1) := by decide +kernel
theorem dX0_minutesAt_37 : decode cX0_minutesAt 37 = .ok (.iadd, 1) := by decide +kernel
theorem dX0_minutesAt_38 : decode cX0_minutesAt 38 = .ok (.iaload, 1) := by decide +kernel
theorem dX0_minutesAt_39 : decode cX0_minutesAt 39 = .ok (.iload_n 1, 1) := by decide +kernel
theorem dX0_minutesAt_40 : decode cX0_minutesAt 40 = .ok (.if_icmp .ne 7, 3) := by decide +kernel
theorem dX0_minutesAt_43 : decode cX0_minutesAt 43 = .ok (.iconst 1, 1) := by decide +kernel
theorem dX0_minutesAt_44 : decode cX0_minutesAt 44 = .ok (.goto 4, 3) := by decide +kernel
theorem dX0_minutesAt_47 : decode cX0_minutesAt 47 = .ok (.iconst 0, 1) := by decide +kernel
theorem dX0_minutesAt_48 : decode cX0_minutesAt 48 = .ok (.invokestatic 66, 3) := by decide +kernel
theorem dX0_minutesAt_51 : decode cX0_minutesAt 51 = .ok (.iadd, 1) := by decide +kernel
theorem dX0_minutesAt_52 : decode cX0_minutesAt 52 = .ok (.istore_n 3, 1) := by decide +kernel
theorem dX0_minutesAt_53 : decode cX0_minutesAt 53 = .ok (.iinc 4 1, 3) := by decide +kernel
theorem dX0_minutesAt_56 : decode cX0_minutesAt 56 = .ok (.goto (-51), 3) := by decide +kernel
theorem dX0_minutesAt_59 : decode cX0_minutesAt 59 = .ok (.iload_n 3, 1) := by decide +kernel
theorem dX0_minutesAt_60 : decode cX0_minutesAt 60 = .ok (.ireturn, 1) := by decide +kernel
theorem dX1_init_0 : decode cX1_init 0 = .ok (.aload_n 0, 1) := by decide +kernel
theorem dX1_init_1 : decode cX1_init 1 = .ok (.invokespecial 3, 3) := by decide +kernel
theorem dX1_init_4 : decode cX1_init 4 = .ok (.aload_n 0, 1) := by decide +kernel
theorem dX1_init_5 : decode cX1_init 5 = .ok (.bipush 6, 2) := by decide +kernel
theorem dX1_init_7 : decode cX1_init 7 = .ok (.newarray .int, 2) := by decide +kernel
theorem dX1_init_9 : decode cX1_init 9 = .ok (.putfield 9, 3) := by decide +kernel
theorem dX1_init_12 : decode cX1_init 12 = .ok (.aload_n 0, 1) := by decide +kernel
theorem dX1_init_13 : decode cX1_init 13 = .ok (.bipush 6, 2) := by decide +kernel
theorem dX1_init_15 : decode cX1_init 15 = .ok (.newarray .int, 2) := by decide +kernel
theorem dX1_init_17 : decode cX1_init 17 = .ok (.putfield 15, 3) := by decide +kernel
theorem dX1_init_20 : decode cX1_init 20 = .ok (.aload_n 0, 1) := by decide +kernel
theorem dX1_init_21 : decode cX1_init 21 = .ok (.bipush 6, 2) := by decide +kernel
theorem dX1_init_23 : decode cX1_init 23 = .ok (.newarray .int, 2) := by decide +kernel
theorem dX1_init_25 : decode cX1_init 25 = .ok (.putfield 18, 3) := by decide +kernel
theorem dX1_init_28 : decode cX1_init 28 = .ok (.aload_n 0, 1) := by decide +kernel
theorem dX1_init_29 : decode cX1_init 29 = .ok (.bipush 40, 2) := by decide +kernel
theorem dX1_init_31 : decode cX1_init 31 = .ok (.newarray .int, 2) := by decide +kernel
theorem dX1_init_33 : decode cX1_init 33 = .ok (.putfield 21, 3) := by decide +kernel
theorem dX1_init_36 : decode cX1_init 36 = .ok (.aload_n 0, 1) := by decide +kernel
theorem dX1_init_37 : decode cX1_init 37 = .ok (.bipush 40, 2) := by decide +kernel
theorem dX1_init_39 : decode cX1_init 39 = .ok (.newarray .int, 2) := by decide +kernel
theorem dX1_init_41 : decode cX1_init 41 = .ok (.putfield 24, 3) := by decide +kernel
theorem dX1_init_44 : decode cX1_init 44 = .ok (.aload_n 0, 1) := by decide +kernel
theorem dX1_init_45 : decode cX1_init 45 = .ok (.bipush 40, 2) := by decide +kernel
theorem dX1_init_47 : decode cX1_init 47 = .ok (.newarray .int, 2) := by decide +kernel
theorem dX1_init_49 : decode cX1_init 49 = .ok (.putfield 27, 3) := by decide +kernel
theorem dX1_init_52 : decode cX1_init 52 = .ok (.return_, 1) := by decide +kernel
theorem dX1_begin_0 : decode cX1_begin 0 = .ok (.aload_n 0, 1) := by decide +kernel
theorem dX1_begin_1 : decode cX1_begin 1 = .ok (.iconst 0, 1) := by decide +kernel
theorem dX1_begin_2 : decode cX1_begin 2 = .ok (.putfield 30, 3) := by decide +kernel
theorem dX1_begin_5 : decode cX1_begin 5 = .ok (.aload_n 0, 1) := by decide +kernel
theorem dX1_begin_6 : decode cX1_begin 6 = .ok (.iload_n 1, 1) := by decide +kernel
theorem dX1_begin_7 : decode cX1_begin 7 = .ok (.putfield 34, 3) := by decide +kernel
theorem dX1_begin_10 : decode cX1_begin 10 = .ok (.aload_n 0, 1) := by decide +kernel
theorem dX1_begin_11 : decode cX1_begin 11 = .ok (.iload_n 2, 1) := by decide +kernel
theorem dX1_begin_12 : decode cX1_begin 12 = .ok (.putfield 37, 3) := by decide +kernel
theorem dX1_begin_15 : decode cX1_begin 15 = .ok (.aload_n 0, 1) := by decide +kernel
theorem dX1_begin_16 : decode cX1_begin 16 = .ok (.iconst 0, 1) := by decide +kernel
theorem dX1_begin_17 : decode cX1_begin 17 = .ok (.putfield 40, 3) := by decide +kernel
theorem dX1_begin_20 : decode cX1_begin 20 = .ok (.aload_n 0, 1) := by decide +kernel
theorem dX1_begin_21 : decode cX1_begin 21 = .ok (.iconst 0, 1) := by decide +kernel
theorem dX1_begin_22 : decode cX1_begin 22 = .ok (.putfield 43, 3) := by decide +kernel
theorem dX1_begin_25 : decode cX1_begin 25 = .ok (.aload_n 0, 1) := by decide +kernel
theorem dX1_begin_26 : decode cX1_begin 26 = .ok (.iconst 0, 1) := by decide +kernel
theorem dX1_begin_27 : decode cX1_begin 27 = .ok (.putfield 46, 3) := by decide +kernel
theorem dX1_begin_30 : decode cX1_begin 30 = .ok (.aload_n 0, 1) := by decide +kernel
theorem dX1_begin_31 : decode cX1_begin 31 = .ok (.iconst 0, 1) := by decide +kernel
theorem dX1_begin_32 : decode cX1_begin 32 = .ok (.putfield 49, 3) := by decide +kernel
theorem dX1_begin_35 : decode cX1_begin 35 = .ok (.return_, 1) := by decide +kernel
theorem dX1_addSleeper_0 : decode cX1_addSleeper 0 = .ok (.aload_n 0, 1) := by decide +kernel
theorem dX1_addSleeper_1 : decode cX1_addSleeper 1 = .ok (.getfield 30, 3) := by decide +kernel
theorem dX1_addSleeper_4 : decode cX1_addSleeper 4 = .ok (.bipush 6, 2) := by decide +kernel
theorem dX1_addSleeper_6 : decode cX1_addSleeper 6 = .ok (.if_icmp .lt 4, 3) := by decide +kernel
theorem dX1_addSleeper_9 : decode cX1_addSleeper 9 = .ok (.return_, 1) := by decide +kernel
theorem dX1_addSleeper_10 : decode cX1_addSleeper 10 = .ok (.aload_n 0, 1) := by decide +kernel
theorem dX1_addSleeper_11 : decode cX1_addSleeper 11 = .ok (.getfield 9, 3) := by decide +kernel
theorem dX1_addSleeper_14 : decode cX1_addSleeper 14 = .ok (.aload_n 0, 1) := by decide +kernel
theorem dX1_addSleeper_15 : decode cX1_addSleeper 15 = .ok (.getfield 30, 3) := by decide +kernel
theorem dX1_addSleeper_18 : decode cX1_addSleeper 18 = .ok (.iload_n 1, 1) := by decide +kernel
theorem dX1_addSleeper_19 : decode cX1_addSleeper 19 = .ok (.iastore, 1) := by decide +kernel
theorem dX1_addSleeper_20 : decode cX1_addSleeper 20 = .ok (.aload_n 0, 1) := by decide +kernel
theorem dX1_addSleeper_21 : decode cX1_addSleeper 21 = .ok (.getfield 15, 3) := by decide +kernel
theorem dX1_addSleeper_24 : decode cX1_addSleeper 24 = .ok (.aload_n 0, 1) := by decide +kernel
theorem dX1_addSleeper_25 : decode cX1_addSleeper 25 = .ok (.getfield 30, 3) := by decide +kernel
theorem dX1_addSleeper_28 : decode cX1_addSleeper 28 = .ok (.iload_n 2, 1) := by decide +kernel
theorem dX1_addSleeper_29 : decode cX1_addSleeper 29 = .ok (.iastore, 1) := by decide +kernel
theorem dX1_addSleeper_30 : decode cX1_addSleeper 30 = .ok (.aload_n 0, 1) := by decide +kernel
theorem dX1_addSleeper_31 : decode cX1_addSleeper 31 = .ok (.getfield 18, 3) := by decide +kernel
theorem dX1_addSleeper_34 : decode cX1_addSleeper 34 = .ok (.aload_n 0, 1) := by decide +kernel
theorem dX1_addSleeper_35 : decode cX1_addSleeper 35 = .ok (.getfield 30, 3) := by decide +kernel
theorem dX1_addSleeper_38 : decode cX1_addSleeper 38 = .ok (.iload_n 3, 1) := by decide +kernel
theorem dX1_addSleeper_39 : decode cX1_addSleeper 39 = .ok (.iastore, 1) := by decide +kernel
theorem dX1_addSleeper_40 : decode cX1_addSleeper 40 = .ok (.aload_n 0, 1) := by decide +kernel
theorem dX1_addSleeper_41 : decode cX1_addSleeper 41 = .ok (.dup, 1) := by decide +kernel
theorem dX1_addSleeper_42 : decode cX1_addSleeper 42 = .ok (.getfield 40, 3) := by decide +kernel
theorem dX1_addSleeper_45 : decode cX1_addSleeper 45 = .ok (.iconst 1, 1) := by decide +kernel
theorem dX1_addSleeper_46 : decode cX1_addSleeper 46 = .ok (.aload_n 0, 1) := by decide +kernel
theorem dX1_addSleeper_47 : decode cX1_addSleeper 47 = .ok (.getfield 30, 3) := by decide +kernel
theorem dX1_addSleeper_50 : decode cX1_addSleeper 50 = .ok (.ishl, 1) := by decide +kernel
theorem dX1_addSleeper_51 : decode cX1_addSleeper 51 = .ok (.ior, 1) := by decide +kernel
theorem dX1_addSleeper_52 : decode cX1_addSleeper 52 = .ok (.putfield 40, 3) := by decide +kernel
theorem dX1_addSleeper_55 : decode cX1_addSleeper 55 = .ok (.aload_n 0, 1) := by decide +kernel
theorem dX1_addSleeper_56 : decode cX1_addSleeper 56 = .ok (.dup, 1) := by decide +kernel
theorem dX1_addSleeper_57 : decode cX1_addSleeper 57 = .ok (.getfield 30, 3) := by decide +kernel
theorem dX1_addSleeper_60 : decode cX1_addSleeper 60 = .ok (.iconst 1, 1) := by decide +kernel
theorem dX1_addSleeper_61 : decode cX1_addSleeper 61 = .ok (.iadd, 1) := by decide +kernel
theorem dX1_addSleeper_62 : decode cX1_addSleeper 62 = .ok (.putfield 30, 3) := by decide +kernel
theorem dX1_addSleeper_65 : decode cX1_addSleeper 65 = .ok (.return_, 1) := by decide +kernel
theorem dX1_become_0 : decode cX1_become 0 = .ok (.aload_n 1, 1) := by decide +kernel
theorem dX1_become_1 : decode cX1_become 1 = .ok (.getfield 9, 3) := by decide +kernel
theorem dX1_become_4 : decode cX1_become 4 = .ok (.iconst 0, 1) := by decide +kernel
theorem dX1_become_5 : decode cX1_become 5 = .ok (.aload_n 0, 1) := by decide +kernel
theorem dX1_become_6 : decode cX1_become 6 = .ok (.getfield 9, 3) := by decide +kernel
theorem dX1_become_9 : decode cX1_become 9 = .ok (.iconst 0, 1) := by decide +kernel
theorem dX1_become_10 : decode cX1_become 10 = .ok (.bipush 6, 2) := by decide +kernel
theorem dX1_become_12 : decode cX1_become 12 = .ok (.invokestatic 52, 3) := by decide +kernel
theorem dX1_become_15 : decode cX1_become 15 = .ok (.aload_n 1, 1) := by decide +kernel
theorem dX1_become_16 : decode cX1_become 16 = .ok (.getfield 15, 3) := by decide +kernel
theorem dX1_become_19 : decode cX1_become 19 = .ok (.iconst 0, 1) := by decide +kernel
theorem dX1_become_20 : decode cX1_become 20 = .ok (.aload_n 0, 1) := by decide +kernel
theorem dX1_become_21 : decode cX1_become 21 = .ok (.getfield 15, 3) := by decide +kernel
theorem dX1_become_24 : decode cX1_become 24 = .ok (.iconst 0, 1) := by decide +kernel
theorem dX1_become_25 : decode cX1_become 25 = .ok (.bipush 6, 2) := by decide +kernel
theorem dX1_become_27 : decode cX1_become 27 = .ok (.invokestatic 52, 3) := by decide +kernel
theorem dX1_become_30 : decode cX1_become 30 = .ok (.aload_n 1, 1) := by decide +kernel
theorem dX1_become_31 : decode cX1_become 31 = .ok (.getfield 18, 3) := by decide +kernel
theorem dX1_become_34 : decode cX1_become 34 = .ok (.iconst 0, 1) := by decide +kernel
theorem dX1_become_35 : decode cX1_become 35 = .ok (.aload_n 0, 1) := by decide +kernel
theorem dX1_become_36 : decode cX1_become 36 = .ok (.getfield 18, 3) := by decide +kernel
theorem dX1_become_39 : decode cX1_become 39 = .ok (.iconst 0, 1) := by decide +kernel
theorem dX1_become_40 : decode cX1_become 40 = .ok (.bipush 6, 2) := by decide +kernel
theorem dX1_become_42 : decode cX1_become 42 = .ok (.invokestatic 52, 3) := by decide +kernel
theorem dX1_become_45 : decode cX1_become 45 = .ok (.aload_n 1, 1) := by decide +kernel
theorem dX1_become_46 : decode cX1_become 46 = .ok (.getfield 21, 3) := by decide +kernel
theorem dX1_become_49 : decode cX1_become 49 = .ok (.iconst 0, 1) := by decide +kernel
theorem dX1_become_50 : decode cX1_become 50 = .ok (.aload_n 0, 1) := by decide +kernel
theorem dX1_become_51 : decode cX1_become 51 = .ok (.getfield 21, 3) := by decide +kernel
theorem dX1_become_54 : decode cX1_become 54 = .ok (.iconst 0, 1) := by decide +kernel
theorem dX1_become_55 : decode cX1_become 55 = .ok (.bipush 40, 2) := by decide +kernel
theorem dX1_become_57 : decode cX1_become 57 = .ok (.invokestatic 52, 3) := by decide +kernel
theorem dX1_become_60 : decode cX1_become 60 = .ok (.aload_n 1, 1) := by decide +kernel
theorem dX1_become_61 : decode cX1_become 61 = .ok (.getfield 24, 3) := by decide +kernel
theorem dX1_become_64 : decode cX1_become 64 = .ok (.iconst 0, 1) := by decide +kernel
theorem dX1_become_65 : decode cX1_become 65 = .ok (.aload_n 0, 1) := by decide +kernel
theorem dX1_become_66 : decode cX1_become 66 = .ok (.getfield 24, 3) := by decide +kernel
theorem dX1_become_69 : decode cX1_become 69 = .ok (.iconst 0, 1) := by decide +kernel
theorem dX1_become_70 : decode cX1_become 70 = .ok (.bipush 40, 2) := by decide +kernel
theorem dX1_become_72 : decode cX1_become 72 = .ok (.invokestatic 52, 3) := by decide +kernel
theorem dX1_become_75 : decode cX1_become 75 = .ok (.aload_n 1, 1) := by decide +kernel
theorem dX1_become_76 : decode cX1_become 76 = .ok (.getfield 27, 3) := by decide +kernel
theorem dX1_become_79 : decode cX1_become 79 = .ok (.iconst 0, 1) := by decide +kernel
theorem dX1_become_80 : decode cX1_become 80 = .ok (.aload_n 0, 1) := by decide +kernel
theorem dX1_become_81 : decode cX1_become 81 = .ok (.getfield 27, 3) := by decide +kernel
theorem dX1_become_84 : decode cX1_become 84 = .ok (.iconst 0, 1) := by decide +kernel
theorem dX1_become_85 : decode cX1_become 85 = .ok (.bipush 40, 2) := by decide +kernel
theorem dX1_become_87 : decode cX1_become 87 = .ok (.invokestatic 52, 3) := by decide +kernel
theorem dX1_become_90 : decode cX1_become 90 = .ok (.aload_n 0, 1) := by decide +kernel
theorem dX1_become_91 : decode cX1_become 91 = .ok (.aload_n 1, 1) := by decide +kernel
theorem dX1_become_92 : decode cX1_become 92 = .ok (.getfield 30, 3) := by decide +kernel
theorem dX1_become_95 : decode cX1_become 95 = .ok (.putfield 30, 3) := by decide +kernel
theorem dX1_become_98 : decode cX1_become 98 = .ok (.aload_n 0, 1) := by decide +kernel
theorem dX1_become_99 : decode cX1_become 99 = .ok (.aload_n 1, 1) := by decide +kernel
theorem dX1_become_100 : decode cX1_become 100 = .ok (.getfield 34, 3) := by decide +kernel
theorem dX1_become_103 : decode cX1_become 103 = .ok (.putfield 34, 3) := by decide +kernel
theorem dX1_become_106 : decode cX1_become 106 = .ok (.aload_n 0, 1) := by decide +kernel
theorem dX1_become_107 : decode cX1_become 107 = .ok (.aload_n 1, 1) := by decide +kernel
theorem dX1_become_108 : decode cX1_become 108 = .ok (.getfield 37, 3) := by decide +kernel
theorem dX1_become_111 : decode cX1_become 111 = .ok (.putfield 37, 3) := by decide +kernel
theorem dX1_become_114 : decode cX1_become 114 = .ok (.aload_n 0, 1) := by decide +kernel
theorem dX1_become_115 : decode cX1_become 115 = .ok (.aload_n 1, 1) := by decide +kernel
theorem dX1_become_116 : decode cX1_become 116 = .ok (.getfield 40, 3) := by decide +kernel
theorem dX1_become_119 : decode cX1_become 119 = .ok (.putfield 40, 3) := by decide +kernel
theorem dX1_become_122 : decode cX1_become 122 = .ok (.aload_n 0, 1) := by decide +kernel
theorem dX1_become_123 : decode cX1_become 123 = .ok (.aload_n 1, 1) := by decide +kernel
theorem dX1_become_124 : decode cX1_become 124 = .ok (.getfield 43, 3) := by decide +kernel
theorem dX1_become_127 : decode cX1_become 127 = .ok (.putfield 43, 3) := by decide +kernel
theorem dX1_become_130 : decode cX1_become 130 = .ok (.aload_n 0, 1) := by decide +kernel
theorem dX1_become_131 : decode cX1_become 131 = .ok (.aload_n 1, 1) := by decide +kernel
theorem dX1_become_132 : decode cX1_become 132 = .ok (.getfield 46, 3) := by decide +kernel
theorem dX1_become_135 : decode cX1_become 135 = .ok (.putfield 46, 3) := by decide +kernel
theorem dX1_become_138 : decode cX1_become 138 = .ok (.aload_n 0, 1) := by decide +kernel
theorem dX1_become_139 : decode cX1_become 139 = .ok (.aload_n 1, 1) := by decide +kernel
theorem dX1_become_140 : decode cX1_become 140 = .ok (.getfield 49, 3) := by decide +kernel
theorem dX1_become_143 : decode cX1_become 143 = .ok (.putfield 49, 3) := by decide +kernel
theorem dX1_become_146 : decode cX1_become 146 = .ok (.return_, 1) := by decide +kernel
theorem dX1_setCount_0 : decode cX1_setCount 0 = .ok (.iconst 1, 1) := by decide +kernel
theorem dX1_setCount_1 : decode cX1_setCount 1 = .ok (.aload_n 0, 1) := by decide +kernel
theorem dX1_setCount_2 : decode cX1_setCount 2 = .ok (.getfield 30, 3) := by decide +kernel
theorem dX1_setCount_5 : decode cX1_setCount 5 = .ok (.ishl, 1) := by decide +kernel
theorem dX1_setCount_6 : decode cX1_setCount 6 = .ok (.ireturn, 1) := by decide +kernel
theorem dX1_isAsleep_0 : decode cX1_isAsleep 0 = .ok (.aload_n 0, 1) := by decide +kernel
theorem dX1_isAsleep_1 : decode cX1_isAsleep 1 = .ok (.getfield 40, 3) := by decide +kernel
theorem dX1_isAsleep_4 : decode cX1_isAsleep 4 = .ok (.iload_n 1, 1) := by decide +kernel
theorem dX1_isAsleep_5 : decode cX1_isAsleep 5 = .ok (.ishr, 1) := by decide +kernel
theorem dX1_isAsleep_6 : decode cX1_isAsleep 6 = .ok (.iconst 1, 1) := by decide +kernel
theorem dX1_isAsleep_7 : decode cX1_isAsleep 7 = .ok (.iand, 1) := by decide +kernel
theorem dX1_isAsleep_8 : decode cX1_isAsleep 8 = .ok (.ifCond .eq 7, 3) := by decide +kernel
theorem dX1_isAsleep_11 : decode cX1_isAsleep 11 = .ok (.iconst 1, 1) := by decide +kernel
theorem dX1_isAsleep_12 : decode cX1_isAsleep 12 = .ok (.goto 4, 3) := by decide +kernel
theorem dX1_isAsleep_15 : decode cX1_isAsleep 15 = .ok (.iconst 0, 1) := by decide +kernel
theorem dX1_isAsleep_16 : decode cX1_isAsleep 16 = .ok (.ireturn, 1) := by decide +kernel
theorem dX1_isDreaming_0 : decode cX1_isDreaming 0 = .ok (.aload_n 0, 1) := by decide +kernel
theorem dX1_isDreaming_1 : decode cX1_isDreaming 1 = .ok (.iload_n 1, 1) := by decide +kernel
theorem dX1_isDreaming_2 : decode cX1_isDreaming 2 = .ok (.invokevirtual 58, 3) := by decide +kernel
theorem dX1_isDreaming_5 : decode cX1_isDreaming 5 = .ok (.ifCond .eq 29, 3) := by decide +kernel
theorem dX1_isDreaming_8 : decode cX1_isDreaming 8 = .ok (.aload_n 0, 1) := by decide +kernel
theorem dX1_isDreaming_9 : decode cX1_isDreaming 9 = .ok (.getfield 9, 3) := by decide +kernel
theorem dX1_isDreaming_12 : decode cX1_isDreaming 12 = .ok (.iload_n 1, 1) := by decide +kernel
theorem dX1_isDreaming_13 : decode cX1_isDreaming 13 = .ok (.iaload, 1) := by decide +kernel
theorem dX1_isDreaming_14 : decode cX1_isDreaming 14 = .ok (.aload_n 0, 1) := by decide +kernel
theorem dX1_isDreaming_15 : decode cX1_isDreaming 15 = .ok (.getfield 18, 3) := by decide +kernel
theorem dX1_isDreaming_18 : decode cX1_isDreaming 18 = .ok (.iload_n 1, 1) := by decide +kernel
theorem dX1_isDreaming_19 : decode cX1_isDreaming 19 = .ok (.iaload, 1) := by decide +kernel
theorem dX1_isDreaming_20 : decode cX1_isDreaming 20 = .ok (.aload_n 0, 1) := by decide +kernel
theorem dX1_isDreaming_21 : decode cX1_isDreaming 21 = .ok (.getfield 43, 3) := by decide +kernel
theorem dX1_isDreaming_24 : decode cX1_isDreaming 24 = .ok (.invokestatic 62, 3) := by decide +kernel
theorem dX1_isDreaming_27 : decode cX1_isDreaming 27 = .ok (.ifCond .eq 7, 3) := by decide +kernel
theorem dX1_isDreaming_30 : decode cX1_isDreaming 30 = .ok (.iconst 1, 1) := by decide +kernel
theorem dX1_isDreaming_31 : decode cX1_isDreaming 31 = .ok (.goto 4, 3) := by decide +kernel
theorem dX1_isDreaming_34 : decode cX1_isDreaming 34 = .ok (.iconst 0, 1) := by decide +kernel
theorem dX1_isDreaming_35 : decode cX1_isDreaming 35 = .ok (.ireturn, 1) := by decide +kernel
theorem dX1_dreamers_0 : decode cX1_dreamers 0 = .ok (.iconst 0, 1) := by decide +kernel
theorem dX1_dreamers_1 : decode cX1_dreamers 1 = .ok (.istore_n 1, 1) := by decide +kernel
theorem dX1_dreamers_2 : decode cX1_dreamers 2 = .ok (.iconst 0, 1) := by decide +kernel
theorem dX1_dreamers_3 : decode cX1_dreamers 3 = .ok (.istore_n 2, 1) := by decide +kernel
theorem dX1_dreamers_4 : decode cX1_dreamers 4 = .ok (.iload_n 2, 1) := by decide +kernel
theorem dX1_dreamers_5 : decode cX1_dreamers 5 = .ok (.aload_n 0, 1) := by decide +kernel
theorem dX1_dreamers_6 : decode cX1_dreamers 6 = .ok (.getfield 30, 3) := by decide +kernel
theorem dX1_dreamers_9 : decode cX1_dreamers 9 = .ok (.if_icmp .ge 22, 3) := by decide +kernel
theorem dX1_dreamers_12 : decode cX1_dreamers 12 = .ok (.iload_n 1, 1) := by decide +kernel
theorem dX1_dreamers_13 : decode cX1_dreamers 13 = .ok (.aload_n 0, 1) := by decide +kernel
theorem dX1_dreamers_14 : decode cX1_dreamers 14 = .ok (.iload_n 2, 1) := by decide +kernel
theorem dX1_dreamers_15 : decode cX1_dreamers 15 = .ok (.invokevirtual 66, 3) := by decide +kernel
theorem dX1_dreamers_18 : decode cX1_dreamers 18 = .ok (.invokestatic 69, 3) := by decide +kernel
theorem dX1_dreamers_21 : decode cX1_dreamers 21 = .ok (.iload_n 2, 1) := by decide +kernel
theorem dX1_dreamers_22 : decode cX1_dreamers 22 = .ok (.ishl, 1) := by decide +kernel
theorem dX1_dreamers_23 : decode cX1_dreamers 23 = .ok (.ior, 1) := by decide +kernel
theorem dX1_dreamers_24 : decode cX1_dreamers 24 = .ok (.istore_n 1, 1) := by decide +kernel
theorem dX1_dreamers_25 : decode cX1_dreamers 25 = .ok (.iinc 2 1, 3) := by decide +kernel
theorem dX1_dreamers_28 : decode cX1_dreamers 28 = .ok (.goto (-24), 3) := by decide +kernel
theorem dX1_dreamers_31 : decode cX1_dreamers 31 = .ok (.iload_n 1, 1) := by decide +kernel
theorem dX1_dreamers_32 : decode cX1_dreamers 32 = .ok (.ireturn, 1) := by decide +kernel
theorem dX1_cheeseEaters_0 : decode cX1_cheeseEaters 0 = .ok (.iconst 0, 1) := by decide +kernel
theorem dX1_cheeseEaters_1 : decode cX1_cheeseEaters 1 = .ok (.istore_n 1, 1) := by decide +kernel
theorem dX1_cheeseEaters_2 : decode cX1_cheeseEaters 2 = .ok (.iconst 0, 1) := by decide +kernel
theorem dX1_cheeseEaters_3 : decode cX1_cheeseEaters 3 = .ok (.istore_n 2, 1) := by decide +kernel
theorem dX1_cheeseEaters_4 : decode cX1_cheeseEaters 4 = .ok (.iload_n 2, 1) := by decide +kernel
theorem dX1_cheeseEaters_5 : decode cX1_cheeseEaters 5 = .ok (.aload_n 0, 1) := by decide +kernel
theorem dX1_cheeseEaters_6 : decode cX1_cheeseEaters 6 = .ok (.getfield 30, 3) := by decide +kernel
theorem dX1_cheeseEaters_9 : decode cX1_cheeseEaters 9 = .ok (.if_icmp .ge 40, 3) := by decide +kernel
theorem dX1_cheeseEaters_12 : decode cX1_cheeseEaters 12 = .ok (.iload_n 1, 1) := by decide +kernel
theorem dX1_cheeseEaters_13 : decode cX1_cheeseEaters 13 = .ok (.aload_n 0, 1) := by decide +kernel
theorem dX1_cheeseEaters_14 : decode cX1_cheeseEaters 14 = .ok (.getfield 9, 3) := by decide +kernel
theorem dX1_cheeseEaters_17 : decode cX1_cheeseEaters 17 = .ok (.iload_n 2, 1) := by decide +kernel
theorem dX1_cheeseEaters_18 : decode cX1_cheeseEaters 18 = .ok (.iaload, 1) := by decide +kernel
theorem dX1_cheeseEaters_19 : decode cX1_cheeseEaters 19 = .ok (.iconst 1, 1) := by decide +kernel
theorem dX1_cheeseEaters_20 : decode cX1_cheeseEaters 20 = .ok (.if_icmp .eq 13, 3) := by decide +kernel
theorem dX1_cheeseEaters_23 : decode cX1_cheeseEaters 23 = .ok (.aload_n 0, 1) := by decide +kernel
theorem dX1_cheeseEaters_24 : decode cX1_cheeseEaters 24 = .ok (.getfield 9, 3) := by decide +kernel
theorem dX1_cheeseEaters_27 : decode cX1_cheeseEaters 27 = .ok (.iload_n 2, 1) := by decide +kernel
theorem dX1_cheeseEaters_28 : decode cX1_cheeseEaters 28 = .ok (.iaload, 1) := by decide +kernel
theorem dX1_cheeseEaters_29 : decode cX1_cheeseEaters 29 = .ok (.iconst 4, 1) := by decide +kernel
theorem dX1_cheeseEaters_30 : decode cX1_cheeseEaters 30 = .ok (.if_icmp .ne 7, 3) := by decide +kernel
theorem dX1_cheeseEaters_33 : decode cX1_cheeseEaters 33 = .ok (.iconst 1, 1) := by decide +kernel
theorem dX1_cheeseEaters_34 : decode cX1_cheeseEaters 34 = .ok (.goto 4, 3) := by decide +kernel
theorem dX1_cheeseEaters_37 : decode cX1_cheeseEaters 37 = .ok (.iconst 0, 1) := by decide +kernel
theorem dX1_cheeseEaters_38 : decode cX1_cheeseEaters 38 = .ok (.invokestatic 69, 3) := by decide +kernel
theorem dX1_cheeseEaters_41 : decode cX1_cheeseEaters 41 = .ok (.iadd, 1) := by decide +kernel
theorem dX1_cheeseEaters_42 : decode cX1_cheeseEaters 42 = .ok (.istore_n 1, 1) := by decide +kernel
theorem dX1_cheeseEaters_43 : decode cX1_cheeseEaters 43 = .ok (.iinc 2 1, 3) := by decide +kernel
theorem dX1_cheeseEaters_46 : decode cX1_cheeseEaters 46 = .ok (.goto (-42), 3) := by decide +kernel
theorem dX1_cheeseEaters_49 : decode cX1_cheeseEaters 49 = .ok (.iload_n 1, 1) := by decide +kernel
theorem dX1_cheeseEaters_50 : decode cX1_cheeseEaters 50 = .ok (.ireturn, 1) := by decide +kernel
theorem dX1_isStanding_0 : decode cX1_isStanding 0 = .ok (.aload_n 0, 1) := by decide +kernel
theorem dX1_isStanding_1 : decode cX1_isStanding 1 = .ok (.getfield 46, 3) := by decide +kernel
theorem dX1_isStanding_4 : decode cX1_isStanding 4 = .ok (.aload_n 0, 1) := by decide +kernel
theorem dX1_isStanding_5 : decode cX1_isStanding 5 = .ok (.getfield 34, 3) := by decide +kernel
theorem dX1_isStanding_8 : decode cX1_isStanding 8 = .ok (.if_icmp .lt 7, 3) := by decide +kernel
theorem dX1_isStanding_11 : decode cX1_isStanding 11 = .ok (.iconst 1, 1) := by decide +kernel
theorem dX1_isStanding_12 : decode cX1_isStanding 12 = .ok (.goto 4, 3) := by decide +kernel
theorem dX1_isStanding_15 : decode cX1_isStanding 15 = .ok (.iconst 0, 1) := by decide +kernel
theorem dX1_isStanding_16 : decode cX1_isStanding 16 = .ok (.istore_n 1, 1) := by decide +kernel
theorem dX1_isStanding_17 : decode cX1_isStanding 17 = .ok (.iconst 0, 1) := by decide +kernel
theorem dX1_isStanding_18 : decode cX1_isStanding 18 = .ok (.istore_n 2, 1) := by decide +kernel
theorem dX1_isStanding_19 : decode cX1_isStanding 19 = .ok (.iload_n 2, 1) := by decide +kernel
theorem dX1_isStanding_20 : decode cX1_isStanding 20 = .ok (.aload_n 0, 1) := by decide +kernel
theorem dX1_isStanding_21 : decode cX1_isStanding 21 = .ok (.getfield 30, 3) := by decide +kernel
theorem dX1_isStanding_24 : decode cX1_isStanding 24 = .ok (.if_icmp .ge 38, 3) := by decide +kernel
theorem dX1_isStanding_27 : decode cX1_isStanding 27 = .ok (.iload_n 1, 1) := by decide +kernel
theorem dX1_isStanding_28 : decode cX1_isStanding 28 = .ok (.aload_n 0, 1) := by decide +kernel
theorem dX1_isStanding_29 : decode cX1_isStanding 29 = .ok (.getfield 15, 3) := by decide +kernel
theorem dX1_isStanding_32 : decode cX1_isStanding 32 = .ok (.iload_n 2, 1) := by decide +kernel
theorem dX1_isStanding_33 : decode cX1_isStanding 33 = .ok (.iaload, 1) := by decide +kernel
theorem dX1_isStanding_34 : decode cX1_isStanding 34 = .ok (.aload_n 0, 1) := by decide +kernel
theorem dX1_isStanding_35 : decode cX1_isStanding 35 = .ok (.getfield 46, 3) := by decide +kernel
theorem dX1_isStanding_38 : decode cX1_isStanding 38 = .ok (.if_icmp .ne 15, 3) := by decide +kernel
theorem dX1_isStanding_41 : decode cX1_isStanding 41 = .ok (.aload_n 0, 1) := by decide +kernel
theorem dX1_isStanding_42 : decode cX1_isStanding 42 = .ok (.iload_n 2, 1) := by decide +kernel
theorem dX1_isStanding_43 : decode cX1_isStanding 43 = .ok (.invokevirtual 66, 3) := by decide +kernel
theorem dX1_isStanding_46 : decode cX1_isStanding 46 = .ok (.ifCond .eq 7, 3) := by decide +kernel
theorem dX1_isStanding_49 : decode cX1_isStanding 49 = .ok (.iconst 1, 1) := by decide +kernel
theorem dX1_isStanding_50 : decode cX1_isStanding 50 = .ok (.goto 4, 3) := by decide +kernel
theorem dX1_isStanding_53 : decode cX1_isStanding 53 = .ok (.iconst 0, 1) := by decide +kernel
theorem dX1_isStanding_54 : decode cX1_isStanding 54 = .ok (.ior, 1) := by decide +kernel
theorem dX1_isStanding_55 : decode cX1_isStanding 55 = .ok (.istore_n 1, 1) := by decide +kernel
theorem dX1_isStanding_56 : decode cX1_isStanding 56 = .ok (.iinc 2 1, 3) := by decide +kernel
theorem dX1_isStanding_59 : decode cX1_isStanding 59 = .ok (.goto (-40), 3) := by decide +kernel
theorem dX1_isStanding_62 : decode cX1_isStanding 62 = .ok (.iload_n 1, 1) := by decide +kernel
theorem dX1_isStanding_63 : decode cX1_isStanding 63 = .ok (.ireturn, 1) := by decide +kernel
theorem dX1_hasRoomFor_0 : decode cX1_hasRoomFor 0 = .ok (.aload_n 0, 1) := by decide +kernel
theorem dX1_hasRoomFor_1 : decode cX1_hasRoomFor 1 = .ok (.getfield 49, 3) := by decide +kernel
theorem dX1_hasRoomFor_4 : decode cX1_hasRoomFor 4 = .ok (.bipush 40, 2) := by decide +kernel
theorem dX1_hasRoomFor_6 : decode cX1_hasRoomFor 6 = .ok (.iload_n 1, 1) := by decide +kernel
theorem dX1_hasRoomFor_7 : decode cX1_hasRoomFor 7 = .ok (.isub, 1) := by decide +kernel
theorem dX1_hasRoomFor_8 : decode cX1_hasRoomFor 8 = .ok (.if_icmp .gt 7, 3) := by decide +kernel
theorem dX1_hasRoomFor_11 : decode cX1_hasRoomFor 11 = .ok (.iconst 1, 1) := by decide +kernel
theorem dX1_hasRoomFor_12 : decode cX1_hasRoomFor 12 = .ok (.goto 4, 3) := by decide +kernel
theorem dX1_hasRoomFor_15 : decode cX1_hasRoomFor 15 = .ok (.iconst 0, 1) := by decide +kernel
theorem dX1_hasRoomFor_16 : decode cX1_hasRoomFor 16 = .ok (.ireturn, 1) := by decide +kernel
theorem dX1_noteDeed_0 : decode cX1_noteDeed 0 = .ok (.aload_n 0, 1) := by decide +kernel
theorem dX1_noteDeed_1 : decode cX1_noteDeed 1 = .ok (.iconst 1, 1) := by decide +kernel
theorem dX1_noteDeed_2 : decode cX1_noteDeed 2 = .ok (.invokevirtual 73, 3) := by decide +kernel
theorem dX1_noteDeed_5 : decode cX1_noteDeed 5 = .ok (.ifCond .ne 4, 3) := by decide +kernel
theorem dX1_noteDeed_8 : decode cX1_noteDeed 8 = .ok (.return_, 1) := by decide +kernel
theorem dX1_noteDeed_9 : decode cX1_noteDeed 9 = .ok (.aload_n 0, 1) := by decide +kernel
theorem dX1_noteDeed_10 : decode cX1_noteDeed 10 = .ok (.getfield 21, 3) := by decide +kernel
theorem dX1_noteDeed_13 : decode cX1_noteDeed 13 = .ok (.aload_n 0, 1) := by decide +kernel
theorem dX1_noteDeed_14 : decode cX1_noteDeed 14 = .ok (.getfield 49, 3) := by decide +kernel
theorem dX1_noteDeed_17 : decode cX1_noteDeed 17 = .ok (.iload_n 1, 1) := by decide +kernel
theorem dX1_noteDeed_18 : decode cX1_noteDeed 18 = .ok (.iastore, 1) := by decide +kernel
theorem dX1_noteDeed_19 : decode cX1_noteDeed 19 = .ok (.aload_n 0, 1) := by decide +kernel
theorem dX1_noteDeed_20 : decode cX1_noteDeed 20 = .ok (.getfield 24, 3) := by decide +kernel
theorem dX1_noteDeed_23 : decode cX1_noteDeed 23 = .ok (.aload_n 0, 1) := by decide +kernel
theorem dX1_noteDeed_24 : decode cX1_noteDeed 24 = .ok (.getfield 49, 3) := by decide +kernel
theorem dX1_noteDeed_27 : decode cX1_noteDeed 27 = .ok (.iload_n 2, 1) := by decide +kernel
theorem dX1_noteDeed_28 : decode cX1_noteDeed 28 = .ok (.iastore, 1) := by decide +kernel
theorem dX1_noteDeed_29 : decode cX1_noteDeed 29 = .ok (.aload_n 0, 1) := by decide +kernel
theorem dX1_noteDeed_30 : decode cX1_noteDeed 30 = .ok (.getfield 27, 3) := by decide +kernel
theorem dX1_noteDeed_33 : decode cX1_noteDeed 33 = .ok (.aload_n 0, 1) := by decide +kernel
theorem dX1_noteDeed_34 : decode cX1_noteDeed 34 = .ok (.getfield 49, 3) := by decide +kernel
theorem dX1_noteDeed_37 : decode cX1_noteDeed 37 = .ok (.iload_n 3, 1) := by decide +kernel
theorem dX1_noteDeed_38 : decode cX1_noteDeed 38 = .ok (.iastore, 1) := by decide +kernel
theorem dX1_noteDeed_39 : decode cX1_noteDeed 39 = .ok (.aload_n 0, 1) := by decide +kernel
theorem dX1_noteDeed_40 : decode cX1_noteDeed 40 = .ok (.dup, 1) := by decide +kernel
theorem dX1_noteDeed_41 : decode cX1_noteDeed 41 = .ok (.getfield 49, 3) := by decide +kernel
theorem dX1_noteDeed_44 : decode cX1_noteDeed 44 = .ok (.iconst 1, 1) := by decide +kernel
theorem dX1_noteDeed_45 : decode cX1_noteDeed 45 = .ok (.iadd, 1) := by decide +kernel
theorem dX1_noteDeed_46 : decode cX1_noteDeed 46 = .ok (.putfield 49, 3) := by decide +kernel
theorem dX1_noteDeed_49 : decode cX1_noteDeed 49 = .ok (.return_, 1) := by decide +kernel
theorem dX1_passMinute_0 : decode cX1_passMinute 0 = .ok (.aload_n 0, 1) := by decide +kernel
theorem dX1_passMinute_1 : decode cX1_passMinute 1 = .ok (.getfield 43, 3) := by decide +kernel
theorem dX1_passMinute_4 : decode cX1_passMinute 4 = .ok (.bipush 99, 2) := by decide +kernel
theorem dX1_passMinute_6 : decode cX1_passMinute 6 = .ok (.if_icmp .lt 11, 3) := by decide +kernel
theorem dX1_passMinute_9 : decode cX1_passMinute 9 = .ok (.aload_n 0, 1) := by decide +kernel
theorem dX1_passMinute_10 : decode cX1_passMinute 10 = .ok (.iconst 3, 1) := by decide +kernel
theorem dX1_passMinute_11 : decode cX1_passMinute 11 = .ok (.iconst 0, 1) := by decide +kernel
theorem dX1_passMinute_12 : decode cX1_passMinute 12 = .ok (.iconst 0, 1) := by decide +kernel
theorem dX1_passMinute_13 : decode cX1_passMinute 13 = .ok (.invokevirtual 76, 3) := by decide +kernel
theorem dX1_passMinute_16 : decode cX1_passMinute 16 = .ok (.return_, 1) := by decide +kernel
theorem dX1_passMinute_17 : decode cX1_passMinute 17 = .ok (.aload_n 0, 1) := by decide +kernel
theorem dX1_passMinute_18 : decode cX1_passMinute 18 = .ok (.iconst 0, 1) := by decide +kernel
theorem dX1_passMinute_19 : decode cX1_passMinute 19 = .ok (.iconst 0, 1) := by decide +kernel
theorem dX1_passMinute_20 : decode cX1_passMinute 20 = .ok (.aload_n 0, 1) := by decide +kernel
theorem dX1_passMinute_21 : decode cX1_passMinute 21 = .ok (.getfield 46, 3) := by decide +kernel
theorem dX1_passMinute_24 : decode cX1_passMinute 24 = .ok (.invokevirtual 76, 3) := by decide +kernel
theorem dX1_passMinute_27 : decode cX1_passMinute 27 = .ok (.aload_n 0, 1) := by decide +kernel
theorem dX1_passMinute_28 : decode cX1_passMinute 28 = .ok (.invokevirtual 80, 3) := by decide +kernel
theorem dX1_passMinute_31 : decode cX1_passMinute 31 = .ok (.ifCond .ne 13, 3) := by decide +kernel
theorem dX1_passMinute_34 : decode cX1_passMinute 34 = .ok (.aload_n 0, 1) := by decide +kernel
theorem dX1_passMinute_35 : decode cX1_passMinute 35 = .ok (.dup, 1) := by decide +kernel
theorem dX1_passMinute_36 : decode cX1_passMinute 36 = .ok (.getfield 46, 3) := by decide +kernel
theorem dX1_passMinute_39 : decode cX1_passMinute 39 = .ok (.iconst 1, 1) := by decide +kernel
theorem dX1_passMinute_40 : decode cX1_passMinute 40 = .ok (.iadd, 1) := by decide +kernel
theorem dX1_passMinute_41 : decode cX1_passMinute 41 = .ok (.putfield 46, 3) := by decide +kernel
theorem dX1_passMinute_44 : decode cX1_passMinute 44 = .ok (.aload_n 0, 1) := by decide +kernel
theorem dX1_passMinute_45 : decode cX1_passMinute 45 = .ok (.dup, 1) := by decide +kernel
theorem dX1_passMinute_46 : decode cX1_passMinute 46 = .ok (.getfield 43, 3) := by decide +kernel
theorem dX1_passMinute_49 : decode cX1_passMinute 49 = .ok (.iconst 1, 1) := by decide +kernel
theorem dX1_passMinute_50 : decode cX1_passMinute 50 = .ok (.iadd, 1) := by decide +kernel
theorem dX1_passMinute_51 : decode cX1_passMinute 51 = .ok (.putfield 43, 3) := by decide +kernel
theorem dX1_passMinute_54 : decode cX1_passMinute 54 = .ok (.return_, 1) := by decide +kernel
theorem dX1_changeSupper_0 : decode cX1_changeSupper 0 = .ok (.aload_n 0, 1) := by decide +kernel
theorem dX1_changeSupper_1 : decode cX1_changeSupper 1 = .ok (.iconst 1, 1) := by decide +kernel
theorem dX1_changeSupper_2 : decode cX1_changeSupper 2 = .ok (.iload_n 1, 1) := by decide +kernel
theorem dX1_changeSupper_3 : decode cX1_changeSupper 3 = .ok (.aload_n 0, 1) := by decide +kernel
theorem dX1_changeSupper_4 : decode cX1_changeSupper 4 = .ok (.getfield 18, 3) := by decide +kernel
theorem dX1_changeSupper_7 : decode cX1_changeSupper 7 = .ok (.iload_n 1, 1) := by decide +kernel
theorem dX1_changeSupper_8 : decode cX1_changeSupper 8 = .ok (.iaload, 1) := by decide +kernel
theorem dX1_changeSupper_9 : decode cX1_changeSupper 9 = .ok (.invokevirtual 76, 3) := by decide +kernel
theorem dX1_changeSupper_12 : decode cX1_changeSupper 12 = .ok (.aload_n 0, 1) := by decide +kernel
theorem dX1_changeSupper_13 : decode cX1_changeSupper 13 = .ok (.getfield 18, 3) := by decide +kernel
theorem dX1_changeSupper_16 : decode cX1_changeSupper 16 = .ok (.iload_n 1, 1) := by decide +kernel
theorem dX1_changeSupper_17 : decode cX1_changeSupper 17 = .ok (.iload_n 2, 1) := by decide +kernel
theorem dX1_changeSupper_18 : decode cX1_changeSupper 18 = .ok (.iastore, 1) := by decide +kernel
theorem dX1_changeSupper_19 : decode cX1_changeSupper 19 = .ok (.return_, 1) := by decide +kernel
theorem dX1_wakeOrLull_0 : decode cX1_wakeOrLull 0 = .ok (.aload_n 0, 1) := by decide +kernel
theorem dX1_wakeOrLull_1 : decode cX1_wakeOrLull 1 = .ok (.iconst 2, 1) := by decide +kernel
theorem dX1_wakeOrLull_2 : decode cX1_wakeOrLull 2 = .ok (.iload_n 1, 1) := by decide +kernel
theorem dX1_wakeOrLull_3 : decode cX1_wakeOrLull 3 = .ok (.aload_n 0, 1) := by decide +kernel
theorem dX1_wakeOrLull_4 : decode cX1_wakeOrLull 4 = .ok (.getfield 40, 3) := by decide +kernel
theorem dX1_wakeOrLull_7 : decode cX1_wakeOrLull 7 = .ok (.invokevirtual 76, 3) := by decide +kernel
theorem dX1_wakeOrLull_10 : decode cX1_wakeOrLull 10 = .ok (.aload_n 0, 1) := by decide +kernel
theorem dX1_wakeOrLull_11 : decode cX1_wakeOrLull 11 = .ok (.dup, 1) := by decide +kernel
theorem dX1_wakeOrLull_12 : decode cX1_wakeOrLull 12 = .ok (.getfield 40, 3) := by decide +kernel
theorem dX1_wakeOrLull_15 : decode cX1_wakeOrLull 15 = .ok (.iconst 1, 1) := by decide +kernel
theorem dX1_wakeOrLull_16 : decode cX1_wakeOrLull 16 = .ok (.iload_n 1, 1) := by decide +kernel
theorem dX1_wakeOrLull_17 : decode cX1_wakeOrLull 17 = .ok (.ishl, 1) := by decide +kernel
theorem dX1_wakeOrLull_18 : decode cX1_wakeOrLull 18 = .ok (.ixor, 1) := by decide +kernel
theorem dX1_wakeOrLull_19 : decode cX1_wakeOrLull 19 = .ok (.putfield 40, 3) := by decide +kernel
theorem dX1_wakeOrLull_22 : decode cX1_wakeOrLull 22 = .ok (.return_, 1) := by decide +kernel
theorem dX1_takeBackLatest_0 : decode cX1_takeBackLatest 0 = .ok (.aload_n 0, 1) := by decide +kernel
theorem dX1_takeBackLatest_1 : decode cX1_takeBackLatest 1 = .ok (.getfield 49, 3) := by decide +kernel
theorem dX1_takeBackLatest_4 : decode cX1_takeBackLatest 4 = .ok (.ifCond .gt 4, 3) := by decide +kernel
theorem dX1_takeBackLatest_7 : decode cX1_takeBackLatest 7 = .ok (.return_, 1) := by decide +kernel
theorem dX1_takeBackLatest_8 : decode cX1_takeBackLatest 8 = .ok (.aload_n 0, 1) := by decide +kernel
theorem dX1_takeBackLatest_9 : decode cX1_takeBackLatest 9 = .ok (.dup, 1) := by decide +kernel
theorem dX1_takeBackLatest_10 : decode cX1_takeBackLatest 10 = .ok (.getfield 49, 3) := by decide +kernel
theorem dX1_takeBackLatest_13 : decode cX1_takeBackLatest 13 = .ok (.iconst 1, 1) := by decide +kernel
theorem dX1_takeBackLatest_14 : decode cX1_takeBackLatest 14 = .ok (.isub, 1) := by decide +kernel
theorem dX1_takeBackLatest_15 : decode cX1_takeBackLatest 15 = .ok (.putfield 49, 3) := by decide +kernel
theorem dX1_takeBackLatest_18 : decode cX1_takeBackLatest 18 = .ok (.aload_n 0, 1) := by decide +kernel
theorem dX1_takeBackLatest_19 : decode cX1_takeBackLatest 19 = .ok (.getfield 27, 3) := by decide +kernel
theorem dX1_takeBackLatest_22 : decode cX1_takeBackLatest 22 = .ok (.aload_n 0, 1) := by decide +kernel
theorem dX1_takeBackLatest_23 : decode cX1_takeBackLatest 23 = .ok (.getfield 49, 3) := by decide +kernel
theorem dX1_takeBackLatest_26 : decode cX1_takeBackLatest 26 = .ok (.iaload, 1) := by decide +kernel
theorem dX1_takeBackLatest_27 : decode cX1_takeBackLatest 27 = .ok (.istore_n 1, 1) := by decide +kernel
theorem dX1_takeBackLatest_28 : decode cX1_takeBackLatest 28 = .ok (.aload_n 0, 1) := by decide +kernel
theorem dX1_takeBackLatest_29 : decode cX1_takeBackLatest 29 = .ok (.getfield 21, 3) := by decide +kernel
theorem dX1_takeBackLatest_32 : decode cX1_takeBackLatest 32 = .ok (.aload_n 0, 1) := by decide +kernel
theorem dX1_takeBackLatest_33 : decode cX1_takeBackLatest 33 = .ok (.getfield 49, 3) := by decide +kernel
theorem dX1_takeBackLatest_36 : decode cX1_takeBackLatest 36 = .ok (.iaload, 1) := by decide +kernel
theorem dX1_takeBackLatest_37 : decode cX1_takeBackLatest 37 = .ok (.tableswitch 71 0 2 #[27, 45, 63], 27) := by decide +kernel
theorem dX1_takeBackLatest_64 : decode cX1_takeBackLatest 64 = .ok (.aload_n 0, 1) := by decide +kernel
theorem dX1_takeBackLatest_65 : decode cX1_takeBackLatest 65 = .ok (.dup, 1) := by decide +kernel
theorem dX1_takeBackLatest_66 : decode cX1_takeBackLatest 66 = .ok (.getfield 43, 3) := by decide +kernel
theorem dX1_takeBackLatest_69 : decode cX1_takeBackLatest 69 = .ok (.iconst 1, 1) := by decide +kernel
theorem dX1_takeBackLatest_70 : decode cX1_takeBackLatest 70 = .ok (.isub, 1) := by decide +kernel
theorem dX1_takeBackLatest_71 : decode cX1_takeBackLatest 71 = .ok (.putfield 43, 3) := by decide +kernel
theorem dX1_takeBackLatest_74 : decode cX1_takeBackLatest 74 = .ok (.aload_n 0, 1) := by decide +kernel
theorem dX1_takeBackLatest_75 : decode cX1_takeBackLatest 75 = .ok (.iload_n 1, 1) := by decide +kernel
theorem dX1_takeBackLatest_76 : decode cX1_takeBackLatest 76 = .ok (.putfield 46, 3) := by decide +kernel
theorem dX1_takeBackLatest_79 : decode cX1_takeBackLatest 79 = .ok (.goto 29, 3) := by decide +kernel
theorem dX1_takeBackLatest_82 : decode cX1_takeBackLatest 82 = .ok (.aload_n 0, 1) := by decide +kernel
theorem dX1_takeBackLatest_83 : decode cX1_takeBackLatest 83 = .ok (.getfield 18, 3) := by decide +kernel
theorem dX1_takeBackLatest_86 : decode cX1_takeBackLatest 86 = .ok (.aload_n 0, 1) := by decide +kernel
theorem dX1_takeBackLatest_87 : decode cX1_takeBackLatest 87 = .ok (.getfield 24, 3) := by decide +kernel
theorem dX1_takeBackLatest_90 : decode cX1_takeBackLatest 90 = .ok (.aload_n 0, 1) := by decide +kernel
theorem dX1_takeBackLatest_91 : decode cX1_takeBackLatest 91 = .ok (.getfield 49, 3) := by decide +kernel
theorem dX1_takeBackLatest_94 : decode cX1_takeBackLatest 94 = .ok (.iaload, 1) := by decide +kernel
theorem dX1_takeBackLatest_95 : decode cX1_takeBackLatest 95 = .ok (.iload_n 1, 1) := by decide +kernel
theorem dX1_takeBackLatest_96 : decode cX1_takeBackLatest 96 = .ok (.iastore, 1) := by decide +kernel
theorem dX1_takeBackLatest_97 : decode cX1_takeBackLatest 97 = .ok (.goto 11, 3) := by decide +kernel
theorem dX1_takeBackLatest_100 : decode cX1_takeBackLatest 100 = .ok (.aload_n 0, 1) := by decide +kernel
theorem dX1_takeBackLatest_101 : decode cX1_takeBackLatest 101 = .ok (.iload_n 1, 1) := by decide +kernel
theorem dX1_takeBackLatest_102 : decode cX1_takeBackLatest 102 = .ok (.putfield 40, 3) := by decide +kernel
theorem dX1_takeBackLatest_105 : decode cX1_takeBackLatest 105 = .ok (.goto 3, 3) := by decide +kernel
theorem dX1_takeBackLatest_108 : decode cX1_takeBackLatest 108 = .ok (.return_, 1) := by decide +kernel
theorem dX2_init_0 : decode cX2_init 0 = .ok (.aload_n 0, 1) := by decide +kernel
theorem dX2_init_1 : decode cX2_init 1 = .ok (.invokespecial 3, 3) := by decide +kernel
theorem dX2_init_4 : decode cX2_init 4 = .ok (.aload_n 0, 1) := by decide +kernel
theorem dX2_init_5 : decode cX2_init 5 = .ok (.iconst 0, 1) := by decide +kernel
theorem dX2_init_6 : decode cX2_init 6 = .ok (.newarray .int, 2) := by decide +kernel
theorem dX2_init_8 : decode cX2_init 8 = .ok (.putfield 9, 3) := by decide +kernel
theorem dX2_init_11 : decode cX2_init 11 = .ok (.return_, 1) := by decide +kernel
theorem dX2_readInto_0 : decode cX2_readInto 0 = .ok (.aload_n 0, 1) := by decide +kernel
theorem dX2_readInto_1 : decode cX2_readInto 1 = .ok (.aload_n 2, 1) := by decide +kernel
theorem dX2_readInto_2 : decode cX2_readInto 2 = .ok (.putfield 9, 3) := by decide +kernel
theorem dX2_readInto_5 : decode cX2_readInto 5 = .ok (.aload_n 0, 1) := by decide +kernel
theorem dX2_readInto_6 : decode cX2_readInto 6 = .ok (.iload_n 3, 1) := by decide +kernel
theorem dX2_readInto_7 : decode cX2_readInto 7 = .ok (.aload_n 2, 1) := by decide +kernel
theorem dX2_readInto_8 : decode cX2_readInto 8 = .ok (.arraylength, 1) := by decide +kernel
theorem dX2_readInto_9 : decode cX2_readInto 9 = .ok (.invokestatic 15, 3) := by decide +kernel
theorem dX2_readInto_12 : decode cX2_readInto 12 = .ok (.putfield 21, 3) := by decide +kernel
theorem dX2_readInto_15 : decode cX2_readInto 15 = .ok (.aload_n 0, 1) := by decide +kernel
theorem dX2_readInto_16 : decode cX2_readInto 16 = .ok (.iconst 0, 1) := by decide +kernel
theorem dX2_readInto_17 : decode cX2_readInto 17 = .ok (.putfield 25, 3) := by decide +kernel
theorem dX2_readInto_20 : decode cX2_readInto 20 = .ok (.aload_n 0, 1) := by decide +kernel
theorem dX2_readInto_21 : decode cX2_readInto 21 = .ok (.bipush (-9), 2) := by decide +kernel
theorem dX2_readInto_23 : decode cX2_readInto 23 = .ok (.putfield 28, 3) := by decide +kernel
theorem dX2_readInto_26 : decode cX2_readInto 26 = .ok (.aload_n 0, 1) := by decide +kernel
theorem dX2_readInto_27 : decode cX2_readInto 27 = .ok (.aload_n 1, 1) := by decide +kernel
theorem dX2_readInto_28 : decode cX2_readInto 28 = .ok (.invokevirtual 31, 3) := by decide +kernel
theorem dX2_readInto_31 : decode cX2_readInto 31 = .ok (.iconst 0, 1) := by decide +kernel
theorem dX2_readInto_32 : decode cX2_readInto 32 = .ok (.istore 4, 2) := by decide +kernel
theorem dX2_readInto_34 : decode cX2_readInto 34 = .ok (.iload 4, 2) := by decide +kernel
theorem dX2_readInto_36 : decode cX2_readInto 36 = .ok (.bipush 6, 2) := by decide +kernel
theorem dX2_readInto_38 : decode cX2_readInto 38 = .ok (.if_icmp .gt 54, 3) := by decide +kernel
theorem dX2_readInto_41 : decode cX2_readInto 41 = .ok (.aload_n 0, 1) := by decide +kernel
theorem dX2_readInto_42 : decode cX2_readInto 42 = .ok (.getfield 28, 3) := by decide +kernel
theorem dX2_readInto_45 : decode cX2_readInto 45 = .ok (.bipush (-9), 2) := by decide +kernel
theorem dX2_readInto_47 : decode cX2_readInto 47 = .ok (.if_icmp .ne 45, 3) := by decide +kernel
theorem dX2_readInto_50 : decode cX2_readInto 50 = .ok (.aload_n 0, 1) := by decide +kernel
theorem dX2_readInto_51 : decode cX2_readInto 51 = .ok (.invokevirtual 35, 3) := by decide +kernel
theorem dX2_readInto_54 : decode cX2_readInto 54 = .ok (.aload_n 0, 1) := by decide +kernel
theorem dX2_readInto_55 : decode cX2_readInto 55 = .ok (.getfield 25, 3) := by decide +kernel
theorem dX2_readInto_58 : decode cX2_readInto 58 = .ok (.aload_n 0, 1) := by decide +kernel
theorem dX2_readInto_59 : decode cX2_readInto 59 = .ok (.getfield 21, 3) := by decide +kernel
theorem dX2_readInto_62 : decode cX2_readInto 62 = .ok (.if_icmp .ge 11, 3) := by decide +kernel
theorem dX2_readInto_65 : decode cX2_readInto 65 = .ok (.aload_n 0, 1) := by decide +kernel
theorem dX2_readInto_66 : decode cX2_readInto 66 = .ok (.aload_n 1, 1) := by decide +kernel
theorem dX2_readInto_67 : decode cX2_readInto 67 = .ok (.invokevirtual 38, 3) := by decide +kernel
theorem dX2_readInto_70 : decode cX2_readInto 70 = .ok (.goto 16, 3) := by decide +kernel
theorem dX2_readInto_73 : decode cX2_readInto 73 = .ok (.iload 4, 2) := by decide +kernel
theorem dX2_readInto_75 : decode cX2_readInto 75 = .ok (.ifCond .ne 11, 3) := by decide +kernel
theorem dX2_readInto_78 : decode cX2_readInto 78 = .ok (.aload_n 0, 1) := by decide +kernel
theorem dX2_readInto_79 : decode cX2_readInto 79 = .ok (.aload_n 0, 1) := by decide +kernel
theorem dX2_readInto_80 : decode cX2_readInto 80 = .ok (.getfield 21, 3) := by decide +kernel
theorem dX2_readInto_83 : decode cX2_readInto 83 = .ok (.putfield 28, 3) := by decide +kernel
theorem dX2_readInto_86 : decode cX2_readInto 86 = .ok (.iinc 4 1, 3) := by decide +kernel
theorem dX2_readInto_89 : decode cX2_readInto 89 = .ok (.goto (-55), 3) := by decide +kernel
theorem dX2_readInto_92 : decode cX2_readInto 92 = .ok (.aload_n 0, 1) := by decide +kernel
theorem dX2_readInto_93 : decode cX2_readInto 93 = .ok (.getfield 28, 3) := by decide +kernel
theorem dX2_readInto_96 : decode cX2_readInto 96 = .ok (.ireturn, 1) := by decide +kernel
theorem dX2_readHead_0 : decode cX2_readHead 0 = .ok (.aload_n 0, 1) := by decide +kernel
theorem dX2_readHead_1 : decode cX2_readHead 1 = .ok (.invokevirtual 35, 3) := by decide +kernel
theorem dX2_readHead_4 : decode cX2_readHead 4 = .ok (.aload_n 0, 1) := by decide +kernel
theorem dX2_readHead_5 : decode cX2_readHead 5 = .ok (.getfield 25, 3) := by decide +kernel
theorem dX2_readHead_8 : decode cX2_readHead 8 = .ok (.aload_n 0, 1) := by decide +kernel
theorem dX2_readHead_9 : decode cX2_readHead 9 = .ok (.getfield 21, 3) := by decide +kernel
theorem dX2_readHead_12 : decode cX2_readHead 12 = .ok (.if_icmp .ge 17, 3) := by decide +kernel
theorem dX2_readHead_15 : decode cX2_readHead 15 = .ok (.aload_n 0, 1) := by decide +kernel
theorem dX2_readHead_16 : decode cX2_readHead 16 = .ok (.getfield 9, 3) := by decide +kernel
theorem dX2_readHead_19 : decode cX2_readHead 19 = .ok (.aload_n 0, 1) := by decide +kernel
theorem dX2_readHead_20 : decode cX2_readHead 20 = .ok (.getfield 25, 3) := by decide +kernel
theorem dX2_readHead_23 : decode cX2_readHead 23 = .ok (.iaload, 1) := by decide +kernel
theorem dX2_readHead_24 : decode cX2_readHead 24 = .ok (.bipush 110, 2) := by decide +kernel
theorem dX2_readHead_26 : decode cX2_readHead 26 = .ok (.if_icmp .eq 12, 3) := by decide +kernel
theorem dX2_readHead_29 : decode cX2_readHead 29 = .ok (.aload_n 0, 1) := by decide +kernel
theorem dX2_readHead_30 : decode cX2_readHead 30 = .ok (.aload_n 0, 1) := by decide +kernel
theorem dX2_readHead_31 : decode cX2_readHead 31 = .ok (.getfield 25, 3) := by decide +kernel
theorem dX2_readHead_34 : decode cX2_readHead 34 = .ok (.putfield 28, 3) := by decide +kernel
theorem dX2_readHead_37 : decode cX2_readHead 37 = .ok (.return_, 1) := by decide +kernel
theorem dX2_readHead_38 : decode cX2_readHead 38 = .ok (.aload_n 0, 1) := by decide +kernel
theorem dX2_readHead_39 : decode cX2_readHead 39 = .ok (.dup, 1) := by decide +kernel
theorem dX2_readHead_40 : decode cX2_readHead 40 = .ok (.getfield 25, 3) := by decide +kernel
theorem dX2_readHead_43 : decode cX2_readHead 43 = .ok (.iconst 1, 1) := by decide +kernel
theorem dX2_readHead_44 : decode cX2_readHead 44 = .ok (.iadd, 1) := by decide +kernel
theorem dX2_readHead_45 : decode cX2_readHead 45 = .ok (.putfield 25, 3) := by decide +kernel
theorem dX2_readHead_48 : decode cX2_readHead 48 = .ok (.aload_n 0, 1) := by decide +kernel
theorem dX2_readHead_49 : decode cX2_readHead 49 = .ok (.iconst 5, 1) := by decide +kernel
theorem dX2_readHead_50 : decode cX2_readHead 50 = .ok (.bipush 20, 2) := by decide +kernel
theorem dX2_readHead_52 : decode cX2_readHead 52 = .ok (.invokevirtual 41, 3) := by decide +kernel
theorem dX2_readHead_55 : decode cX2_readHead 55 = .ok (.istore_n 2, 1) := by decide +kernel
theorem dX2_readHead_56 : decode cX2_readHead 56 = .ok (.aload_n 0, 1) := by decide +kernel
theorem dX2_readHead_57 : decode cX2_readHead 57 = .ok (.iconst 0, 1) := by decide +kernel
theorem dX2_readHead_58 : decode cX2_readHead 58 = .ok (.bipush 60, 2) := by decide +kernel
theorem dX2_readHead_60 : decode cX2_readHead 60 = .ok (.invokevirtual 41, 3) := by decide +kernel
theorem dX2_readHead_63 : decode cX2_readHead 63 = .ok (.istore_n 3, 1) := by decide +kernel
theorem dX2_readHead_64 : decode cX2_readHead 64 = .ok (.aload_n 1, 1) := by decide +kernel
theorem dX2_readHead_65 : decode cX2_readHead 65 = .ok (.iload_n 2, 1) := by decide +kernel
theorem dX2_readHead_66 : decode cX2_readHead 66 = .ok (.iload_n 3, 1) := by decide +kernel
theorem dX2_readHead_67 : decode cX2_readHead 67 = .ok (.invokevirtual 44, 3) := by decide +kernel
theorem dX2_readHead_70 : decode cX2_readHead 70 = .ok (.return_, 1) := by decide +kernel
theorem dX2_readSleeper_0 : decode cX2_readSleeper 0 = .ok (.aload_n 0, 1) := by decide +kernel
theorem dX2_readSleeper_1 : decode cX2_readSleeper 1 = .ok (.getfield 9, 3) := by decide +kernel
theorem dX2_readSleeper_4 : decode cX2_readSleeper 4 = .ok (.aload_n 0, 1) := by decide +kernel
theorem dX2_readSleeper_5 : decode cX2_readSleeper 5 = .ok (.getfield 25, 3) := by decide +kernel
theorem dX2_readSleeper_8 : decode cX2_readSleeper 8 = .ok (.iaload, 1) := by decide +kernel
theorem dX2_readSleeper_9 : decode cX2_readSleeper 9 = .ok (.invokestatic 50, 3) := by decide +kernel
theorem dX2_readSleeper_12 : decode cX2_readSleeper 12 = .ok (.istore_n 2, 1) := by decide +kernel
theorem dX2_readSleeper_13 : decode cX2_readSleeper 13 = .ok (.iload_n 2, 1) := by decide +kernel
theorem dX2_readSleeper_14 : decode cX2_readSleeper 14 = .ok (.bipush (-9), 2) := by decide +kernel
theorem dX2_readSleeper_16 : decode cX2_readSleeper 16 = .ok (.if_icmp .eq 12, 3) := by decide +kernel
theorem dX2_readSleeper_19 : decode cX2_readSleeper 19 = .ok (.aload_n 1, 1) := by decide +kernel
theorem dX2_readSleeper_20 : decode cX2_readSleeper 20 = .ok (.getfield 54, 3) := by decide +kernel
theorem dX2_readSleeper_23 : decode cX2_readSleeper 23 = .ok (.bipush 6, 2) := by decide +kernel
theorem dX2_readSleeper_25 : decode cX2_readSleeper 25 = .ok (.if_icmp .lt 12, 3) := by decide +kernel
theorem dX2_readSleeper_28 : decode cX2_readSleeper 28 = .ok (.aload_n 0, 1) := by decide +kernel
theorem dX2_readSleeper_29 : decode cX2_readSleeper 29 = .ok (.aload_n 0, 1) := by decide +kernel
theorem dX2_readSleeper_30 : decode cX2_readSleeper 30 = .ok (.getfield 25, 3) := by decide +kernel
theorem dX2_readSleeper_33 : decode cX2_readSleeper 33 = .ok (.putfield 28, 3) := by decide +kernel
theorem dX2_readSleeper_36 : decode cX2_readSleeper 36 = .ok (.return_, 1) := by decide +kernel
theorem dX2_readSleeper_37 : decode cX2_readSleeper 37 = .ok (.aload_n 0, 1) := by decide +kernel
theorem dX2_readSleeper_38 : decode cX2_readSleeper 38 = .ok (.dup, 1) := by decide +kernel
theorem dX2_readSleeper_39 : decode cX2_readSleeper 39 = .ok (.getfield 25, 3) := by decide +kernel
theorem dX2_readSleeper_42 : decode cX2_readSleeper 42 = .ok (.iconst 1, 1) := by decide +kernel
theorem dX2_readSleeper_43 : decode cX2_readSleeper 43 = .ok (.iadd, 1) := by decide +kernel
theorem dX2_readSleeper_44 : decode cX2_readSleeper 44 = .ok (.putfield 25, 3) := by decide +kernel
theorem dX2_readSleeper_47 : decode cX2_readSleeper 47 = .ok (.aload_n 0, 1) := by decide +kernel
theorem dX2_readSleeper_48 : decode cX2_readSleeper 48 = .ok (.iconst 0, 1) := by decide +kernel
theorem dX2_readSleeper_49 : decode cX2_readSleeper 49 = .ok (.aload_n 1, 1) := by decide +kernel
theorem dX2_readSleeper_50 : decode cX2_readSleeper 50 = .ok (.getfield 57, 3) := by decide +kernel
theorem dX2_readSleeper_53 : decode cX2_readSleeper 53 = .ok (.invokevirtual 41, 3) := by decide +kernel
theorem dX2_readSleeper_56 : decode cX2_readSleeper 56 = .ok (.istore_n 3, 1) := by decide +kernel
theorem dX2_readSleeper_57 : decode cX2_readSleeper 57 = .ok (.aload_n 0, 1) := by decide +kernel
theorem dX2_readSleeper_58 : decode cX2_readSleeper 58 = .ok (.invokevirtual 60, 3) := by decide +kernel
theorem dX2_readSleeper_61 : decode cX2_readSleeper 61 = .ok (.istore 4, 2) := by decide +kernel
theorem dX2_readSleeper_63 : decode cX2_readSleeper 63 = .ok (.aload_n 1, 1) := by decide +kernel
theorem dX2_readSleeper_64 : decode cX2_readSleeper 64 = .ok (.iload_n 2, 1) := by decide +kernel
theorem dX2_readSleeper_65 : decode cX2_readSleeper 65 = .ok (.iload_n 3, 1) := by decide +kernel
theorem dX2_readSleeper_66 : decode cX2_readSleeper 66 = .ok (.iload 4, 2) := by decide +kernel
theorem dX2_readSleeper_68 : decode cX2_readSleeper 68 = .ok (.invokevirtual 64, 3) := by decide +kernel
theorem dX2_readSleeper_71 : decode cX2_readSleeper 71 = .ok (.return_, 1) := by decide +kernel
theorem dX2_passBlanks_0 : decode cX2_passBlanks 0 = .ok (.aload_n 0, 1) := by decide +kernel
theorem dX2_passBlanks_1 : decode cX2_passBlanks 1 = .ok (.getfield 25, 3) := by decide +kernel
theorem dX2_passBlanks_4 : decode cX2_passBlanks 4 = .ok (.aload_n 0, 1) := by decide +kernel
theorem dX2_passBlanks_5 : decode cX2_passBlanks 5 = .ok (.getfield 21, 3) := by decide +kernel
theorem dX2_passBlanks_8 : decode cX2_passBlanks 8 = .ok (.if_icmp .ge 30, 3) := by decide +kernel
theorem dX2_passBlanks_11 : decode cX2_passBlanks 11 = .ok (.aload_n 0, 1) := by decide +kernel
theorem dX2_passBlanks_12 : decode cX2_passBlanks 12 = .ok (.getfield 9, 3) := by decide +kernel
theorem dX2_passBlanks_15 : decode cX2_passBlanks 15 = .ok (.aload_n 0, 1) := by decide +kernel
theorem dX2_passBlanks_16 : decode cX2_passBlanks 16 = .ok (.getfield 25, 3) := by decide +kernel
theorem dX2_passBlanks_19 : decode cX2_passBlanks 19 = .ok (.iaload, 1) := by decide +kernel
theorem dX2_passBlanks_20 : decode cX2_passBlanks 20 = .ok (.bipush 32, 2) := by decide +kernel
theorem dX2_passBlanks_22 : decode cX2_passBlanks 22 = .ok (.if_icmp .ne 16, 3) := by decide +kernel
theorem dX2_passBlanks_25 : decode cX2_passBlanks 25 = .ok (.aload_n 0, 1) := by decide +kernel
theorem dX2_passBlanks_26 : decode cX2_passBlanks 26 = .ok (.dup, 1) := by decide +kernel
theorem dX2_passBlanks_27 : decode cX2_passBlanks 27 = .ok (.getfield 25, 3) := by decide +kernel
theorem dX2_passBlanks_30 : decode cX2_passBlanks 30 = .ok (.iconst 1, 1) := by decide +kernel
theorem dX2_passBlanks_31 : decode cX2_passBlanks 31 = .ok (.iadd, 1) := by decide +kernel
theorem dX2_passBlanks_32 : decode cX2_passBlanks 32 = .ok (.putfield 25, 3) := by decide +kernel
theorem dX2_passBlanks_35 : decode cX2_passBlanks 35 = .ok (.goto (-35), 3) := by decide +kernel
theorem dX2_passBlanks_38 : decode cX2_passBlanks 38 = .ok (.return_, 1) := by decide +kernel
theorem dX2_kindByLetter_0 : decode cX2_kindByLetter 0 = .ok (.iconst 0, 1) := by decide +kernel
theorem dX2_kindByLetter_1 : decode cX2_kindByLetter 1 = .ok (.istore_n 1, 1) := by decide +kernel
theorem dX2_kindByLetter_2 : decode cX2_kindByLetter 2 = .ok (.iload_n 1, 1) := by decide +kernel
theorem dX2_kindByLetter_3 : decode cX2_kindByLetter 3 = .ok (.bipush 6, 2) := by decide +kernel
theorem dX2_kindByLetter_5 : decode cX2_kindByLetter 5 = .ok (.if_icmp .ge 20, 3) := by decide +kernel
theorem dX2_kindByLetter_8 : decode cX2_kindByLetter 8 = .ok (.getstatic 68, 3) := by decide +kernel
theorem dX2_kindByLetter_11 : decode cX2_kindByLetter 11 = .ok (.iload_n 1, 1) := by decide +kernel
theorem dX2_kindByLetter_12 : decode cX2_kindByLetter 12 = .ok (.iaload, 1) := by decide +kernel
theorem dX2_kindByLetter_13 : decode cX2_kindByLetter 13 = .ok (.iload_n 0, 1) := by decide +kernel
theorem dX2_kindByLetter_14 : decode cX2_kindByLetter 14 = .ok (.if_icmp .ne 5, 3) := by decide +kernel
theorem dX2_kindByLetter_17 : decode cX2_kindByLetter 17 = .ok (.iload_n 1, 1) := by decide +kernel
theorem dX2_kindByLetter_18 : decode cX2_kindByLetter 18 = .ok (.ireturn, 1) := by decide +kernel
theorem dX2_kindByLetter_19 : decode cX2_kindByLetter 19 = .ok (.iinc 1 1, 3) := by decide +kernel
theorem dX2_kindByLetter_22 : decode cX2_kindByLetter 22 = .ok (.goto (-20), 3) := by decide +kernel
theorem dX2_kindByLetter_25 : decode cX2_kindByLetter 25 = .ok (.bipush (-9), 2) := by decide +kernel
theorem dX2_kindByLetter_27 : decode cX2_kindByLetter 27 = .ok (.ireturn, 1) := by decide +kernel
theorem dX2_readTwoFigures_0 : decode cX2_readTwoFigures 0 = .ok (.aload_n 0, 1) := by decide +kernel
theorem dX2_readTwoFigures_1 : decode cX2_readTwoFigures 1 = .ok (.getfield 25, 3) := by decide +kernel
theorem dX2_readTwoFigures_4 : decode cX2_readTwoFigures 4 = .ok (.istore_n 3, 1) := by decide +kernel
theorem dX2_readTwoFigures_5 : decode cX2_readTwoFigures 5 = .ok (.bipush 10, 2) := by decide +kernel
theorem dX2_readTwoFigures_7 : decode cX2_readTwoFigures 7 = .ok (.aload_n 0, 1) := by decide +kernel
theorem dX2_readTwoFigures_8 : decode cX2_readTwoFigures 8 = .ok (.invokevirtual 60, 3) := by decide +kernel
theorem dX2_readTwoFigures_11 : decode cX2_readTwoFigures 11 = .ok (.imul, 1) := by decide +kernel
theorem dX2_readTwoFigures_12 : decode cX2_readTwoFigures 12 = .ok (.istore 4, 2) := by decide +kernel
theorem dX2_readTwoFigures_14 : decode cX2_readTwoFigures 14 = .ok (.iload 4, 2) := by decide +kernel
theorem dX2_readTwoFigures_16 : decode cX2_readTwoFigures 16 = .ok (.aload_n 0, 1) := by decide +kernel
theorem dX2_readTwoFigures_17 : decode cX2_readTwoFigures 17 = .ok (.invokevirtual 60, 3) := by decide +kernel
theorem dX2_readTwoFigures_20 : decode cX2_readTwoFigures 20 = .ok (.iadd, 1) := by decide +kernel
theorem dX2_readTwoFigures_21 : decode cX2_readTwoFigures 21 = .ok (.istore 4, 2) := by decide +kernel
theorem dX2_readTwoFigures_23 : decode cX2_readTwoFigures 23 = .ok (.aload_n 0, 1) := by decide +kernel
theorem dX2_readTwoFigures_24 : decode cX2_readTwoFigures 24 = .ok (.getfield 28, 3) := by decide +kernel
theorem dX2_readTwoFigures_27 : decode cX2_readTwoFigures 27 = .ok (.bipush (-9), 2) := by decide +kernel
theorem dX2_readTwoFigures_29 : decode cX2_readTwoFigures 29 = .ok (.if_icmp .ne 20, 3) := by decide +kernel
theorem dX2_readTwoFigures_32 : decode cX2_readTwoFigures 32 = .ok (.iload 4, 2) := by decide +kernel
theorem dX2_readTwoFigures_34 : decode cX2_readTwoFigures 34 = .ok (.iload_n 1, 1) := by decide +kernel
theorem dX2_readTwoFigures_35 : decode cX2_readTwoFigures 35 = .ok (.if_icmp .lt 9, 3) := by decide +kernel
theorem dX2_readTwoFigures_38 : decode cX2_readTwoFigures 38 = .ok (.iload 4, 2) := by decide +kernel
theorem dX2_readTwoFigures_40 : decode cX2_readTwoFigures 40 = .ok (.iload_n 2, 1) := by decide +kernel
theorem dX2_readTwoFigures_41 : decode cX2_readTwoFigures 41 = .ok (.if_icmp .le 8, 3) := by decide +kernel
theorem dX2_readTwoFigures_44 : decode cX2_readTwoFigures 44 = .ok (.aload_n 0, 1) := by decide +kernel
theorem dX2_readTwoFigures_45 : decode cX2_readTwoFigures 45 = .ok (.iload_n 3, 1) := by decide +kernel
theorem dX2_readTwoFigures_46 : decode cX2_readTwoFigures 46 = .ok (.putfield 28, 3) := by decide +kernel
theorem dX2_readTwoFigures_49 : decode cX2_readTwoFigures 49 = .ok (.aload_n 0, 1) := by decide +kernel
theorem dX2_readTwoFigures_50 : decode cX2_readTwoFigures 50 = .ok (.getfield 28, 3) := by decide +kernel
theorem dX2_readTwoFigures_53 : decode cX2_readTwoFigures 53 = .ok (.bipush (-9), 2) := by decide +kernel
theorem dX2_readTwoFigures_55 : decode cX2_readTwoFigures 55 = .ok (.if_icmp .ne 8, 3) := by decide +kernel
theorem dX2_readTwoFigures_58 : decode cX2_readTwoFigures 58 = .ok (.iload 4, 2) := by decide +kernel
theorem dX2_readTwoFigures_60 : decode cX2_readTwoFigures 60 = .ok (.goto 4, 3) := by decide +kernel
theorem dX2_readTwoFigures_63 : decode cX2_readTwoFigures 63 = .ok (.iconst 0, 1) := by decide +kernel
theorem dX2_readTwoFigures_64 : decode cX2_readTwoFigures 64 = .ok (.ireturn, 1) := by decide +kernel
theorem dX2_readFigure_0 : decode cX2_readFigure 0 = .ok (.aload_n 0, 1) := by decide +kernel
theorem dX2_readFigure_1 : decode cX2_readFigure 1 = .ok (.getfield 28, 3) := by decide +kernel
theorem dX2_readFigure_4 : decode cX2_readFigure 4 = .ok (.bipush (-9), 2) := by decide +kernel
theorem dX2_readFigure_6 : decode cX2_readFigure 6 = .ok (.if_icmp .eq 5, 3) := by decide +kernel
theorem dX2_readFigure_9 : decode cX2_readFigure 9 = .ok (.iconst 0, 1) := by decide +kernel
theorem dX2_readFigure_10 : decode cX2_readFigure 10 = .ok (.ireturn, 1) := by decide +kernel
theorem dX2_readFigure_11 : decode cX2_readFigure 11 = .ok (.aload_n 0, 1) := by decide +kernel
theorem dX2_readFigure_12 : decode cX2_readFigure 12 = .ok (.getfield 25, 3) := by decide +kernel
theorem dX2_readFigure_15 : decode cX2_readFigure 15 = .ok (.aload_n 0, 1) := by decide +kernel
theorem dX2_readFigure_16 : decode cX2_readFigure 16 = .ok (.getfield 21, 3) := by decide +kernel
theorem dX2_readFigure_19 : decode cX2_readFigure 19 = .ok (.if_icmp .ge 18, 3) := by decide +kernel
theorem dX2_readFigure_22 : decode cX2_readFigure 22 = .ok (.aload_n 0, 1) := by decide +kernel
theorem dX2_readFigure_23 : decode cX2_readFigure 23 = .ok (.getfield 9, 3) := by decide +kernel
theorem dX2_readFigure_26 : decode cX2_readFigure 26 = .ok (.aload_n 0, 1) := by decide +kernel
theorem dX2_readFigure_27 : decode cX2_readFigure 27 = .ok (.getfield 25, 3) := by decide +kernel
theorem dX2_readFigure_30 : decode cX2_readFigure 30 = .ok (.iaload, 1) := by decide +kernel
theorem dX2_readFigure_31 : decode cX2_readFigure 31 = .ok (.bipush 48, 2) := by decide +kernel
theorem dX2_readFigure_33 : decode cX2_readFigure 33 = .ok (.isub, 1) := by decide +kernel
theorem dX2_readFigure_34 : decode cX2_readFigure 34 = .ok (.goto 5, 3) := by decide +kernel
theorem dX2_readFigure_37 : decode cX2_readFigure 37 = .ok (.bipush (-9), 2) := by decide +kernel
theorem dX2_readFigure_39 : decode cX2_readFigure 39 = .ok (.istore_n 1, 1) := by decide +kernel
theorem dX2_readFigure_40 : decode cX2_readFigure 40 = .ok (.iload_n 1, 1) := by decide +kernel
theorem dX2_readFigure_41 : decode cX2_readFigure 41 = .ok (.bipush 10, 2) := by decide +kernel
theorem dX2_readFigure_43 : decode cX2_readFigure 43 = .ok (.invokestatic 71, 3) := by decide +kernel
theorem dX2_readFigure_46 : decode cX2_readFigure 46 = .ok (.ifCond .ne 13, 3) := by decide +kernel
theorem dX2_readFigure_49 : decode cX2_readFigure 49 = .ok (.aload_n 0, 1) := by decide +kernel
theorem dX2_readFigure_50 : decode cX2_readFigure 50 = .ok (.aload_n 0, 1) := by decide +kernel
theorem dX2_readFigure_51 : decode cX2_readFigure 51 = .ok (.getfield 25, 3) := by decide +kernel
theorem dX2_readFigure_54 : decode cX2_readFigure 54 = .ok (.putfield 28, 3) := by decide +kernel
theorem dX2_readFigure_57 : decode cX2_readFigure 57 = .ok (.iconst 0, 1) := by decide +kernel
theorem dX2_readFigure_58 : decode cX2_readFigure 58 = .ok (.ireturn, 1) := by decide +kernel
theorem dX2_readFigure_59 : decode cX2_readFigure 59 = .ok (.aload_n 0, 1) := by decide +kernel
theorem dX2_readFigure_60 : decode cX2_readFigure 60 = .ok (.dup, 1) := by decide +kernel
theorem dX2_readFigure_61 : decode cX2_readFigure 61 = .ok (.getfield 25, 3) := by decide +kernel
theorem dX2_readFigure_64 : decode cX2_readFigure 64 = .ok (.iconst 1, 1) := by decide +kernel
theorem dX2_readFigure_65 : decode cX2_readFigure 65 = .ok (.iadd, 1) := by decide +kernel
theorem dX2_readFigure_66 : decode cX2_readFigure 66 = .ok (.putfield 25, 3) := by decide +kernel
theorem dX2_readFigure_69 : decode cX2_readFigure 69 = .ok (.iload_n 1, 1) := by decide +kernel
theorem dX2_readFigure_70 : decode cX2_readFigure 70 = .ok (.ireturn, 1) := by decide +kernel
theorem dX3_init_0 : decode cX3_init 0 = .ok (.aload_n 0, 1) := by decide +kernel
theorem dX3_init_1 : decode cX3_init 1 = .ok (.invokespecial 3, 3) := by decide +kernel
theorem dX3_init_4 : decode cX3_init 4 = .ok (.aload_n 0, 1) := by decide +kernel
theorem dX3_init_5 : decode cX3_init 5 = .ok (.iload_n 1, 1) := by decide +kernel
theorem dX3_init_6 : decode cX3_init 6 = .ok (.iload_n 2, 1) := by decide +kernel
theorem dX3_init_7 : decode cX3_init 7 = .ok (.multianewarray 9 2, 4) := by decide +kernel
theorem dX3_init_11 : decode cX3_init 11 = .ok (.putfield 11, 3) := by decide +kernel
theorem dX3_init_14 : decode cX3_init 14 = .ok (.aload_n 0, 1) := by decide +kernel
theorem dX3_init_15 : decode cX3_init 15 = .ok (.iload_n 1, 1) := by decide +kernel
theorem dX3_init_16 : decode cX3_init 16 = .ok (.newarray .int, 2) := by decide +kernel
theorem dX3_init_18 : decode cX3_init 18 = .ok (.putfield 16, 3) := by decide +kernel
theorem dX3_init_21 : decode cX3_init 21 = .ok (.aload_n 0, 1) := by decide +kernel
theorem dX3_init_22 : decode cX3_init 22 = .ok (.getfield 16, 3) := by decide +kernel
theorem dX3_init_25 : decode cX3_init 25 = .ok (.iconst (-1), 1) := by decide +kernel
theorem dX3_init_26 : decode cX3_init 26 = .ok (.invokestatic 20, 3) := by decide +kernel
theorem dX3_init_29 : decode cX3_init 29 = .ok (.return_, 1) := by decide +kernel
theorem dX3_bears_0 : decode cX3_bears 0 = .ok (.iload_n 1, 1) := by decide +kernel
theorem dX3_bears_1 : decode cX3_bears 1 = .ok (.aload_n 0, 1) := by decide +kernel
theorem dX3_bears_2 : decode cX3_bears 2 = .ok (.getfield 16, 3) := by decide +kernel
theorem dX3_bears_5 : decode cX3_bears 5 = .ok (.arraylength, 1) := by decide +kernel
theorem dX3_bears_6 : decode cX3_bears 6 = .ok (.invokestatic 26, 3) := by decide +kernel
theorem dX3_bears_9 : decode cX3_bears 9 = .ok (.ireturn, 1) := by decide +kernel
theorem dX3_holds_0 : decode cX3_holds 0 = .ok (.aload_n 0, 1) := by decide +kernel
theorem dX3_holds_1 : decode cX3_holds 1 = .ok (.iload_n 1, 1) := by decide +kernel
theorem dX3_holds_2 : decode cX3_holds 2 = .ok (.invokevirtual 30, 3) := by decide +kernel
theorem dX3_holds_5 : decode cX3_holds 5 = .ok (.ifCond .eq 17, 3) := by decide +kernel
theorem dX3_holds_8 : decode cX3_holds 8 = .ok (.aload_n 0, 1) := by decide +kernel
theorem dX3_holds_9 : decode cX3_holds 9 = .ok (.getfield 16, 3) := by decide +kernel
theorem dX3_holds_12 : decode cX3_holds 12 = .ok (.iload_n 1, 1) := by decide +kernel
theorem dX3_holds_13 : decode cX3_holds 13 = .ok (.iaload, 1) := by decide +kernel
theorem dX3_holds_14 : decode cX3_holds 14 = .ok (.iconst (-1), 1) := by decide +kernel
theorem dX3_holds_15 : decode cX3_holds 15 = .ok (.if_icmp .eq 7, 3) := by decide +kernel
theorem dX3_holds_18 : decode cX3_holds 18 = .ok (.iconst 1, 1) := by decide +kernel
theorem dX3_holds_19 : decode cX3_holds 19 = .ok (.goto 4, 3) := by decide +kernel
theorem dX3_holds_22 : decode cX3_holds 22 = .ok (.iconst 0, 1) := by decide +kernel
theorem dX3_holds_23 : decode cX3_holds 23 = .ok (.ireturn, 1) := by decide +kernel
theorem dX3_layOut_0 : decode cX3_layOut 0 = .ok (.aload_n 0, 1) := by decide +kernel
theorem dX3_layOut_1 : decode cX3_layOut 1 = .ok (.getfield 11, 3) := by decide +kernel
theorem dX3_layOut_4 : decode cX3_layOut 4 = .ok (.iload_n 1, 1) := by decide +kernel
theorem dX3_layOut_5 : decode cX3_layOut 5 = .ok (.aaload, 1) := by decide +kernel
theorem dX3_layOut_6 : decode cX3_layOut 6 = .ok (.iload_n 3, 1) := by decide +kernel
theorem dX3_layOut_7 : decode cX3_layOut 7 = .ok (.invokestatic 20, 3) := by decide +kernel
theorem dX3_layOut_10 : decode cX3_layOut 10 = .ok (.aload_n 0, 1) := by decide +kernel
theorem dX3_layOut_11 : decode cX3_layOut 11 = .ok (.getfield 16, 3) := by decide +kernel
theorem dX3_layOut_14 : decode cX3_layOut 14 = .ok (.iload_n 1, 1) := by decide +kernel
theorem dX3_layOut_15 : decode cX3_layOut 15 = .ok (.iload_n 2, 1) := by decide +kernel
theorem dX3_layOut_16 : decode cX3_layOut 16 = .ok (.iastore, 1) := by decide +kernel
theorem dX3_layOut_17 : decode cX3_layOut 17 = .ok (.return_, 1) := by decide +kernel
theorem dX3_howMany_0 : decode cX3_howMany 0 = .ok (.iconst 0, 1) := by decide +kernel
theorem dX3_howMany_1 : decode cX3_howMany 1 = .ok (.istore_n 1, 1) := by decide +kernel
theorem dX3_howMany_2 : decode cX3_howMany 2 = .ok (.iconst 0, 1) := by decide +kernel
theorem dX3_howMany_3 : decode cX3_howMany 3 = .ok (.istore_n 2, 1) := by decide +kernel
theorem dX3_howMany_4 : decode cX3_howMany 4 = .ok (.iload_n 2, 1) := by decide +kernel
theorem dX3_howMany_5 : decode cX3_howMany 5 = .ok (.aload_n 0, 1) := by decide +kernel
theorem dX3_howMany_6 : decode cX3_howMany 6 = .ok (.getfield 16, 3) := by decide +kernel
theorem dX3_howMany_9 : decode cX3_howMany 9 = .ok (.arraylength, 1) := by decide +kernel
theorem dX3_howMany_10 : decode cX3_howMany 10 = .ok (.if_icmp .ge 20, 3) := by decide +kernel
theorem dX3_howMany_13 : decode cX3_howMany 13 = .ok (.iload_n 1, 1) := by decide +kernel
theorem dX3_howMany_14 : decode cX3_howMany 14 = .ok (.aload_n 0, 1) := by decide +kernel
theorem dX3_howMany_15 : decode cX3_howMany 15 = .ok (.iload_n 2, 1) := by decide +kernel
theorem dX3_howMany_16 : decode cX3_howMany 16 = .ok (.invokevirtual 34, 3) := by decide +kernel
theorem dX3_howMany_19 : decode cX3_howMany 19 = .ok (.invokestatic 37, 3) := by decide +kernel
theorem dX3_howMany_22 : decode cX3_howMany 22 = .ok (.iadd, 1) := by decide +kernel
theorem dX3_howMany_23 : decode cX3_howMany 23 = .ok (.istore_n 1, 1) := by decide +kernel
theorem dX3_howMany_24 : decode cX3_howMany 24 = .ok (.iinc 2 1, 3) := by decide +kernel
theorem dX3_howMany_27 : decode cX3_howMany 27 = .ok (.goto (-23), 3) := by decide +kernel
theorem dX3_howMany_30 : decode cX3_howMany 30 = .ok (.iload_n 1, 1) := by decide +kernel
theorem dX3_howMany_31 : decode cX3_howMany 31 = .ok (.ireturn, 1) := by decide +kernel
theorem dX3_stir_0 : decode cX3_stir 0 = .ok (.lload_n 1, 1) := by decide +kernel
theorem dX3_stir_1 : decode cX3_stir 1 = .ok (.lstore_n 3, 1) := by decide +kernel
theorem dX3_stir_2 : decode cX3_stir 2 = .ok (.iconst 0, 1) := by decide +kernel
theorem dX3_stir_3 : decode cX3_stir 3 = .ok (.istore 5, 2) := by decide +kernel
theorem dX3_stir_5 : decode cX3_stir 5 = .ok (.iload 5, 2) := by decide +kernel
theorem dX3_stir_7 : decode cX3_stir 7 = .ok (.aload_n 0, 1) := by decide +kernel
theorem dX3_stir_8 : decode cX3_stir 8 = .ok (.getfield 16, 3) := by decide +kernel
theorem dX3_stir_11 : decode cX3_stir 11 = .ok (.arraylength, 1) := by decide +kernel
theorem dX3_stir_12 : decode cX3_stir 12 = .ok (.if_icmp .ge 63, 3) := by decide +kernel
theorem dX3_stir_15 : decode cX3_stir 15 = .ok (.ldc2_w 41, 3) := by decide +kernel
theorem dX3_stir_18 : decode cX3_stir 18 = .ok (.lload_n 3, 1) := by decide +kernel
theorem dX3_stir_19 : decode cX3_stir 19 = .ok (.lmul, 1) := by decide +kernel
theorem dX3_stir_20 : decode cX3_stir 20 = .ok (.aload_n 0, 1) := by decide +kernel
theorem dX3_stir_21 : decode cX3_stir 21 = .ok (.getfield 16, 3) := by decide +kernel
theorem dX3_stir_24 : decode cX3_stir 24 = .ok (.iload 5, 2) := by decide +kernel
theorem dX3_stir_26 : decode cX3_stir 26 = .ok (.iaload, 1) := by decide +kernel
theorem dX3_stir_27 : decode cX3_stir 27 = .ok (.i2l, 1) := by decide +kernel
theorem dX3_stir_28 : decode cX3_stir 28 = .ok (.ladd, 1) := by decide +kernel
theorem dX3_stir_29 : decode cX3_stir 29 = .ok (.lstore_n 3, 1) := by decide +kernel
theorem dX3_stir_30 : decode cX3_stir 30 = .ok (.iconst 0, 1) := by decide +kernel
theorem dX3_stir_31 : decode cX3_stir 31 = .ok (.istore 6, 2) := by decide +kernel
theorem dX3_stir_33 : decode cX3_stir 33 = .ok (.iload 6, 2) := by decide +kernel
theorem dX3_stir_35 : decode cX3_stir 35 = .ok (.aload_n 0, 1) := by decide +kernel
theorem dX3_stir_36 : decode cX3_stir 36 = .ok (.getfield 16, 3) := by decide +kernel
theorem dX3_stir_39 : decode cX3_stir 39 = .ok (.iload 5, 2) := by decide +kernel
theorem dX3_stir_41 : decode cX3_stir 41 = .ok (.iaload, 1) := by decide +kernel
theorem dX3_stir_42 : decode cX3_stir 42 = .ok (.if_icmp .ge 27, 3) := by decide +kernel
theorem dX3_stir_45 : decode cX3_stir 45 = .ok (.ldc2_w 41, 3) := by decide +kernel
theorem dX3_stir_48 : decode cX3_stir 48 = .ok (.lload_n 3, 1) := by decide +kernel
theorem dX3_stir_49 : decode cX3_stir 49 = .ok (.lmul, 1) := by decide +kernel
theorem dX3_stir_50 : decode cX3_stir 50 = .ok (.aload_n 0, 1) := by decide +kernel
theorem dX3_stir_51 : decode cX3_stir 51 = .ok (.getfield 11, 3) := by decide +kernel
theorem dX3_stir_54 : decode cX3_stir 54 = .ok (.iload 5, 2) := by decide +kernel
theorem dX3_stir_56 : decode cX3_stir 56 = .ok (.aaload, 1) := by decide +kernel
theorem dX3_stir_57 : decode cX3_stir 57 = .ok (.iload 6, 2) := by decide +kernel
theorem dX3_stir_59 : decode cX3_stir 59 = .ok (.iaload, 1) := by decide +kernel
theorem dX3_stir_60 : decode cX3_stir 60 = .ok (.i2l, 1) := by decide +kernel
theorem dX3_stir_61 : decode cX3_stir 61 = .ok (.ladd, 1) := by decide +kernel
theorem dX3_stir_62 : decode cX3_stir 62 = .ok (.lstore_n 3, 1) := by decide +kernel
theorem dX3_stir_63 : decode cX3_stir 63 = .ok (.iinc 6 1, 3) := by decide +kernel
theorem dX3_stir_66 : decode cX3_stir 66 = .ok (.goto (-33), 3) := by decide +kernel
theorem dX3_stir_69 : decode cX3_stir 69 = .ok (.iinc 5 1, 3) := by decide +kernel
theorem dX3_stir_72 : decode cX3_stir 72 = .ok (.goto (-67), 3) := by decide +kernel
theorem dX3_stir_75 : decode cX3_stir 75 = .ok (.lload_n 3, 1) := by decide +kernel
theorem dX3_stir_76 : decode cX3_stir 76 = .ok (.lreturn, 1) := by decide +kernel
theorem dX4_init_0 : decode cX4_init 0 = .ok (.aload_n 0, 1) := by decide +kernel
theorem dX4_init_1 : decode cX4_init 1 = .ok (.invokespecial 3, 3) := by decide +kernel
theorem dX4_init_4 : decode cX4_init 4 = .ok (.aload_n 0, 1) := by decide +kernel
theorem dX4_init_5 : decode cX4_init 5 = .ok (.new 9, 3) := by decide +kernel
theorem dX4_init_8 : decode cX4_init 8 = .ok (.dup, 1) := by decide +kernel
theorem dX4_init_9 : decode cX4_init 9 = .ok (.bipush 6, 2) := by decide +kernel
theorem dX4_init_11 : decode cX4_init 11 = .ok (.bipush 40, 2) := by decide +kernel
theorem dX4_init_13 : decode cX4_init 13 = .ok (.invokespecial 11, 3) := by decide +kernel
theorem dX4_init_16 : decode cX4_init 16 = .ok (.putfield 14, 3) := by decide +kernel
theorem dX4_init_19 : decode cX4_init 19 = .ok (.aload_n 0, 1) := by decide +kernel
theorem dX4_init_20 : decode cX4_init 20 = .ok (.new 9, 3) := by decide +kernel
theorem dX4_init_23 : decode cX4_init 23 = .ok (.dup, 1) := by decide +kernel
theorem dX4_init_24 : decode cX4_init 24 = .ok (.iconst 4, 1) := by decide +kernel
theorem dX4_init_25 : decode cX4_init 25 = .ok (.bipush 60, 2) := by decide +kernel
theorem dX4_init_27 : decode cX4_init 27 = .ok (.invokespecial 11, 3) := by decide +kernel
theorem dX4_init_30 : decode cX4_init 30 = .ok (.putfield 18, 3) := by decide +kernel
theorem dX4_init_33 : decode cX4_init 33 = .ok (.aload_n 0, 1) := by decide +kernel
theorem dX4_init_34 : decode cX4_init 34 = .ok (.new 21, 3) := by decide +kernel
theorem dX4_init_37 : decode cX4_init 37 = .ok (.dup, 1) := by decide +kernel
theorem dX4_init_38 : decode cX4_init 38 = .ok (.invokespecial 23, 3) := by decide +kernel
theorem dX4_init_41 : decode cX4_init 41 = .ok (.putfield 24, 3) := by decide +kernel
theorem dX4_init_44 : decode cX4_init 44 = .ok (.aload_n 0, 1) := by decide +kernel
theorem dX4_init_45 : decode cX4_init 45 = .ok (.new 21, 3) := by decide +kernel
theorem dX4_init_48 : decode cX4_init 48 = .ok (.dup, 1) := by decide +kernel
theorem dX4_init_49 : decode cX4_init 49 = .ok (.invokespecial 23, 3) := by decide +kernel
theorem dX4_init_52 : decode cX4_init 52 = .ok (.putfield 28, 3) := by decide +kernel
theorem dX4_init_55 : decode cX4_init 55 = .ok (.aload_n 0, 1) := by decide +kernel
theorem dX4_init_56 : decode cX4_init 56 = .ok (.iconst 3, 1) := by decide +kernel
theorem dX4_init_57 : decode cX4_init 57 = .ok (.anewarray 21, 3) := by decide +kernel
theorem dX4_init_60 : decode cX4_init 60 = .ok (.putfield 31, 3) := by decide +kernel
theorem dX4_init_63 : decode cX4_init 63 = .ok (.aload_n 0, 1) := by decide +kernel
theorem dX4_init_64 : decode cX4_init 64 = .ok (.iconst 3, 1) := by decide +kernel
theorem dX4_init_65 : decode cX4_init 65 = .ok (.newarray .boolean, 2) := by decide +kernel
theorem dX4_init_67 : decode cX4_init 67 = .ok (.putfield 35, 3) := by decide +kernel
theorem dX4_init_70 : decode cX4_init 70 = .ok (.aload_n 0, 1) := by decide +kernel
theorem dX4_init_71 : decode cX4_init 71 = .ok (.new 39, 3) := by decide +kernel
theorem dX4_init_74 : decode cX4_init 74 = .ok (.dup, 1) := by decide +kernel
theorem dX4_init_75 : decode cX4_init 75 = .ok (.invokespecial 41, 3) := by decide +kernel
theorem dX4_init_78 : decode cX4_init 78 = .ok (.putfield 42, 3) := by decide +kernel
theorem dX4_init_81 : decode cX4_init 81 = .ok (.aload_n 0, 1) := by decide +kernel
theorem dX4_init_82 : decode cX4_init 82 = .ok (.new 46, 3) := by decide +kernel
theorem dX4_init_85 : decode cX4_init 85 = .ok (.dup, 1) := by decide +kernel
theorem dX4_init_86 : decode cX4_init 86 = .ok (.invokespecial 48, 3) := by decide +kernel
theorem dX4_init_89 : decode cX4_init 89 = .ok (.putfield 49, 3) := by decide +kernel
theorem dX4_init_92 : decode cX4_init 92 = .ok (.aload_n 0, 1) := by decide +kernel
theorem dX4_init_93 : decode cX4_init 93 = .ok (.bipush 6, 2) := by decide +kernel
theorem dX4_init_95 : decode cX4_init 95 = .ok (.bipush 10, 2) := by decide +kernel
theorem dX4_init_97 : decode cX4_init 97 = .ok (.multianewarray 53 2, 4) := by decide +kernel
theorem dX4_init_101 : decode cX4_init 101 = .ok (.putfield 55, 3) := by decide +kernel
theorem dX4_init_104 : decode cX4_init 104 = .ok (.aload_n 0, 1) := by decide +kernel
theorem dX4_init_105 : decode cX4_init 105 = .ok (.bipush 6, 2) := by decide +kernel
theorem dX4_init_107 : decode cX4_init 107 = .ok (.bipush 21, 2) := by decide +kernel
theorem dX4_init_109 : decode cX4_init 109 = .ok (.multianewarray 58 2, 4) := by decide +kernel
theorem dX4_init_113 : decode cX4_init 113 = .ok (.putfield 60, 3) := by decide +kernel
theorem dX4_init_116 : decode cX4_init 116 = .ok (.aload_n 0, 1) := by decide +kernel
theorem dX4_init_117 : decode cX4_init 117 = .ok (.iconst 5, 1) := by decide +kernel
theorem dX4_init_118 : decode cX4_init 118 = .ok (.bipush 64, 2) := by decide +kernel
theorem dX4_init_120 : decode cX4_init 120 = .ok (.multianewarray 58 2, 4) := by decide +kernel
theorem dX4_init_124 : decode cX4_init 124 = .ok (.putfield 63, 3) := by decide +kernel
theorem dX4_init_127 : decode cX4_init 127 = .ok (.aload_n 0, 1) := by decide +kernel
theorem dX4_init_128 : decode cX4_init 128 = .ok (.bipush 21, 2) := by decide +kernel
theorem dX4_init_130 : decode cX4_init 130 = .ok (.newarray .long, 2) := by decide +kernel
theorem dX4_init_132 : decode cX4_init 132 = .ok (.putfield 66, 3) := by decide +kernel
theorem dX4_init_135 : decode cX4_init 135 = .ok (.aload_n 0, 1) := by decide +kernel
theorem dX4_init_136 : decode cX4_init 136 = .ok (.bipush 6, 2) := by decide +kernel
theorem dX4_init_138 : decode cX4_init 138 = .ok (.newarray .int, 2) := by decide +kernel
theorem dX4_init_140 : decode cX4_init 140 = .ok (.putfield 70, 3) := by decide +kernel
theorem dX4_init_143 : decode cX4_init 143 = .ok (.aload_n 0, 1) := by decide +kernel
theorem dX4_init_144 : decode cX4_init 144 = .ok (.lconst 1, 1) := by decide +kernel
theorem dX4_init_145 : decode cX4_init 145 = .ok (.putfield 74, 3) := by decide +kernel
theorem dX4_init_148 : decode cX4_init 148 = .ok (.iconst 0, 1) := by decide +kernel
theorem dX4_init_149 : decode cX4_init 149 = .ok (.istore_n 1, 1) := by decide +kernel
theorem dX4_init_150 : decode cX4_init 150 = .ok (.iload_n 1, 1) := by decide +kernel
theorem dX4_init_151 : decode cX4_init 151 = .ok (.iconst 3, 1) := by decide +kernel
theorem dX4_init_152 : decode cX4_init 152 = .ok (.if_icmp .ge 22, 3) := by decide +kernel
theorem dX4_init_155 : decode cX4_init 155 = .ok (.aload_n 0, 1) := by decide +kernel
theorem dX4_init_156 : decode cX4_init 156 = .ok (.getfield 31, 3) := by decide +kernel
theorem dX4_init_159 : decode cX4_init 159 = .ok (.iload_n 1, 1) := by decide +kernel
theorem dX4_init_160 : decode cX4_init 160 = .ok (.new 21, 3) := by decide +kernel
theorem dX4_init_163 : decode cX4_init 163 = .ok (.dup, 1) := by decide +kernel
theorem dX4_init_164 : decode cX4_init 164 = .ok (.invokespecial 23, 3) := by decide +kernel
theorem dX4_init_167 : decode cX4_init 167 = .ok (.aastore, 1) := by decide +kernel
theorem dX4_init_168 : decode cX4_init 168 = .ok (.iinc 1 1, 3) := by decide +kernel
theorem dX4_init_171 : decode cX4_init 171 = .ok (.goto (-21), 3) := by decide +kernel
theorem dX4_init_174 : decode cX4_init 174 = .ok (.return_, 1) := by decide +kernel
theorem dX4_row_0 : decode cX4_row 0 = .ok (.aload_n 0, 1) := by decide +kernel
theorem dX4_row_1 : decode cX4_row 1 = .ok (.getfield 14, 3) := by decide +kernel
theorem dX4_row_4 : decode cX4_row 4 = .ok (.iload_n 1, 1) := by decide +kernel
theorem dX4_row_5 : decode cX4_row 5 = .ok (.invokevirtual 78, 3) := by decide +kernel
theorem dX4_row_8 : decode cX4_row 8 = .ok (.ifCond .eq 9, 3) := by decide +kernel
theorem dX4_row_11 : decode cX4_row 11 = .ok (.iload_n 2, 1) := by decide +kernel
theorem dX4_row_12 : decode cX4_row 12 = .ok (.bipush 40, 2) := by decide +kernel
theorem dX4_row_14 : decode cX4_row 14 = .ok (.if_icmp .le 5, 3) := by decide +kernel
theorem dX4_row_17 : decode cX4_row 17 = .ok (.iconst (-1), 1) := by decide +kernel
theorem dX4_row_18 : decode cX4_row 18 = .ok (.ireturn, 1) := by decide +kernel
theorem dX4_row_19 : decode cX4_row 19 = .ok (.iload_n 2, 1) := by decide +kernel
theorem dX4_row_20 : decode cX4_row 20 = .ok (.ifCond .ge 9, 3) := by decide +kernel
theorem dX4_row_23 : decode cX4_row 23 = .ok (.aload_n 0, 1) := by decide +kernel
theorem dX4_row_24 : decode cX4_row 24 = .ok (.iconst 5, 1) := by decide +kernel
theorem dX4_row_25 : decode cX4_row 25 = .ok (.invokevirtual 82, 3) := by decide +kernel
theorem dX4_row_28 : decode cX4_row 28 = .ok (.ireturn, 1) := by decide +kernel
theorem dX4_row_29 : decode cX4_row 29 = .ok (.aload_n 0, 1) := by decide +kernel
theorem dX4_row_30 : decode cX4_row 30 = .ok (.getfield 14, 3) := by decide +kernel
theorem dX4_row_33 : decode cX4_row 33 = .ok (.iload_n 1, 1) := by decide +kernel
theorem dX4_row_34 : decode cX4_row 34 = .ok (.iload_n 2, 1) := by decide +kernel
theorem dX4_row_35 : decode cX4_row 35 = .ok (.iconst 0, 1) := by decide +kernel
theorem dX4_row_36 : decode cX4_row 36 = .ok (.invokevirtual 86, 3) := by decide +kernel
theorem dX4_row_39 : decode cX4_row 39 = .ok (.iload_n 2, 1) := by decide +kernel
theorem dX4_row_40 : decode cX4_row 40 = .ok (.ireturn, 1) := by decide +kernel
theorem dX4_lay_0 : decode cX4_lay 0 = .ok (.aload_n 0, 1) := by decide +kernel
theorem dX4_lay_1 : decode cX4_lay 1 = .ok (.aload_n 0, 1) := by decide +kernel
theorem dX4_lay_2 : decode cX4_lay 2 = .ok (.getfield 14, 3) := by decide +kernel
theorem dX4_lay_5 : decode cX4_lay 5 = .ok (.iload_n 1, 1) := by decide +kernel
theorem dX4_lay_6 : decode cX4_lay 6 = .ok (.iload_n 2, 1) := by decide +kernel
theorem dX4_lay_7 : decode cX4_lay 7 = .ok (.invokevirtual 90, 3) := by decide +kernel
theorem dX4_lay_10 : decode cX4_lay 10 = .ok (.istore 4, 2) := by decide +kernel
theorem dX4_lay_12 : decode cX4_lay 12 = .ok (.iload 4, 2) := by decide +kernel
theorem dX4_lay_14 : decode cX4_lay 14 = .ok (.ifCond .eq 6, 3) := by decide +kernel
theorem dX4_lay_17 : decode cX4_lay 17 = .ok (.iload 4, 2) := by decide +kernel
theorem dX4_lay_19 : decode cX4_lay 19 = .ok (.ireturn, 1) := by decide +kernel
theorem dX4_lay_20 : decode cX4_lay 20 = .ok (.aload_n 0, 1) := by decide +kernel
theorem dX4_lay_21 : decode cX4_lay 21 = .ok (.aload_n 0, 1) := by decide +kernel
theorem dX4_lay_22 : decode cX4_lay 22 = .ok (.getfield 14, 3) := by decide +kernel
theorem dX4_lay_25 : decode cX4_lay 25 = .ok (.getfield 94, 3) := by decide +kernel
theorem dX4_lay_28 : decode cX4_lay 28 = .ok (.iload_n 1, 1) := by decide +kernel
theorem dX4_lay_29 : decode cX4_lay 29 = .ok (.aaload, 1) := by decide +kernel
theorem dX4_lay_30 : decode cX4_lay 30 = .ok (.iload_n 2, 1) := by decide +kernel
theorem dX4_lay_31 : decode cX4_lay 31 = .ok (.iaload, 1) := by decide +kernel
theorem dX4_lay_32 : decode cX4_lay 32 = .ok (.putfield 97, 3) := by decide +kernel
theorem dX4_lay_35 : decode cX4_lay 35 = .ok (.aload_n 0, 1) := by decide +kernel
theorem dX4_lay_36 : decode cX4_lay 36 = .ok (.getfield 14, 3) := by decide +kernel
theorem dX4_lay_39 : decode cX4_lay 39 = .ok (.getfield 94, 3) := by decide +kernel
theorem dX4_lay_42 : decode cX4_lay 42 = .ok (.iload_n 1, 1) := by decide +kernel
theorem dX4_lay_43 : decode cX4_lay 43 = .ok (.aaload, 1) := by decide +kernel
theorem dX4_lay_44 : decode cX4_lay 44 = .ok (.iload_n 2, 1) := by decide +kernel
theorem dX4_lay_45 : decode cX4_lay 45 = .ok (.iload_n 3, 1) := by decide +kernel
theorem dX4_lay_46 : decode cX4_lay 46 = .ok (.iastore, 1) := by decide +kernel
theorem dX4_lay_47 : decode cX4_lay 47 = .ok (.iconst 1, 1) := by decide +kernel
theorem dX4_lay_48 : decode cX4_lay 48 = .ok (.ireturn, 1) := by decide +kernel
theorem dX4_at_0 : decode cX4_at 0 = .ok (.aload_n 0, 1) := by decide +kernel
theorem dX4_at_1 : decode cX4_at 1 = .ok (.aload_n 0, 1) := by decide +kernel
theorem dX4_at_2 : decode cX4_at 2 = .ok (.getfield 14, 3) := by decide +kernel
theorem dX4_at_5 : decode cX4_at 5 = .ok (.iload_n 1, 1) := by decide +kernel
theorem dX4_at_6 : decode cX4_at 6 = .ok (.iload_n 2, 1) := by decide +kernel
theorem dX4_at_7 : decode cX4_at 7 = .ok (.invokevirtual 90, 3) := by decide +kernel
theorem dX4_at_10 : decode cX4_at 10 = .ok (.istore_n 3, 1) := by decide +kernel
theorem dX4_at_11 : decode cX4_at 11 = .ok (.iload_n 3, 1) := by decide +kernel
theorem dX4_at_12 : decode cX4_at 12 = .ok (.ifCond .eq 5, 3) := by decide +kernel
theorem dX4_at_15 : decode cX4_at 15 = .ok (.iload_n 3, 1) := by decide +kernel
theorem dX4_at_16 : decode cX4_at 16 = .ok (.ireturn, 1) := by decide +kernel
theorem dX4_at_17 : decode cX4_at 17 = .ok (.aload_n 0, 1) := by decide +kernel
theorem dX4_at_18 : decode cX4_at 18 = .ok (.aload_n 0, 1) := by decide +kernel
theorem dX4_at_19 : decode cX4_at 19 = .ok (.getfield 14, 3) := by decide +kernel
theorem dX4_at_22 : decode cX4_at 22 = .ok (.getfield 94, 3) := by decide +kernel
theorem dX4_at_25 : decode cX4_at 25 = .ok (.iload_n 1, 1) := by decide +kernel
theorem dX4_at_26 : decode cX4_at 26 = .ok (.aaload, 1) := by decide +kernel
theorem dX4_at_27 : decode cX4_at 27 = .ok (.iload_n 2, 1) := by decide +kernel
theorem dX4_at_28 : decode cX4_at 28 = .ok (.iaload, 1) := by decide +kernel
theorem dX4_at_29 : decode cX4_at 29 = .ok (.putfield 97, 3) := by decide +kernel
theorem dX4_at_32 : decode cX4_at 32 = .ok (.iconst 1, 1) := by decide +kernel
theorem dX4_at_33 : decode cX4_at 33 = .ok (.ireturn, 1) := by decide +kernel
theorem dX4_tear_0 : decode cX4_tear 0 = .ok (.aload_n 0, 1) := by decide +kernel
theorem dX4_tear_1 : decode cX4_tear 1 = .ok (.aload_n 0, 1) := by decide +kernel
theorem dX4_tear_2 : decode cX4_tear 2 = .ok (.getfield 14, 3) := by decide +kernel
theorem dX4_tear_5 : decode cX4_tear 5 = .ok (.iload_n 1, 1) := by decide +kernel
theorem dX4_tear_6 : decode cX4_tear 6 = .ok (.invokevirtual 101, 3) := by decide +kernel
theorem dX4_tear_9 : decode cX4_tear 9 = .ok (.istore_n 2, 1) := by decide +kernel
theorem dX4_tear_10 : decode cX4_tear 10 = .ok (.iload_n 2, 1) := by decide +kernel
theorem dX4_tear_11 : decode cX4_tear 11 = .ok (.ifCond .eq 5, 3) := by decide +kernel
theorem dX4_tear_14 : decode cX4_tear 14 = .ok (.iload_n 2, 1) := by decide +kernel
theorem dX4_tear_15 : decode cX4_tear 15 = .ok (.ireturn, 1) := by decide +kernel
theorem dX4_tear_16 : decode cX4_tear 16 = .ok (.aload_n 0, 1) := by decide +kernel
theorem dX4_tear_17 : decode cX4_tear 17 = .ok (.getfield 14, 3) := by decide +kernel
theorem dX4_tear_20 : decode cX4_tear 20 = .ok (.getfield 105, 3) := by decide +kernel
theorem dX4_tear_23 : decode cX4_tear 23 = .ok (.iload_n 1, 1) := by decide +kernel
theorem dX4_tear_24 : decode cX4_tear 24 = .ok (.iconst (-1), 1) := by decide +kernel
theorem dX4_tear_25 : decode cX4_tear 25 = .ok (.iastore, 1) := by decide +kernel
theorem dX4_tear_26 : decode cX4_tear 26 = .ok (.iconst 1, 1) := by decide +kernel
theorem dX4_tear_27 : decode cX4_tear 27 = .ok (.ireturn, 1) := by decide +kernel
theorem dX4_copy_0 : decode cX4_copy 0 = .ok (.aload_n 0, 1) := by decide +kernel
theorem dX4_copy_1 : decode cX4_copy 1 = .ok (.getfield 14, 3) := by decide +kernel
theorem dX4_copy_4 : decode cX4_copy 4 = .ok (.iload_n 1, 1) := by decide +kernel
theorem dX4_copy_5 : decode cX4_copy 5 = .ok (.invokevirtual 78, 3) := by decide +kernel
theorem dX4_copy_8 : decode cX4_copy 8 = .ok (.ifCond .eq 14, 3) := by decide +kernel
theorem dX4_copy_11 : decode cX4_copy 11 = .ok (.aload_n 0, 1) := by decide +kernel
theorem dX4_copy_12 : decode cX4_copy 12 = .ok (.getfield 14, 3) := by decide +kernel
theorem dX4_copy_15 : decode cX4_copy 15 = .ok (.iload_n 3, 1) := by decide +kernel
theorem dX4_copy_16 : decode cX4_copy 16 = .ok (.invokevirtual 78, 3) := by decide +kernel
theorem dX4_copy_19 : decode cX4_copy 19 = .ok (.ifCond .ne 5, 3) := by decide +kernel
theorem dX4_copy_22 : decode cX4_copy 22 = .ok (.iconst (-1), 1) := by decide +kernel
theorem dX4_copy_23 : decode cX4_copy 23 = .ok (.ireturn, 1) := by decide +kernel
theorem dX4_copy_24 : decode cX4_copy 24 = .ok (.iload 5, 2) := by decide +kernel
theorem dX4_copy_26 : decode cX4_copy 26 = .ok (.ifCond .ge 9, 3) := by decide +kernel
theorem dX4_copy_29 : decode cX4_copy 29 = .ok (.aload_n 0, 1) := by decide +kernel
theorem dX4_copy_30 : decode cX4_copy 30 = .ok (.iconst 5, 1) := by decide +kernel
theorem dX4_copy_31 : decode cX4_copy 31 = .ok (.invokevirtual 82, 3) := by decide +kernel
theorem dX4_copy_34 : decode cX4_copy 34 = .ok (.ireturn, 1) := by decide +kernel
theorem dX4_copy_35 : decode cX4_copy 35 = .ok (.aload_n 0, 1) := by decide +kernel
theorem dX4_copy_36 : decode cX4_copy 36 = .ok (.getfield 14, 3) := by decide +kernel
theorem dX4_copy_39 : decode cX4_copy 39 = .ok (.iload_n 1, 1) := by decide +kernel
theorem dX4_copy_40 : decode cX4_copy 40 = .ok (.invokevirtual 108, 3) := by decide +kernel
theorem dX4_copy_43 : decode cX4_copy 43 = .ok (.ifCond .eq 14, 3) := by decide +kernel
theorem dX4_copy_46 : decode cX4_copy 46 = .ok (.aload_n 0, 1) := by decide +kernel
theorem dX4_copy_47 : decode cX4_copy 47 = .ok (.getfield 14, 3) := by decide +kernel
theorem dX4_copy_50 : decode cX4_copy 50 = .ok (.iload_n 3, 1) := by decide +kernel
theorem dX4_copy_51 : decode cX4_copy 51 = .ok (.invokevirtual 108, 3) := by decide +kernel
theorem dX4_copy_54 : decode cX4_copy 54 = .ok (.ifCond .ne 9, 3) := by decide +kernel
theorem dX4_copy_57 : decode cX4_copy 57 = .ok (.aload_n 0, 1) := by decide +kernel
theorem dX4_copy_58 : decode cX4_copy 58 = .ok (.iconst 1, 1) := by decide +kernel
theorem dX4_copy_59 : decode cX4_copy 59 = .ok (.invokevirtual 82, 3) := by decide +kernel
theorem dX4_copy_62 : decode cX4_copy 62 = .ok (.ireturn, 1) := by decide +kernel
theorem dX4_copy_63 : decode cX4_copy 63 = .ok (.iload_n 2, 1) := by decide +kernel
theorem dX4_copy_64 : decode cX4_copy 64 = .ok (.iload 5, 2) := by decide +kernel
theorem dX4_copy_66 : decode cX4_copy 66 = .ok (.aload_n 0, 1) := by decide +kernel
theorem dX4_copy_67 : decode cX4_copy 67 = .ok (.getfield 14, 3) := by decide +kernel
theorem dX4_copy_70 : decode cX4_copy 70 = .ok (.getfield 105, 3) := by decide +kernel
theorem dX4_copy_73 : decode cX4_copy 73 = .ok (.iload_n 1, 1) := by decide +kernel
theorem dX4_copy_74 : decode cX4_copy 74 = .ok (.iaload, 1) := by decide +kernel
theorem dX4_copy_75 : decode cX4_copy 75 = .ok (.invokestatic 111, 3) := by decide +kernel
theorem dX4_copy_78 : decode cX4_copy 78 = .ok (.ifCond .eq 22, 3) := by decide +kernel
theorem dX4_copy_81 : decode cX4_copy 81 = .ok (.iload 4, 2) := by decide +kernel
theorem dX4_copy_83 : decode cX4_copy 83 = .ok (.iload 5, 2) := by decide +kernel
theorem dX4_copy_85 : decode cX4_copy 85 = .ok (.aload_n 0, 1) := by decide +kernel
theorem dX4_copy_86 : decode cX4_copy 86 = .ok (.getfield 14, 3) := by decide +kernel
theorem dX4_copy_89 : decode cX4_copy 89 = .ok (.getfield 105, 3) := by decide +kernel
theorem dX4_copy_92 : decode cX4_copy 92 = .ok (.iload_n 3, 1) := by decide +kernel
theorem dX4_copy_93 : decode cX4_copy 93 = .ok (.iaload, 1) := by decide +kernel
theorem dX4_copy_94 : decode cX4_copy 94 = .ok (.invokestatic 111, 3) := by decide +kernel
theorem dX4_copy_97 : decode cX4_copy 97 = .ok (.ifCond .ne 9, 3) := by decide +kernel
theorem dX4_copy_100 : decode cX4_copy 100 = .ok (.aload_n 0, 1) := by decide +kernel
theorem dX4_copy_101 : decode cX4_copy 101 = .ok (.iconst 2, 1) := by decide +kernel
theorem dX4_copy_102 : decode cX4_copy 102 = .ok (.invokevirtual 82, 3) := by decide +kernel
theorem dX4_copy_105 : decode cX4_copy 105 = .ok (.ireturn, 1) := by decide +kernel
theorem dX4_copy_106 : decode cX4_copy 106 = .ok (.aload_n 0, 1) := by decide +kernel
theorem dX4_copy_107 : decode cX4_copy 107 = .ok (.getfield 14, 3) := by decide +kernel
theorem dX4_copy_110 : decode cX4_copy 110 = .ok (.getfield 94, 3) := by decide +kernel
theorem dX4_copy_113 : decode cX4_copy 113 = .ok (.iload_n 1, 1) := by decide +kernel
theorem dX4_copy_114 : decode cX4_copy 114 = .ok (.aaload, 1) := by decide +kernel
theorem dX4_copy_115 : decode cX4_copy 115 = .ok (.iload_n 2, 1) := by decide +kernel
theorem dX4_copy_116 : decode cX4_copy 116 = .ok (.aload_n 0, 1) := by decide +kernel
theorem dX4_copy_117 : decode cX4_copy 117 = .ok (.getfield 14, 3) := by decide +kernel
theorem dX4_copy_120 : decode cX4_copy 120 = .ok (.getfield 94, 3) := by decide +kernel
theorem dX4_copy_123 : decode cX4_copy 123 = .ok (.iload_n 3, 1) := by decide +kernel
theorem dX4_copy_124 : decode cX4_copy 124 = .ok (.aaload, 1) := by decide +kernel
theorem dX4_copy_125 : decode cX4_copy 125 = .ok (.iload 4, 2) := by decide +kernel
theorem dX4_copy_127 : decode cX4_copy 127 = .ok (.iload 5, 2) := by decide +kernel
theorem dX4_copy_129 : decode cX4_copy 129 = .ok (.invokestatic 115, 3) := by decide +kernel
theorem dX4_copy_132 : decode cX4_copy 132 = .ok (.iconst 1, 1) := by decide +kernel
theorem dX4_copy_133 : decode cX4_copy 133 = .ok (.ireturn, 1) := by decide +kernel
theorem dX4_mean_0 : decode cX4_mean 0 = .ok (.aload_n 0, 1) := by decide +kernel
theorem dX4_mean_1 : decode cX4_mean 1 = .ok (.aload_n 0, 1) := by decide +kernel
theorem dX4_mean_2 : decode cX4_mean 2 = .ok (.getfield 14, 3) := by decide +kernel
theorem dX4_mean_5 : decode cX4_mean 5 = .ok (.iload_n 1, 1) := by decide +kernel
theorem dX4_mean_6 : decode cX4_mean 6 = .ok (.invokevirtual 101, 3) := by decide +kernel
theorem dX4_mean_9 : decode cX4_mean 9 = .ok (.istore_n 2, 1) := by decide +kernel
theorem dX4_mean_10 : decode cX4_mean 10 = .ok (.iload_n 2, 1) := by decide +kernel
theorem dX4_mean_11 : decode cX4_mean 11 = .ok (.ifCond .eq 5, 3) := by decide +kernel
theorem dX4_mean_14 : decode cX4_mean 14 = .ok (.iload_n 2, 1) := by decide +kernel
theorem dX4_mean_15 : decode cX4_mean 15 = .ok (.ireturn, 1) := by decide +kernel
theorem dX4_mean_16 : decode cX4_mean 16 = .ok (.aload_n 0, 1) := by decide +kernel
theorem dX4_mean_17 : decode cX4_mean 17 = .ok (.getfield 14, 3) := by decide +kernel
theorem dX4_mean_20 : decode cX4_mean 20 = .ok (.getfield 105, 3) := by decide +kernel
theorem dX4_mean_23 : decode cX4_mean 23 = .ok (.iload_n 1, 1) := by decide +kernel
theorem dX4_mean_24 : decode cX4_mean 24 = .ok (.iaload, 1) := by decide +kernel
theorem dX4_mean_25 : decode cX4_mean 25 = .ok (.istore_n 3, 1) := by decide +kernel
theorem dX4_mean_26 : decode cX4_mean 26 = .ok (.iload_n 3, 1) := by decide +kernel
theorem dX4_mean_27 : decode cX4_mean 27 = .ok (.ifCond .gt 9, 3) := by decide +kernel
theorem dX4_mean_30 : decode cX4_mean 30 = .ok (.aload_n 0, 1) := by decide +kernel
theorem dX4_mean_31 : decode cX4_mean 31 = .ok (.iconst 4, 1) := by decide +kernel
theorem dX4_mean_32 : decode cX4_mean 32 = .ok (.invokevirtual 82, 3) := by decide +kernel
theorem dX4_mean_35 : decode cX4_mean 35 = .ok (.ireturn, 1) := by decide +kernel
theorem dX4_mean_36 : decode cX4_mean 36 = .ok (.lconst 0, 1) := by decide +kernel
theorem dX4_mean_37 : decode cX4_mean 37 = .ok (.lstore 4, 2) := by decide +kernel
theorem dX4_mean_39 : decode cX4_mean 39 = .ok (.iconst 0, 1) := by decide +kernel
theorem dX4_mean_40 : decode cX4_mean 40 = .ok (.istore 6, 2) := by decide +kernel
theorem dX4_mean_42 : decode cX4_mean 42 = .ok (.iload 6, 2) := by decide +kernel
theorem dX4_mean_44 : decode cX4_mean 44 = .ok (.iload_n 3, 1) := by decide +kernel
theorem dX4_mean_45 : decode cX4_mean 45 = .ok (.if_icmp .ge 27, 3) := by decide +kernel
theorem dX4_mean_48 : decode cX4_mean 48 = .ok (.lload 4, 2) := by decide +kernel
theorem dX4_mean_50 : decode cX4_mean 50 = .ok (.aload_n 0, 1) := by decide +kernel
theorem dX4_mean_51 : decode cX4_mean 51 = .ok (.getfield 14, 3) := by decide +kernel
theorem dX4_mean_54 : decode cX4_mean 54 = .ok (.getfield 94, 3) := by decide +kernel
theorem dX4_mean_57 : decode cX4_mean 57 = .ok (.iload_n 1, 1) := by decide +kernel
theorem dX4_mean_58 : decode cX4_mean 58 = .ok (.aaload, 1) := by decide +kernel
theorem dX4_mean_59 : decode cX4_mean 59 = .ok (.iload 6, 2) := by decide +kernel
theorem dX4_mean_61 : decode cX4_mean 61 = .ok (.iaload, 1) := by decide +kernel
theorem dX4_mean_62 : decode cX4_mean 62 = .ok (.i2l, 1) := by decide +kernel
theorem dX4_mean_63 : decode cX4_mean 63 = .ok (.ladd, 1) := by decide +kernel
theorem dX4_mean_64 : decode cX4_mean 64 = .ok (.lstore 4, 2) := by decide +kernel
theorem dX4_mean_66 : decode cX4_mean 66 = .ok (.iinc 6 1, 3) := by decide +kernel
theorem dX4_mean_69 : decode cX4_mean 69 = .ok (.goto (-27), 3) := by decide +kernel
theorem dX4_mean_72 : decode cX4_mean 72 = .ok (.aload_n 0, 1) := by decide +kernel
theorem dX4_mean_73 : decode cX4_mean 73 = .ok (.lload 4, 2) := by decide +kernel
theorem dX4_mean_75 : decode cX4_mean 75 = .ok (.iload_n 3, 1) := by decide +kernel
theorem dX4_mean_76 : decode cX4_mean 76 = .ok (.i2l, 1) := by decide +kernel
theorem dX4_mean_77 : decode cX4_mean 77 = .ok (.ldiv, 1) := by decide +kernel
theorem dX4_mean_78 : decode cX4_mean 78 = .ok (.l2i, 1) := by decide +kernel
theorem dX4_mean_79 : decode cX4_mean 79 = .ok (.putfield 97, 3) := by decide +kernel
theorem dX4_mean_82 : decode cX4_mean 82 = .ok (.iconst 1, 1) := by decide +kernel
theorem dX4_mean_83 : decode cX4_mean 83 = .ok (.ireturn, 1) := by decide +kernel
theorem dX4_text_0 : decode cX4_text 0 = .ok (.aload_n 0, 1) := by decide +kernel
theorem dX4_text_1 : decode cX4_text 1 = .ok (.getfield 18, 3) := by decide +kernel
theorem dX4_text_4 : decode cX4_text 4 = .ok (.iload_n 1, 1) := by decide +kernel
theorem dX4_text_5 : decode cX4_text 5 = .ok (.invokevirtual 78, 3) := by decide +kernel
theorem dX4_text_8 : decode cX4_text 8 = .ok (.ifCond .eq 9, 3) := by decide +kernel
theorem dX4_text_11 : decode cX4_text 11 = .ok (.iload_n 2, 1) := by decide +kernel
theorem dX4_text_12 : decode cX4_text 12 = .ok (.bipush 60, 2) := by decide +kernel
theorem dX4_text_14 : decode cX4_text 14 = .ok (.if_icmp .le 5, 3) := by decide +kernel
theorem dX4_text_17 : decode cX4_text 17 = .ok (.iconst (-1), 1) := by decide +kernel
theorem dX4_text_18 : decode cX4_text 18 = .ok (.ireturn, 1) := by decide +kernel
theorem dX4_text_19 : decode cX4_text 19 = .ok (.iload_n 2, 1) := by decide +kernel
theorem dX4_text_20 : decode cX4_text 20 = .ok (.ifCond .ge 9, 3) := by decide +kernel
theorem dX4_text_23 : decode cX4_text 23 = .ok (.aload_n 0, 1) := by decide +kernel
theorem dX4_text_24 : decode cX4_text 24 = .ok (.iconst 5, 1) := by decide +kernel
theorem dX4_text_25 : decode cX4_text 25 = .ok (.invokevirtual 82, 3) := by decide +kernel
theorem dX4_text_28 : decode cX4_text 28 = .ok (.ireturn, 1) := by decide +kernel
theorem dX4_text_29 : decode cX4_text 29 = .ok (.aload_n 0, 1) := by decide +kernel
theorem dX4_text_30 : decode cX4_text 30 = .ok (.getfield 18, 3) := by decide +kernel
theorem dX4_text_33 : decode cX4_text 33 = .ok (.iload_n 1, 1) := by decide +kernel
theorem dX4_text_34 : decode cX4_text 34 = .ok (.iload_n 2, 1) := by decide +kernel
theorem dX4_text_35 : decode cX4_text 35 = .ok (.bipush 32, 2) := by decide +kernel
theorem dX4_text_37 : decode cX4_text 37 = .ok (.invokevirtual 86, 3) := by decide +kernel
theorem dX4_text_40 : decode cX4_text 40 = .ok (.iload_n 2, 1) := by decide +kernel
theorem dX4_text_41 : decode cX4_text 41 = .ok (.ireturn, 1) := by decide +kernel
theorem dX4_put_0 : decode cX4_put 0 = .ok (.aload_n 0, 1) := by decide +kernel
theorem dX4_put_1 : decode cX4_put 1 = .ok (.aload_n 0, 1) := by decide +kernel
theorem dX4_put_2 : decode cX4_put 2 = .ok (.getfield 18, 3) := by decide +kernel
theorem dX4_put_5 : decode cX4_put 5 = .ok (.iload_n 1, 1) := by decide +kernel
theorem dX4_put_6 : decode cX4_put 6 = .ok (.iload_n 2, 1) := by decide +kernel
theorem dX4_put_7 : decode cX4_put 7 = .ok (.invokevirtual 90, 3) := by decide +kernel
theorem dX4_put_10 : decode cX4_put 10 = .ok (.istore 4, 2) := by decide +kernel
theorem dX4_put_12 : decode cX4_put 12 = .ok (.iload 4, 2) := by decide +kernel
theorem dX4_put_14 : decode cX4_put 14 = .ok (.ifCond .eq 6, 3) := by decide +kernel
theorem dX4_put_17 : decode cX4_put 17 = .ok (.iload 4, 2) := by decide +kernel
theorem dX4_put_19 : decode cX4_put 19 = .ok (.ireturn, 1) := by decide +kernel
theorem dX4_put_20 : decode cX4_put 20 = .ok (.aload_n 0, 1) := by decide +kernel
theorem dX4_put_21 : decode cX4_put 21 = .ok (.getfield 18, 3) := by decide +kernel
theorem dX4_put_24 : decode cX4_put 24 = .ok (.getfield 94, 3) := by decide +kernel
theorem dX4_put_27 : decode cX4_put 27 = .ok (.iload_n 1, 1) := by decide +kernel
theorem dX4_put_28 : decode cX4_put 28 = .ok (.aaload, 1) := by decide +kernel
theorem dX4_put_29 : decode cX4_put 29 = .ok (.iload_n 2, 1) := by decide +kernel
theorem dX4_put_30 : decode cX4_put 30 = .ok (.iaload, 1) := by decide +kernel
theorem dX4_put_31 : decode cX4_put 31 = .ok (.istore 5, 2) := by decide +kernel
theorem dX4_put_33 : decode cX4_put 33 = .ok (.aload_n 0, 1) := by decide +kernel
theorem dX4_put_34 : decode cX4_put 34 = .ok (.getfield 18, 3) := by decide +kernel
theorem dX4_put_37 : decode cX4_put 37 = .ok (.getfield 94, 3) := by decide +kernel
theorem dX4_put_40 : decode cX4_put 40 = .ok (.iload_n 1, 1) := by decide +kernel
theorem dX4_put_41 : decode cX4_put 41 = .ok (.aaload, 1) := by decide +kernel
theorem dX4_put_42 : decode cX4_put 42 = .ok (.iload_n 2, 1) := by decide +kernel
theorem dX4_put_43 : decode cX4_put 43 = .ok (.iload_n 3, 1) := by decide +kernel
theorem dX4_put_44 : decode cX4_put 44 = .ok (.i2b, 1) := by decide +kernel
theorem dX4_put_45 : decode cX4_put 45 = .ok (.iastore, 1) := by decide +kernel
theorem dX4_put_46 : decode cX4_put 46 = .ok (.iload 5, 2) := by decide +kernel
theorem dX4_put_48 : decode cX4_put 48 = .ok (.sipush 1000, 3) := by decide +kernel
theorem dX4_put_51 : decode cX4_put 51 = .ok (.iadd, 1) := by decide +kernel
theorem dX4_put_52 : decode cX4_put 52 = .ok (.ireturn, 1) := by decide +kernel
theorem dX4_fault_0 : decode cX4_fault 0 = .ok (.aload_n 0, 1) := by decide +kernel
theorem dX4_fault_1 : decode cX4_fault 1 = .ok (.aload_n 0, 1) := by decide +kernel
theorem dX4_fault_2 : decode cX4_fault 2 = .ok (.getfield 18, 3) := by decide +kernel
theorem dX4_fault_5 : decode cX4_fault 5 = .ok (.iload_n 1, 1) := by decide +kernel
theorem dX4_fault_6 : decode cX4_fault 6 = .ok (.invokevirtual 101, 3) := by decide +kernel
theorem dX4_fault_9 : decode cX4_fault 9 = .ok (.istore_n 2, 1) := by decide +kernel
theorem dX4_fault_10 : decode cX4_fault 10 = .ok (.iload_n 2, 1) := by decide +kernel
theorem dX4_fault_11 : decode cX4_fault 11 = .ok (.ifCond .eq 5, 3) := by decide +kernel
theorem dX4_fault_14 : decode cX4_fault 14 = .ok (.iload_n 2, 1) := by decide +kernel
theorem dX4_fault_15 : decode cX4_fault 15 = .ok (.ireturn, 1) := by decide +kernel
theorem dX4_fault_16 : decode cX4_fault 16 = .ok (.aload_n 0, 1) := by decide +kernel
theorem dX4_fault_17 : decode cX4_fault 17 = .ok (.getfield 42, 3) := by decide +kernel
theorem dX4_fault_20 : decode cX4_fault 20 = .ok (.aload_n 0, 1) := by decide +kernel
theorem dX4_fault_21 : decode cX4_fault 21 = .ok (.getfield 28, 3) := by decide +kernel
theorem dX4_fault_24 : decode cX4_fault 24 = .ok (.aload_n 0, 1) := by decide +kernel
theorem dX4_fault_25 : decode cX4_fault 25 = .ok (.getfield 18, 3) := by decide +kernel
theorem dX4_fault_28 : decode cX4_fault 28 = .ok (.getfield 94, 3) := by decide +kernel
theorem dX4_fault_31 : decode cX4_fault 31 = .ok (.iload_n 1, 1) := by decide +kernel
theorem dX4_fault_32 : decode cX4_fault 32 = .ok (.aaload, 1) := by decide +kernel
theorem dX4_fault_33 : decode cX4_fault 33 = .ok (.aload_n 0, 1) := by decide +kernel
theorem dX4_fault_34 : decode cX4_fault 34 = .ok (.getfield 18, 3) := by decide +kernel
theorem dX4_fault_37 : decode cX4_fault 37 = .ok (.getfield 105, 3) := by decide +kernel
theorem dX4_fault_40 : decode cX4_fault 40 = .ok (.iload_n 1, 1) := by decide +kernel
theorem dX4_fault_41 : decode cX4_fault 41 = .ok (.iaload, 1) := by decide +kernel
theorem dX4_fault_42 : decode cX4_fault 42 = .ok (.invokevirtual 121, 3) := by decide +kernel
theorem dX4_fault_45 : decode cX4_fault 45 = .ok (.ireturn, 1) := by decide +kernel
theorem dX4_line_0 : decode cX4_line 0 = .ok (.aload_n 0, 1) := by decide +kernel
theorem dX4_line_1 : decode cX4_line 1 = .ok (.aload_n 0, 1) := by decide +kernel
theorem dX4_line_2 : decode cX4_line 2 = .ok (.getfield 18, 3) := by decide +kernel
theorem dX4_line_5 : decode cX4_line 5 = .ok (.iload_n 1, 1) := by decide +kernel
theorem dX4_line_6 : decode cX4_line 6 = .ok (.invokevirtual 101, 3) := by decide +kernel
theorem dX4_line_9 : decode cX4_line 9 = .ok (.istore_n 2, 1) := by decide +kernel
theorem dX4_line_10 : decode cX4_line 10 = .ok (.iload_n 2, 1) := by decide +kernel
theorem dX4_line_11 : decode cX4_line 11 = .ok (.ifCond .eq 5, 3) := by decide +kernel
theorem dX4_line_14 : decode cX4_line 14 = .ok (.iload_n 2, 1) := by decide +kernel
theorem dX4_line_15 : decode cX4_line 15 = .ok (.ireturn, 1) := by decide +kernel
theorem dX4_line_16 : decode cX4_line 16 = .ok (.aload_n 0, 1) := by decide +kernel
theorem dX4_line_17 : decode cX4_line 17 = .ok (.getfield 42, 3) := by decide +kernel
theorem dX4_line_20 : decode cX4_line 20 = .ok (.aload_n 0, 1) := by decide +kernel
theorem dX4_line_21 : decode cX4_line 21 = .ok (.getfield 28, 3) := by decide +kernel
theorem dX4_line_24 : decode cX4_line 24 = .ok (.aload_n 0, 1) := by decide +kernel
theorem dX4_line_25 : decode cX4_line 25 = .ok (.getfield 18, 3) := by decide +kernel
theorem dX4_line_28 : decode cX4_line 28 = .ok (.getfield 94, 3) := by decide +kernel
theorem dX4_line_31 : decode cX4_line 31 = .ok (.iload_n 1, 1) := by decide +kernel
theorem dX4_line_32 : decode cX4_line 32 = .ok (.aaload, 1) := by decide +kernel
theorem dX4_line_33 : decode cX4_line 33 = .ok (.aload_n 0, 1) := by decide +kernel
theorem dX4_line_34 : decode cX4_line 34 = .ok (.getfield 18, 3) := by decide +kernel
theorem dX4_line_37 : decode cX4_line 37 = .ok (.getfield 105, 3) := by decide +kernel
theorem dX4_line_40 : decode cX4_line 40 = .ok (.iload_n 1, 1) := by decide +kernel
theorem dX4_line_41 : decode cX4_line 41 = .ok (.iaload, 1) := by decide +kernel
theorem dX4_line_42 : decode cX4_line 42 = .ok (.invokevirtual 121, 3) := by decide +kernel
theorem dX4_line_45 : decode cX4_line 45 = .ok (.bipush (-9), 2) := by decide +kernel
theorem dX4_line_47 : decode cX4_line 47 = .ok (.if_icmp .eq 6, 3) := by decide +kernel
theorem dX4_line_50 : decode cX4_line 50 = .ok (.bipush (-4), 2) := by decide +kernel
theorem dX4_line_52 : decode cX4_line 52 = .ok (.ireturn, 1) := by decide +kernel
theorem dX4_line_53 : decode cX4_line 53 = .ok (.aload_n 0, 1) := by decide +kernel
theorem dX4_line_54 : decode cX4_line 54 = .ok (.getfield 24, 3) := by decide +kernel
theorem dX4_line_57 : decode cX4_line 57 = .ok (.aload_n 0, 1) := by decide +kernel
theorem dX4_line_58 : decode cX4_line 58 = .ok (.getfield 28, 3) := by decide +kernel
theorem dX4_line_61 : decode cX4_line 61 = .ok (.invokevirtual 125, 3) := by decide +kernel
theorem dX4_line_64 : decode cX4_line 64 = .ok (.iconst 0, 1) := by decide +kernel
theorem dX4_line_65 : decode cX4_line 65 = .ok (.istore_n 3, 1) := by decide +kernel
theorem dX4_line_66 : decode cX4_line 66 = .ok (.iload_n 3, 1) := by decide +kernel
theorem dX4_line_67 : decode cX4_line 67 = .ok (.iconst 3, 1) := by decide +kernel
theorem dX4_line_68 : decode cX4_line 68 = .ok (.if_icmp .ge 16, 3) := by decide +kernel
theorem dX4_line_71 : decode cX4_line 71 = .ok (.aload_n 0, 1) := by decide +kernel
theorem dX4_line_72 : decode cX4_line 72 = .ok (.getfield 35, 3) := by decide +kernel
theorem dX4_line_75 : decode cX4_line 75 = .ok (.iload_n 3, 1) := by decide +kernel
theorem dX4_line_76 : decode cX4_line 76 = .ok (.iconst 0, 1) := by decide +kernel
theorem dX4_line_77 : decode cX4_line 77 = .ok (.bastore, 1) := by decide +kernel
theorem dX4_line_78 : decode cX4_line 78 = .ok (.iinc 3 1, 3) := by decide +kernel
theorem dX4_line_81 : decode cX4_line 81 = .ok (.goto (-15), 3) := by decide +kernel
theorem dX4_line_84 : decode cX4_line 84 = .ok (.aload_n 0, 1) := by decide +kernel
theorem dX4_line_85 : decode cX4_line 85 = .ok (.getfield 24, 3) := by decide +kernel
theorem dX4_line_88 : decode cX4_line 88 = .ok (.getfield 129, 3) := by decide +kernel
theorem dX4_line_91 : decode cX4_line 91 = .ok (.ireturn, 1) := by decide +kernel
theorem dX4_sleeper_0 : decode cX4_sleeper 0 = .ok (.iload_n 1, 1) := by decide +kernel
theorem dX4_sleeper_1 : decode cX4_sleeper 1 = .ok (.aload_n 0, 1) := by decide +kernel
theorem dX4_sleeper_2 : decode cX4_sleeper 2 = .ok (.getfield 24, 3) := by decide +kernel
theorem dX4_sleeper_5 : decode cX4_sleeper 5 = .ok (.getfield 129, 3) := by decide +kernel
theorem dX4_sleeper_8 : decode cX4_sleeper 8 = .ok (.invokestatic 132, 3) := by decide +kernel
theorem dX4_sleeper_11 : decode cX4_sleeper 11 = .ok (.ifCond .eq 11, 3) := by decide +kernel
theorem dX4_sleeper_14 : decode cX4_sleeper 14 = .ok (.iload_n 2, 1) := by decide +kernel
theorem dX4_sleeper_15 : decode cX4_sleeper 15 = .ok (.iconst 5, 1) := by decide +kernel
theorem dX4_sleeper_16 : decode cX4_sleeper 16 = .ok (.invokestatic 132, 3) := by decide +kernel
theorem dX4_sleeper_19 : decode cX4_sleeper 19 = .ok (.ifCond .ne 5, 3) := by decide +kernel
theorem dX4_sleeper_22 : decode cX4_sleeper 22 = .ok (.iconst (-1), 1) := by decide +kernel
theorem dX4_sleeper_23 : decode cX4_sleeper 23 = .ok (.ireturn, 1) := by decide +kernel
theorem dX4_sleeper_24 : decode cX4_sleeper 24 = .ok (.aload_n 0, 1) := by decide +kernel
theorem dX4_sleeper_25 : decode cX4_sleeper 25 = .ok (.aload_n 0, 1) := by decide +kernel
theorem dX4_sleeper_26 : decode cX4_sleeper 26 = .ok (.iload_n 1, 1) := by decide +kernel
theorem dX4_sleeper_27 : decode cX4_sleeper 27 = .ok (.iload_n 2, 1) := by decide +kernel
theorem dX4_sleeper_28 : decode cX4_sleeper 28 = .ok (.invokevirtual 136, 3) := by decide +kernel
theorem dX4_sleeper_31 : decode cX4_sleeper 31 = .ok (.putfield 97, 3) := by decide +kernel
theorem dX4_sleeper_34 : decode cX4_sleeper 34 = .ok (.iconst 1, 1) := by decide +kernel
theorem dX4_sleeper_35 : decode cX4_sleeper 35 = .ok (.ireturn, 1) := by decide +kernel
theorem dX4_mark_0 : decode cX4_mark 0 = .ok (.iload_n 1, 1) := by decide +kernel
theorem dX4_mark_1 : decode cX4_mark 1 = .ok (.aload_n 0, 1) := by decide +kernel
theorem dX4_mark_2 : decode cX4_mark 2 = .ok (.getfield 24, 3) := by decide +kernel
theorem dX4_mark_5 : decode cX4_mark 5 = .ok (.getfield 129, 3) := by decide +kernel
theorem dX4_mark_8 : decode cX4_mark 8 = .ok (.invokestatic 132, 3) := by decide +kernel
theorem dX4_mark_11 : decode cX4_mark 11 = .ok (.ifCond .eq 16, 3) := by decide +kernel
theorem dX4_mark_14 : decode cX4_mark 14 = .ok (.iload_n 2, 1) := by decide +kernel
theorem dX4_mark_15 : decode cX4_mark 15 = .ok (.ifCond .eq 12, 3) := by decide +kernel
theorem dX4_mark_18 : decode cX4_mark 18 = .ok (.iload_n 2, 1) := by decide +kernel
theorem dX4_mark_19 : decode cX4_mark 19 = .ok (.bipush 6, 2) := by decide +kernel
theorem dX4_mark_21 : decode cX4_mark 21 = .ok (.invokestatic 132, 3) := by decide +kernel
theorem dX4_mark_24 : decode cX4_mark 24 = .ok (.ifCond .ne 5, 3) := by decide +kernel
theorem dX4_mark_27 : decode cX4_mark 27 = .ok (.iconst (-1), 1) := by decide +kernel
theorem dX4_mark_28 : decode cX4_mark 28 = .ok (.ireturn, 1) := by decide +kernel
theorem dX4_mark_29 : decode cX4_mark 29 = .ok (.aload_n 0, 1) := by decide +kernel
theorem dX4_mark_30 : decode cX4_mark 30 = .ok (.getfield 24, 3) := by decide +kernel
theorem dX4_mark_33 : decode cX4_mark 33 = .ok (.getfield 140, 3) := by decide +kernel
theorem dX4_mark_36 : decode cX4_mark 36 = .ok (.iload_n 1, 1) := by decide +kernel
theorem dX4_mark_37 : decode cX4_mark 37 = .ok (.iaload, 1) := by decide +kernel
theorem dX4_mark_38 : decode cX4_mark 38 = .ok (.istore_n 3, 1) := by decide +kernel
theorem dX4_mark_39 : decode cX4_mark 39 = .ok (.iload_n 3, 1) := by decide +kernel
theorem dX4_mark_40 : decode cX4_mark 40 = .ok (.iload_n 2, 1) := by decide +kernel
theorem dX4_mark_41 : decode cX4_mark 41 = .ok (.if_icmp .eq 18, 3) := by decide +kernel
theorem dX4_mark_44 : decode cX4_mark 44 = .ok (.getstatic 143, 3) := by decide +kernel
theorem dX4_mark_47 : decode cX4_mark 47 = .ok (.iload_n 3, 1) := by decide +kernel
theorem dX4_mark_48 : decode cX4_mark 48 = .ok (.iaload, 1) := by decide +kernel
theorem dX4_mark_49 : decode cX4_mark 49 = .ok (.iload_n 2, 1) := by decide +kernel
theorem dX4_mark_50 : decode cX4_mark 50 = .ok (.if_icmp .eq 9, 3) := by decide +kernel
theorem dX4_mark_53 : decode cX4_mark 53 = .ok (.aload_n 0, 1) := by decide +kernel
theorem dX4_mark_54 : decode cX4_mark 54 = .ok (.iconst 3, 1) := by decide +kernel
theorem dX4_mark_55 : decode cX4_mark 55 = .ok (.invokevirtual 82, 3) := by decide +kernel
theorem dX4_mark_58 : decode cX4_mark 58 = .ok (.ireturn, 1) := by decide +kernel
theorem dX4_mark_59 : decode cX4_mark 59 = .ok (.aload_n 0, 1) := by decide +kernel
theorem dX4_mark_60 : decode cX4_mark 60 = .ok (.getfield 24, 3) := by decide +kernel
theorem dX4_mark_63 : decode cX4_mark 63 = .ok (.getfield 146, 3) := by decide +kernel
theorem dX4_mark_66 : decode cX4_mark 66 = .ok (.iload_n 1, 1) := by decide +kernel
theorem dX4_mark_67 : decode cX4_mark 67 = .ok (.iaload, 1) := by decide +kernel
theorem dX4_mark_68 : decode cX4_mark 68 = .ok (.istore 4, 2) := by decide +kernel
theorem dX4_mark_70 : decode cX4_mark 70 = .ok (.iload_n 2, 1) := by decide +kernel
theorem dX4_mark_71 : decode cX4_mark 71 = .ok (.tableswitch 71 1 5 #[33, 40, 71, 71, 57], 33) := by decide +kernel
theorem dX4_mark_104 : decode cX4_mark 104 = .ok (.iload_n 3, 1) := by decide +kernel
theorem dX4_mark_105 : decode cX4_mark 105 = .ok (.iload 4, 2) := by decide +kernel
theorem dX4_mark_107 : decode cX4_mark 107 = .ok (.invokestatic 149, 3) := by decide +kernel
theorem dX4_mark_110 : decode cX4_mark 110 = .ok (.ireturn, 1) := by decide +kernel
theorem dX4_mark_111 : decode cX4_mark 111 = .ok (.iload_n 3, 1) := by decide +kernel
theorem dX4_mark_112 : decode cX4_mark 112 = .ok (.iload 4, 2) := by decide +kernel
theorem dX4_mark_114 : decode cX4_mark 114 = .ok (.invokestatic 149, 3) := by decide +kernel
theorem dX4_mark_117 : decode cX4_mark 117 = .ok (.iconst 0, 1) := by decide +kernel
theorem dX4_mark_118 : decode cX4_mark 118 = .ok (.iload 4, 2) := by decide +kernel
theorem dX4_mark_120 : decode cX4_mark 120 = .ok (.invokestatic 149, 3) := by decide +kernel
theorem dX4_mark_123 : decode cX4_mark 123 = .ok (.isub, 1) := by decide +kernel
theorem dX4_mark_124 : decode cX4_mark 124 = .ok (.bipush 100, 2) := by decide +kernel
theorem dX4_mark_126 : decode cX4_mark 126 = .ok (.iadd, 1) := by decide +kernel
theorem dX4_mark_127 : decode cX4_mark 127 = .ok (.ireturn, 1) := by decide +kernel
theorem dX4_mark_128 : decode cX4_mark 128 = .ok (.iconst 2, 1) := by decide +kernel
theorem dX4_mark_129 : decode cX4_mark 129 = .ok (.iload 4, 2) := by decide +kernel
theorem dX4_mark_131 : decode cX4_mark 131 = .ok (.invokestatic 149, 3) := by decide +kernel
theorem dX4_mark_134 : decode cX4_mark 134 = .ok (.iload_n 3, 1) := by decide +kernel
theorem dX4_mark_135 : decode cX4_mark 135 = .ok (.iload 4, 2) := by decide +kernel
theorem dX4_mark_137 : decode cX4_mark 137 = .ok (.invokestatic 149, 3) := by decide +kernel
theorem dX4_mark_140 : decode cX4_mark 140 = .ok (.isub, 1) := by decide +kernel
theorem dX4_mark_141 : decode cX4_mark 141 = .ok (.ireturn, 1) := by decide +kernel
theorem dX4_mark_142 : decode cX4_mark 142 = .ok (.iload_n 3, 1) := by decide +kernel
theorem dX4_mark_143 : decode cX4_mark 143 = .ok (.iload 4, 2) := by decide +kernel
theorem dX4_mark_145 : decode cX4_mark 145 = .ok (.invokestatic 152, 3) := by decide +kernel
theorem dX4_mark_148 : decode cX4_mark 148 = .ok (.ireturn, 1) := by decide +kernel
theorem dX4_dreams_0 : decode cX4_dreams 0 = .ok (.iload_n 1, 1) := by decide +kernel
theorem dX4_dreams_1 : decode cX4_dreams 1 = .ok (.aload_n 0, 1) := by decide +kernel
theorem dX4_dreams_2 : decode cX4_dreams 2 = .ok (.getfield 24, 3) := by decide +kernel
theorem dX4_dreams_5 : decode cX4_dreams 5 = .ok (.getfield 129, 3) := by decide +kernel
theorem dX4_dreams_8 : decode cX4_dreams 8 = .ok (.invokestatic 132, 3) := by decide +kernel
theorem dX4_dreams_11 : decode cX4_dreams 11 = .ok (.ifCond .eq 12, 3) := by decide +kernel
theorem dX4_dreams_14 : decode cX4_dreams 14 = .ok (.iload_n 2, 1) := by decide +kernel
theorem dX4_dreams_15 : decode cX4_dreams 15 = .ok (.bipush 100, 2) := by decide +kernel
theorem dX4_dreams_17 : decode cX4_dreams 17 = .ok (.invokestatic 132, 3) := by decide +kernel
theorem dX4_dreams_20 : decode cX4_dreams 20 = .ok (.ifCond .ne 5, 3) := by decide +kernel
theorem dX4_dreams_23 : decode cX4_dreams 23 = .ok (.iconst (-1), 1) := by decide +kernel
theorem dX4_dreams_24 : decode cX4_dreams 24 = .ok (.ireturn, 1) := by decide +kernel
theorem dX4_dreams_25 : decode cX4_dreams 25 = .ok (.aload_n 0, 1) := by decide +kernel
theorem dX4_dreams_26 : decode cX4_dreams 26 = .ok (.getfield 24, 3) := by decide +kernel
theorem dX4_dreams_29 : decode cX4_dreams 29 = .ok (.getfield 140, 3) := by decide +kernel
theorem dX4_dreams_32 : decode cX4_dreams 32 = .ok (.iload_n 1, 1) := by decide +kernel
theorem dX4_dreams_33 : decode cX4_dreams 33 = .ok (.iaload, 1) := by decide +kernel
theorem dX4_dreams_34 : decode cX4_dreams 34 = .ok (.aload_n 0, 1) := by decide +kernel
theorem dX4_dreams_35 : decode cX4_dreams 35 = .ok (.getfield 24, 3) := by decide +kernel
theorem dX4_dreams_38 : decode cX4_dreams 38 = .ok (.getfield 146, 3) := by decide +kernel
theorem dX4_dreams_41 : decode cX4_dreams 41 = .ok (.iload_n 1, 1) := by decide +kernel
theorem dX4_dreams_42 : decode cX4_dreams 42 = .ok (.iaload, 1) := by decide +kernel
theorem dX4_dreams_43 : decode cX4_dreams 43 = .ok (.iload_n 2, 1) := by decide +kernel
theorem dX4_dreams_44 : decode cX4_dreams 44 = .ok (.invokestatic 155, 3) := by decide +kernel
theorem dX4_dreams_47 : decode cX4_dreams 47 = .ok (.invokestatic 158, 3) := by decide +kernel
theorem dX4_dreams_50 : decode cX4_dreams 50 = .ok (.ireturn, 1) := by decide +kernel
theorem dX4_minute_0 : decode cX4_minute 0 = .ok (.aload_n 0, 1) := by decide +kernel
theorem dX4_minute_1 : decode cX4_minute 1 = .ok (.getfield 24, 3) := by decide +kernel
theorem dX4_minute_4 : decode cX4_minute 4 = .ok (.getfield 129, 3) := by decide +kernel
theorem dX4_minute_7 : decode cX4_minute 7 = .ok (.ifCond .eq 15, 3) := by decide +kernel
theorem dX4_minute_10 : decode cX4_minute 10 = .ok (.aload_n 0, 1) := by decide +kernel
theorem dX4_minute_11 : decode cX4_minute 11 = .ok (.getfield 24, 3) := by decide +kernel
theorem dX4_minute_14 : decode cX4_minute 14 = .ok (.getfield 162, 3) := by decide +kernel
theorem dX4_minute_17 : decode cX4_minute 17 = .ok (.bipush 99, 2) := by decide +kernel
theorem dX4_minute_19 : decode cX4_minute 19 = .ok (.if_icmp .lt 6, 3) := by decide +kernel
theorem dX4_minute_22 : decode cX4_minute 22 = .ok (.bipush (-4), 2) := by decide +kernel
theorem dX4_minute_24 : decode cX4_minute 24 = .ok (.ireturn, 1) := by decide +kernel
theorem dX4_minute_25 : decode cX4_minute 25 = .ok (.aload_n 0, 1) := by decide +kernel
theorem dX4_minute_26 : decode cX4_minute 26 = .ok (.getfield 24, 3) := by decide +kernel
theorem dX4_minute_29 : decode cX4_minute 29 = .ok (.iconst 1, 1) := by decide +kernel
theorem dX4_minute_30 : decode cX4_minute 30 = .ok (.invokevirtual 165, 3) := by decide +kernel
theorem dX4_minute_33 : decode cX4_minute 33 = .ok (.ifCond .ne 6, 3) := by decide +kernel
theorem dX4_minute_36 : decode cX4_minute 36 = .ok (.bipush (-2), 2) := by decide +kernel
theorem dX4_minute_38 : decode cX4_minute 38 = .ok (.ireturn, 1) := by decide +kernel
theorem dX4_minute_39 : decode cX4_minute 39 = .ok (.aload_n 0, 1) := by decide +kernel
theorem dX4_minute_40 : decode cX4_minute 40 = .ok (.getfield 24, 3) := by decide +kernel
theorem dX4_minute_43 : decode cX4_minute 43 = .ok (.invokevirtual 168, 3) := by decide +kernel
theorem dX4_minute_46 : decode cX4_minute 46 = .ok (.aload_n 0, 1) := by decide +kernel
theorem dX4_minute_47 : decode cX4_minute 47 = .ok (.getfield 24, 3) := by decide +kernel
theorem dX4_minute_50 : decode cX4_minute 50 = .ok (.getfield 171, 3) := by decide +kernel
theorem dX4_minute_53 : decode cX4_minute 53 = .ok (.ireturn, 1) := by decide +kernel
theorem dX4_feed_0 : decode cX4_feed 0 = .ok (.iload_n 1, 1) := by decide +kernel
theorem dX4_feed_1 : decode cX4_feed 1 = .ok (.aload_n 0, 1) := by decide +kernel
theorem dX4_feed_2 : decode cX4_feed 2 = .ok (.getfield 24, 3) := by decide +kernel
theorem dX4_feed_5 : decode cX4_feed 5 = .ok (.getfield 129, 3) := by decide +kernel
theorem dX4_feed_8 : decode cX4_feed 8 = .ok (.invokestatic 132, 3) := by decide +kernel
theorem dX4_feed_11 : decode cX4_feed 11 = .ok (.ifCond .eq 12, 3) := by decide +kernel
theorem dX4_feed_14 : decode cX4_feed 14 = .ok (.iload_n 2, 1) := by decide +kernel
theorem dX4_feed_15 : decode cX4_feed 15 = .ok (.bipush 10, 2) := by decide +kernel
theorem dX4_feed_17 : decode cX4_feed 17 = .ok (.invokestatic 132, 3) := by decide +kernel
theorem dX4_feed_20 : decode cX4_feed 20 = .ok (.ifCond .ne 5, 3) := by decide +kernel
theorem dX4_feed_23 : decode cX4_feed 23 = .ok (.iconst (-1), 1) := by decide +kernel
theorem dX4_feed_24 : decode cX4_feed 24 = .ok (.ireturn, 1) := by decide +kernel
theorem dX4_feed_25 : decode cX4_feed 25 = .ok (.aload_n 0, 1) := by decide +kernel
theorem dX4_feed_26 : decode cX4_feed 26 = .ok (.getfield 24, 3) := by decide +kernel
theorem dX4_feed_29 : decode cX4_feed 29 = .ok (.iconst 1, 1) := by decide +kernel
theorem dX4_feed_30 : decode cX4_feed 30 = .ok (.invokevirtual 165, 3) := by decide +kernel
theorem dX4_feed_33 : decode cX4_feed 33 = .ok (.ifCond .ne 6, 3) := by decide +kernel
theorem dX4_feed_36 : decode cX4_feed 36 = .ok (.bipush (-2), 2) := by decide +kernel
theorem dX4_feed_38 : decode cX4_feed 38 = .ok (.ireturn, 1) := by decide +kernel
theorem dX4_feed_39 : decode cX4_feed 39 = .ok (.aload_n 0, 1) := by decide +kernel
theorem dX4_feed_40 : decode cX4_feed 40 = .ok (.getfield 24, 3) := by decide +kernel
theorem dX4_feed_43 : decode cX4_feed 43 = .ok (.getfield 146, 3) := by decide +kernel
theorem dX4_feed_46 : decode cX4_feed 46 = .ok (.iload_n 1, 1) := by decide +kernel
theorem dX4_feed_47 : decode cX4_feed 47 = .ok (.iaload, 1) := by decide +kernel
theorem dX4_feed_48 : decode cX4_feed 48 = .ok (.istore_n 3, 1) := by decide +kernel
theorem dX4_feed_49 : decode cX4_feed 49 = .ok (.aload_n 0, 1) := by decide +kernel
theorem dX4_feed_50 : decode cX4_feed 50 = .ok (.getfield 24, 3) := by decide +kernel
theorem dX4_feed_53 : decode cX4_feed 53 = .ok (.iload_n 1, 1) := by decide +kernel
theorem dX4_feed_54 : decode cX4_feed 54 = .ok (.iload_n 2, 1) := by decide +kernel
theorem dX4_feed_55 : decode cX4_feed 55 = .ok (.invokevirtual 174, 3) := by decide +kernel
theorem dX4_feed_58 : decode cX4_feed 58 = .ok (.iload_n 3, 1) := by decide +kernel
theorem dX4_feed_59 : decode cX4_feed 59 = .ok (.ireturn, 1) := by decide +kernel
theorem dX4_wake_0 : decode cX4_wake 0 = .ok (.iload_n 1, 1) := by decide +kernel
theorem dX4_wake_1 : decode cX4_wake 1 = .ok (.aload_n 0, 1) := by decide +kernel
theorem dX4_wake_2 : decode cX4_wake 2 = .ok (.getfield 24, 3) := by decide +kernel
theorem dX4_wake_5 : decode cX4_wake 5 = .ok (.getfield 129, 3) := by decide +kernel
theorem dX4_wake_8 : decode cX4_wake 8 = .ok (.invokestatic 132, 3) := by decide +kernel
theorem dX4_wake_11 : decode cX4_wake 11 = .ok (.ifCond .ne 5, 3) := by decide +kernel
theorem dX4_wake_14 : decode cX4_wake 14 = .ok (.iconst (-1), 1) := by decide +kernel
theorem dX4_wake_15 : decode cX4_wake 15 = .ok (.ireturn, 1) := by decide +kernel
theorem dX4_wake_16 : decode cX4_wake 16 = .ok (.aload_n 0, 1) := by decide +kernel
theorem dX4_wake_17 : decode cX4_wake 17 = .ok (.getfield 24, 3) := by decide +kernel
theorem dX4_wake_20 : decode cX4_wake 20 = .ok (.iload_n 1, 1) := by decide +kernel
theorem dX4_wake_21 : decode cX4_wake 21 = .ok (.invokevirtual 177, 3) := by decide +kernel
theorem dX4_wake_24 : decode cX4_wake 24 = .ok (.ifCond .ne 6, 3) := by decide +kernel
theorem dX4_wake_27 : decode cX4_wake 27 = .ok (.bipush (-4), 2) := by decide +kernel
theorem dX4_wake_29 : decode cX4_wake 29 = .ok (.ireturn, 1) := by decide +kernel
theorem dX4_wake_30 : decode cX4_wake 30 = .ok (.aload_n 0, 1) := by decide +kernel
theorem dX4_wake_31 : decode cX4_wake 31 = .ok (.getfield 24, 3) := by decide +kernel
theorem dX4_wake_34 : decode cX4_wake 34 = .ok (.iconst 1, 1) := by decide +kernel
theorem dX4_wake_35 : decode cX4_wake 35 = .ok (.invokevirtual 165, 3) := by decide +kernel
theorem dX4_wake_38 : decode cX4_wake 38 = .ok (.ifCond .ne 6, 3) := by decide +kernel
theorem dX4_wake_41 : decode cX4_wake 41 = .ok (.bipush (-2), 2) := by decide +kernel
theorem dX4_wake_43 : decode cX4_wake 43 = .ok (.ireturn, 1) := by decide +kernel
theorem dX4_wake_44 : decode cX4_wake 44 = .ok (.aload_n 0, 1) := by decide +kernel
theorem dX4_wake_45 : decode cX4_wake 45 = .ok (.getfield 24, 3) := by decide +kernel
theorem dX4_wake_48 : decode cX4_wake 48 = .ok (.iload_n 1, 1) := by decide +kernel
theorem dX4_wake_49 : decode cX4_wake 49 = .ok (.invokevirtual 180, 3) := by decide +kernel
theorem dX4_wake_52 : decode cX4_wake 52 = .ok (.invokestatic 158, 3) := by decide +kernel
theorem dX4_wake_55 : decode cX4_wake 55 = .ok (.istore_n 2, 1) := by decide +kernel
theorem dX4_wake_56 : decode cX4_wake 56 = .ok (.aload_n 0, 1) := by decide +kernel
theorem dX4_wake_57 : decode cX4_wake 57 = .ok (.getfield 24, 3) := by decide +kernel
theorem dX4_wake_60 : decode cX4_wake 60 = .ok (.iload_n 1, 1) := by decide +kernel
theorem dX4_wake_61 : decode cX4_wake 61 = .ok (.invokevirtual 183, 3) := by decide +kernel
theorem dX4_wake_64 : decode cX4_wake 64 = .ok (.iload_n 2, 1) := by decide +kernel
theorem dX4_wake_65 : decode cX4_wake 65 = .ok (.ireturn, 1) := by decide +kernel
theorem dX4_lull_0 : decode cX4_lull 0 = .ok (.iload_n 1, 1) := by decide +kernel
theorem dX4_lull_1 : decode cX4_lull 1 = .ok (.aload_n 0, 1) := by decide +kernel
theorem dX4_lull_2 : decode cX4_lull 2 = .ok (.getfield 24, 3) := by decide +kernel
theorem dX4_lull_5 : decode cX4_lull 5 = .ok (.getfield 129, 3) := by decide +kernel
theorem dX4_lull_8 : decode cX4_lull 8 = .ok (.invokestatic 132, 3) := by decide +kernel
theorem dX4_lull_11 : decode cX4_lull 11 = .ok (.ifCond .ne 5, 3) := by decide +kernel
theorem dX4_lull_14 : decode cX4_lull 14 = .ok (.iconst (-1), 1) := by decide +kernel
theorem dX4_lull_15 : decode cX4_lull 15 = .ok (.ireturn, 1) := by decide +kernel
theorem dX4_lull_16 : decode cX4_lull 16 = .ok (.aload_n 0, 1) := by decide +kernel
theorem dX4_lull_17 : decode cX4_lull 17 = .ok (.getfield 24, 3) := by decide +kernel
theorem dX4_lull_20 : decode cX4_lull 20 = .ok (.iload_n 1, 1) := by decide +kernel
theorem dX4_lull_21 : decode cX4_lull 21 = .ok (.invokevirtual 177, 3) := by decide +kernel
theorem dX4_lull_24 : decode cX4_lull 24 = .ok (.ifCond .eq 6, 3) := by decide +kernel
theorem dX4_lull_27 : decode cX4_lull 27 = .ok (.bipush (-4), 2) := by decide +kernel
theorem dX4_lull_29 : decode cX4_lull 29 = .ok (.ireturn, 1) := by decide +kernel
theorem dX4_lull_30 : decode cX4_lull 30 = .ok (.aload_n 0, 1) := by decide +kernel
theorem dX4_lull_31 : decode cX4_lull 31 = .ok (.getfield 24, 3) := by decide +kernel
theorem dX4_lull_34 : decode cX4_lull 34 = .ok (.iconst 1, 1) := by decide +kernel
theorem dX4_lull_35 : decode cX4_lull 35 = .ok (.invokevirtual 165, 3) := by decide +kernel
theorem dX4_lull_38 : decode cX4_lull 38 = .ok (.ifCond .ne 6, 3) := by decide +kernel
theorem dX4_lull_41 : decode cX4_lull 41 = .ok (.bipush (-2), 2) := by decide +kernel
theorem dX4_lull_43 : decode cX4_lull 43 = .ok (.ireturn, 1) := by decide +kernel
theorem dX4_lull_44 : decode cX4_lull 44 = .ok (.aload_n 0, 1) := by decide +kernel
theorem dX4_lull_45 : decode cX4_lull 45 = .ok (.getfield 24, 3) := by decide +kernel
theorem dX4_lull_48 : decode cX4_lull 48 = .ok (.iload_n 1, 1) := by decide +kernel
theorem dX4_lull_49 : decode cX4_lull 49 = .ok (.invokevirtual 183, 3) := by decide +kernel
theorem dX4_lull_52 : decode cX4_lull 52 = .ok (.aload_n 0, 1) := by decide +kernel
theorem dX4_lull_53 : decode cX4_lull 53 = .ok (.getfield 24, 3) := by decide +kernel
theorem dX4_lull_56 : decode cX4_lull 56 = .ok (.iload_n 1, 1) := by decide +kernel
theorem dX4_lull_57 : decode cX4_lull 57 = .ok (.invokevirtual 180, 3) := by decide +kernel
theorem dX4_lull_60 : decode cX4_lull 60 = .ok (.invokestatic 158, 3) := by decide +kernel
theorem dX4_lull_63 : decode cX4_lull 63 = .ok (.ireturn, 1) := by decide +kernel
theorem dX4_undo_0 : decode cX4_undo 0 = .ok (.iload_n 1, 1) := by decide +kernel
theorem dX4_undo_1 : decode cX4_undo 1 = .ok (.aload_n 0, 1) := by decide +kernel
theorem dX4_undo_2 : decode cX4_undo 2 = .ok (.getfield 24, 3) := by decide +kernel
theorem dX4_undo_5 : decode cX4_undo 5 = .ok (.getfield 187, 3) := by decide +kernel
theorem dX4_undo_8 : decode cX4_undo 8 = .ok (.iconst 1, 1) := by decide +kernel
theorem dX4_undo_9 : decode cX4_undo 9 = .ok (.iadd, 1) := by decide +kernel
theorem dX4_undo_10 : decode cX4_undo 10 = .ok (.invokestatic 132, 3) := by decide +kernel
theorem dX4_undo_13 : decode cX4_undo 13 = .ok (.ifCond .ne 5, 3) := by decide +kernel
theorem dX4_undo_16 : decode cX4_undo 16 = .ok (.iconst (-1), 1) := by decide +kernel
theorem dX4_undo_17 : decode cX4_undo 17 = .ok (.ireturn, 1) := by decide +kernel
theorem dX4_undo_18 : decode cX4_undo 18 = .ok (.aload_n 0, 1) := by decide +kernel
theorem dX4_undo_19 : decode cX4_undo 19 = .ok (.getfield 24, 3) := by decide +kernel
theorem dX4_undo_22 : decode cX4_undo 22 = .ok (.getfield 187, 3) := by decide +kernel
theorem dX4_undo_25 : decode cX4_undo 25 = .ok (.iload_n 1, 1) := by decide +kernel
theorem dX4_undo_26 : decode cX4_undo 26 = .ok (.isub, 1) := by decide +kernel
theorem dX4_undo_27 : decode cX4_undo 27 = .ok (.istore_n 2, 1) := by decide +kernel
theorem dX4_undo_28 : decode cX4_undo 28 = .ok (.iconst 0, 1) := by decide +kernel
theorem dX4_undo_29 : decode cX4_undo 29 = .ok (.istore_n 3, 1) := by decide +kernel
theorem dX4_undo_30 : decode cX4_undo 30 = .ok (.iload_n 3, 1) := by decide +kernel
theorem dX4_undo_31 : decode cX4_undo 31 = .ok (.iload_n 2, 1) := by decide +kernel
theorem dX4_undo_32 : decode cX4_undo 32 = .ok (.if_icmp .ge 16, 3) := by decide +kernel
theorem dX4_undo_35 : decode cX4_undo 35 = .ok (.aload_n 0, 1) := by decide +kernel
theorem dX4_undo_36 : decode cX4_undo 36 = .ok (.getfield 24, 3) := by decide +kernel
theorem dX4_undo_39 : decode cX4_undo 39 = .ok (.invokevirtual 190, 3) := by decide +kernel
theorem dX4_undo_42 : decode cX4_undo 42 = .ok (.iinc 3 1, 3) := by decide +kernel
theorem dX4_undo_45 : decode cX4_undo 45 = .ok (.goto (-15), 3) := by decide +kernel
theorem dX4_undo_48 : decode cX4_undo 48 = .ok (.iload_n 2, 1) := by decide +kernel
theorem dX4_undo_49 : decode cX4_undo 49 = .ok (.ireturn, 1) := by decide +kernel
theorem dX4_keep_0 : decode cX4_keep 0 = .ok (.iload_n 1, 1) := by decide +kernel
theorem dX4_keep_1 : decode cX4_keep 1 = .ok (.iconst 3, 1) := by decide +kernel
theorem dX4_keep_2 : decode cX4_keep 2 = .ok (.invokestatic 132, 3) := by decide +kernel
theorem dX4_keep_5 : decode cX4_keep 5 = .ok (.ifCond .ne 5, 3) := by decide +kernel
theorem dX4_keep_8 : decode cX4_keep 8 = .ok (.iconst (-1), 1) := by decide +kernel
theorem dX4_keep_9 : decode cX4_keep 9 = .ok (.ireturn, 1) := by decide +kernel
theorem dX4_keep_10 : decode cX4_keep 10 = .ok (.aload_n 0, 1) := by decide +kernel
theorem dX4_keep_11 : decode cX4_keep 11 = .ok (.getfield 24, 3) := by decide +kernel
theorem dX4_keep_14 : decode cX4_keep 14 = .ok (.getfield 129, 3) := by decide +kernel
theorem dX4_keep_17 : decode cX4_keep 17 = .ok (.ifCond .ne 6, 3) := by decide +kernel
theorem dX4_keep_20 : decode cX4_keep 20 = .ok (.bipush (-4), 2) := by decide +kernel
theorem dX4_keep_22 : decode cX4_keep 22 = .ok (.ireturn, 1) := by decide +kernel
theorem dX4_keep_23 : decode cX4_keep 23 = .ok (.aload_n 0, 1) := by decide +kernel
theorem dX4_keep_24 : decode cX4_keep 24 = .ok (.getfield 31, 3) := by decide +kernel
theorem dX4_keep_27 : decode cX4_keep 27 = .ok (.iload_n 1, 1) := by decide +kernel
theorem dX4_keep_28 : decode cX4_keep 28 = .ok (.aaload, 1) := by decide +kernel
theorem dX4_keep_29 : decode cX4_keep 29 = .ok (.aload_n 0, 1) := by decide +kernel
theorem dX4_keep_30 : decode cX4_keep 30 = .ok (.getfield 24, 3) := by decide +kernel
theorem dX4_keep_33 : decode cX4_keep 33 = .ok (.invokevirtual 125, 3) := by decide +kernel
theorem dX4_keep_36 : decode cX4_keep 36 = .ok (.aload_n 0, 1) := by decide +kernel
theorem dX4_keep_37 : decode cX4_keep 37 = .ok (.getfield 35, 3) := by decide +kernel
theorem dX4_keep_40 : decode cX4_keep 40 = .ok (.iload_n 1, 1) := by decide +kernel
theorem dX4_keep_41 : decode cX4_keep 41 = .ok (.iconst 1, 1) := by decide +kernel
theorem dX4_keep_42 : decode cX4_keep 42 = .ok (.bastore, 1) := by decide +kernel
theorem dX4_keep_43 : decode cX4_keep 43 = .ok (.aload_n 0, 1) := by decide +kernel
theorem dX4_keep_44 : decode cX4_keep 44 = .ok (.getfield 24, 3) := by decide +kernel
theorem dX4_keep_47 : decode cX4_keep 47 = .ok (.getfield 187, 3) := by decide +kernel
theorem dX4_keep_50 : decode cX4_keep 50 = .ok (.ireturn, 1) := by decide +kernel
theorem dX4_on_0 : decode cX4_on 0 = .ok (.iload_n 1, 1) := by decide +kernel
theorem dX4_on_1 : decode cX4_on 1 = .ok (.iconst 3, 1) := by decide +kernel
theorem dX4_on_2 : decode cX4_on 2 = .ok (.invokestatic 132, 3) := by decide +kernel
theorem dX4_on_5 : decode cX4_on 5 = .ok (.ifCond .ne 5, 3) := by decide +kernel
theorem dX4_on_8 : decode cX4_on 8 = .ok (.iconst (-1), 1) := by decide +kernel
theorem dX4_on_9 : decode cX4_on 9 = .ok (.ireturn, 1) := by decide +kernel
theorem dX4_on_10 : decode cX4_on 10 = .ok (.aload_n 0, 1) := by decide +kernel
theorem dX4_on_11 : decode cX4_on 11 = .ok (.getfield 35, 3) := by decide +kernel
theorem dX4_on_14 : decode cX4_on 14 = .ok (.iload_n 1, 1) := by decide +kernel
theorem dX4_on_15 : decode cX4_on 15 = .ok (.baload, 1) := by decide +kernel
theorem dX4_on_16 : decode cX4_on 16 = .ok (.ifCond .ne 9, 3) := by decide +kernel
theorem dX4_on_19 : decode cX4_on 19 = .ok (.aload_n 0, 1) := by decide +kernel
theorem dX4_on_20 : decode cX4_on 20 = .ok (.iconst 1, 1) := by decide +kernel
theorem dX4_on_21 : decode cX4_on 21 = .ok (.invokevirtual 82, 3) := by decide +kernel
theorem dX4_on_24 : decode cX4_on 24 = .ok (.ireturn, 1) := by decide +kernel
theorem dX4_on_25 : decode cX4_on 25 = .ok (.aload_n 0, 1) := by decide +kernel
theorem dX4_on_26 : decode cX4_on 26 = .ok (.getfield 24, 3) := by decide +kernel
theorem dX4_on_29 : decode cX4_on 29 = .ok (.aload_n 0, 1) := by decide +kernel
theorem dX4_on_30 : decode cX4_on 30 = .ok (.getfield 31, 3) := by decide +kernel
theorem dX4_on_33 : decode cX4_on 33 = .ok (.iload_n 1, 1) := by decide +kernel
theorem dX4_on_34 : decode cX4_on 34 = .ok (.aaload, 1) := by decide +kernel
theorem dX4_on_35 : decode cX4_on 35 = .ok (.invokevirtual 125, 3) := by decide +kernel
theorem dX4_on_38 : decode cX4_on 38 = .ok (.aload_n 0, 1) := by decide +kernel
theorem dX4_on_39 : decode cX4_on 39 = .ok (.getfield 24, 3) := by decide +kernel
theorem dX4_on_42 : decode cX4_on 42 = .ok (.getfield 187, 3) := by decide +kernel
theorem dX4_on_45 : decode cX4_on 45 = .ok (.ireturn, 1) := by decide +kernel
theorem dX4_train_0 : decode cX4_train 0 = .ok (.iload_n 1, 1) := by decide +kernel
theorem dX4_train_1 : decode cX4_train 1 = .ok (.bipush 61, 2) := by decide +kernel
theorem dX4_train_3 : decode cX4_train 3 = .ok (.invokestatic 132, 3) := by decide +kernel
theorem dX4_train_6 : decode cX4_train 6 = .ok (.ifCond .ne 5, 3) := by decide +kernel
theorem dX4_train_9 : decode cX4_train 9 = .ok (.iconst (-1), 1) := by decide +kernel
theorem dX4_train_10 : decode cX4_train 10 = .ok (.ireturn, 1) := by decide +kernel
theorem dX4_train_11 : decode cX4_train 11 = .ok (.aload_n 0, 1) := by decide +kernel
theorem dX4_train_12 : decode cX4_train 12 = .ok (.getfield 24, 3) := by decide +kernel
theorem dX4_train_15 : decode cX4_train 15 = .ok (.getfield 129, 3) := by decide +kernel
theorem dX4_train_18 : decode cX4_train 18 = .ok (.ifCond .ne 6, 3) := by decide +kernel
theorem dX4_train_21 : decode cX4_train 21 = .ok (.bipush (-4), 2) := by decide +kernel
theorem dX4_train_23 : decode cX4_train 23 = .ok (.ireturn, 1) := by decide +kernel
theorem dX4_train_24 : decode cX4_train 24 = .ok (.aload_n 0, 1) := by decide +kernel
theorem dX4_train_25 : decode cX4_train 25 = .ok (.getfield 49, 3) := by decide +kernel
theorem dX4_train_28 : decode cX4_train 28 = .ok (.aload_n 0, 1) := by decide +kernel
theorem dX4_train_29 : decode cX4_train 29 = .ok (.getfield 24, 3) := by decide +kernel
theorem dX4_train_32 : decode cX4_train 32 = .ok (.invokevirtual 193, 3) := by decide +kernel
theorem dX4_train_35 : decode cX4_train 35 = .ok (.aload_n 0, 1) := by decide +kernel
theorem dX4_train_36 : decode cX4_train 36 = .ok (.getfield 49, 3) := by decide +kernel
theorem dX4_train_39 : decode cX4_train 39 = .ok (.iload_n 1, 1) := by decide +kernel
theorem dX4_train_40 : decode cX4_train 40 = .ok (.aload_n 0, 1) := by decide +kernel
theorem dX4_train_41 : decode cX4_train 41 = .ok (.getfield 24, 3) := by decide +kernel
theorem dX4_train_44 : decode cX4_train 44 = .ok (.getfield 196, 3) := by decide +kernel
theorem dX4_train_47 : decode cX4_train 47 = .ok (.invokevirtual 199, 3) := by decide +kernel
theorem dX4_train_50 : decode cX4_train 50 = .ok (.istore_n 2, 1) := by decide +kernel
theorem dX4_train_51 : decode cX4_train 51 = .ok (.aload_n 0, 1) := by decide +kernel
theorem dX4_train_52 : decode cX4_train 52 = .ok (.iload_n 1, 1) := by decide +kernel
theorem dX4_train_53 : decode cX4_train 53 = .ok (.iload_n 2, 1) := by decide +kernel
theorem dX4_train_54 : decode cX4_train 54 = .ok (.aload_n 0, 1) := by decide +kernel
theorem dX4_train_55 : decode cX4_train 55 = .ok (.getfield 24, 3) := by decide +kernel
theorem dX4_train_58 : decode cX4_train 58 = .ok (.getfield 171, 3) := by decide +kernel
theorem dX4_train_61 : decode cX4_train 61 = .ok (.isub, 1) := by decide +kernel
theorem dX4_train_62 : decode cX4_train 62 = .ok (.isub, 1) := by decide +kernel
theorem dX4_train_63 : decode cX4_train 63 = .ok (.putfield 97, 3) := by decide +kernel
theorem dX4_train_66 : decode cX4_train 66 = .ok (.iload_n 2, 1) := by decide +kernel
theorem dX4_train_67 : decode cX4_train 67 = .ok (.ireturn, 1) := by decide +kernel
theorem dX4_comes_0 : decode cX4_comes 0 = .ok (.aload_n 0, 1) := by decide +kernel
theorem dX4_comes_1 : decode cX4_comes 1 = .ok (.getfield 24, 3) := by decide +kernel
theorem dX4_comes_4 : decode cX4_comes 4 = .ok (.getfield 129, 3) := by decide +kernel
theorem dX4_comes_7 : decode cX4_comes 7 = .ok (.ifCond .ne 6, 3) := by decide +kernel
theorem dX4_comes_10 : decode cX4_comes 10 = .ok (.bipush (-4), 2) := by decide +kernel
theorem dX4_comes_12 : decode cX4_comes 12 = .ok (.ireturn, 1) := by decide +kernel
theorem dX4_comes_13 : decode cX4_comes 13 = .ok (.aload_n 0, 1) := by decide +kernel
theorem dX4_comes_14 : decode cX4_comes 14 = .ok (.getfield 49, 3) := by decide +kernel
theorem dX4_comes_17 : decode cX4_comes 17 = .ok (.aload_n 0, 1) := by decide +kernel
theorem dX4_comes_18 : decode cX4_comes 18 = .ok (.getfield 24, 3) := by decide +kernel
theorem dX4_comes_21 : decode cX4_comes 21 = .ok (.invokevirtual 193, 3) := by decide +kernel
theorem dX4_comes_24 : decode cX4_comes 24 = .ok (.aload_n 0, 1) := by decide +kernel
theorem dX4_comes_25 : decode cX4_comes 25 = .ok (.getfield 49, 3) := by decide +kernel
theorem dX4_comes_28 : decode cX4_comes 28 = .ok (.bipush 60, 2) := by decide +kernel
theorem dX4_comes_30 : decode cX4_comes 30 = .ok (.aload_n 0, 1) := by decide +kernel
theorem dX4_comes_31 : decode cX4_comes 31 = .ok (.getfield 24, 3) := by decide +kernel
theorem dX4_comes_34 : decode cX4_comes 34 = .ok (.getfield 196, 3) := by decide +kernel
theorem dX4_comes_37 : decode cX4_comes 37 = .ok (.invokevirtual 199, 3) := by decide +kernel
theorem dX4_comes_40 : decode cX4_comes 40 = .ok (.pop, 1) := by decide +kernel
theorem dX4_comes_41 : decode cX4_comes 41 = .ok (.iconst 0, 1) := by decide +kernel
theorem dX4_comes_42 : decode cX4_comes 42 = .ok (.istore_n 1, 1) := by decide +kernel
theorem dX4_comes_43 : decode cX4_comes 43 = .ok (.iload_n 1, 1) := by decide +kernel
theorem dX4_comes_44 : decode cX4_comes 44 = .ok (.bipush 60, 2) := by decide +kernel
theorem dX4_comes_46 : decode cX4_comes 46 = .ok (.if_icmp .gt 43, 3) := by decide +kernel
theorem dX4_comes_49 : decode cX4_comes 49 = .ok (.aload_n 0, 1) := by decide +kernel
theorem dX4_comes_50 : decode cX4_comes 50 = .ok (.getfield 49, 3) := by decide +kernel
theorem dX4_comes_53 : decode cX4_comes 53 = .ok (.getfield 202, 3) := by decide +kernel
theorem dX4_comes_56 : decode cX4_comes 56 = .ok (.iload_n 1, 1) := by decide +kernel
theorem dX4_comes_57 : decode cX4_comes 57 = .ok (.iaload, 1) := by decide +kernel
theorem dX4_comes_58 : decode cX4_comes 58 = .ok (.aload_n 0, 1) := by decide +kernel
theorem dX4_comes_59 : decode cX4_comes 59 = .ok (.getfield 24, 3) := by decide +kernel
theorem dX4_comes_62 : decode cX4_comes 62 = .ok (.getfield 205, 3) := by decide +kernel
theorem dX4_comes_65 : decode cX4_comes 65 = .ok (.if_icmp .ne 18, 3) := by decide +kernel
theorem dX4_comes_68 : decode cX4_comes 68 = .ok (.aload_n 0, 1) := by decide +kernel
theorem dX4_comes_69 : decode cX4_comes 69 = .ok (.aload_n 0, 1) := by decide +kernel
theorem dX4_comes_70 : decode cX4_comes 70 = .ok (.getfield 24, 3) := by decide +kernel
theorem dX4_comes_73 : decode cX4_comes 73 = .ok (.getfield 162, 3) := by decide +kernel
theorem dX4_comes_76 : decode cX4_comes 76 = .ok (.iload_n 1, 1) := by decide +kernel
theorem dX4_comes_77 : decode cX4_comes 77 = .ok (.iadd, 1) := by decide +kernel
theorem dX4_comes_78 : decode cX4_comes 78 = .ok (.putfield 97, 3) := by decide +kernel
theorem dX4_comes_81 : decode cX4_comes 81 = .ok (.iload_n 1, 1) := by decide +kernel
theorem dX4_comes_82 : decode cX4_comes 82 = .ok (.ireturn, 1) := by decide +kernel
theorem dX4_comes_83 : decode cX4_comes 83 = .ok (.iinc 1 1, 3) := by decide +kernel
theorem dX4_comes_86 : decode cX4_comes 86 = .ok (.goto (-43), 3) := by decide +kernel
theorem dX4_comes_89 : decode cX4_comes 89 = .ok (.bipush (-9), 2) := by decide +kernel
theorem dX4_comes_91 : decode cX4_comes 91 = .ok (.ireturn, 1) := by decide +kernel
theorem dX4_stood_0 : decode cX4_stood 0 = .ok (.iload_n 1, 1) := by decide +kernel
theorem dX4_stood_1 : decode cX4_stood 1 = .ok (.aload_n 0, 1) := by decide +kernel
theorem dX4_stood_2 : decode cX4_stood 2 = .ok (.getfield 24, 3) := by decide +kernel
theorem dX4_stood_5 : decode cX4_stood 5 = .ok (.getfield 129, 3) := by decide +kernel
theorem dX4_stood_8 : decode cX4_stood 8 = .ok (.invokestatic 132, 3) := by decide +kernel
theorem dX4_stood_11 : decode cX4_stood 11 = .ok (.ifCond .ne 5, 3) := by decide +kernel
theorem dX4_stood_14 : decode cX4_stood 14 = .ok (.iconst (-1), 1) := by decide +kernel
theorem dX4_stood_15 : decode cX4_stood 15 = .ok (.ireturn, 1) := by decide +kernel
theorem dX4_stood_16 : decode cX4_stood 16 = .ok (.aload_n 0, 1) := by decide +kernel
theorem dX4_stood_17 : decode cX4_stood 17 = .ok (.getfield 49, 3) := by decide +kernel
theorem dX4_stood_20 : decode cX4_stood 20 = .ok (.aload_n 0, 1) := by decide +kernel
theorem dX4_stood_21 : decode cX4_stood 21 = .ok (.getfield 24, 3) := by decide +kernel
theorem dX4_stood_24 : decode cX4_stood 24 = .ok (.invokevirtual 193, 3) := by decide +kernel
theorem dX4_stood_27 : decode cX4_stood 27 = .ok (.aload_n 0, 1) := by decide +kernel
theorem dX4_stood_28 : decode cX4_stood 28 = .ok (.getfield 49, 3) := by decide +kernel
theorem dX4_stood_31 : decode cX4_stood 31 = .ok (.bipush 60, 2) := by decide +kernel
theorem dX4_stood_33 : decode cX4_stood 33 = .ok (.aload_n 0, 1) := by decide +kernel
theorem dX4_stood_34 : decode cX4_stood 34 = .ok (.getfield 24, 3) := by decide +kernel
theorem dX4_stood_37 : decode cX4_stood 37 = .ok (.getfield 196, 3) := by decide +kernel
theorem dX4_stood_40 : decode cX4_stood 40 = .ok (.invokevirtual 199, 3) := by decide +kernel
theorem dX4_stood_43 : decode cX4_stood 43 = .ok (.pop, 1) := by decide +kernel
theorem dX4_stood_44 : decode cX4_stood 44 = .ok (.aload_n 0, 1) := by decide +kernel
theorem dX4_stood_45 : decode cX4_stood 45 = .ok (.getfield 49, 3) := by decide +kernel
theorem dX4_stood_48 : decode cX4_stood 48 = .ok (.aload_n 0, 1) := by decide +kernel
theorem dX4_stood_49 : decode cX4_stood 49 = .ok (.getfield 24, 3) := by decide +kernel
theorem dX4_stood_52 : decode cX4_stood 52 = .ok (.getfield 208, 3) := by decide +kernel
theorem dX4_stood_55 : decode cX4_stood 55 = .ok (.iload_n 1, 1) := by decide +kernel
theorem dX4_stood_56 : decode cX4_stood 56 = .ok (.iaload, 1) := by decide +kernel
theorem dX4_stood_57 : decode cX4_stood 57 = .ok (.bipush 60, 2) := by decide +kernel
theorem dX4_stood_59 : decode cX4_stood 59 = .ok (.invokevirtual 211, 3) := by decide +kernel
theorem dX4_stood_62 : decode cX4_stood 62 = .ok (.ireturn, 1) := by decide +kernel
theorem dX4_intime_0 : decode cX4_intime 0 = .ok (.aload_n 0, 1) := by decide +kernel
theorem dX4_intime_1 : decode cX4_intime 1 = .ok (.getfield 24, 3) := by decide +kernel
theorem dX4_intime_4 : decode cX4_intime 4 = .ok (.getfield 129, 3) := by decide +kernel
theorem dX4_intime_7 : decode cX4_intime 7 = .ok (.ifCond .ne 6, 3) := by decide +kernel
theorem dX4_intime_10 : decode cX4_intime 10 = .ok (.bipush (-4), 2) := by decide +kernel
theorem dX4_intime_12 : decode cX4_intime 12 = .ok (.ireturn, 1) := by decide +kernel
theorem dX4_intime_13 : decode cX4_intime 13 = .ok (.iconst 0, 1) := by decide +kernel
theorem dX4_intime_14 : decode cX4_intime 14 = .ok (.aload_n 0, 1) := by decide +kernel
theorem dX4_intime_15 : decode cX4_intime 15 = .ok (.getfield 24, 3) := by decide +kernel
theorem dX4_intime_18 : decode cX4_intime 18 = .ok (.getfield 214, 3) := by decide +kernel
theorem dX4_intime_21 : decode cX4_intime 21 = .ok (.aload_n 0, 1) := by decide +kernel
theorem dX4_intime_22 : decode cX4_intime 22 = .ok (.getfield 24, 3) := by decide +kernel
theorem dX4_intime_25 : decode cX4_intime 25 = .ok (.getfield 162, 3) := by decide +kernel
theorem dX4_intime_28 : decode cX4_intime 28 = .ok (.isub, 1) := by decide +kernel
theorem dX4_intime_29 : decode cX4_intime 29 = .ok (.invokestatic 217, 3) := by decide +kernel
theorem dX4_intime_32 : decode cX4_intime 32 = .ok (.istore_n 1, 1) := by decide +kernel
theorem dX4_intime_33 : decode cX4_intime 33 = .ok (.bipush (-9), 2) := by decide +kernel
theorem dX4_intime_35 : decode cX4_intime 35 = .ok (.istore_n 2, 1) := by decide +kernel
theorem dX4_intime_36 : decode cX4_intime 36 = .ok (.iconst 0, 1) := by decide +kernel
theorem dX4_intime_37 : decode cX4_intime 37 = .ok (.istore_n 3, 1) := by decide +kernel
theorem dX4_intime_38 : decode cX4_intime 38 = .ok (.aload_n 0, 1) := by decide +kernel
theorem dX4_intime_39 : decode cX4_intime 39 = .ok (.getfield 49, 3) := by decide +kernel
theorem dX4_intime_42 : decode cX4_intime 42 = .ok (.aload_n 0, 1) := by decide +kernel
theorem dX4_intime_43 : decode cX4_intime 43 = .ok (.getfield 24, 3) := by decide +kernel
theorem dX4_intime_46 : decode cX4_intime 46 = .ok (.invokevirtual 193, 3) := by decide +kernel
theorem dX4_intime_49 : decode cX4_intime 49 = .ok (.iconst 0, 1) := by decide +kernel
theorem dX4_intime_50 : decode cX4_intime 50 = .ok (.istore 4, 2) := by decide +kernel
theorem dX4_intime_52 : decode cX4_intime 52 = .ok (.iload 4, 2) := by decide +kernel
theorem dX4_intime_54 : decode cX4_intime 54 = .ok (.aload_n 0, 1) := by decide +kernel
theorem dX4_intime_55 : decode cX4_intime 55 = .ok (.getfield 24, 3) := by decide +kernel
theorem dX4_intime_58 : decode cX4_intime 58 = .ok (.invokevirtual 222, 3) := by decide +kernel
theorem dX4_intime_61 : decode cX4_intime 61 = .ok (.if_icmp .ge 79, 3) := by decide +kernel
theorem dX4_intime_64 : decode cX4_intime 64 = .ok (.iload 4, 2) := by decide +kernel
theorem dX4_intime_66 : decode cX4_intime 66 = .ok (.invokestatic 226, 3) := by decide +kernel
theorem dX4_intime_69 : decode cX4_intime 69 = .ok (.istore 5, 2) := by decide +kernel
theorem dX4_intime_71 : decode cX4_intime 71 = .ok (.iload 4, 2) := by decide +kernel
theorem dX4_intime_73 : decode cX4_intime 73 = .ok (.aload_n 0, 1) := by decide +kernel
theorem dX4_intime_74 : decode cX4_intime 74 = .ok (.getfield 24, 3) := by decide +kernel
theorem dX4_intime_77 : decode cX4_intime 77 = .ok (.getfield 196, 3) := by decide +kernel
theorem dX4_intime_80 : decode cX4_intime 80 = .ok (.invokestatic 231, 3) := by decide +kernel
theorem dX4_intime_83 : decode cX4_intime 83 = .ok (.ifCond .eq 51, 3) := by decide +kernel
theorem dX4_intime_86 : decode cX4_intime 86 = .ok (.iload_n 2, 1) := by decide +kernel
theorem dX4_intime_87 : decode cX4_intime 87 = .ok (.bipush (-9), 2) := by decide +kernel
theorem dX4_intime_89 : decode cX4_intime 89 = .ok (.if_icmp .eq 9, 3) := by decide +kernel
theorem dX4_intime_92 : decode cX4_intime 92 = .ok (.iload 5, 2) := by decide +kernel
theorem dX4_intime_94 : decode cX4_intime 94 = .ok (.iload_n 2, 1) := by decide +kernel
theorem dX4_intime_95 : decode cX4_intime 95 = .ok (.if_icmp .ge 39, 3) := by decide +kernel
theorem dX4_intime_98 : decode cX4_intime 98 = .ok (.aload_n 0, 1) := by decide +kernel
theorem dX4_intime_99 : decode cX4_intime 99 = .ok (.getfield 49, 3) := by decide +kernel
theorem dX4_intime_102 : decode cX4_intime 102 = .ok (.iload_n 1, 1) := by decide +kernel
theorem dX4_intime_103 : decode cX4_intime 103 = .ok (.aload_n 0, 1) := by decide +kernel
theorem dX4_intime_104 : decode cX4_intime 104 = .ok (.getfield 24, 3) := by decide +kernel
theorem dX4_intime_107 : decode cX4_intime 107 = .ok (.getfield 196, 3) := by decide +kernel
theorem dX4_intime_110 : decode cX4_intime 110 = .ok (.iload 4, 2) := by decide +kernel
theorem dX4_intime_112 : decode cX4_intime 112 = .ok (.iconst (-1), 1) := by decide +kernel
theorem dX4_intime_113 : decode cX4_intime 113 = .ok (.ixor, 1) := by decide +kernel
theorem dX4_intime_114 : decode cX4_intime 114 = .ok (.iand, 1) := by decide +kernel
theorem dX4_intime_115 : decode cX4_intime 115 = .ok (.invokevirtual 199, 3) := by decide +kernel
theorem dX4_intime_118 : decode cX4_intime 118 = .ok (.aload_n 0, 1) := by decide +kernel
theorem dX4_intime_119 : decode cX4_intime 119 = .ok (.getfield 24, 3) := by decide +kernel
theorem dX4_intime_122 : decode cX4_intime 122 = .ok (.getfield 205, 3) := by decide +kernel
theorem dX4_intime_125 : decode cX4_intime 125 = .ok (.if_icmp .ne 9, 3) := by decide +kernel
theorem dX4_intime_128 : decode cX4_intime 128 = .ok (.iload 5, 2) := by decide +kernel
theorem dX4_intime_130 : decode cX4_intime 130 = .ok (.istore_n 2, 1) := by decide +kernel
theorem dX4_intime_131 : decode cX4_intime 131 = .ok (.iload 4, 2) := by decide +kernel
theorem dX4_intime_133 : decode cX4_intime 133 = .ok (.istore_n 3, 1) := by decide +kernel
theorem dX4_intime_134 : decode cX4_intime 134 = .ok (.iinc 4 1, 3) := by decide +kernel
theorem dX4_intime_137 : decode cX4_intime 137 = .ok (.goto (-85), 3) := by decide +kernel
theorem dX4_intime_140 : decode cX4_intime 140 = .ok (.iload_n 2, 1) := by decide +kernel
theorem dX4_intime_141 : decode cX4_intime 141 = .ok (.bipush (-9), 2) := by decide +kernel
theorem dX4_intime_143 : decode cX4_intime 143 = .ok (.if_icmp .eq 8, 3) := by decide +kernel
theorem dX4_intime_146 : decode cX4_intime 146 = .ok (.aload_n 0, 1) := by decide +kernel
theorem dX4_intime_147 : decode cX4_intime 147 = .ok (.iload_n 3, 1) := by decide +kernel
theorem dX4_intime_148 : decode cX4_intime 148 = .ok (.putfield 97, 3) := by decide +kernel
theorem dX4_intime_151 : decode cX4_intime 151 = .ok (.iload_n 2, 1) := by decide +kernel
theorem dX4_intime_152 : decode cX4_intime 152 = .ok (.ireturn, 1) := by decide +kernel
theorem dX4_feast_0 : decode cX4_feast 0 = .ok (.iload_n 1, 1) := by decide +kernel
theorem dX4_feast_1 : decode cX4_feast 1 = .ok (.bipush 21, 2) := by decide +kernel
theorem dX4_feast_3 : decode cX4_feast 3 = .ok (.invokestatic 132, 3) := by decide +kernel
theorem dX4_feast_6 : decode cX4_feast 6 = .ok (.ifCond .eq 12, 3) := by decide +kernel
theorem dX4_feast_9 : decode cX4_feast 9 = .ok (.iload_n 2, 1) := by decide +kernel
theorem dX4_feast_10 : decode cX4_feast 10 = .ok (.bipush 41, 2) := by decide +kernel
theorem dX4_feast_12 : decode cX4_feast 12 = .ok (.invokestatic 132, 3) := by decide +kernel
theorem dX4_feast_15 : decode cX4_feast 15 = .ok (.ifCond .ne 5, 3) := by decide +kernel
theorem dX4_feast_18 : decode cX4_feast 18 = .ok (.iconst (-1), 1) := by decide +kernel
theorem dX4_feast_19 : decode cX4_feast 19 = .ok (.ireturn, 1) := by decide +kernel
theorem dX4_feast_20 : decode cX4_feast 20 = .ok (.aload_n 0, 1) := by decide +kernel
theorem dX4_feast_21 : decode cX4_feast 21 = .ok (.getfield 24, 3) := by decide +kernel
theorem dX4_feast_24 : decode cX4_feast 24 = .ok (.getfield 129, 3) := by decide +kernel
theorem dX4_feast_27 : decode cX4_feast 27 = .ok (.ifCond .ne 6, 3) := by decide +kernel
theorem dX4_feast_30 : decode cX4_feast 30 = .ok (.bipush (-4), 2) := by decide +kernel
theorem dX4_feast_32 : decode cX4_feast 32 = .ok (.ireturn, 1) := by decide +kernel
theorem dX4_feast_33 : decode cX4_feast 33 = .ok (.aload_n 0, 1) := by decide +kernel
theorem dX4_feast_34 : decode cX4_feast 34 = .ok (.getfield 49, 3) := by decide +kernel
theorem dX4_feast_37 : decode cX4_feast 37 = .ok (.aload_n 0, 1) := by decide +kernel
theorem dX4_feast_38 : decode cX4_feast 38 = .ok (.getfield 24, 3) := by decide +kernel
theorem dX4_feast_41 : decode cX4_feast 41 = .ok (.invokevirtual 193, 3) := by decide +kernel
theorem dX4_feast_44 : decode cX4_feast 44 = .ok (.aload_n 0, 1) := by decide +kernel
theorem dX4_feast_45 : decode cX4_feast 45 = .ok (.iload_n 2, 1) := by decide +kernel
theorem dX4_feast_46 : decode cX4_feast 46 = .ok (.iload_n 1, 1) := by decide +kernel
theorem dX4_feast_47 : decode cX4_feast 47 = .ok (.invokevirtual 234, 3) := by decide +kernel
theorem dX4_feast_50 : decode cX4_feast 50 = .ok (.ifCond .eq 10, 3) := by decide +kernel
theorem dX4_feast_53 : decode cX4_feast 53 = .ok (.aload_n 0, 1) := by decide +kernel
theorem dX4_feast_54 : decode cX4_feast 54 = .ok (.iconst 0, 1) := by decide +kernel
theorem dX4_feast_55 : decode cX4_feast 55 = .ok (.putfield 97, 3) := by decide +kernel
theorem dX4_feast_58 : decode cX4_feast 58 = .ok (.iconst 0, 1) := by decide +kernel
theorem dX4_feast_59 : decode cX4_feast 59 = .ok (.ireturn, 1) := by decide +kernel
theorem dX4_feast_60 : decode cX4_feast 60 = .ok (.aload_n 0, 1) := by decide +kernel
theorem dX4_feast_61 : decode cX4_feast 61 = .ok (.invokevirtual 237, 3) := by decide +kernel
theorem dX4_feast_64 : decode cX4_feast 64 = .ok (.aload_n 0, 1) := by decide +kernel
theorem dX4_feast_65 : decode cX4_feast 65 = .ok (.iconst 0, 1) := by decide +kernel
theorem dX4_feast_66 : decode cX4_feast 66 = .ok (.iload_n 2, 1) := by decide +kernel
theorem dX4_feast_67 : decode cX4_feast 67 = .ok (.iload_n 1, 1) := by decide +kernel
theorem dX4_feast_68 : decode cX4_feast 68 = .ok (.invokevirtual 240, 3) := by decide +kernel
theorem dX4_feast_71 : decode cX4_feast 71 = .ok (.istore_n 3, 1) := by decide +kernel
theorem dX4_feast_72 : decode cX4_feast 72 = .ok (.iload_n 3, 1) := by decide +kernel
theorem dX4_feast_73 : decode cX4_feast 73 = .ok (.bipush (-9), 2) := by decide +kernel
theorem dX4_feast_75 : decode cX4_feast 75 = .ok (.if_icmp .eq 10, 3) := by decide +kernel
theorem dX4_feast_78 : decode cX4_feast 78 = .ok (.aload_n 0, 1) := by decide +kernel
theorem dX4_feast_79 : decode cX4_feast 79 = .ok (.iload_n 3, 1) := by decide +kernel
theorem dX4_feast_80 : decode cX4_feast 80 = .ok (.putfield 97, 3) := by decide +kernel
theorem dX4_feast_83 : decode cX4_feast 83 = .ok (.iconst 1, 1) := by decide +kernel
theorem dX4_feast_84 : decode cX4_feast 84 = .ok (.ireturn, 1) := by decide +kernel
theorem dX4_feast_85 : decode cX4_feast 85 = .ok (.aload_n 0, 1) := by decide +kernel
theorem dX4_feast_86 : decode cX4_feast 86 = .ok (.iload_n 2, 1) := by decide +kernel
theorem dX4_feast_87 : decode cX4_feast 87 = .ok (.iload_n 1, 1) := by decide +kernel
theorem dX4_feast_88 : decode cX4_feast 88 = .ok (.invokevirtual 244, 3) := by decide +kernel
theorem dX4_feast_91 : decode cX4_feast 91 = .ok (.istore_n 3, 1) := by decide +kernel
theorem dX4_feast_92 : decode cX4_feast 92 = .ok (.iload_n 3, 1) := by decide +kernel
theorem dX4_feast_93 : decode cX4_feast 93 = .ok (.bipush (-9), 2) := by decide +kernel
theorem dX4_feast_95 : decode cX4_feast 95 = .ok (.if_icmp .eq 10, 3) := by decide +kernel
theorem dX4_feast_98 : decode cX4_feast 98 = .ok (.aload_n 0, 1) := by decide +kernel
theorem dX4_feast_99 : decode cX4_feast 99 = .ok (.iload_n 3, 1) := by decide +kernel
theorem dX4_feast_100 : decode cX4_feast 100 = .ok (.putfield 97, 3) := by decide +kernel
theorem dX4_feast_103 : decode cX4_feast 103 = .ok (.iconst 2, 1) := by decide +kernel
theorem dX4_feast_104 : decode cX4_feast 104 = .ok (.ireturn, 1) := by decide +kernel
theorem dX4_feast_105 : decode cX4_feast 105 = .ok (.bipush (-9), 2) := by decide +kernel
theorem dX4_feast_107 : decode cX4_feast 107 = .ok (.ireturn, 1) := by decide +kernel
theorem dX4_bed_0 : decode cX4_bed 0 = .ok (.iload_n 1, 1) := by decide +kernel
theorem dX4_bed_1 : decode cX4_bed 1 = .ok (.aload_n 0, 1) := by decide +kernel
theorem dX4_bed_2 : decode cX4_bed 2 = .ok (.getfield 24, 3) := by decide +kernel
theorem dX4_bed_5 : decode cX4_bed 5 = .ok (.getfield 129, 3) := by decide +kernel
theorem dX4_bed_8 : decode cX4_bed 8 = .ok (.invokestatic 132, 3) := by decide +kernel
theorem dX4_bed_11 : decode cX4_bed 11 = .ok (.ifCond .ne 5, 3) := by decide +kernel
theorem dX4_bed_14 : decode cX4_bed 14 = .ok (.iconst (-1), 1) := by decide +kernel
theorem dX4_bed_15 : decode cX4_bed 15 = .ok (.ireturn, 1) := by decide +kernel
theorem dX4_bed_16 : decode cX4_bed 16 = .ok (.iconst 0, 1) := by decide +kernel
theorem dX4_bed_17 : decode cX4_bed 17 = .ok (.istore_n 2, 1) := by decide +kernel
theorem dX4_bed_18 : decode cX4_bed 18 = .ok (.iconst (-1), 1) := by decide +kernel
theorem dX4_bed_19 : decode cX4_bed 19 = .ok (.istore_n 3, 1) := by decide +kernel
theorem dX4_bed_20 : decode cX4_bed 20 = .ok (.aload_n 0, 1) := by decide +kernel
theorem dX4_bed_21 : decode cX4_bed 21 = .ok (.getfield 49, 3) := by decide +kernel
theorem dX4_bed_24 : decode cX4_bed 24 = .ok (.aload_n 0, 1) := by decide +kernel
theorem dX4_bed_25 : decode cX4_bed 25 = .ok (.getfield 24, 3) := by decide +kernel
theorem dX4_bed_28 : decode cX4_bed 28 = .ok (.invokevirtual 193, 3) := by decide +kernel
theorem dX4_bed_31 : decode cX4_bed 31 = .ok (.iconst 0, 1) := by decide +kernel
theorem dX4_bed_32 : decode cX4_bed 32 = .ok (.istore 4, 2) := by decide +kernel
theorem dX4_bed_34 : decode cX4_bed 34 = .ok (.iload 4, 2) := by decide +kernel
theorem dX4_bed_36 : decode cX4_bed 36 = .ok (.aload_n 0, 1) := by decide +kernel
theorem dX4_bed_37 : decode cX4_bed 37 = .ok (.getfield 24, 3) := by decide +kernel
theorem dX4_bed_40 : decode cX4_bed 40 = .ok (.getfield 205, 3) := by decide +kernel
theorem dX4_bed_43 : decode cX4_bed 43 = .ok (.if_icmp .gt 62, 3) := by decide +kernel
theorem dX4_bed_46 : decode cX4_bed 46 = .ok (.aload_n 0, 1) := by decide +kernel
theorem dX4_bed_47 : decode cX4_bed 47 = .ok (.getfield 49, 3) := by decide +kernel
theorem dX4_bed_50 : decode cX4_bed 50 = .ok (.getfield 247, 3) := by decide +kernel
theorem dX4_bed_53 : decode cX4_bed 53 = .ok (.iload_n 1, 1) := by decide +kernel
theorem dX4_bed_54 : decode cX4_bed 54 = .ok (.iload 4, 2) := by decide +kernel
theorem dX4_bed_56 : decode cX4_bed 56 = .ok (.iastore, 1) := by decide +kernel
theorem dX4_bed_57 : decode cX4_bed 57 = .ok (.aload_n 0, 1) := by decide +kernel
theorem dX4_bed_58 : decode cX4_bed 58 = .ok (.getfield 49, 3) := by decide +kernel
theorem dX4_bed_61 : decode cX4_bed 61 = .ok (.bipush 40, 2) := by decide +kernel
theorem dX4_bed_63 : decode cX4_bed 63 = .ok (.aload_n 0, 1) := by decide +kernel
theorem dX4_bed_64 : decode cX4_bed 64 = .ok (.getfield 24, 3) := by decide +kernel
theorem dX4_bed_67 : decode cX4_bed 67 = .ok (.getfield 196, 3) := by decide +kernel
theorem dX4_bed_70 : decode cX4_bed 70 = .ok (.invokevirtual 199, 3) := by decide +kernel
theorem dX4_bed_73 : decode cX4_bed 73 = .ok (.pop, 1) := by decide +kernel
theorem dX4_bed_74 : decode cX4_bed 74 = .ok (.aload_n 0, 1) := by decide +kernel
theorem dX4_bed_75 : decode cX4_bed 75 = .ok (.getfield 49, 3) := by decide +kernel
theorem dX4_bed_78 : decode cX4_bed 78 = .ok (.iload 4, 2) := by decide +kernel
theorem dX4_bed_80 : decode cX4_bed 80 = .ok (.bipush 40, 2) := by decide +kernel
theorem dX4_bed_82 : decode cX4_bed 82 = .ok (.invokevirtual 211, 3) := by decide +kernel
theorem dX4_bed_85 : decode cX4_bed 85 = .ok (.istore 5, 2) := by decide +kernel
theorem dX4_bed_87 : decode cX4_bed 87 = .ok (.iload 5, 2) := by decide +kernel
theorem dX4_bed_89 : decode cX4_bed 89 = .ok (.iload_n 3, 1) := by decide +kernel
theorem dX4_bed_90 : decode cX4_bed 90 = .ok (.if_icmp .le 9, 3) := by decide +kernel
theorem dX4_bed_93 : decode cX4_bed 93 = .ok (.iload 5, 2) := by decide +kernel
theorem dX4_bed_95 : decode cX4_bed 95 = .ok (.istore_n 3, 1) := by decide +kernel
theorem dX4_bed_96 : decode cX4_bed 96 = .ok (.iload 4, 2) := by decide +kernel
theorem dX4_bed_98 : decode cX4_bed 98 = .ok (.istore_n 2, 1) := by decide +kernel
theorem dX4_bed_99 : decode cX4_bed 99 = .ok (.iinc 4 1, 3) := by decide +kernel
theorem dX4_bed_102 : decode cX4_bed 102 = .ok (.goto (-68), 3) := by decide +kernel
theorem dX4_bed_105 : decode cX4_bed 105 = .ok (.aload_n 0, 1) := by decide +kernel
theorem dX4_bed_106 : decode cX4_bed 106 = .ok (.iload_n 3, 1) := by decide +kernel
theorem dX4_bed_107 : decode cX4_bed 107 = .ok (.putfield 97, 3) := by decide +kernel
theorem dX4_bed_110 : decode cX4_bed 110 = .ok (.iload_n 2, 1) := by decide +kernel
theorem dX4_bed_111 : decode cX4_bed 111 = .ok (.ireturn, 1) := by decide +kernel
theorem dX4_account_0 : decode cX4_account 0 = .ok (.aload_n 0, 1) := by decide +kernel
theorem dX4_account_1 : decode cX4_account 1 = .ok (.getfield 14, 3) := by decide +kernel
theorem dX4_account_4 : decode cX4_account 4 = .ok (.iload_n 1, 1) := by decide +kernel
theorem dX4_account_5 : decode cX4_account 5 = .ok (.invokevirtual 78, 3) := by decide +kernel
theorem dX4_account_8 : decode cX4_account 8 = .ok (.ifCond .ne 5, 3) := by decide +kernel
theorem dX4_account_11 : decode cX4_account 11 = .ok (.iconst (-1), 1) := by decide +kernel
theorem dX4_account_12 : decode cX4_account 12 = .ok (.ireturn, 1) := by decide +kernel
theorem dX4_account_13 : decode cX4_account 13 = .ok (.aload_n 0, 1) := by decide +kernel
theorem dX4_account_14 : decode cX4_account 14 = .ok (.getfield 24, 3) := by decide +kernel
theorem dX4_account_17 : decode cX4_account 17 = .ok (.getfield 129, 3) := by decide +kernel
theorem dX4_account_20 : decode cX4_account 20 = .ok (.ifCond .ne 6, 3) := by decide +kernel
theorem dX4_account_23 : decode cX4_account 23 = .ok (.bipush (-4), 2) := by decide +kernel
theorem dX4_account_25 : decode cX4_account 25 = .ok (.ireturn, 1) := by decide +kernel
theorem dX4_account_26 : decode cX4_account 26 = .ok (.aload_n 0, 1) := by decide +kernel
theorem dX4_account_27 : decode cX4_account 27 = .ok (.iload_n 1, 1) := by decide +kernel
theorem dX4_account_28 : decode cX4_account 28 = .ok (.invokevirtual 248, 3) := by decide +kernel
theorem dX4_account_31 : decode cX4_account 31 = .ok (.istore_n 2, 1) := by decide +kernel
theorem dX4_account_32 : decode cX4_account 32 = .ok (.iload_n 2, 1) := by decide +kernel
theorem dX4_account_33 : decode cX4_account 33 = .ok (.ifCond .eq 5, 3) := by decide +kernel
theorem dX4_account_36 : decode cX4_account 36 = .ok (.iload_n 2, 1) := by decide +kernel
theorem dX4_account_37 : decode cX4_account 37 = .ok (.ireturn, 1) := by decide +kernel
theorem dX4_account_38 : decode cX4_account 38 = .ok (.iconst 0, 1) := by decide +kernel
theorem dX4_account_39 : decode cX4_account 39 = .ok (.istore_n 3, 1) := by decide +kernel
theorem dX4_account_40 : decode cX4_account 40 = .ok (.aload_n 0, 1) := by decide +kernel
theorem dX4_account_41 : decode cX4_account 41 = .ok (.getfield 24, 3) := by decide +kernel
theorem dX4_account_44 : decode cX4_account 44 = .ok (.invokevirtual 222, 3) := by decide +kernel
theorem dX4_account_47 : decode cX4_account 47 = .ok (.iconst 1, 1) := by decide +kernel
theorem dX4_account_48 : decode cX4_account 48 = .ok (.isub, 1) := by decide +kernel
theorem dX4_account_49 : decode cX4_account 49 = .ok (.istore 4, 2) := by decide +kernel
theorem dX4_account_51 : decode cX4_account 51 = .ok (.aload_n 0, 1) := by decide +kernel
theorem dX4_account_52 : decode cX4_account 52 = .ok (.getfield 49, 3) := by decide +kernel
theorem dX4_account_55 : decode cX4_account 55 = .ok (.aload_n 0, 1) := by decide +kernel
theorem dX4_account_56 : decode cX4_account 56 = .ok (.getfield 24, 3) := by decide +kernel
theorem dX4_account_59 : decode cX4_account 59 = .ok (.invokevirtual 193, 3) := by decide +kernel
theorem dX4_account_62 : decode cX4_account 62 = .ok (.iconst 0, 1) := by decide +kernel
theorem dX4_account_63 : decode cX4_account 63 = .ok (.istore 5, 2) := by decide +kernel
theorem dX4_account_65 : decode cX4_account 65 = .ok (.iload 5, 2) := by decide +kernel
theorem dX4_account_67 : decode cX4_account 67 = .ok (.aload_n 0, 1) := by decide +kernel
theorem dX4_account_68 : decode cX4_account 68 = .ok (.getfield 24, 3) := by decide +kernel
theorem dX4_account_71 : decode cX4_account 71 = .ok (.invokevirtual 222, 3) := by decide +kernel
theorem dX4_account_74 : decode cX4_account 74 = .ok (.if_icmp .ge 29, 3) := by decide +kernel
theorem dX4_account_77 : decode cX4_account 77 = .ok (.aload_n 0, 1) := by decide +kernel
theorem dX4_account_78 : decode cX4_account 78 = .ok (.iload_n 1, 1) := by decide +kernel
theorem dX4_account_79 : decode cX4_account 79 = .ok (.iload 5, 2) := by decide +kernel
theorem dX4_account_81 : decode cX4_account 81 = .ok (.invokevirtual 251, 3) := by decide +kernel
theorem dX4_account_84 : decode cX4_account 84 = .ok (.ifCond .eq 13, 3) := by decide +kernel
theorem dX4_account_87 : decode cX4_account 87 = .ok (.iinc 3 1, 3) := by decide +kernel
theorem dX4_account_90 : decode cX4_account 90 = .ok (.iload 4, 2) := by decide +kernel
theorem dX4_account_92 : decode cX4_account 92 = .ok (.iload 5, 2) := by decide +kernel
theorem dX4_account_94 : decode cX4_account 94 = .ok (.iand, 1) := by decide +kernel
theorem dX4_account_95 : decode cX4_account 95 = .ok (.istore 4, 2) := by decide +kernel
theorem dX4_account_97 : decode cX4_account 97 = .ok (.iinc 5 1, 3) := by decide +kernel
theorem dX4_account_100 : decode cX4_account 100 = .ok (.goto (-35), 3) := by decide +kernel
theorem dX4_account_103 : decode cX4_account 103 = .ok (.iload_n 3, 1) := by decide +kernel
theorem dX4_account_104 : decode cX4_account 104 = .ok (.ifCond .ne 6, 3) := by decide +kernel
theorem dX4_account_107 : decode cX4_account 107 = .ok (.bipush (-9), 2) := by decide +kernel
theorem dX4_account_109 : decode cX4_account 109 = .ok (.ireturn, 1) := by decide +kernel
theorem dX4_account_110 : decode cX4_account 110 = .ok (.aload_n 0, 1) := by decide +kernel
theorem dX4_account_111 : decode cX4_account 111 = .ok (.iload 4, 2) := by decide +kernel
theorem dX4_account_113 : decode cX4_account 113 = .ok (.putfield 97, 3) := by decide +kernel
theorem dX4_account_116 : decode cX4_account 116 = .ok (.iload_n 3, 1) := by decide +kernel
theorem dX4_account_117 : decode cX4_account 117 = .ok (.ireturn, 1) := by decide +kernel
theorem dX4_kinds_0 : decode cX4_kinds 0 = .ok (.iload_n 1, 1) := by decide +kernel
theorem dX4_kinds_1 : decode cX4_kinds 1 = .ok (.aload_n 0, 1) := by decide +kernel
theorem dX4_kinds_2 : decode cX4_kinds 2 = .ok (.getfield 24, 3) := by decide +kernel
theorem dX4_kinds_5 : decode cX4_kinds 5 = .ok (.getfield 129, 3) := by decide +kernel
theorem dX4_kinds_8 : decode cX4_kinds 8 = .ok (.invokestatic 132, 3) := by decide +kernel
theorem dX4_kinds_11 : decode cX4_kinds 11 = .ok (.ifCond .eq 14, 3) := by decide +kernel
theorem dX4_kinds_14 : decode cX4_kinds 14 = .ok (.aload_n 0, 1) := by decide +kernel
theorem dX4_kinds_15 : decode cX4_kinds 15 = .ok (.getfield 14, 3) := by decide +kernel
theorem dX4_kinds_18 : decode cX4_kinds 18 = .ok (.iload_n 2, 1) := by decide +kernel
theorem dX4_kinds_19 : decode cX4_kinds 19 = .ok (.invokevirtual 78, 3) := by decide +kernel
theorem dX4_kinds_22 : decode cX4_kinds 22 = .ok (.ifCond .ne 5, 3) := by decide +kernel
theorem dX4_kinds_25 : decode cX4_kinds 25 = .ok (.iconst (-1), 1) := by decide +kernel
theorem dX4_kinds_26 : decode cX4_kinds 26 = .ok (.ireturn, 1) := by decide +kernel
theorem dX4_kinds_27 : decode cX4_kinds 27 = .ok (.aload_n 0, 1) := by decide +kernel
theorem dX4_kinds_28 : decode cX4_kinds 28 = .ok (.iload_n 2, 1) := by decide +kernel
theorem dX4_kinds_29 : decode cX4_kinds 29 = .ok (.invokevirtual 248, 3) := by decide +kernel
theorem dX4_kinds_32 : decode cX4_kinds 32 = .ok (.istore_n 3, 1) := by decide +kernel
theorem dX4_kinds_33 : decode cX4_kinds 33 = .ok (.iload_n 3, 1) := by decide +kernel
theorem dX4_kinds_34 : decode cX4_kinds 34 = .ok (.ifCond .eq 5, 3) := by decide +kernel
theorem dX4_kinds_37 : decode cX4_kinds 37 = .ok (.iload_n 3, 1) := by decide +kernel
theorem dX4_kinds_38 : decode cX4_kinds 38 = .ok (.ireturn, 1) := by decide +kernel
theorem dX4_kinds_39 : decode cX4_kinds 39 = .ok (.iconst 0, 1) := by decide +kernel
theorem dX4_kinds_40 : decode cX4_kinds 40 = .ok (.istore 4, 2) := by decide +kernel
theorem dX4_kinds_42 : decode cX4_kinds 42 = .ok (.aload_n 0, 1) := by decide +kernel
theorem dX4_kinds_43 : decode cX4_kinds 43 = .ok (.getfield 49, 3) := by decide +kernel
theorem dX4_kinds_46 : decode cX4_kinds 46 = .ok (.aload_n 0, 1) := by decide +kernel
theorem dX4_kinds_47 : decode cX4_kinds 47 = .ok (.getfield 24, 3) := by decide +kernel
theorem dX4_kinds_50 : decode cX4_kinds 50 = .ok (.invokevirtual 193, 3) := by decide +kernel
theorem dX4_kinds_53 : decode cX4_kinds 53 = .ok (.iconst 0, 1) := by decide +kernel
theorem dX4_kinds_54 : decode cX4_kinds 54 = .ok (.istore 5, 2) := by decide +kernel
theorem dX4_kinds_56 : decode cX4_kinds 56 = .ok (.iload 5, 2) := by decide +kernel
theorem dX4_kinds_58 : decode cX4_kinds 58 = .ok (.bipush 6, 2) := by decide +kernel
theorem dX4_kinds_60 : decode cX4_kinds 60 = .ok (.if_icmp .ge 63, 3) := by decide +kernel
theorem dX4_kinds_63 : decode cX4_kinds 63 = .ok (.aload_n 0, 1) := by decide +kernel
theorem dX4_kinds_64 : decode cX4_kinds 64 = .ok (.getfield 49, 3) := by decide +kernel
theorem dX4_kinds_67 : decode cX4_kinds 67 = .ok (.getfield 254, 3) := by decide +kernel
theorem dX4_kinds_70 : decode cX4_kinds 70 = .ok (.iload_n 1, 1) := by decide +kernel
theorem dX4_kinds_71 : decode cX4_kinds 71 = .ok (.iload 5, 2) := by decide +kernel
theorem dX4_kinds_73 : decode cX4_kinds 73 = .ok (.aload_n 0, 1) := by decide +kernel
theorem dX4_kinds_74 : decode cX4_kinds 74 = .ok (.getfield 24, 3) := by decide +kernel
theorem dX4_kinds_77 : decode cX4_kinds 77 = .ok (.getfield 146, 3) := by decide +kernel
theorem dX4_kinds_80 : decode cX4_kinds 80 = .ok (.iload_n 1, 1) := by decide +kernel
theorem dX4_kinds_81 : decode cX4_kinds 81 = .ok (.iaload, 1) := by decide +kernel
theorem dX4_kinds_82 : decode cX4_kinds 82 = .ok (.aload_n 0, 1) := by decide +kernel
theorem dX4_kinds_83 : decode cX4_kinds 83 = .ok (.getfield 24, 3) := by decide +kernel
theorem dX4_kinds_86 : decode cX4_kinds 86 = .ok (.getfield 162, 3) := by decide +kernel
theorem dX4_kinds_89 : decode cX4_kinds 89 = .ok (.invokestatic 257, 3) := by decide +kernel
theorem dX4_kinds_92 : decode cX4_kinds 92 = .ok (.lastore, 1) := by decide +kernel
theorem dX4_kinds_93 : decode cX4_kinds 93 = .ok (.aload_n 0, 1) := by decide +kernel
theorem dX4_kinds_94 : decode cX4_kinds 94 = .ok (.iload_n 2, 1) := by decide +kernel
theorem dX4_kinds_95 : decode cX4_kinds 95 = .ok (.aload_n 0, 1) := by decide +kernel
theorem dX4_kinds_96 : decode cX4_kinds 96 = .ok (.getfield 24, 3) := by decide +kernel
theorem dX4_kinds_99 : decode cX4_kinds 99 = .ok (.getfield 196, 3) := by decide +kernel
theorem dX4_kinds_102 : decode cX4_kinds 102 = .ok (.invokevirtual 251, 3) := by decide +kernel
theorem dX4_kinds_105 : decode cX4_kinds 105 = .ok (.ifCond .eq 12, 3) := by decide +kernel
theorem dX4_kinds_108 : decode cX4_kinds 108 = .ok (.iload 4, 2) := by decide +kernel
theorem dX4_kinds_110 : decode cX4_kinds 110 = .ok (.iconst 1, 1) := by decide +kernel
theorem dX4_kinds_111 : decode cX4_kinds 111 = .ok (.iload 5, 2) := by decide +kernel
theorem dX4_kinds_113 : decode cX4_kinds 113 = .ok (.ishl, 1) := by decide +kernel
theorem dX4_kinds_114 : decode cX4_kinds 114 = .ok (.ior, 1) := by decide +kernel
theorem dX4_kinds_115 : decode cX4_kinds 115 = .ok (.istore 4, 2) := by decide +kernel
theorem dX4_kinds_117 : decode cX4_kinds 117 = .ok (.iinc 5 1, 3) := by decide +kernel
theorem dX4_kinds_120 : decode cX4_kinds 120 = .ok (.goto (-64), 3) := by decide +kernel
theorem dX4_kinds_123 : decode cX4_kinds 123 = .ok (.iload 4, 2) := by decide +kernel
theorem dX4_kinds_125 : decode cX4_kinds 125 = .ok (.ireturn, 1) := by decide +kernel
theorem dX4_look_0 : decode cX4_look 0 = .ok (.iload_n 1, 1) := by decide +kernel
theorem dX4_look_1 : decode cX4_look 1 = .ok (.aload_n 0, 1) := by decide +kernel
theorem dX4_look_2 : decode cX4_look 2 = .ok (.getfield 24, 3) := by decide +kernel
theorem dX4_look_5 : decode cX4_look 5 = .ok (.getfield 129, 3) := by decide +kernel
theorem dX4_look_8 : decode cX4_look 8 = .ok (.invokestatic 132, 3) := by decide +kernel
theorem dX4_look_11 : decode cX4_look 11 = .ok (.ifCond .ne 5, 3) := by decide +kernel
theorem dX4_look_14 : decode cX4_look 14 = .ok (.iconst (-1), 1) := by decide +kernel
theorem dX4_look_15 : decode cX4_look 15 = .ok (.ireturn, 1) := by decide +kernel
theorem dX4_look_16 : decode cX4_look 16 = .ok (.aload_n 0, 1) := by decide +kernel
theorem dX4_look_17 : decode cX4_look 17 = .ok (.getfield 49, 3) := by decide +kernel
theorem dX4_look_20 : decode cX4_look 20 = .ok (.aload_n 0, 1) := by decide +kernel
theorem dX4_look_21 : decode cX4_look 21 = .ok (.getfield 24, 3) := by decide +kernel
theorem dX4_look_24 : decode cX4_look 24 = .ok (.invokevirtual 193, 3) := by decide +kernel
theorem dX4_look_27 : decode cX4_look 27 = .ok (.iconst 0, 1) := by decide +kernel
theorem dX4_look_28 : decode cX4_look 28 = .ok (.istore_n 2, 1) := by decide +kernel
theorem dX4_look_29 : decode cX4_look 29 = .ok (.iload_n 2, 1) := by decide +kernel
theorem dX4_look_30 : decode cX4_look 30 = .ok (.bipush 6, 2) := by decide +kernel
theorem dX4_look_32 : decode cX4_look 32 = .ok (.if_icmp .ge 75, 3) := by decide +kernel
theorem dX4_look_35 : decode cX4_look 35 = .ok (.aload_n 0, 1) := by decide +kernel
theorem dX4_look_36 : decode cX4_look 36 = .ok (.getfield 49, 3) := by decide +kernel
theorem dX4_look_39 : decode cX4_look 39 = .ok (.getfield 254, 3) := by decide +kernel
theorem dX4_look_42 : decode cX4_look 42 = .ok (.iload_n 1, 1) := by decide +kernel
theorem dX4_look_43 : decode cX4_look 43 = .ok (.iload_n 2, 1) := by decide +kernel
theorem dX4_look_44 : decode cX4_look 44 = .ok (.aload_n 0, 1) := by decide +kernel
theorem dX4_look_45 : decode cX4_look 45 = .ok (.getfield 24, 3) := by decide +kernel
theorem dX4_look_48 : decode cX4_look 48 = .ok (.getfield 146, 3) := by decide +kernel
theorem dX4_look_51 : decode cX4_look 51 = .ok (.iload_n 1, 1) := by decide +kernel
theorem dX4_look_52 : decode cX4_look 52 = .ok (.iaload, 1) := by decide +kernel
theorem dX4_look_53 : decode cX4_look 53 = .ok (.aload_n 0, 1) := by decide +kernel
theorem dX4_look_54 : decode cX4_look 54 = .ok (.getfield 24, 3) := by decide +kernel
theorem dX4_look_57 : decode cX4_look 57 = .ok (.getfield 162, 3) := by decide +kernel
theorem dX4_look_60 : decode cX4_look 60 = .ok (.invokestatic 257, 3) := by decide +kernel
theorem dX4_look_63 : decode cX4_look 63 = .ok (.lastore, 1) := by decide +kernel
theorem dX4_look_64 : decode cX4_look 64 = .ok (.aload_n 0, 1) := by decide +kernel
theorem dX4_look_65 : decode cX4_look 65 = .ok (.getfield 49, 3) := by decide +kernel
theorem dX4_look_68 : decode cX4_look 68 = .ok (.bipush 20, 2) := by decide +kernel
theorem dX4_look_70 : decode cX4_look 70 = .ok (.aload_n 0, 1) := by decide +kernel
theorem dX4_look_71 : decode cX4_look 71 = .ok (.getfield 24, 3) := by decide +kernel
theorem dX4_look_74 : decode cX4_look 74 = .ok (.getfield 196, 3) := by decide +kernel
theorem dX4_look_77 : decode cX4_look 77 = .ok (.invokevirtual 199, 3) := by decide +kernel
theorem dX4_look_80 : decode cX4_look 80 = .ok (.pop, 1) := by decide +kernel
theorem dX4_look_81 : decode cX4_look 81 = .ok (.aload_n 0, 1) := by decide +kernel
theorem dX4_look_82 : decode cX4_look 82 = .ok (.getfield 49, 3) := by decide +kernel
theorem dX4_look_85 : decode cX4_look 85 = .ok (.getfield 202, 3) := by decide +kernel
theorem dX4_look_88 : decode cX4_look 88 = .ok (.iconst 0, 1) := by decide +kernel
theorem dX4_look_89 : decode cX4_look 89 = .ok (.aload_n 0, 1) := by decide +kernel
theorem dX4_look_90 : decode cX4_look 90 = .ok (.getfield 60, 3) := by decide +kernel
theorem dX4_look_93 : decode cX4_look 93 = .ok (.iload_n 2, 1) := by decide +kernel
theorem dX4_look_94 : decode cX4_look 94 = .ok (.aaload, 1) := by decide +kernel
theorem dX4_look_95 : decode cX4_look 95 = .ok (.iconst 0, 1) := by decide +kernel
theorem dX4_look_96 : decode cX4_look 96 = .ok (.bipush 21, 2) := by decide +kernel
theorem dX4_look_98 : decode cX4_look 98 = .ok (.invokestatic 115, 3) := by decide +kernel
theorem dX4_look_101 : decode cX4_look 101 = .ok (.iinc 2 1, 3) := by decide +kernel
theorem dX4_look_104 : decode cX4_look 104 = .ok (.goto (-75), 3) := by decide +kernel
theorem dX4_look_107 : decode cX4_look 107 = .ok (.iconst 1, 1) := by decide +kernel
theorem dX4_look_108 : decode cX4_look 108 = .ok (.istore_n 2, 1) := by decide +kernel
theorem dX4_look_109 : decode cX4_look 109 = .ok (.bipush 7, 2) := by decide +kernel
theorem dX4_look_111 : decode cX4_look 111 = .ok (.istore_n 3, 1) := by decide +kernel
theorem dX4_look_112 : decode cX4_look 112 = .ok (.iconst 1, 1) := by decide +kernel
theorem dX4_look_113 : decode cX4_look 113 = .ok (.istore 4, 2) := by decide +kernel
theorem dX4_look_115 : decode cX4_look 115 = .ok (.iload 4, 2) := by decide +kernel
theorem dX4_look_117 : decode cX4_look 117 = .ok (.bipush 20, 2) := by decide +kernel
theorem dX4_look_119 : decode cX4_look 119 = .ok (.if_icmp .gt 29, 3) := by decide +kernel
theorem dX4_look_122 : decode cX4_look 122 = .ok (.aload_n 0, 1) := by decide +kernel
theorem dX4_look_123 : decode cX4_look 123 = .ok (.iload 4, 2) := by decide +kernel
theorem dX4_look_125 : decode cX4_look 125 = .ok (.invokevirtual 261, 3) := by decide +kernel
theorem dX4_look_128 : decode cX4_look 128 = .ok (.istore 5, 2) := by decide +kernel
theorem dX4_look_130 : decode cX4_look 130 = .ok (.iload 5, 2) := by decide +kernel
theorem dX4_look_132 : decode cX4_look 132 = .ok (.iload_n 3, 1) := by decide +kernel
theorem dX4_look_133 : decode cX4_look 133 = .ok (.if_icmp .ge 9, 3) := by decide +kernel
theorem dX4_look_136 : decode cX4_look 136 = .ok (.iload 5, 2) := by decide +kernel
theorem dX4_look_138 : decode cX4_look 138 = .ok (.istore_n 3, 1) := by decide +kernel
theorem dX4_look_139 : decode cX4_look 139 = .ok (.iload 4, 2) := by decide +kernel
theorem dX4_look_141 : decode cX4_look 141 = .ok (.istore_n 2, 1) := by decide +kernel
theorem dX4_look_142 : decode cX4_look 142 = .ok (.iinc 4 1, 3) := by decide +kernel
theorem dX4_look_145 : decode cX4_look 145 = .ok (.goto (-30), 3) := by decide +kernel
theorem dX4_look_148 : decode cX4_look 148 = .ok (.aload_n 0, 1) := by decide +kernel
theorem dX4_look_149 : decode cX4_look 149 = .ok (.iload_n 3, 1) := by decide +kernel
theorem dX4_look_150 : decode cX4_look 150 = .ok (.putfield 97, 3) := by decide +kernel
theorem dX4_look_153 : decode cX4_look 153 = .ok (.iload_n 2, 1) := by decide +kernel
theorem dX4_look_154 : decode cX4_look 154 = .ok (.ireturn, 1) := by decide +kernel
theorem dX4_duel_0 : decode cX4_duel 0 = .ok (.iload_n 1, 1) := by decide +kernel
theorem dX4_duel_1 : decode cX4_duel 1 = .ok (.iconst 5, 1) := by decide +kernel
theorem dX4_duel_2 : decode cX4_duel 2 = .ok (.invokestatic 132, 3) := by decide +kernel
theorem dX4_duel_5 : decode cX4_duel 5 = .ok (.ifCond .ne 5, 3) := by decide +kernel
theorem dX4_duel_8 : decode cX4_duel 8 = .ok (.iconst (-1), 1) := by decide +kernel
theorem dX4_duel_9 : decode cX4_duel 9 = .ok (.ireturn, 1) := by decide +kernel
theorem dX4_duel_10 : decode cX4_duel 10 = .ok (.aload_n 0, 1) := by decide +kernel
theorem dX4_duel_11 : decode cX4_duel 11 = .ok (.getfield 24, 3) := by decide +kernel
theorem dX4_duel_14 : decode cX4_duel 14 = .ok (.getfield 129, 3) := by decide +kernel
theorem dX4_duel_17 : decode cX4_duel 17 = .ok (.ifCond .ne 6, 3) := by decide +kernel
theorem dX4_duel_20 : decode cX4_duel 20 = .ok (.bipush (-4), 2) := by decide +kernel
theorem dX4_duel_22 : decode cX4_duel 22 = .ok (.ireturn, 1) := by decide +kernel
theorem dX4_duel_23 : decode cX4_duel 23 = .ok (.aload_n 0, 1) := by decide +kernel
theorem dX4_duel_24 : decode cX4_duel 24 = .ok (.getfield 49, 3) := by decide +kernel
theorem dX4_duel_27 : decode cX4_duel 27 = .ok (.aload_n 0, 1) := by decide +kernel
theorem dX4_duel_28 : decode cX4_duel 28 = .ok (.getfield 24, 3) := by decide +kernel
theorem dX4_duel_31 : decode cX4_duel 31 = .ok (.invokevirtual 193, 3) := by decide +kernel
theorem dX4_duel_34 : decode cX4_duel 34 = .ok (.iconst 0, 1) := by decide +kernel
theorem dX4_duel_35 : decode cX4_duel 35 = .ok (.istore_n 2, 1) := by decide +kernel
theorem dX4_duel_36 : decode cX4_duel 36 = .ok (.iload_n 2, 1) := by decide +kernel
theorem dX4_duel_37 : decode cX4_duel 37 = .ok (.aload_n 0, 1) := by decide +kernel
theorem dX4_duel_38 : decode cX4_duel 38 = .ok (.getfield 24, 3) := by decide +kernel
theorem dX4_duel_41 : decode cX4_duel 41 = .ok (.invokevirtual 222, 3) := by decide +kernel
theorem dX4_duel_44 : decode cX4_duel 44 = .ok (.if_icmp .ge 27, 3) := by decide +kernel
theorem dX4_duel_47 : decode cX4_duel 47 = .ok (.aload_n 0, 1) := by decide +kernel
theorem dX4_duel_48 : decode cX4_duel 48 = .ok (.getfield 63, 3) := by decide +kernel
theorem dX4_duel_51 : decode cX4_duel 51 = .ok (.iconst 0, 1) := by decide +kernel
theorem dX4_duel_52 : decode cX4_duel 52 = .ok (.aaload, 1) := by decide +kernel
theorem dX4_duel_53 : decode cX4_duel 53 = .ok (.iload_n 2, 1) := by decide +kernel
theorem dX4_duel_54 : decode cX4_duel 54 = .ok (.aload_n 0, 1) := by decide +kernel
theorem dX4_duel_55 : decode cX4_duel 55 = .ok (.getfield 49, 3) := by decide +kernel
theorem dX4_duel_58 : decode cX4_duel 58 = .ok (.bipush 20, 2) := by decide +kernel
theorem dX4_duel_60 : decode cX4_duel 60 = .ok (.iload_n 2, 1) := by decide +kernel
theorem dX4_duel_61 : decode cX4_duel 61 = .ok (.invokevirtual 199, 3) := by decide +kernel
theorem dX4_duel_64 : decode cX4_duel 64 = .ok (.iastore, 1) := by decide +kernel
theorem dX4_duel_65 : decode cX4_duel 65 = .ok (.iinc 2 1, 3) := by decide +kernel
theorem dX4_duel_68 : decode cX4_duel 68 = .ok (.goto (-32), 3) := by decide +kernel
theorem dX4_duel_71 : decode cX4_duel 71 = .ok (.iconst 1, 1) := by decide +kernel
theorem dX4_duel_72 : decode cX4_duel 72 = .ok (.istore_n 2, 1) := by decide +kernel
theorem dX4_duel_73 : decode cX4_duel 73 = .ok (.iload_n 2, 1) := by decide +kernel
theorem dX4_duel_74 : decode cX4_duel 74 = .ok (.iload_n 1, 1) := by decide +kernel
theorem dX4_duel_75 : decode cX4_duel 75 = .ok (.if_icmp .gt 29, 3) := by decide +kernel
theorem dX4_duel_78 : decode cX4_duel 78 = .ok (.iload_n 1, 1) := by decide +kernel
theorem dX4_duel_79 : decode cX4_duel 79 = .ok (.iload_n 2, 1) := by decide +kernel
theorem dX4_duel_80 : decode cX4_duel 80 = .ok (.isub, 1) := by decide +kernel
theorem dX4_duel_81 : decode cX4_duel 81 = .ok (.iconst 2, 1) := by decide +kernel
theorem dX4_duel_82 : decode cX4_duel 82 = .ok (.irem, 1) := by decide +kernel
theorem dX4_duel_83 : decode cX4_duel 83 = .ok (.ifCond .ne 7, 3) := by decide +kernel
theorem dX4_duel_86 : decode cX4_duel 86 = .ok (.iconst 1, 1) := by decide +kernel
theorem dX4_duel_87 : decode cX4_duel 87 = .ok (.goto 4, 3) := by decide +kernel
theorem dX4_duel_90 : decode cX4_duel 90 = .ok (.iconst 0, 1) := by decide +kernel
theorem dX4_duel_91 : decode cX4_duel 91 = .ok (.istore_n 3, 1) := by decide +kernel
theorem dX4_duel_92 : decode cX4_duel 92 = .ok (.aload_n 0, 1) := by decide +kernel
theorem dX4_duel_93 : decode cX4_duel 93 = .ok (.iload_n 2, 1) := by decide +kernel
theorem dX4_duel_94 : decode cX4_duel 94 = .ok (.iload_n 3, 1) := by decide +kernel
theorem dX4_duel_95 : decode cX4_duel 95 = .ok (.invokevirtual 264, 3) := by decide +kernel
theorem dX4_duel_98 : decode cX4_duel 98 = .ok (.iinc 2 1, 3) := by decide +kernel
theorem dX4_duel_101 : decode cX4_duel 101 = .ok (.goto (-28), 3) := by decide +kernel
theorem dX4_duel_104 : decode cX4_duel 104 = .ok (.aload_n 0, 1) := by decide +kernel
theorem dX4_duel_105 : decode cX4_duel 105 = .ok (.getfield 63, 3) := by decide +kernel
theorem dX4_duel_108 : decode cX4_duel 108 = .ok (.iload_n 1, 1) := by decide +kernel
theorem dX4_duel_109 : decode cX4_duel 109 = .ok (.aaload, 1) := by decide +kernel
theorem dX4_duel_110 : decode cX4_duel 110 = .ok (.aload_n 0, 1) := by decide +kernel
theorem dX4_duel_111 : decode cX4_duel 111 = .ok (.getfield 24, 3) := by decide +kernel
theorem dX4_duel_114 : decode cX4_duel 114 = .ok (.getfield 196, 3) := by decide +kernel
theorem dX4_duel_117 : decode cX4_duel 117 = .ok (.iaload, 1) := by decide +kernel
theorem dX4_duel_118 : decode cX4_duel 118 = .ok (.ireturn, 1) := by decide +kernel
theorem dX4_odds_0 : decode cX4_odds 0 = .ok (.iload_n 1, 1) := by decide +kernel
theorem dX4_odds_1 : decode cX4_odds 1 = .ok (.bipush 31, 2) := by decide +kernel
theorem dX4_odds_3 : decode cX4_odds 3 = .ok (.invokestatic 132, 3) := by decide +kernel
theorem dX4_odds_6 : decode cX4_odds 6 = .ok (.ifCond .eq 21, 3) := by decide +kernel
theorem dX4_odds_9 : decode cX4_odds 9 = .ok (.iload_n 2, 1) := by decide +kernel
theorem dX4_odds_10 : decode cX4_odds 10 = .ok (.bipush 21, 2) := by decide +kernel
theorem dX4_odds_12 : decode cX4_odds 12 = .ok (.invokestatic 132, 3) := by decide +kernel
theorem dX4_odds_15 : decode cX4_odds 15 = .ok (.ifCond .eq 12, 3) := by decide +kernel
theorem dX4_odds_18 : decode cX4_odds 18 = .ok (.iload_n 3, 1) := by decide +kernel
theorem dX4_odds_19 : decode cX4_odds 19 = .ok (.bipush 13, 2) := by decide +kernel
theorem dX4_odds_21 : decode cX4_odds 21 = .ok (.invokestatic 132, 3) := by decide +kernel
theorem dX4_odds_24 : decode cX4_odds 24 = .ok (.ifCond .ne 5, 3) := by decide +kernel
theorem dX4_odds_27 : decode cX4_odds 27 = .ok (.iconst (-1), 1) := by decide +kernel
theorem dX4_odds_28 : decode cX4_odds 28 = .ok (.ireturn, 1) := by decide +kernel
theorem dX4_odds_29 : decode cX4_odds 29 = .ok (.aload_n 0, 1) := by decide +kernel
theorem dX4_odds_30 : decode cX4_odds 30 = .ok (.getfield 24, 3) := by decide +kernel
theorem dX4_odds_33 : decode cX4_odds 33 = .ok (.getfield 129, 3) := by decide +kernel
theorem dX4_odds_36 : decode cX4_odds 36 = .ok (.ifCond .ne 6, 3) := by decide +kernel
theorem dX4_odds_39 : decode cX4_odds 39 = .ok (.bipush (-4), 2) := by decide +kernel
theorem dX4_odds_41 : decode cX4_odds 41 = .ok (.ireturn, 1) := by decide +kernel
theorem dX4_odds_42 : decode cX4_odds 42 = .ok (.aload_n 0, 1) := by decide +kernel
theorem dX4_odds_43 : decode cX4_odds 43 = .ok (.iload_n 1, 1) := by decide +kernel
theorem dX4_odds_44 : decode cX4_odds 44 = .ok (.iload_n 3, 1) := by decide +kernel
theorem dX4_odds_45 : decode cX4_odds 45 = .ok (.invokevirtual 268, 3) := by decide +kernel
theorem dX4_odds_48 : decode cX4_odds 48 = .ok (.lconst 0, 1) := by decide +kernel
theorem dX4_odds_49 : decode cX4_odds 49 = .ok (.lstore 4, 2) := by decide +kernel
theorem dX4_odds_51 : decode cX4_odds 51 = .ok (.iload_n 2, 1) := by decide +kernel
theorem dX4_odds_52 : decode cX4_odds 52 = .ok (.istore 6, 2) := by decide +kernel
theorem dX4_odds_54 : decode cX4_odds 54 = .ok (.iload 6, 2) := by decide +kernel
theorem dX4_odds_56 : decode cX4_odds 56 = .ok (.bipush 20, 2) := by decide +kernel
theorem dX4_odds_58 : decode cX4_odds 58 = .ok (.if_icmp .gt 21, 3) := by decide +kernel
theorem dX4_odds_61 : decode cX4_odds 61 = .ok (.lload 4, 2) := by decide +kernel
theorem dX4_odds_63 : decode cX4_odds 63 = .ok (.aload_n 0, 1) := by decide +kernel
theorem dX4_odds_64 : decode cX4_odds 64 = .ok (.getfield 66, 3) := by decide +kernel
theorem dX4_odds_67 : decode cX4_odds 67 = .ok (.iload 6, 2) := by decide +kernel
theorem dX4_odds_69 : decode cX4_odds 69 = .ok (.laload, 1) := by decide +kernel
theorem dX4_odds_70 : decode cX4_odds 70 = .ok (.ladd, 1) := by decide +kernel
theorem dX4_odds_71 : decode cX4_odds 71 = .ok (.lstore 4, 2) := by decide +kernel
theorem dX4_odds_73 : decode cX4_odds 73 = .ok (.iinc 6 1, 3) := by decide +kernel
theorem dX4_odds_76 : decode cX4_odds 76 = .ok (.goto (-22), 3) := by decide +kernel
theorem dX4_odds_79 : decode cX4_odds 79 = .ok (.aload_n 0, 1) := by decide +kernel
theorem dX4_odds_80 : decode cX4_odds 80 = .ok (.lload 4, 2) := by decide +kernel
theorem dX4_odds_82 : decode cX4_odds 82 = .ok (.bipush 12, 2) := by decide +kernel
theorem dX4_odds_84 : decode cX4_odds 84 = .ok (.aload_n 0, 1) := by decide +kernel
theorem dX4_odds_85 : decode cX4_odds 85 = .ok (.getfield 24, 3) := by decide +kernel
theorem dX4_odds_88 : decode cX4_odds 88 = .ok (.getfield 196, 3) := by decide +kernel
theorem dX4_odds_91 : decode cX4_odds 91 = .ok (.invokestatic 226, 3) := by decide +kernel
theorem dX4_odds_94 : decode cX4_odds 94 = .ok (.invokestatic 271, 3) := by decide +kernel
theorem dX4_odds_97 : decode cX4_odds 97 = .ok (.invokevirtual 275, 3) := by decide +kernel
theorem dX4_odds_100 : decode cX4_odds 100 = .ok (.iconst 1, 1) := by decide +kernel
theorem dX4_odds_101 : decode cX4_odds 101 = .ok (.ireturn, 1) := by decide +kernel
theorem dX4_mid_0 : decode cX4_mid 0 = .ok (.iload_n 1, 1) := by decide +kernel
theorem dX4_mid_1 : decode cX4_mid 1 = .ok (.bipush 31, 2) := by decide +kernel
theorem dX4_mid_3 : decode cX4_mid 3 = .ok (.invokestatic 132, 3) := by decide +kernel
theorem dX4_mid_6 : decode cX4_mid 6 = .ok (.ifCond .eq 12, 3) := by decide +kernel
theorem dX4_mid_9 : decode cX4_mid 9 = .ok (.iload_n 2, 1) := by decide +kernel
theorem dX4_mid_10 : decode cX4_mid 10 = .ok (.bipush 13, 2) := by decide +kernel
theorem dX4_mid_12 : decode cX4_mid 12 = .ok (.invokestatic 132, 3) := by decide +kernel
theorem dX4_mid_15 : decode cX4_mid 15 = .ok (.ifCond .ne 5, 3) := by decide +kernel
theorem dX4_mid_18 : decode cX4_mid 18 = .ok (.iconst (-1), 1) := by decide +kernel
theorem dX4_mid_19 : decode cX4_mid 19 = .ok (.ireturn, 1) := by decide +kernel
theorem dX4_mid_20 : decode cX4_mid 20 = .ok (.aload_n 0, 1) := by decide +kernel
theorem dX4_mid_21 : decode cX4_mid 21 = .ok (.getfield 24, 3) := by decide +kernel
theorem dX4_mid_24 : decode cX4_mid 24 = .ok (.getfield 129, 3) := by decide +kernel
theorem dX4_mid_27 : decode cX4_mid 27 = .ok (.ifCond .ne 6, 3) := by decide +kernel
theorem dX4_mid_30 : decode cX4_mid 30 = .ok (.bipush (-4), 2) := by decide +kernel
theorem dX4_mid_32 : decode cX4_mid 32 = .ok (.ireturn, 1) := by decide +kernel
theorem dX4_mid_33 : decode cX4_mid 33 = .ok (.aload_n 0, 1) := by decide +kernel
theorem dX4_mid_34 : decode cX4_mid 34 = .ok (.iload_n 1, 1) := by decide +kernel
theorem dX4_mid_35 : decode cX4_mid 35 = .ok (.iload_n 2, 1) := by decide +kernel
theorem dX4_mid_36 : decode cX4_mid 36 = .ok (.invokevirtual 268, 3) := by decide +kernel
theorem dX4_mid_39 : decode cX4_mid 39 = .ok (.lconst 0, 1) := by decide +kernel
theorem dX4_mid_40 : decode cX4_mid 40 = .ok (.lstore_n 3, 1) := by decide +kernel
theorem dX4_mid_41 : decode cX4_mid 41 = .ok (.iconst 0, 1) := by decide +kernel
theorem dX4_mid_42 : decode cX4_mid 42 = .ok (.istore 5, 2) := by decide +kernel
theorem dX4_mid_44 : decode cX4_mid 44 = .ok (.iload 5, 2) := by decide +kernel
theorem dX4_mid_46 : decode cX4_mid 46 = .ok (.bipush 20, 2) := by decide +kernel
theorem dX4_mid_48 : decode cX4_mid 48 = .ok (.if_icmp .gt 23, 3) := by decide +kernel
theorem dX4_mid_51 : decode cX4_mid 51 = .ok (.lload_n 3, 1) := by decide +kernel
theorem dX4_mid_52 : decode cX4_mid 52 = .ok (.iload 5, 2) := by decide +kernel
theorem dX4_mid_54 : decode cX4_mid 54 = .ok (.i2l, 1) := by decide +kernel
theorem dX4_mid_55 : decode cX4_mid 55 = .ok (.aload_n 0, 1) := by decide +kernel
theorem dX4_mid_56 : decode cX4_mid 56 = .ok (.getfield 66, 3) := by decide +kernel
theorem dX4_mid_59 : decode cX4_mid 59 = .ok (.iload 5, 2) := by decide +kernel
theorem dX4_mid_61 : decode cX4_mid 61 = .ok (.laload, 1) := by decide +kernel
theorem dX4_mid_62 : decode cX4_mid 62 = .ok (.lmul, 1) := by decide +kernel
theorem dX4_mid_63 : decode cX4_mid 63 = .ok (.ladd, 1) := by decide +kernel
theorem dX4_mid_64 : decode cX4_mid 64 = .ok (.lstore_n 3, 1) := by decide +kernel
theorem dX4_mid_65 : decode cX4_mid 65 = .ok (.iinc 5 1, 3) := by decide +kernel
theorem dX4_mid_68 : decode cX4_mid 68 = .ok (.goto (-24), 3) := by decide +kernel
theorem dX4_mid_71 : decode cX4_mid 71 = .ok (.aload_n 0, 1) := by decide +kernel
theorem dX4_mid_72 : decode cX4_mid 72 = .ok (.lload_n 3, 1) := by decide +kernel
theorem dX4_mid_73 : decode cX4_mid 73 = .ok (.bipush 12, 2) := by decide +kernel
theorem dX4_mid_75 : decode cX4_mid 75 = .ok (.aload_n 0, 1) := by decide +kernel
theorem dX4_mid_76 : decode cX4_mid 76 = .ok (.getfield 24, 3) := by decide +kernel
theorem dX4_mid_79 : decode cX4_mid 79 = .ok (.getfield 196, 3) := by decide +kernel
theorem dX4_mid_82 : decode cX4_mid 82 = .ok (.invokestatic 226, 3) := by decide +kernel
theorem dX4_mid_85 : decode cX4_mid 85 = .ok (.invokestatic 271, 3) := by decide +kernel
theorem dX4_mid_88 : decode cX4_mid 88 = .ok (.invokevirtual 275, 3) := by decide +kernel
theorem dX4_mid_91 : decode cX4_mid 91 = .ok (.iconst 1, 1) := by decide +kernel
theorem dX4_mid_92 : decode cX4_mid 92 = .ok (.ireturn, 1) := by decide +kernel
theorem dX4_lots_0 : decode cX4_lots 0 = .ok (.iload_n 1, 1) := by decide +kernel
theorem dX4_lots_1 : decode cX4_lots 1 = .ok (.iconst 1, 1) := by decide +kernel
theorem dX4_lots_2 : decode cX4_lots 2 = .ok (.if_icmp .lt 21, 3) := by decide +kernel
theorem dX4_lots_5 : decode cX4_lots 5 = .ok (.iload_n 1, 1) := by decide +kernel
theorem dX4_lots_6 : decode cX4_lots 6 = .ok (.bipush 20, 2) := by decide +kernel
theorem dX4_lots_8 : decode cX4_lots 8 = .ok (.if_icmp .gt 15, 3) := by decide +kernel
theorem dX4_lots_11 : decode cX4_lots 11 = .ok (.iload_n 2, 1) := by decide +kernel
theorem dX4_lots_12 : decode cX4_lots 12 = .ok (.iconst 1, 1) := by decide +kernel
theorem dX4_lots_13 : decode cX4_lots 13 = .ok (.if_icmp .lt 10, 3) := by decide +kernel
theorem dX4_lots_16 : decode cX4_lots 16 = .ok (.iload_n 2, 1) := by decide +kernel
theorem dX4_lots_17 : decode cX4_lots 17 = .ok (.ldc_w 279, 3) := by decide +kernel
theorem dX4_lots_20 : decode cX4_lots 20 = .ok (.if_icmp .lt 5, 3) := by decide +kernel
theorem dX4_lots_23 : decode cX4_lots 23 = .ok (.iconst (-1), 1) := by decide +kernel
theorem dX4_lots_24 : decode cX4_lots 24 = .ok (.ireturn, 1) := by decide +kernel
theorem dX4_lots_25 : decode cX4_lots 25 = .ok (.aload_n 0, 1) := by decide +kernel
theorem dX4_lots_26 : decode cX4_lots 26 = .ok (.getfield 24, 3) := by decide +kernel
theorem dX4_lots_29 : decode cX4_lots 29 = .ok (.getfield 129, 3) := by decide +kernel
theorem dX4_lots_32 : decode cX4_lots 32 = .ok (.ifCond .ne 6, 3) := by decide +kernel
theorem dX4_lots_35 : decode cX4_lots 35 = .ok (.bipush (-4), 2) := by decide +kernel
theorem dX4_lots_37 : decode cX4_lots 37 = .ok (.ireturn, 1) := by decide +kernel
theorem dX4_lots_38 : decode cX4_lots 38 = .ok (.aload_n 0, 1) := by decide +kernel
theorem dX4_lots_39 : decode cX4_lots 39 = .ok (.getfield 24, 3) := by decide +kernel
theorem dX4_lots_42 : decode cX4_lots 42 = .ok (.iload_n 1, 1) := by decide +kernel
theorem dX4_lots_43 : decode cX4_lots 43 = .ok (.invokevirtual 165, 3) := by decide +kernel
theorem dX4_lots_46 : decode cX4_lots 46 = .ok (.ifCond .ne 6, 3) := by decide +kernel
theorem dX4_lots_49 : decode cX4_lots 49 = .ok (.bipush (-2), 2) := by decide +kernel
theorem dX4_lots_51 : decode cX4_lots 51 = .ok (.ireturn, 1) := by decide +kernel
theorem dX4_lots_52 : decode cX4_lots 52 = .ok (.iload_n 2, 1) := by decide +kernel
theorem dX4_lots_53 : decode cX4_lots 53 = .ok (.i2l, 1) := by decide +kernel
theorem dX4_lots_54 : decode cX4_lots 54 = .ok (.lstore_n 3, 1) := by decide +kernel
theorem dX4_lots_55 : decode cX4_lots 55 = .ok (.iconst 0, 1) := by decide +kernel
theorem dX4_lots_56 : decode cX4_lots 56 = .ok (.istore 5, 2) := by decide +kernel
theorem dX4_lots_58 : decode cX4_lots 58 = .ok (.iload 5, 2) := by decide +kernel
theorem dX4_lots_60 : decode cX4_lots 60 = .ok (.iload_n 1, 1) := by decide +kernel
theorem dX4_lots_61 : decode cX4_lots 61 = .ok (.if_icmp .ge 25, 3) := by decide +kernel
theorem dX4_lots_64 : decode cX4_lots 64 = .ok (.lload_n 3, 1) := by decide +kernel
theorem dX4_lots_65 : decode cX4_lots 65 = .ok (.ldc2_w 280, 3) := by decide +kernel
theorem dX4_lots_68 : decode cX4_lots 68 = .ok (.lmul, 1) := by decide +kernel
theorem dX4_lots_69 : decode cX4_lots 69 = .ok (.ldc2_w 282, 3) := by decide +kernel
theorem dX4_lots_72 : decode cX4_lots 72 = .ok (.lrem, 1) := by decide +kernel
theorem dX4_lots_73 : decode cX4_lots 73 = .ok (.lstore_n 3, 1) := by decide +kernel
theorem dX4_lots_74 : decode cX4_lots 74 = .ok (.aload_n 0, 1) := by decide +kernel
theorem dX4_lots_75 : decode cX4_lots 75 = .ok (.lload_n 3, 1) := by decide +kernel
theorem dX4_lots_76 : decode cX4_lots 76 = .ok (.l2i, 1) := by decide +kernel
theorem dX4_lots_77 : decode cX4_lots 77 = .ok (.invokevirtual 284, 3) := by decide +kernel
theorem dX4_lots_80 : decode cX4_lots 80 = .ok (.iinc 5 1, 3) := by decide +kernel
theorem dX4_lots_83 : decode cX4_lots 83 = .ok (.goto (-25), 3) := by decide +kernel
theorem dX4_lots_86 : decode cX4_lots 86 = .ok (.aload_n 0, 1) := by decide +kernel
theorem dX4_lots_87 : decode cX4_lots 87 = .ok (.getfield 24, 3) := by decide +kernel
theorem dX4_lots_90 : decode cX4_lots 90 = .ok (.getfield 171, 3) := by decide +kernel
theorem dX4_lots_93 : decode cX4_lots 93 = .ok (.ireturn, 1) := by decide +kernel
theorem dX4_asked_0 : decode cX4_asked 0 = .ok (.aload_n 0, 1) := by decide +kernel
theorem dX4_asked_1 : decode cX4_asked 1 = .ok (.getfield 97, 3) := by decide +kernel
theorem dX4_asked_4 : decode cX4_asked 4 = .ok (.ireturn, 1) := by decide +kernel
theorem dX4_upper_0 : decode cX4_upper 0 = .ok (.aload_n 0, 1) := by decide +kernel
theorem dX4_upper_1 : decode cX4_upper 1 = .ok (.getfield 287, 3) := by decide +kernel
theorem dX4_upper_4 : decode cX4_upper 4 = .ok (.lreturn, 1) := by decide +kernel
theorem dX4_lower_0 : decode cX4_lower 0 = .ok (.aload_n 0, 1) := by decide +kernel
theorem dX4_lower_1 : decode cX4_lower 1 = .ok (.getfield 74, 3) := by decide +kernel
theorem dX4_lower_4 : decode cX4_lower 4 = .ok (.lreturn, 1) := by decide +kernel
theorem dX4_count_0 : decode cX4_count 0 = .ok (.iload_n 1, 1) := by decide +kernel
theorem dX4_count_1 : decode cX4_count 1 = .ok (.bipush 12, 2) := by decide +kernel
theorem dX4_count_3 : decode cX4_count 3 = .ok (.invokestatic 132, 3) := by decide +kernel
theorem dX4_count_6 : decode cX4_count 6 = .ok (.ifCond .eq 11, 3) := by decide +kernel
theorem dX4_count_9 : decode cX4_count 9 = .ok (.aload_n 0, 1) := by decide +kernel
theorem dX4_count_10 : decode cX4_count 10 = .ok (.iload_n 1, 1) := by decide +kernel
theorem dX4_count_11 : decode cX4_count 11 = .ok (.invokevirtual 290, 3) := by decide +kernel
theorem dX4_count_14 : decode cX4_count 14 = .ok (.goto 4, 3) := by decide +kernel
theorem dX4_count_17 : decode cX4_count 17 = .ok (.iconst (-1), 1) := by decide +kernel
theorem dX4_count_18 : decode cX4_count 18 = .ok (.ireturn, 1) := by decide +kernel
theorem dX4_finding_0 : decode cX4_finding 0 = .ok (.aload_n 0, 1) := by decide +kernel
theorem dX4_finding_1 : decode cX4_finding 1 = .ok (.getfield 293, 3) := by decide +kernel
theorem dX4_finding_4 : decode cX4_finding 4 = .ok (.ireturn, 1) := by decide +kernel
theorem dX4_findings_0 : decode cX4_findings 0 = .ok (.iload_n 1, 1) := by decide +kernel
theorem dX4_findings_1 : decode cX4_findings 1 = .ok (.iconst 1, 1) := by decide +kernel
theorem dX4_findings_2 : decode cX4_findings 2 = .ok (.if_icmp .lt 17, 3) := by decide +kernel
theorem dX4_findings_5 : decode cX4_findings 5 = .ok (.iload_n 1, 1) := by decide +kernel
theorem dX4_findings_6 : decode cX4_findings 6 = .ok (.iconst 5, 1) := by decide +kernel
theorem dX4_findings_7 : decode cX4_findings 7 = .ok (.if_icmp .gt 12, 3) := by decide +kernel
theorem dX4_findings_10 : decode cX4_findings 10 = .ok (.aload_n 0, 1) := by decide +kernel
theorem dX4_findings_11 : decode cX4_findings 11 = .ok (.getfield 70, 3) := by decide +kernel
theorem dX4_findings_14 : decode cX4_findings 14 = .ok (.iload_n 1, 1) := by decide +kernel
theorem dX4_findings_15 : decode cX4_findings 15 = .ok (.iaload, 1) := by decide +kernel
theorem dX4_findings_16 : decode cX4_findings 16 = .ok (.goto 4, 3) := by decide +kernel
theorem dX4_findings_19 : decode cX4_findings 19 = .ok (.iconst (-1), 1) := by decide +kernel
theorem dX4_findings_20 : decode cX4_findings 20 = .ok (.ireturn, 1) := by decide +kernel
theorem dX4_digest_0 : decode cX4_digest 0 = .ok (.ldc2_w 296, 3) := by decide +kernel
theorem dX4_digest_3 : decode cX4_digest 3 = .ok (.lstore_n 1, 1) := by decide +kernel
theorem dX4_digest_4 : decode cX4_digest 4 = .ok (.iconst 0, 1) := by decide +kernel
theorem dX4_digest_5 : decode cX4_digest 5 = .ok (.istore_n 3, 1) := by decide +kernel
theorem dX4_digest_6 : decode cX4_digest 6 = .ok (.iload_n 3, 1) := by decide +kernel
theorem dX4_digest_7 : decode cX4_digest 7 = .ok (.bipush 12, 2) := by decide +kernel
theorem dX4_digest_9 : decode cX4_digest 9 = .ok (.if_icmp .ge 22, 3) := by decide +kernel
theorem dX4_digest_12 : decode cX4_digest 12 = .ok (.ldc2_w 298, 3) := by decide +kernel
theorem dX4_digest_15 : decode cX4_digest 15 = .ok (.lload_n 1, 1) := by decide +kernel
theorem dX4_digest_16 : decode cX4_digest 16 = .ok (.lmul, 1) := by decide +kernel
theorem dX4_digest_17 : decode cX4_digest 17 = .ok (.aload_n 0, 1) := by decide +kernel
theorem dX4_digest_18 : decode cX4_digest 18 = .ok (.iload_n 3, 1) := by decide +kernel
theorem dX4_digest_19 : decode cX4_digest 19 = .ok (.invokevirtual 290, 3) := by decide +kernel
theorem dX4_digest_22 : decode cX4_digest 22 = .ok (.i2l, 1) := by decide +kernel
theorem dX4_digest_23 : decode cX4_digest 23 = .ok (.ladd, 1) := by decide +kernel
theorem dX4_digest_24 : decode cX4_digest 24 = .ok (.lstore_n 1, 1) := by decide +kernel
theorem dX4_digest_25 : decode cX4_digest 25 = .ok (.iinc 3 1, 3) := by decide +kernel
theorem dX4_digest_28 : decode cX4_digest 28 = .ok (.goto (-22), 3) := by decide +kernel
theorem dX4_digest_31 : decode cX4_digest 31 = .ok (.iconst 0, 1) := by decide +kernel
theorem dX4_digest_32 : decode cX4_digest 32 = .ok (.istore_n 3, 1) := by decide +kernel
theorem dX4_digest_33 : decode cX4_digest 33 = .ok (.iload_n 3, 1) := by decide +kernel
theorem dX4_digest_34 : decode cX4_digest 34 = .ok (.aload_n 0, 1) := by decide +kernel
theorem dX4_digest_35 : decode cX4_digest 35 = .ok (.getfield 24, 3) := by decide +kernel
theorem dX4_digest_38 : decode cX4_digest 38 = .ok (.getfield 129, 3) := by decide +kernel
theorem dX4_digest_41 : decode cX4_digest 41 = .ok (.if_icmp .ge 39, 3) := by decide +kernel
theorem dX4_digest_44 : decode cX4_digest 44 = .ok (.iconst 0, 1) := by decide +kernel
theorem dX4_digest_45 : decode cX4_digest 45 = .ok (.istore 4, 2) := by decide +kernel
theorem dX4_digest_47 : decode cX4_digest 47 = .ok (.iload 4, 2) := by decide +kernel
theorem dX4_digest_49 : decode cX4_digest 49 = .ok (.iconst 5, 1) := by decide +kernel
theorem dX4_digest_50 : decode cX4_digest 50 = .ok (.if_icmp .ge 24, 3) := by decide +kernel
theorem dX4_digest_53 : decode cX4_digest 53 = .ok (.ldc2_w 298, 3) := by decide +kernel
theorem dX4_digest_56 : decode cX4_digest 56 = .ok (.lload_n 1, 1) := by decide +kernel
theorem dX4_digest_57 : decode cX4_digest 57 = .ok (.lmul, 1) := by decide +kernel
theorem dX4_digest_58 : decode cX4_digest 58 = .ok (.aload_n 0, 1) := by decide +kernel
theorem dX4_digest_59 : decode cX4_digest 59 = .ok (.iload_n 3, 1) := by decide +kernel
theorem dX4_digest_60 : decode cX4_digest 60 = .ok (.iload 4, 2) := by decide +kernel
theorem dX4_digest_62 : decode cX4_digest 62 = .ok (.invokevirtual 136, 3) := by decide +kernel
theorem dX4_digest_65 : decode cX4_digest 65 = .ok (.i2l, 1) := by decide +kernel
theorem dX4_digest_66 : decode cX4_digest 66 = .ok (.ladd, 1) := by decide +kernel
theorem dX4_digest_67 : decode cX4_digest 67 = .ok (.lstore_n 1, 1) := by decide +kernel
theorem dX4_digest_68 : decode cX4_digest 68 = .ok (.iinc 4 1, 3) := by decide +kernel
theorem dX4_digest_71 : decode cX4_digest 71 = .ok (.goto (-24), 3) := by decide +kernel
theorem dX4_digest_74 : decode cX4_digest 74 = .ok (.iinc 3 1, 3) := by decide +kernel
theorem dX4_digest_77 : decode cX4_digest 77 = .ok (.goto (-44), 3) := by decide +kernel
theorem dX4_digest_80 : decode cX4_digest 80 = .ok (.iconst 0, 1) := by decide +kernel
theorem dX4_digest_81 : decode cX4_digest 81 = .ok (.istore_n 3, 1) := by decide +kernel
theorem dX4_digest_82 : decode cX4_digest 82 = .ok (.iload_n 3, 1) := by decide +kernel
theorem dX4_digest_83 : decode cX4_digest 83 = .ok (.iconst 3, 1) := by decide +kernel
theorem dX4_digest_84 : decode cX4_digest 84 = .ok (.if_icmp .ge 39, 3) := by decide +kernel
theorem dX4_digest_87 : decode cX4_digest 87 = .ok (.ldc2_w 298, 3) := by decide +kernel
theorem dX4_digest_90 : decode cX4_digest 90 = .ok (.lload_n 1, 1) := by decide +kernel
theorem dX4_digest_91 : decode cX4_digest 91 = .ok (.lmul, 1) := by decide +kernel
theorem dX4_digest_92 : decode cX4_digest 92 = .ok (.aload_n 0, 1) := by decide +kernel
theorem dX4_digest_93 : decode cX4_digest 93 = .ok (.getfield 35, 3) := by decide +kernel
theorem dX4_digest_96 : decode cX4_digest 96 = .ok (.iload_n 3, 1) := by decide +kernel
theorem dX4_digest_97 : decode cX4_digest 97 = .ok (.baload, 1) := by decide +kernel
theorem dX4_digest_98 : decode cX4_digest 98 = .ok (.ifCond .eq 15, 3) := by decide +kernel
theorem dX4_digest_101 : decode cX4_digest 101 = .ok (.aload_n 0, 1) := by decide +kernel
theorem dX4_digest_102 : decode cX4_digest 102 = .ok (.getfield 31, 3) := by decide +kernel
theorem dX4_digest_105 : decode cX4_digest 105 = .ok (.iload_n 3, 1) := by decide +kernel
theorem dX4_digest_106 : decode cX4_digest 106 = .ok (.aaload, 1) := by decide +kernel
theorem dX4_digest_107 : decode cX4_digest 107 = .ok (.getfield 187, 3) := by decide +kernel
theorem dX4_digest_110 : decode cX4_digest 110 = .ok (.goto 4, 3) := by decide +kernel
theorem dX4_digest_113 : decode cX4_digest 113 = .ok (.iconst (-1), 1) := by decide +kernel
theorem dX4_digest_114 : decode cX4_digest 114 = .ok (.i2l, 1) := by decide +kernel
theorem dX4_digest_115 : decode cX4_digest 115 = .ok (.ladd, 1) := by decide +kernel
theorem dX4_digest_116 : decode cX4_digest 116 = .ok (.lstore_n 1, 1) := by decide +kernel
theorem dX4_digest_117 : decode cX4_digest 117 = .ok (.iinc 3 1, 3) := by decide +kernel
theorem dX4_digest_120 : decode cX4_digest 120 = .ok (.goto (-38), 3) := by decide +kernel
theorem dX4_digest_123 : decode cX4_digest 123 = .ok (.aload_n 0, 1) := by decide +kernel
theorem dX4_digest_124 : decode cX4_digest 124 = .ok (.getfield 18, 3) := by decide +kernel
theorem dX4_digest_127 : decode cX4_digest 127 = .ok (.aload_n 0, 1) := by decide +kernel
theorem dX4_digest_128 : decode cX4_digest 128 = .ok (.getfield 14, 3) := by decide +kernel
theorem dX4_digest_131 : decode cX4_digest 131 = .ok (.lload_n 1, 1) := by decide +kernel
theorem dX4_digest_132 : decode cX4_digest 132 = .ok (.invokevirtual 300, 3) := by decide +kernel
theorem dX4_digest_135 : decode cX4_digest 135 = .ok (.invokevirtual 300, 3) := by decide +kernel
theorem dX4_digest_138 : decode cX4_digest 138 = .ok (.lreturn, 1) := by decide +kernel
theorem dX4_isBelow_0 : decode cX4_isBelow 0 = .ok (.iload_n 0, 1) := by decide +kernel
theorem dX4_isBelow_1 : decode cX4_isBelow 1 = .ok (.ifCond .lt 12, 3) := by decide +kernel
theorem dX4_isBelow_4 : decode cX4_isBelow 4 = .ok (.iload_n 0, 1) := by decide +kernel
theorem dX4_isBelow_5 : decode cX4_isBelow 5 = .ok (.iload_n 1, 1) := by decide +kernel
theorem dX4_isBelow_6 : decode cX4_isBelow 6 = .ok (.if_icmp .ge 7, 3) := by decide +kernel
theorem dX4_isBelow_9 : decode cX4_isBelow 9 = .ok (.iconst 1, 1) := by decide +kernel
theorem dX4_isBelow_10 : decode cX4_isBelow 10 = .ok (.goto 4, 3) := by decide +kernel
theorem dX4_isBelow_13 : decode cX4_isBelow 13 = .ok (.iconst 0, 1) := by decide +kernel
theorem dX4_isBelow_14 : decode cX4_isBelow 14 = .ok (.ireturn, 1) := by decide +kernel
theorem dX4_isSpan_0 : decode cX4_isSpan 0 = .ok (.iload_n 0, 1) := by decide +kernel
theorem dX4_isSpan_1 : decode cX4_isSpan 1 = .ok (.ifCond .lt 19, 3) := by decide +kernel
theorem dX4_isSpan_4 : decode cX4_isSpan 4 = .ok (.iload_n 1, 1) := by decide +kernel
theorem dX4_isSpan_5 : decode cX4_isSpan 5 = .ok (.iload_n 2, 1) := by decide +kernel
theorem dX4_isSpan_6 : decode cX4_isSpan 6 = .ok (.if_icmp .gt 14, 3) := by decide +kernel
theorem dX4_isSpan_9 : decode cX4_isSpan 9 = .ok (.iload_n 0, 1) := by decide +kernel
theorem dX4_isSpan_10 : decode cX4_isSpan 10 = .ok (.iload_n 2, 1) := by decide +kernel
theorem dX4_isSpan_11 : decode cX4_isSpan 11 = .ok (.iload_n 1, 1) := by decide +kernel
theorem dX4_isSpan_12 : decode cX4_isSpan 12 = .ok (.isub, 1) := by decide +kernel
theorem dX4_isSpan_13 : decode cX4_isSpan 13 = .ok (.if_icmp .gt 7, 3) := by decide +kernel
theorem dX4_isSpan_16 : decode cX4_isSpan 16 = .ok (.iconst 1, 1) := by decide +kernel
theorem dX4_isSpan_17 : decode cX4_isSpan 17 = .ok (.goto 4, 3) := by decide +kernel
theorem dX4_isSpan_20 : decode cX4_isSpan 20 = .ok (.iconst 0, 1) := by decide +kernel
theorem dX4_isSpan_21 : decode cX4_isSpan 21 = .ok (.ireturn, 1) := by decide +kernel
theorem dX4_found_0 : decode cX4_found 0 = .ok (.aload_n 0, 1) := by decide +kernel
theorem dX4_found_1 : decode cX4_found 1 = .ok (.iload_n 1, 1) := by decide +kernel
