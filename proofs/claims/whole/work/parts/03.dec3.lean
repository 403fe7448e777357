theorem dX5_train_0 : decode cX5_train 0 = .ok (.iload_n 1, 1) := by decide +kernel
theorem dX5_train_1 : decode cX5_train 1 = .ok (.i2l, 1) := by decide +kernel
theorem dX5_train_2 : decode cX5_train 2 = .ok (.lconst 0, 1) := by decide +kernel
theorem dX5_train_3 : decode cX5_train 3 = .ok (.ldc2_w 211, 3) := by decide +kernel
theorem dX5_train_6 : decode cX5_train 6 = .ok (.invokestatic 77, 3) := by decide +kernel
theorem dX5_train_9 : decode cX5_train 9 = .ok (.ifCond .ne 5, 3) := by decide +kernel
theorem dX5_train_12 : decode cX5_train 12 = .ok (.iconst (-1), 1) := by decide +kernel
theorem dX5_train_13 : decode cX5_train 13 = .ok (.ireturn, 1) := by decide +kernel
theorem dX5_train_14 : decode cX5_train 14 = .ok (.aload_n 0, 1) := by decide +kernel
theorem dX5_train_15 : decode cX5_train 15 = .ok (.getfield 97, 3) := by decide +kernel
theorem dX5_train_18 : decode cX5_train 18 = .ok (.ifCond .ne 6, 3) := by decide +kernel
theorem dX5_train_21 : decode cX5_train 21 = .ok (.bipush (-4), 2) := by decide +kernel
theorem dX5_train_23 : decode cX5_train 23 = .ok (.ireturn, 1) := by decide +kernel
theorem dX5_train_24 : decode cX5_train 24 = .ok (.aload_n 0, 1) := by decide +kernel
theorem dX5_train_25 : decode cX5_train 25 = .ok (.invokevirtual 213, 3) := by decide +kernel
theorem dX5_train_28 : decode cX5_train 28 = .ok (.iconst 0, 1) := by decide +kernel
theorem dX5_train_29 : decode cX5_train 29 = .ok (.istore_n 2, 1) := by decide +kernel
theorem dX5_train_30 : decode cX5_train 30 = .ok (.iconst 0, 1) := by decide +kernel
theorem dX5_train_31 : decode cX5_train 31 = .ok (.istore_n 3, 1) := by decide +kernel
theorem dX5_train_32 : decode cX5_train 32 = .ok (.iload_n 3, 1) := by decide +kernel
theorem dX5_train_33 : decode cX5_train 33 = .ok (.iload_n 1, 1) := by decide +kernel
theorem dX5_train_34 : decode cX5_train 34 = .ok (.if_icmp .ge 28, 3) := by decide +kernel
theorem dX5_train_37 : decode cX5_train 37 = .ok (.iload_n 2, 1) := by decide +kernel
theorem dX5_train_38 : decode cX5_train 38 = .ok (.aload_n 0, 1) := by decide +kernel
theorem dX5_train_39 : decode cX5_train 39 = .ok (.aload_n 0, 1) := by decide +kernel
theorem dX5_train_40 : decode cX5_train 40 = .ok (.getfield 38, 3) := by decide +kernel
theorem dX5_train_43 : decode cX5_train 43 = .ok (.invokevirtual 204, 3) := by decide +kernel
theorem dX5_train_46 : decode cX5_train 46 = .ok (.ifCond .eq 7, 3) := by decide +kernel
theorem dX5_train_49 : decode cX5_train 49 = .ok (.iconst 1, 1) := by decide +kernel
theorem dX5_train_50 : decode cX5_train 50 = .ok (.goto 4, 3) := by decide +kernel
theorem dX5_train_53 : decode cX5_train 53 = .ok (.iconst 0, 1) := by decide +kernel
theorem dX5_train_54 : decode cX5_train 54 = .ok (.iadd, 1) := by decide +kernel
theorem dX5_train_55 : decode cX5_train 55 = .ok (.istore_n 2, 1) := by decide +kernel
theorem dX5_train_56 : decode cX5_train 56 = .ok (.iinc 3 1, 3) := by decide +kernel
theorem dX5_train_59 : decode cX5_train 59 = .ok (.goto (-27), 3) := by decide +kernel
theorem dX5_train_62 : decode cX5_train 62 = .ok (.aload_n 0, 1) := by decide +kernel
theorem dX5_train_63 : decode cX5_train 63 = .ok (.aload_n 0, 1) := by decide +kernel
theorem dX5_train_64 : decode cX5_train 64 = .ok (.getfield 38, 3) := by decide +kernel
theorem dX5_train_67 : decode cX5_train 67 = .ok (.iconst 1, 1) := by decide +kernel
theorem dX5_train_68 : decode cX5_train 68 = .ok (.iaload, 1) := by decide +kernel
theorem dX5_train_69 : decode cX5_train 69 = .ok (.iload_n 2, 1) := by decide +kernel
theorem dX5_train_70 : decode cX5_train 70 = .ok (.invokevirtual 216, 3) := by decide +kernel
theorem dX5_train_73 : decode cX5_train 73 = .ok (.ireturn, 1) := by decide +kernel
theorem dX5_comes_0 : decode cX5_comes 0 = .ok (.aload_n 0, 1) := by decide +kernel
theorem dX5_comes_1 : decode cX5_comes 1 = .ok (.getfield 97, 3) := by decide +kernel
theorem dX5_comes_4 : decode cX5_comes 4 = .ok (.ifCond .ne 6, 3) := by decide +kernel
theorem dX5_comes_7 : decode cX5_comes 7 = .ok (.bipush (-4), 2) := by decide +kernel
theorem dX5_comes_9 : decode cX5_comes 9 = .ok (.ireturn, 1) := by decide +kernel
theorem dX5_comes_10 : decode cX5_comes 10 = .ok (.aload_n 0, 1) := by decide +kernel
theorem dX5_comes_11 : decode cX5_comes 11 = .ok (.invokevirtual 213, 3) := by decide +kernel
theorem dX5_comes_14 : decode cX5_comes 14 = .ok (.iconst 0, 1) := by decide +kernel
theorem dX5_comes_15 : decode cX5_comes 15 = .ok (.istore_n 1, 1) := by decide +kernel
theorem dX5_comes_16 : decode cX5_comes 16 = .ok (.iload_n 1, 1) := by decide +kernel
theorem dX5_comes_17 : decode cX5_comes 17 = .ok (.bipush 61, 2) := by decide +kernel
theorem dX5_comes_19 : decode cX5_comes 19 = .ok (.if_icmp .ge 43, 3) := by decide +kernel
theorem dX5_comes_22 : decode cX5_comes 22 = .ok (.aload_n 0, 1) := by decide +kernel
theorem dX5_comes_23 : decode cX5_comes 23 = .ok (.getfield 38, 3) := by decide +kernel
theorem dX5_comes_26 : decode cX5_comes 26 = .ok (.iconst 1, 1) := by decide +kernel
theorem dX5_comes_27 : decode cX5_comes 27 = .ok (.iaload, 1) := by decide +kernel
theorem dX5_comes_28 : decode cX5_comes 28 = .ok (.aload_n 0, 1) := by decide +kernel
theorem dX5_comes_29 : decode cX5_comes 29 = .ok (.getfield 155, 3) := by decide +kernel
theorem dX5_comes_32 : decode cX5_comes 32 = .ok (.if_icmp .ne 15, 3) := by decide +kernel
theorem dX5_comes_35 : decode cX5_comes 35 = .ok (.aload_n 0, 1) := by decide +kernel
theorem dX5_comes_36 : decode cX5_comes 36 = .ok (.iload_n 1, 1) := by decide +kernel
theorem dX5_comes_37 : decode cX5_comes 37 = .ok (.aload_n 0, 1) := by decide +kernel
theorem dX5_comes_38 : decode cX5_comes 38 = .ok (.getfield 38, 3) := by decide +kernel
theorem dX5_comes_41 : decode cX5_comes 41 = .ok (.iconst 0, 1) := by decide +kernel
theorem dX5_comes_42 : decode cX5_comes 42 = .ok (.iaload, 1) := by decide +kernel
theorem dX5_comes_43 : decode cX5_comes 43 = .ok (.invokevirtual 216, 3) := by decide +kernel
theorem dX5_comes_46 : decode cX5_comes 46 = .ok (.ireturn, 1) := by decide +kernel
theorem dX5_comes_47 : decode cX5_comes 47 = .ok (.aload_n 0, 1) := by decide +kernel
theorem dX5_comes_48 : decode cX5_comes 48 = .ok (.aload_n 0, 1) := by decide +kernel
theorem dX5_comes_49 : decode cX5_comes 49 = .ok (.getfield 38, 3) := by decide +kernel
theorem dX5_comes_52 : decode cX5_comes 52 = .ok (.invokevirtual 204, 3) := by decide +kernel
theorem dX5_comes_55 : decode cX5_comes 55 = .ok (.istore_n 2, 1) := by decide +kernel
theorem dX5_comes_56 : decode cX5_comes 56 = .ok (.iinc 1 1, 3) := by decide +kernel
theorem dX5_comes_59 : decode cX5_comes 59 = .ok (.goto (-43), 3) := by decide +kernel
theorem dX5_comes_62 : decode cX5_comes 62 = .ok (.bipush (-9), 2) := by decide +kernel
theorem dX5_comes_64 : decode cX5_comes 64 = .ok (.ireturn, 1) := by decide +kernel
theorem dX5_standsAt_0 : decode cX5_standsAt 0 = .ok (.aload_n 0, 1) := by decide +kernel
theorem dX5_standsAt_1 : decode cX5_standsAt 1 = .ok (.invokevirtual 213, 3) := by decide +kernel
theorem dX5_standsAt_4 : decode cX5_standsAt 4 = .ok (.iconst 0, 1) := by decide +kernel
theorem dX5_standsAt_5 : decode cX5_standsAt 5 = .ok (.istore_n 3, 1) := by decide +kernel
theorem dX5_standsAt_6 : decode cX5_standsAt 6 = .ok (.iconst 0, 1) := by decide +kernel
theorem dX5_standsAt_7 : decode cX5_standsAt 7 = .ok (.istore 4, 2) := by decide +kernel
theorem dX5_standsAt_9 : decode cX5_standsAt 9 = .ok (.iload 4, 2) := by decide +kernel
theorem dX5_standsAt_11 : decode cX5_standsAt 11 = .ok (.iload_n 2, 1) := by decide +kernel
theorem dX5_standsAt_12 : decode cX5_standsAt 12 = .ok (.if_icmp .ge 54, 3) := by decide +kernel
theorem dX5_standsAt_15 : decode cX5_standsAt 15 = .ok (.aload_n 0, 1) := by decide +kernel
theorem dX5_standsAt_16 : decode cX5_standsAt 16 = .ok (.getfield 38, 3) := by decide +kernel
theorem dX5_standsAt_19 : decode cX5_standsAt 19 = .ok (.iconst 1, 1) := by decide +kernel
theorem dX5_standsAt_20 : decode cX5_standsAt 20 = .ok (.iaload, 1) := by decide +kernel
theorem dX5_standsAt_21 : decode cX5_standsAt 21 = .ok (.iload_n 1, 1) := by decide +kernel
theorem dX5_standsAt_22 : decode cX5_standsAt 22 = .ok (.if_icmp .ne 7, 3) := by decide +kernel
theorem dX5_standsAt_25 : decode cX5_standsAt 25 = .ok (.iconst 1, 1) := by decide +kernel
theorem dX5_standsAt_26 : decode cX5_standsAt 26 = .ok (.goto 4, 3) := by decide +kernel
theorem dX5_standsAt_29 : decode cX5_standsAt 29 = .ok (.iconst 0, 1) := by decide +kernel
theorem dX5_standsAt_30 : decode cX5_standsAt 30 = .ok (.istore 5, 2) := by decide +kernel
theorem dX5_standsAt_32 : decode cX5_standsAt 32 = .ok (.aload_n 0, 1) := by decide +kernel
theorem dX5_standsAt_33 : decode cX5_standsAt 33 = .ok (.aload_n 0, 1) := by decide +kernel
theorem dX5_standsAt_34 : decode cX5_standsAt 34 = .ok (.getfield 38, 3) := by decide +kernel
theorem dX5_standsAt_37 : decode cX5_standsAt 37 = .ok (.invokevirtual 204, 3) := by decide +kernel
theorem dX5_standsAt_40 : decode cX5_standsAt 40 = .ok (.istore 6, 2) := by decide +kernel
theorem dX5_standsAt_42 : decode cX5_standsAt 42 = .ok (.iload_n 3, 1) := by decide +kernel
theorem dX5_standsAt_43 : decode cX5_standsAt 43 = .ok (.iload 5, 2) := by decide +kernel
theorem dX5_standsAt_45 : decode cX5_standsAt 45 = .ok (.ifCond .eq 12, 3) := by decide +kernel
theorem dX5_standsAt_48 : decode cX5_standsAt 48 = .ok (.iload 6, 2) := by decide +kernel
theorem dX5_standsAt_50 : decode cX5_standsAt 50 = .ok (.ifCond .eq 7, 3) := by decide +kernel
theorem dX5_standsAt_53 : decode cX5_standsAt 53 = .ok (.iconst 1, 1) := by decide +kernel
theorem dX5_standsAt_54 : decode cX5_standsAt 54 = .ok (.goto 4, 3) := by decide +kernel
theorem dX5_standsAt_57 : decode cX5_standsAt 57 = .ok (.iconst 0, 1) := by decide +kernel
theorem dX5_standsAt_58 : decode cX5_standsAt 58 = .ok (.iadd, 1) := by decide +kernel
theorem dX5_standsAt_59 : decode cX5_standsAt 59 = .ok (.istore_n 3, 1) := by decide +kernel
theorem dX5_standsAt_60 : decode cX5_standsAt 60 = .ok (.iinc 4 1, 3) := by decide +kernel
theorem dX5_standsAt_63 : decode cX5_standsAt 63 = .ok (.goto (-54), 3) := by decide +kernel
theorem dX5_standsAt_66 : decode cX5_standsAt 66 = .ok (.iload_n 3, 1) := by decide +kernel
theorem dX5_standsAt_67 : decode cX5_standsAt 67 = .ok (.ireturn, 1) := by decide +kernel
theorem dX5_stood_0 : decode cX5_stood 0 = .ok (.aload_n 0, 1) := by decide +kernel
theorem dX5_stood_1 : decode cX5_stood 1 = .ok (.iload_n 1, 1) := by decide +kernel
theorem dX5_stood_2 : decode cX5_stood 2 = .ok (.invokevirtual 176, 3) := by decide +kernel
theorem dX5_stood_5 : decode cX5_stood 5 = .ok (.ifCond .eq 18, 3) := by decide +kernel
theorem dX5_stood_8 : decode cX5_stood 8 = .ok (.aload_n 0, 1) := by decide +kernel
theorem dX5_stood_9 : decode cX5_stood 9 = .ok (.aload_n 0, 1) := by decide +kernel
theorem dX5_stood_10 : decode cX5_stood 10 = .ok (.getfield 32, 3) := by decide +kernel
theorem dX5_stood_13 : decode cX5_stood 13 = .ok (.iload_n 1, 1) := by decide +kernel
theorem dX5_stood_14 : decode cX5_stood 14 = .ok (.iaload, 1) := by decide +kernel
theorem dX5_stood_15 : decode cX5_stood 15 = .ok (.bipush 60, 2) := by decide +kernel
theorem dX5_stood_17 : decode cX5_stood 17 = .ok (.invokevirtual 219, 3) := by decide +kernel
theorem dX5_stood_20 : decode cX5_stood 20 = .ok (.goto 4, 3) := by decide +kernel
theorem dX5_stood_23 : decode cX5_stood 23 = .ok (.iconst (-1), 1) := by decide +kernel
theorem dX5_stood_24 : decode cX5_stood 24 = .ok (.ireturn, 1) := by decide +kernel
theorem dX5_intime_0 : decode cX5_intime 0 = .ok (.aload_n 0, 1) := by decide +kernel
theorem dX5_intime_1 : decode cX5_intime 1 = .ok (.getfield 97, 3) := by decide +kernel
theorem dX5_intime_4 : decode cX5_intime 4 = .ok (.ifCond .ne 6, 3) := by decide +kernel
theorem dX5_intime_7 : decode cX5_intime 7 = .ok (.bipush (-4), 2) := by decide +kernel
theorem dX5_intime_9 : decode cX5_intime 9 = .ok (.ireturn, 1) := by decide +kernel
theorem dX5_intime_10 : decode cX5_intime 10 = .ok (.aload_n 0, 1) := by decide +kernel
theorem dX5_intime_11 : decode cX5_intime 11 = .ok (.getfield 158, 3) := by decide +kernel
theorem dX5_intime_14 : decode cX5_intime 14 = .ok (.aload_n 0, 1) := by decide +kernel
theorem dX5_intime_15 : decode cX5_intime 15 = .ok (.getfield 35, 3) := by decide +kernel
theorem dX5_intime_18 : decode cX5_intime 18 = .ok (.iconst 0, 1) := by decide +kernel
theorem dX5_intime_19 : decode cX5_intime 19 = .ok (.iaload, 1) := by decide +kernel
theorem dX5_intime_20 : decode cX5_intime 20 = .ok (.if_icmp .le 17, 3) := by decide +kernel
theorem dX5_intime_23 : decode cX5_intime 23 = .ok (.aload_n 0, 1) := by decide +kernel
theorem dX5_intime_24 : decode cX5_intime 24 = .ok (.getfield 158, 3) := by decide +kernel
theorem dX5_intime_27 : decode cX5_intime 27 = .ok (.aload_n 0, 1) := by decide +kernel
theorem dX5_intime_28 : decode cX5_intime 28 = .ok (.getfield 35, 3) := by decide +kernel
theorem dX5_intime_31 : decode cX5_intime 31 = .ok (.iconst 0, 1) := by decide +kernel
theorem dX5_intime_32 : decode cX5_intime 32 = .ok (.iaload, 1) := by decide +kernel
theorem dX5_intime_33 : decode cX5_intime 33 = .ok (.isub, 1) := by decide +kernel
theorem dX5_intime_34 : decode cX5_intime 34 = .ok (.goto 4, 3) := by decide +kernel
theorem dX5_intime_37 : decode cX5_intime 37 = .ok (.iconst 0, 1) := by decide +kernel
theorem dX5_intime_38 : decode cX5_intime 38 = .ok (.istore_n 1, 1) := by decide +kernel
theorem dX5_intime_39 : decode cX5_intime 39 = .ok (.bipush (-9), 2) := by decide +kernel
theorem dX5_intime_41 : decode cX5_intime 41 = .ok (.istore_n 2, 1) := by decide +kernel
theorem dX5_intime_42 : decode cX5_intime 42 = .ok (.iconst 0, 1) := by decide +kernel
theorem dX5_intime_43 : decode cX5_intime 43 = .ok (.istore_n 3, 1) := by decide +kernel
theorem dX5_intime_44 : decode cX5_intime 44 = .ok (.iload_n 3, 1) := by decide +kernel
theorem dX5_intime_45 : decode cX5_intime 45 = .ok (.iconst 1, 1) := by decide +kernel
theorem dX5_intime_46 : decode cX5_intime 46 = .ok (.aload_n 0, 1) := by decide +kernel
theorem dX5_intime_47 : decode cX5_intime 47 = .ok (.getfield 97, 3) := by decide +kernel
theorem dX5_intime_50 : decode cX5_intime 50 = .ok (.ishl, 1) := by decide +kernel
theorem dX5_intime_51 : decode cX5_intime 51 = .ok (.if_icmp .ge 71, 3) := by decide +kernel
theorem dX5_intime_54 : decode cX5_intime 54 = .ok (.iload_n 3, 1) := by decide +kernel
theorem dX5_intime_55 : decode cX5_intime 55 = .ok (.aload_n 0, 1) := by decide +kernel
theorem dX5_intime_56 : decode cX5_intime 56 = .ok (.getfield 35, 3) := by decide +kernel
theorem dX5_intime_59 : decode cX5_intime 59 = .ok (.iconst 2, 1) := by decide +kernel
theorem dX5_intime_60 : decode cX5_intime 60 = .ok (.iaload, 1) := by decide +kernel
theorem dX5_intime_61 : decode cX5_intime 61 = .ok (.iconst (-1), 1) := by decide +kernel
theorem dX5_intime_62 : decode cX5_intime 62 = .ok (.ixor, 1) := by decide +kernel
theorem dX5_intime_63 : decode cX5_intime 63 = .ok (.iand, 1) := by decide +kernel
theorem dX5_intime_64 : decode cX5_intime 64 = .ok (.ifCond .ne 52, 3) := by decide +kernel
theorem dX5_intime_67 : decode cX5_intime 67 = .ok (.iload_n 2, 1) := by decide +kernel
theorem dX5_intime_68 : decode cX5_intime 68 = .ok (.bipush (-9), 2) := by decide +kernel
theorem dX5_intime_70 : decode cX5_intime 70 = .ok (.if_icmp .eq 14, 3) := by decide +kernel
theorem dX5_intime_73 : decode cX5_intime 73 = .ok (.iload_n 3, 1) := by decide +kernel
theorem dX5_intime_74 : decode cX5_intime 74 = .ok (.invokestatic 222, 3) := by decide +kernel
theorem dX5_intime_77 : decode cX5_intime 77 = .ok (.iload_n 2, 1) := by decide +kernel
theorem dX5_intime_78 : decode cX5_intime 78 = .ok (.invokestatic 222, 3) := by decide +kernel
theorem dX5_intime_81 : decode cX5_intime 81 = .ok (.if_icmp .ge 35, 3) := by decide +kernel
theorem dX5_intime_84 : decode cX5_intime 84 = .ok (.aload_n 0, 1) := by decide +kernel
theorem dX5_intime_85 : decode cX5_intime 85 = .ok (.invokevirtual 213, 3) := by decide +kernel
theorem dX5_intime_88 : decode cX5_intime 88 = .ok (.aload_n 0, 1) := by decide +kernel
theorem dX5_intime_89 : decode cX5_intime 89 = .ok (.getfield 38, 3) := by decide +kernel
theorem dX5_intime_92 : decode cX5_intime 92 = .ok (.iconst 2, 1) := by decide +kernel
theorem dX5_intime_93 : decode cX5_intime 93 = .ok (.dup2, 1) := by decide +kernel
theorem dX5_intime_94 : decode cX5_intime 94 = .ok (.iaload, 1) := by decide +kernel
theorem dX5_intime_95 : decode cX5_intime 95 = .ok (.iload_n 3, 1) := by decide +kernel
theorem dX5_intime_96 : decode cX5_intime 96 = .ok (.ixor, 1) := by decide +kernel
theorem dX5_intime_97 : decode cX5_intime 97 = .ok (.iastore, 1) := by decide +kernel
theorem dX5_intime_98 : decode cX5_intime 98 = .ok (.aload_n 0, 1) := by decide +kernel
theorem dX5_intime_99 : decode cX5_intime 99 = .ok (.iload_n 1, 1) := by decide +kernel
theorem dX5_intime_100 : decode cX5_intime 100 = .ok (.invokevirtual 225, 3) := by decide +kernel
theorem dX5_intime_103 : decode cX5_intime 103 = .ok (.aload_n 0, 1) := by decide +kernel
theorem dX5_intime_104 : decode cX5_intime 104 = .ok (.getfield 155, 3) := by decide +kernel
theorem dX5_intime_107 : decode cX5_intime 107 = .ok (.if_icmp .ne 7, 3) := by decide +kernel
theorem dX5_intime_110 : decode cX5_intime 110 = .ok (.iload_n 3, 1) := by decide +kernel
theorem dX5_intime_111 : decode cX5_intime 111 = .ok (.goto 4, 3) := by decide +kernel
theorem dX5_intime_114 : decode cX5_intime 114 = .ok (.iload_n 2, 1) := by decide +kernel
theorem dX5_intime_115 : decode cX5_intime 115 = .ok (.istore_n 2, 1) := by decide +kernel
theorem dX5_intime_116 : decode cX5_intime 116 = .ok (.iinc 3 1, 3) := by decide +kernel
theorem dX5_intime_119 : decode cX5_intime 119 = .ok (.goto (-75), 3) := by decide +kernel
theorem dX5_intime_122 : decode cX5_intime 122 = .ok (.iload_n 2, 1) := by decide +kernel
theorem dX5_intime_123 : decode cX5_intime 123 = .ok (.bipush (-9), 2) := by decide +kernel
theorem dX5_intime_125 : decode cX5_intime 125 = .ok (.if_icmp .ne 8, 3) := by decide +kernel
theorem dX5_intime_128 : decode cX5_intime 128 = .ok (.bipush (-9), 2) := by decide +kernel
theorem dX5_intime_130 : decode cX5_intime 130 = .ok (.goto 12, 3) := by decide +kernel
theorem dX5_intime_133 : decode cX5_intime 133 = .ok (.aload_n 0, 1) := by decide +kernel
theorem dX5_intime_134 : decode cX5_intime 134 = .ok (.iload_n 2, 1) := by decide +kernel
theorem dX5_intime_135 : decode cX5_intime 135 = .ok (.invokestatic 222, 3) := by decide +kernel
theorem dX5_intime_138 : decode cX5_intime 138 = .ok (.iload_n 2, 1) := by decide +kernel
theorem dX5_intime_139 : decode cX5_intime 139 = .ok (.invokevirtual 216, 3) := by decide +kernel
theorem dX5_intime_142 : decode cX5_intime 142 = .ok (.ireturn, 1) := by decide +kernel
theorem dX5_standsThen_0 : decode cX5_standsThen 0 = .ok (.aload_n 0, 1) := by decide +kernel
theorem dX5_standsThen_1 : decode cX5_standsThen 1 = .ok (.iload_n 2, 1) := by decide +kernel
theorem dX5_standsThen_2 : decode cX5_standsThen 2 = .ok (.invokevirtual 225, 3) := by decide +kernel
theorem dX5_standsThen_5 : decode cX5_standsThen 5 = .ok (.iload_n 1, 1) := by decide +kernel
theorem dX5_standsThen_6 : decode cX5_standsThen 6 = .ok (.if_icmp .ne 18, 3) := by decide +kernel
theorem dX5_standsThen_9 : decode cX5_standsThen 9 = .ok (.aload_n 0, 1) := by decide +kernel
theorem dX5_standsThen_10 : decode cX5_standsThen 10 = .ok (.aload_n 0, 1) := by decide +kernel
theorem dX5_standsThen_11 : decode cX5_standsThen 11 = .ok (.getfield 38, 3) := by decide +kernel
theorem dX5_standsThen_14 : decode cX5_standsThen 14 = .ok (.invokevirtual 172, 3) := by decide +kernel
theorem dX5_standsThen_17 : decode cX5_standsThen 17 = .ok (.ifCond .eq 7, 3) := by decide +kernel
theorem dX5_standsThen_20 : decode cX5_standsThen 20 = .ok (.iconst 1, 1) := by decide +kernel
theorem dX5_standsThen_21 : decode cX5_standsThen 21 = .ok (.goto 4, 3) := by decide +kernel
theorem dX5_standsThen_24 : decode cX5_standsThen 24 = .ok (.iconst 0, 1) := by decide +kernel
theorem dX5_standsThen_25 : decode cX5_standsThen 25 = .ok (.ireturn, 1) := by decide +kernel
theorem dX5_isFeast_0 : decode cX5_isFeast 0 = .ok (.aload_n 0, 1) := by decide +kernel
theorem dX5_isFeast_1 : decode cX5_isFeast 1 = .ok (.invokevirtual 213, 3) := by decide +kernel
theorem dX5_isFeast_4 : decode cX5_isFeast 4 = .ok (.iload_n 3, 1) := by decide +kernel
theorem dX5_isFeast_5 : decode cX5_isFeast 5 = .ok (.bipush (-9), 2) := by decide +kernel
theorem dX5_isFeast_7 : decode cX5_isFeast 7 = .ok (.if_icmp .eq 18, 3) := by decide +kernel
theorem dX5_isFeast_10 : decode cX5_isFeast 10 = .ok (.aload_n 0, 1) := by decide +kernel
theorem dX5_isFeast_11 : decode cX5_isFeast 11 = .ok (.getfield 38, 3) := by decide +kernel
theorem dX5_isFeast_14 : decode cX5_isFeast 14 = .ok (.iconst 3, 1) := by decide +kernel
theorem dX5_isFeast_15 : decode cX5_isFeast 15 = .ok (.iload_n 3, 1) := by decide +kernel
theorem dX5_isFeast_16 : decode cX5_isFeast 16 = .ok (.bipush 10, 2) := by decide +kernel
theorem dX5_isFeast_18 : decode cX5_isFeast 18 = .ok (.idiv, 1) := by decide +kernel
theorem dX5_isFeast_19 : decode cX5_isFeast 19 = .ok (.iadd, 1) := by decide +kernel
theorem dX5_isFeast_20 : decode cX5_isFeast 20 = .ok (.iload_n 3, 1) := by decide +kernel
theorem dX5_isFeast_21 : decode cX5_isFeast 21 = .ok (.bipush 10, 2) := by decide +kernel
theorem dX5_isFeast_23 : decode cX5_isFeast 23 = .ok (.irem, 1) := by decide +kernel
theorem dX5_isFeast_24 : decode cX5_isFeast 24 = .ok (.iastore, 1) := by decide +kernel
theorem dX5_isFeast_25 : decode cX5_isFeast 25 = .ok (.iload 4, 2) := by decide +kernel
theorem dX5_isFeast_27 : decode cX5_isFeast 27 = .ok (.bipush (-9), 2) := by decide +kernel
theorem dX5_isFeast_29 : decode cX5_isFeast 29 = .ok (.if_icmp .eq 20, 3) := by decide +kernel
theorem dX5_isFeast_32 : decode cX5_isFeast 32 = .ok (.aload_n 0, 1) := by decide +kernel
theorem dX5_isFeast_33 : decode cX5_isFeast 33 = .ok (.getfield 38, 3) := by decide +kernel
theorem dX5_isFeast_36 : decode cX5_isFeast 36 = .ok (.iconst 3, 1) := by decide +kernel
theorem dX5_isFeast_37 : decode cX5_isFeast 37 = .ok (.iload 4, 2) := by decide +kernel
theorem dX5_isFeast_39 : decode cX5_isFeast 39 = .ok (.bipush 10, 2) := by decide +kernel
theorem dX5_isFeast_41 : decode cX5_isFeast 41 = .ok (.idiv, 1) := by decide +kernel
theorem dX5_isFeast_42 : decode cX5_isFeast 42 = .ok (.iadd, 1) := by decide +kernel
theorem dX5_isFeast_43 : decode cX5_isFeast 43 = .ok (.iload 4, 2) := by decide +kernel
theorem dX5_isFeast_45 : decode cX5_isFeast 45 = .ok (.bipush 10, 2) := by decide +kernel
theorem dX5_isFeast_47 : decode cX5_isFeast 47 = .ok (.irem, 1) := by decide +kernel
theorem dX5_isFeast_48 : decode cX5_isFeast 48 = .ok (.iastore, 1) := by decide +kernel
theorem dX5_isFeast_49 : decode cX5_isFeast 49 = .ok (.aload_n 0, 1) := by decide +kernel
theorem dX5_isFeast_50 : decode cX5_isFeast 50 = .ok (.iload_n 1, 1) := by decide +kernel
theorem dX5_isFeast_51 : decode cX5_isFeast 51 = .ok (.iload_n 2, 1) := by decide +kernel
theorem dX5_isFeast_52 : decode cX5_isFeast 52 = .ok (.invokevirtual 228, 3) := by decide +kernel
theorem dX5_isFeast_55 : decode cX5_isFeast 55 = .ok (.ireturn, 1) := by decide +kernel
theorem dX5_isOther_0 : decode cX5_isOther 0 = .ok (.aload_n 0, 1) := by decide +kernel
theorem dX5_isOther_1 : decode cX5_isOther 1 = .ok (.getfield 35, 3) := by decide +kernel
theorem dX5_isOther_4 : decode cX5_isOther 4 = .ok (.iconst 2, 1) := by decide +kernel
theorem dX5_isOther_5 : decode cX5_isOther 5 = .ok (.iaload, 1) := by decide +kernel
theorem dX5_isOther_6 : decode cX5_isOther 6 = .ok (.iload_n 1, 1) := by decide +kernel
theorem dX5_isOther_7 : decode cX5_isOther 7 = .ok (.bipush 10, 2) := by decide +kernel
theorem dX5_isOther_9 : decode cX5_isOther 9 = .ok (.idiv, 1) := by decide +kernel
theorem dX5_isOther_10 : decode cX5_isOther 10 = .ok (.invokestatic 165, 3) := by decide +kernel
theorem dX5_isOther_13 : decode cX5_isOther 13 = .ok (.ifCond .eq 25, 3) := by decide +kernel
theorem dX5_isOther_16 : decode cX5_isOther 16 = .ok (.aload_n 0, 1) := by decide +kernel
theorem dX5_isOther_17 : decode cX5_isOther 17 = .ok (.getfield 35, 3) := by decide +kernel
theorem dX5_isOther_20 : decode cX5_isOther 20 = .ok (.iconst 3, 1) := by decide +kernel
theorem dX5_isOther_21 : decode cX5_isOther 21 = .ok (.iload_n 1, 1) := by decide +kernel
theorem dX5_isOther_22 : decode cX5_isOther 22 = .ok (.bipush 10, 2) := by decide +kernel
theorem dX5_isOther_24 : decode cX5_isOther 24 = .ok (.idiv, 1) := by decide +kernel
theorem dX5_isOther_25 : decode cX5_isOther 25 = .ok (.iadd, 1) := by decide +kernel
theorem dX5_isOther_26 : decode cX5_isOther 26 = .ok (.iaload, 1) := by decide +kernel
theorem dX5_isOther_27 : decode cX5_isOther 27 = .ok (.iload_n 1, 1) := by decide +kernel
theorem dX5_isOther_28 : decode cX5_isOther 28 = .ok (.bipush 10, 2) := by decide +kernel
theorem dX5_isOther_30 : decode cX5_isOther 30 = .ok (.irem, 1) := by decide +kernel
theorem dX5_isOther_31 : decode cX5_isOther 31 = .ok (.if_icmp .eq 7, 3) := by decide +kernel
theorem dX5_isOther_34 : decode cX5_isOther 34 = .ok (.iconst 1, 1) := by decide +kernel
theorem dX5_isOther_35 : decode cX5_isOther 35 = .ok (.goto 4, 3) := by decide +kernel
theorem dX5_isOther_38 : decode cX5_isOther 38 = .ok (.iconst 0, 1) := by decide +kernel
theorem dX5_isOther_39 : decode cX5_isOther 39 = .ok (.ireturn, 1) := by decide +kernel
theorem dX5_feast_0 : decode cX5_feast 0 = .ok (.iload_n 1, 1) := by decide +kernel
theorem dX5_feast_1 : decode cX5_feast 1 = .ok (.i2l, 1) := by decide +kernel
theorem dX5_feast_2 : decode cX5_feast 2 = .ok (.lconst 0, 1) := by decide +kernel
theorem dX5_feast_3 : decode cX5_feast 3 = .ok (.ldc2_w 231, 3) := by decide +kernel
theorem dX5_feast_6 : decode cX5_feast 6 = .ok (.invokestatic 77, 3) := by decide +kernel
theorem dX5_feast_9 : decode cX5_feast 9 = .ok (.ifCond .eq 15, 3) := by decide +kernel
theorem dX5_feast_12 : decode cX5_feast 12 = .ok (.iload_n 2, 1) := by decide +kernel
theorem dX5_feast_13 : decode cX5_feast 13 = .ok (.i2l, 1) := by decide +kernel
theorem dX5_feast_14 : decode cX5_feast 14 = .ok (.lconst 0, 1) := by decide +kernel
theorem dX5_feast_15 : decode cX5_feast 15 = .ok (.ldc2_w 233, 3) := by decide +kernel
theorem dX5_feast_18 : decode cX5_feast 18 = .ok (.invokestatic 77, 3) := by decide +kernel
theorem dX5_feast_21 : decode cX5_feast 21 = .ok (.ifCond .ne 5, 3) := by decide +kernel
theorem dX5_feast_24 : decode cX5_feast 24 = .ok (.iconst (-1), 1) := by decide +kernel
theorem dX5_feast_25 : decode cX5_feast 25 = .ok (.ireturn, 1) := by decide +kernel
theorem dX5_feast_26 : decode cX5_feast 26 = .ok (.aload_n 0, 1) := by decide +kernel
theorem dX5_feast_27 : decode cX5_feast 27 = .ok (.getfield 97, 3) := by decide +kernel
theorem dX5_feast_30 : decode cX5_feast 30 = .ok (.ifCond .ne 6, 3) := by decide +kernel
theorem dX5_feast_33 : decode cX5_feast 33 = .ok (.bipush (-4), 2) := by decide +kernel
theorem dX5_feast_35 : decode cX5_feast 35 = .ok (.ireturn, 1) := by decide +kernel
theorem dX5_feast_36 : decode cX5_feast 36 = .ok (.aload_n 0, 1) := by decide +kernel
theorem dX5_feast_37 : decode cX5_feast 37 = .ok (.iload_n 1, 1) := by decide +kernel
theorem dX5_feast_38 : decode cX5_feast 38 = .ok (.iload_n 2, 1) := by decide +kernel
theorem dX5_feast_39 : decode cX5_feast 39 = .ok (.bipush (-9), 2) := by decide +kernel
theorem dX5_feast_41 : decode cX5_feast 41 = .ok (.bipush (-9), 2) := by decide +kernel
theorem dX5_feast_43 : decode cX5_feast 43 = .ok (.invokevirtual 235, 3) := by decide +kernel
theorem dX5_feast_46 : decode cX5_feast 46 = .ok (.ifCond .eq 10, 3) := by decide +kernel
theorem dX5_feast_49 : decode cX5_feast 49 = .ok (.aload_n 0, 1) := by decide +kernel
theorem dX5_feast_50 : decode cX5_feast 50 = .ok (.iconst 0, 1) := by decide +kernel
theorem dX5_feast_51 : decode cX5_feast 51 = .ok (.iconst 0, 1) := by decide +kernel
theorem dX5_feast_52 : decode cX5_feast 52 = .ok (.invokevirtual 216, 3) := by decide +kernel
theorem dX5_feast_55 : decode cX5_feast 55 = .ok (.ireturn, 1) := by decide +kernel
theorem dX5_feast_56 : decode cX5_feast 56 = .ok (.iconst 0, 1) := by decide +kernel
theorem dX5_feast_57 : decode cX5_feast 57 = .ok (.istore_n 3, 1) := by decide +kernel
theorem dX5_feast_58 : decode cX5_feast 58 = .ok (.iload_n 3, 1) := by decide +kernel
theorem dX5_feast_59 : decode cX5_feast 59 = .ok (.bipush 10, 2) := by decide +kernel
theorem dX5_feast_61 : decode cX5_feast 61 = .ok (.aload_n 0, 1) := by decide +kernel
theorem dX5_feast_62 : decode cX5_feast 62 = .ok (.getfield 97, 3) := by decide +kernel
theorem dX5_feast_65 : decode cX5_feast 65 = .ok (.imul, 1) := by decide +kernel
theorem dX5_feast_66 : decode cX5_feast 66 = .ok (.if_icmp .ge 36, 3) := by decide +kernel
theorem dX5_feast_69 : decode cX5_feast 69 = .ok (.aload_n 0, 1) := by decide +kernel
theorem dX5_feast_70 : decode cX5_feast 70 = .ok (.iload_n 3, 1) := by decide +kernel
theorem dX5_feast_71 : decode cX5_feast 71 = .ok (.invokevirtual 239, 3) := by decide +kernel
theorem dX5_feast_74 : decode cX5_feast 74 = .ok (.ifCond .eq 22, 3) := by decide +kernel
theorem dX5_feast_77 : decode cX5_feast 77 = .ok (.aload_n 0, 1) := by decide +kernel
theorem dX5_feast_78 : decode cX5_feast 78 = .ok (.iload_n 1, 1) := by decide +kernel
theorem dX5_feast_79 : decode cX5_feast 79 = .ok (.iload_n 2, 1) := by decide +kernel
theorem dX5_feast_80 : decode cX5_feast 80 = .ok (.iload_n 3, 1) := by decide +kernel
theorem dX5_feast_81 : decode cX5_feast 81 = .ok (.bipush (-9), 2) := by decide +kernel
theorem dX5_feast_83 : decode cX5_feast 83 = .ok (.invokevirtual 235, 3) := by decide +kernel
theorem dX5_feast_86 : decode cX5_feast 86 = .ok (.ifCond .eq 10, 3) := by decide +kernel
theorem dX5_feast_89 : decode cX5_feast 89 = .ok (.aload_n 0, 1) := by decide +kernel
theorem dX5_feast_90 : decode cX5_feast 90 = .ok (.iconst 1, 1) := by decide +kernel
theorem dX5_feast_91 : decode cX5_feast 91 = .ok (.iload_n 3, 1) := by decide +kernel
theorem dX5_feast_92 : decode cX5_feast 92 = .ok (.invokevirtual 216, 3) := by decide +kernel
theorem dX5_feast_95 : decode cX5_feast 95 = .ok (.ireturn, 1) := by decide +kernel
theorem dX5_feast_96 : decode cX5_feast 96 = .ok (.iinc 3 1, 3) := by decide +kernel
theorem dX5_feast_99 : decode cX5_feast 99 = .ok (.goto (-41), 3) := by decide +kernel
theorem dX5_feast_102 : decode cX5_feast 102 = .ok (.iconst 0, 1) := by decide +kernel
theorem dX5_feast_103 : decode cX5_feast 103 = .ok (.istore_n 3, 1) := by decide +kernel
theorem dX5_feast_104 : decode cX5_feast 104 = .ok (.iload_n 3, 1) := by decide +kernel
theorem dX5_feast_105 : decode cX5_feast 105 = .ok (.bipush 10, 2) := by decide +kernel
theorem dX5_feast_107 : decode cX5_feast 107 = .ok (.aload_n 0, 1) := by decide +kernel
theorem dX5_feast_108 : decode cX5_feast 108 = .ok (.getfield 97, 3) := by decide +kernel
theorem dX5_feast_111 : decode cX5_feast 111 = .ok (.imul, 1) := by decide +kernel
theorem dX5_feast_112 : decode cX5_feast 112 = .ok (.if_icmp .ge 81, 3) := by decide +kernel
theorem dX5_feast_115 : decode cX5_feast 115 = .ok (.bipush 10, 2) := by decide +kernel
theorem dX5_feast_117 : decode cX5_feast 117 = .ok (.iload_n 3, 1) := by decide +kernel
theorem dX5_feast_118 : decode cX5_feast 118 = .ok (.bipush 10, 2) := by decide +kernel
theorem dX5_feast_120 : decode cX5_feast 120 = .ok (.idiv, 1) := by decide +kernel
theorem dX5_feast_121 : decode cX5_feast 121 = .ok (.iconst 1, 1) := by decide +kernel
theorem dX5_feast_122 : decode cX5_feast 122 = .ok (.iadd, 1) := by decide +kernel
theorem dX5_feast_123 : decode cX5_feast 123 = .ok (.imul, 1) := by decide +kernel
theorem dX5_feast_124 : decode cX5_feast 124 = .ok (.istore 4, 2) := by decide +kernel
theorem dX5_feast_126 : decode cX5_feast 126 = .ok (.iload 4, 2) := by decide +kernel
theorem dX5_feast_128 : decode cX5_feast 128 = .ok (.bipush 10, 2) := by decide +kernel
theorem dX5_feast_130 : decode cX5_feast 130 = .ok (.aload_n 0, 1) := by decide +kernel
theorem dX5_feast_131 : decode cX5_feast 131 = .ok (.getfield 97, 3) := by decide +kernel
theorem dX5_feast_134 : decode cX5_feast 134 = .ok (.imul, 1) := by decide +kernel
theorem dX5_feast_135 : decode cX5_feast 135 = .ok (.if_icmp .ge 52, 3) := by decide +kernel
theorem dX5_feast_138 : decode cX5_feast 138 = .ok (.aload_n 0, 1) := by decide +kernel
theorem dX5_feast_139 : decode cX5_feast 139 = .ok (.iload_n 3, 1) := by decide +kernel
theorem dX5_feast_140 : decode cX5_feast 140 = .ok (.invokevirtual 239, 3) := by decide +kernel
theorem dX5_feast_143 : decode cX5_feast 143 = .ok (.ifCond .eq 38, 3) := by decide +kernel
theorem dX5_feast_146 : decode cX5_feast 146 = .ok (.aload_n 0, 1) := by decide +kernel
theorem dX5_feast_147 : decode cX5_feast 147 = .ok (.iload 4, 2) := by decide +kernel
theorem dX5_feast_149 : decode cX5_feast 149 = .ok (.invokevirtual 239, 3) := by decide +kernel
theorem dX5_feast_152 : decode cX5_feast 152 = .ok (.ifCond .eq 29, 3) := by decide +kernel
theorem dX5_feast_155 : decode cX5_feast 155 = .ok (.aload_n 0, 1) := by decide +kernel
theorem dX5_feast_156 : decode cX5_feast 156 = .ok (.iload_n 1, 1) := by decide +kernel
theorem dX5_feast_157 : decode cX5_feast 157 = .ok (.iload_n 2, 1) := by decide +kernel
theorem dX5_feast_158 : decode cX5_feast 158 = .ok (.iload_n 3, 1) := by decide +kernel
theorem dX5_feast_159 : decode cX5_feast 159 = .ok (.iload 4, 2) := by decide +kernel
theorem dX5_feast_161 : decode cX5_feast 161 = .ok (.invokevirtual 235, 3) := by decide +kernel
theorem dX5_feast_164 : decode cX5_feast 164 = .ok (.ifCond .eq 17, 3) := by decide +kernel
theorem dX5_feast_167 : decode cX5_feast 167 = .ok (.aload_n 0, 1) := by decide +kernel
theorem dX5_feast_168 : decode cX5_feast 168 = .ok (.iconst 2, 1) := by decide +kernel
theorem dX5_feast_169 : decode cX5_feast 169 = .ok (.sipush 1000, 3) := by decide +kernel
theorem dX5_feast_172 : decode cX5_feast 172 = .ok (.iload_n 3, 1) := by decide +kernel
theorem dX5_feast_173 : decode cX5_feast 173 = .ok (.imul, 1) := by decide +kernel
theorem dX5_feast_174 : decode cX5_feast 174 = .ok (.iload 4, 2) := by decide +kernel
theorem dX5_feast_176 : decode cX5_feast 176 = .ok (.iadd, 1) := by decide +kernel
theorem dX5_feast_177 : decode cX5_feast 177 = .ok (.invokevirtual 216, 3) := by decide +kernel
theorem dX5_feast_180 : decode cX5_feast 180 = .ok (.ireturn, 1) := by decide +kernel
theorem dX5_feast_181 : decode cX5_feast 181 = .ok (.iinc 4 1, 3) := by decide +kernel
theorem dX5_feast_184 : decode cX5_feast 184 = .ok (.goto (-58), 3) := by decide +kernel
theorem dX5_feast_187 : decode cX5_feast 187 = .ok (.iinc 3 1, 3) := by decide +kernel
theorem dX5_feast_190 : decode cX5_feast 190 = .ok (.goto (-86), 3) := by decide +kernel
theorem dX5_feast_193 : decode cX5_feast 193 = .ok (.bipush (-9), 2) := by decide +kernel
theorem dX5_feast_195 : decode cX5_feast 195 = .ok (.ireturn, 1) := by decide +kernel
theorem dX5_bed_0 : decode cX5_bed 0 = .ok (.aload_n 0, 1) := by decide +kernel
theorem dX5_bed_1 : decode cX5_bed 1 = .ok (.iload_n 1, 1) := by decide +kernel
theorem dX5_bed_2 : decode cX5_bed 2 = .ok (.invokevirtual 176, 3) := by decide +kernel
theorem dX5_bed_5 : decode cX5_bed 5 = .ok (.ifCond .ne 5, 3) := by decide +kernel
theorem dX5_bed_8 : decode cX5_bed 8 = .ok (.iconst (-1), 1) := by decide +kernel
theorem dX5_bed_9 : decode cX5_bed 9 = .ok (.ireturn, 1) := by decide +kernel
theorem dX5_bed_10 : decode cX5_bed 10 = .ok (.aload_n 0, 1) := by decide +kernel
theorem dX5_bed_11 : decode cX5_bed 11 = .ok (.getfield 32, 3) := by decide +kernel
theorem dX5_bed_14 : decode cX5_bed 14 = .ok (.iload_n 1, 1) := by decide +kernel
theorem dX5_bed_15 : decode cX5_bed 15 = .ok (.iaload, 1) := by decide +kernel
theorem dX5_bed_16 : decode cX5_bed 16 = .ok (.istore_n 2, 1) := by decide +kernel
theorem dX5_bed_17 : decode cX5_bed 17 = .ok (.iconst 0, 1) := by decide +kernel
theorem dX5_bed_18 : decode cX5_bed 18 = .ok (.istore_n 3, 1) := by decide +kernel
theorem dX5_bed_19 : decode cX5_bed 19 = .ok (.iconst (-1), 1) := by decide +kernel
theorem dX5_bed_20 : decode cX5_bed 20 = .ok (.istore 4, 2) := by decide +kernel
theorem dX5_bed_22 : decode cX5_bed 22 = .ok (.iconst 0, 1) := by decide +kernel
theorem dX5_bed_23 : decode cX5_bed 23 = .ok (.istore 5, 2) := by decide +kernel
theorem dX5_bed_25 : decode cX5_bed 25 = .ok (.iload 5, 2) := by decide +kernel
theorem dX5_bed_27 : decode cX5_bed 27 = .ok (.aload_n 0, 1) := by decide +kernel
theorem dX5_bed_28 : decode cX5_bed 28 = .ok (.getfield 155, 3) := by decide +kernel
theorem dX5_bed_31 : decode cX5_bed 31 = .ok (.if_icmp .gt 57, 3) := by decide +kernel
theorem dX5_bed_34 : decode cX5_bed 34 = .ok (.aload_n 0, 1) := by decide +kernel
theorem dX5_bed_35 : decode cX5_bed 35 = .ok (.getfield 32, 3) := by decide +kernel
theorem dX5_bed_38 : decode cX5_bed 38 = .ok (.iload_n 1, 1) := by decide +kernel
theorem dX5_bed_39 : decode cX5_bed 39 = .ok (.iload 5, 2) := by decide +kernel
theorem dX5_bed_41 : decode cX5_bed 41 = .ok (.iastore, 1) := by decide +kernel
theorem dX5_bed_42 : decode cX5_bed 42 = .ok (.aload_n 0, 1) := by decide +kernel
theorem dX5_bed_43 : decode cX5_bed 43 = .ok (.iload 5, 2) := by decide +kernel
theorem dX5_bed_45 : decode cX5_bed 45 = .ok (.bipush 40, 2) := by decide +kernel
theorem dX5_bed_47 : decode cX5_bed 47 = .ok (.invokevirtual 219, 3) := by decide +kernel
theorem dX5_bed_50 : decode cX5_bed 50 = .ok (.istore 6, 2) := by decide +kernel
theorem dX5_bed_52 : decode cX5_bed 52 = .ok (.iload 6, 2) := by decide +kernel
theorem dX5_bed_54 : decode cX5_bed 54 = .ok (.iload 4, 2) := by decide +kernel
theorem dX5_bed_56 : decode cX5_bed 56 = .ok (.if_icmp .le 8, 3) := by decide +kernel
theorem dX5_bed_59 : decode cX5_bed 59 = .ok (.iload 5, 2) := by decide +kernel
theorem dX5_bed_61 : decode cX5_bed 61 = .ok (.goto 4, 3) := by decide +kernel
theorem dX5_bed_64 : decode cX5_bed 64 = .ok (.iload_n 3, 1) := by decide +kernel
theorem dX5_bed_65 : decode cX5_bed 65 = .ok (.istore_n 3, 1) := by decide +kernel
theorem dX5_bed_66 : decode cX5_bed 66 = .ok (.iload 6, 2) := by decide +kernel
theorem dX5_bed_68 : decode cX5_bed 68 = .ok (.iload 4, 2) := by decide +kernel
theorem dX5_bed_70 : decode cX5_bed 70 = .ok (.if_icmp .le 8, 3) := by decide +kernel
theorem dX5_bed_73 : decode cX5_bed 73 = .ok (.iload 6, 2) := by decide +kernel
theorem dX5_bed_75 : decode cX5_bed 75 = .ok (.goto 5, 3) := by decide +kernel
theorem dX5_bed_78 : decode cX5_bed 78 = .ok (.iload 4, 2) := by decide +kernel
theorem dX5_bed_80 : decode cX5_bed 80 = .ok (.istore 4, 2) := by decide +kernel
theorem dX5_bed_82 : decode cX5_bed 82 = .ok (.iinc 5 1, 3) := by decide +kernel
theorem dX5_bed_85 : decode cX5_bed 85 = .ok (.goto (-60), 3) := by decide +kernel
theorem dX5_bed_88 : decode cX5_bed 88 = .ok (.aload_n 0, 1) := by decide +kernel
theorem dX5_bed_89 : decode cX5_bed 89 = .ok (.getfield 32, 3) := by decide +kernel
theorem dX5_bed_92 : decode cX5_bed 92 = .ok (.iload_n 1, 1) := by decide +kernel
theorem dX5_bed_93 : decode cX5_bed 93 = .ok (.iload_n 2, 1) := by decide +kernel
theorem dX5_bed_94 : decode cX5_bed 94 = .ok (.iastore, 1) := by decide +kernel
theorem dX5_bed_95 : decode cX5_bed 95 = .ok (.aload_n 0, 1) := by decide +kernel
theorem dX5_bed_96 : decode cX5_bed 96 = .ok (.iload_n 3, 1) := by decide +kernel
theorem dX5_bed_97 : decode cX5_bed 97 = .ok (.iload 4, 2) := by decide +kernel
theorem dX5_bed_99 : decode cX5_bed 99 = .ok (.invokevirtual 216, 3) := by decide +kernel
theorem dX5_bed_102 : decode cX5_bed 102 = .ok (.ireturn, 1) := by decide +kernel
theorem dX5_refusesRow_0 : decode cX5_refusesRow 0 = .ok (.aload_n 0, 1) := by decide +kernel
theorem dX5_refusesRow_1 : decode cX5_refusesRow 1 = .ok (.getfield 13, 3) := by decide +kernel
theorem dX5_refusesRow_4 : decode cX5_refusesRow 4 = .ok (.iload_n 1, 1) := by decide +kernel
theorem dX5_refusesRow_5 : decode cX5_refusesRow 5 = .ok (.iaload, 1) := by decide +kernel
theorem dX5_refusesRow_6 : decode cX5_refusesRow 6 = .ok (.ifCond .ge 9, 3) := by decide +kernel
theorem dX5_refusesRow_9 : decode cX5_refusesRow 9 = .ok (.aload_n 0, 1) := by decide +kernel
theorem dX5_refusesRow_10 : decode cX5_refusesRow 10 = .ok (.iconst 1, 1) := by decide +kernel
theorem dX5_refusesRow_11 : decode cX5_refusesRow 11 = .ok (.invokevirtual 87, 3) := by decide +kernel
theorem dX5_refusesRow_14 : decode cX5_refusesRow 14 = .ok (.ireturn, 1) := by decide +kernel
theorem dX5_refusesRow_15 : decode cX5_refusesRow 15 = .ok (.aload_n 0, 1) := by decide +kernel
theorem dX5_refusesRow_16 : decode cX5_refusesRow 16 = .ok (.getfield 13, 3) := by decide +kernel
theorem dX5_refusesRow_19 : decode cX5_refusesRow 19 = .ok (.iload_n 1, 1) := by decide +kernel
theorem dX5_refusesRow_20 : decode cX5_refusesRow 20 = .ok (.iaload, 1) := by decide +kernel
theorem dX5_refusesRow_21 : decode cX5_refusesRow 21 = .ok (.i2l, 1) := by decide +kernel
theorem dX5_refusesRow_22 : decode cX5_refusesRow 22 = .ok (.lconst 1, 1) := by decide +kernel
theorem dX5_refusesRow_23 : decode cX5_refusesRow 23 = .ok (.ldc2_w 231, 3) := by decide +kernel
theorem dX5_refusesRow_26 : decode cX5_refusesRow 26 = .ok (.invokestatic 77, 3) := by decide +kernel
theorem dX5_refusesRow_29 : decode cX5_refusesRow 29 = .ok (.ifCond .ne 9, 3) := by decide +kernel
theorem dX5_refusesRow_32 : decode cX5_refusesRow 32 = .ok (.aload_n 0, 1) := by decide +kernel
theorem dX5_refusesRow_33 : decode cX5_refusesRow 33 = .ok (.iconst 5, 1) := by decide +kernel
theorem dX5_refusesRow_34 : decode cX5_refusesRow 34 = .ok (.invokevirtual 87, 3) := by decide +kernel
theorem dX5_refusesRow_37 : decode cX5_refusesRow 37 = .ok (.ireturn, 1) := by decide +kernel
theorem dX5_refusesRow_38 : decode cX5_refusesRow 38 = .ok (.iconst 0, 1) := by decide +kernel
theorem dX5_refusesRow_39 : decode cX5_refusesRow 39 = .ok (.istore_n 2, 1) := by decide +kernel
theorem dX5_refusesRow_40 : decode cX5_refusesRow 40 = .ok (.iload_n 2, 1) := by decide +kernel
theorem dX5_refusesRow_41 : decode cX5_refusesRow 41 = .ok (.aload_n 0, 1) := by decide +kernel
theorem dX5_refusesRow_42 : decode cX5_refusesRow 42 = .ok (.getfield 13, 3) := by decide +kernel
theorem dX5_refusesRow_45 : decode cX5_refusesRow 45 = .ok (.iload_n 1, 1) := by decide +kernel
theorem dX5_refusesRow_46 : decode cX5_refusesRow 46 = .ok (.iaload, 1) := by decide +kernel
theorem dX5_refusesRow_47 : decode cX5_refusesRow 47 = .ok (.if_icmp .ge 39, 3) := by decide +kernel
theorem dX5_refusesRow_50 : decode cX5_refusesRow 50 = .ok (.aload_n 0, 1) := by decide +kernel
theorem dX5_refusesRow_51 : decode cX5_refusesRow 51 = .ok (.getfield 7, 3) := by decide +kernel
theorem dX5_refusesRow_54 : decode cX5_refusesRow 54 = .ok (.bipush 40, 2) := by decide +kernel
theorem dX5_refusesRow_56 : decode cX5_refusesRow 56 = .ok (.iload_n 1, 1) := by decide +kernel
theorem dX5_refusesRow_57 : decode cX5_refusesRow 57 = .ok (.imul, 1) := by decide +kernel
theorem dX5_refusesRow_58 : decode cX5_refusesRow 58 = .ok (.iload_n 2, 1) := by decide +kernel
theorem dX5_refusesRow_59 : decode cX5_refusesRow 59 = .ok (.iadd, 1) := by decide +kernel
theorem dX5_refusesRow_60 : decode cX5_refusesRow 60 = .ok (.iaload, 1) := by decide +kernel
theorem dX5_refusesRow_61 : decode cX5_refusesRow 61 = .ok (.i2l, 1) := by decide +kernel
theorem dX5_refusesRow_62 : decode cX5_refusesRow 62 = .ok (.lconst 0, 1) := by decide +kernel
theorem dX5_refusesRow_63 : decode cX5_refusesRow 63 = .ok (.aload_n 0, 1) := by decide +kernel
theorem dX5_refusesRow_64 : decode cX5_refusesRow 64 = .ok (.getfield 155, 3) := by decide +kernel
theorem dX5_refusesRow_67 : decode cX5_refusesRow 67 = .ok (.i2l, 1) := by decide +kernel
theorem dX5_refusesRow_68 : decode cX5_refusesRow 68 = .ok (.invokestatic 77, 3) := by decide +kernel
theorem dX5_refusesRow_71 : decode cX5_refusesRow 71 = .ok (.ifCond .ne 9, 3) := by decide +kernel
theorem dX5_refusesRow_74 : decode cX5_refusesRow 74 = .ok (.aload_n 0, 1) := by decide +kernel
theorem dX5_refusesRow_75 : decode cX5_refusesRow 75 = .ok (.iconst 3, 1) := by decide +kernel
theorem dX5_refusesRow_76 : decode cX5_refusesRow 76 = .ok (.invokevirtual 87, 3) := by decide +kernel
theorem dX5_refusesRow_79 : decode cX5_refusesRow 79 = .ok (.ireturn, 1) := by decide +kernel
theorem dX5_refusesRow_80 : decode cX5_refusesRow 80 = .ok (.iinc 2 1, 3) := by decide +kernel
theorem dX5_refusesRow_83 : decode cX5_refusesRow 83 = .ok (.goto (-43), 3) := by decide +kernel
theorem dX5_refusesRow_86 : decode cX5_refusesRow 86 = .ok (.iconst 0, 1) := by decide +kernel
theorem dX5_refusesRow_87 : decode cX5_refusesRow 87 = .ok (.ireturn, 1) := by decide +kernel
theorem dX5_goesAs_0 : decode cX5_goesAs 0 = .ok (.iconst 1, 1) := by decide +kernel
theorem dX5_goesAs_1 : decode cX5_goesAs 1 = .ok (.istore_n 2, 1) := by decide +kernel
theorem dX5_goesAs_2 : decode cX5_goesAs 2 = .ok (.iconst 0, 1) := by decide +kernel
theorem dX5_goesAs_3 : decode cX5_goesAs 3 = .ok (.istore_n 3, 1) := by decide +kernel
theorem dX5_goesAs_4 : decode cX5_goesAs 4 = .ok (.iload_n 3, 1) := by decide +kernel
theorem dX5_goesAs_5 : decode cX5_goesAs 5 = .ok (.aload_n 0, 1) := by decide +kernel
theorem dX5_goesAs_6 : decode cX5_goesAs 6 = .ok (.getfield 13, 3) := by decide +kernel
theorem dX5_goesAs_9 : decode cX5_goesAs 9 = .ok (.iload_n 1, 1) := by decide +kernel
theorem dX5_goesAs_10 : decode cX5_goesAs 10 = .ok (.iaload, 1) := by decide +kernel
theorem dX5_goesAs_11 : decode cX5_goesAs 11 = .ok (.if_icmp .ge 38, 3) := by decide +kernel
theorem dX5_goesAs_14 : decode cX5_goesAs 14 = .ok (.iload_n 2, 1) := by decide +kernel
theorem dX5_goesAs_15 : decode cX5_goesAs 15 = .ok (.ifCond .eq 26, 3) := by decide +kernel
theorem dX5_goesAs_18 : decode cX5_goesAs 18 = .ok (.aload_n 0, 1) := by decide +kernel
theorem dX5_goesAs_19 : decode cX5_goesAs 19 = .ok (.iconst 1, 1) := by decide +kernel
theorem dX5_goesAs_20 : decode cX5_goesAs 20 = .ok (.invokevirtual 225, 3) := by decide +kernel
theorem dX5_goesAs_23 : decode cX5_goesAs 23 = .ok (.aload_n 0, 1) := by decide +kernel
theorem dX5_goesAs_24 : decode cX5_goesAs 24 = .ok (.getfield 7, 3) := by decide +kernel
theorem dX5_goesAs_27 : decode cX5_goesAs 27 = .ok (.bipush 40, 2) := by decide +kernel
theorem dX5_goesAs_29 : decode cX5_goesAs 29 = .ok (.iload_n 1, 1) := by decide +kernel
theorem dX5_goesAs_30 : decode cX5_goesAs 30 = .ok (.imul, 1) := by decide +kernel
theorem dX5_goesAs_31 : decode cX5_goesAs 31 = .ok (.iload_n 3, 1) := by decide +kernel
theorem dX5_goesAs_32 : decode cX5_goesAs 32 = .ok (.iadd, 1) := by decide +kernel
theorem dX5_goesAs_33 : decode cX5_goesAs 33 = .ok (.iaload, 1) := by decide +kernel
theorem dX5_goesAs_34 : decode cX5_goesAs 34 = .ok (.if_icmp .ne 7, 3) := by decide +kernel
theorem dX5_goesAs_37 : decode cX5_goesAs 37 = .ok (.iconst 1, 1) := by decide +kernel
theorem dX5_goesAs_38 : decode cX5_goesAs 38 = .ok (.goto 4, 3) := by decide +kernel
theorem dX5_goesAs_41 : decode cX5_goesAs 41 = .ok (.iconst 0, 1) := by decide +kernel
theorem dX5_goesAs_42 : decode cX5_goesAs 42 = .ok (.istore_n 2, 1) := by decide +kernel
theorem dX5_goesAs_43 : decode cX5_goesAs 43 = .ok (.iinc 3 1, 3) := by decide +kernel
theorem dX5_goesAs_46 : decode cX5_goesAs 46 = .ok (.goto (-42), 3) := by decide +kernel
theorem dX5_goesAs_49 : decode cX5_goesAs 49 = .ok (.iload_n 2, 1) := by decide +kernel
theorem dX5_goesAs_50 : decode cX5_goesAs 50 = .ok (.ireturn, 1) := by decide +kernel
theorem dX5_account_0 : decode cX5_account 0 = .ok (.iload_n 1, 1) := by decide +kernel
theorem dX5_account_1 : decode cX5_account 1 = .ok (.invokestatic 83, 3) := by decide +kernel
theorem dX5_account_4 : decode cX5_account 4 = .ok (.ifCond .ne 5, 3) := by decide +kernel
theorem dX5_account_7 : decode cX5_account 7 = .ok (.iconst (-1), 1) := by decide +kernel
theorem dX5_account_8 : decode cX5_account 8 = .ok (.ireturn, 1) := by decide +kernel
theorem dX5_account_9 : decode cX5_account 9 = .ok (.aload_n 0, 1) := by decide +kernel
theorem dX5_account_10 : decode cX5_account 10 = .ok (.getfield 97, 3) := by decide +kernel
theorem dX5_account_13 : decode cX5_account 13 = .ok (.ifCond .ne 6, 3) := by decide +kernel
theorem dX5_account_16 : decode cX5_account 16 = .ok (.bipush (-4), 2) := by decide +kernel
theorem dX5_account_18 : decode cX5_account 18 = .ok (.ireturn, 1) := by decide +kernel
theorem dX5_account_19 : decode cX5_account 19 = .ok (.aload_n 0, 1) := by decide +kernel
theorem dX5_account_20 : decode cX5_account 20 = .ok (.iload_n 1, 1) := by decide +kernel
theorem dX5_account_21 : decode cX5_account 21 = .ok (.invokevirtual 242, 3) := by decide +kernel
theorem dX5_account_24 : decode cX5_account 24 = .ok (.istore_n 2, 1) := by decide +kernel
theorem dX5_account_25 : decode cX5_account 25 = .ok (.iload_n 2, 1) := by decide +kernel
theorem dX5_account_26 : decode cX5_account 26 = .ok (.ifCond .eq 5, 3) := by decide +kernel
theorem dX5_account_29 : decode cX5_account 29 = .ok (.iload_n 2, 1) := by decide +kernel
theorem dX5_account_30 : decode cX5_account 30 = .ok (.ireturn, 1) := by decide +kernel
theorem dX5_account_31 : decode cX5_account 31 = .ok (.iconst 0, 1) := by decide +kernel
theorem dX5_account_32 : decode cX5_account 32 = .ok (.istore_n 3, 1) := by decide +kernel
theorem dX5_account_33 : decode cX5_account 33 = .ok (.bipush 63, 2) := by decide +kernel
theorem dX5_account_35 : decode cX5_account 35 = .ok (.istore 4, 2) := by decide +kernel
theorem dX5_account_37 : decode cX5_account 37 = .ok (.iconst 0, 1) := by decide +kernel
theorem dX5_account_38 : decode cX5_account 38 = .ok (.istore 5, 2) := by decide +kernel
theorem dX5_account_40 : decode cX5_account 40 = .ok (.iload 5, 2) := by decide +kernel
theorem dX5_account_42 : decode cX5_account 42 = .ok (.iconst 1, 1) := by decide +kernel
theorem dX5_account_43 : decode cX5_account 43 = .ok (.aload_n 0, 1) := by decide +kernel
theorem dX5_account_44 : decode cX5_account 44 = .ok (.getfield 97, 3) := by decide +kernel
theorem dX5_account_47 : decode cX5_account 47 = .ok (.ishl, 1) := by decide +kernel
theorem dX5_account_48 : decode cX5_account 48 = .ok (.if_icmp .ge 39, 3) := by decide +kernel
theorem dX5_account_51 : decode cX5_account 51 = .ok (.aload_n 0, 1) := by decide +kernel
theorem dX5_account_52 : decode cX5_account 52 = .ok (.invokevirtual 213, 3) := by decide +kernel
theorem dX5_account_55 : decode cX5_account 55 = .ok (.aload_n 0, 1) := by decide +kernel
theorem dX5_account_56 : decode cX5_account 56 = .ok (.getfield 38, 3) := by decide +kernel
theorem dX5_account_59 : decode cX5_account 59 = .ok (.iconst 2, 1) := by decide +kernel
theorem dX5_account_60 : decode cX5_account 60 = .ok (.iload 5, 2) := by decide +kernel
theorem dX5_account_62 : decode cX5_account 62 = .ok (.iastore, 1) := by decide +kernel
theorem dX5_account_63 : decode cX5_account 63 = .ok (.aload_n 0, 1) := by decide +kernel
theorem dX5_account_64 : decode cX5_account 64 = .ok (.iload_n 1, 1) := by decide +kernel
theorem dX5_account_65 : decode cX5_account 65 = .ok (.invokevirtual 245, 3) := by decide +kernel
theorem dX5_account_68 : decode cX5_account 68 = .ok (.ifCond .eq 13, 3) := by decide +kernel
theorem dX5_account_71 : decode cX5_account 71 = .ok (.iinc 3 1, 3) := by decide +kernel
theorem dX5_account_74 : decode cX5_account 74 = .ok (.iload 4, 2) := by decide +kernel
theorem dX5_account_76 : decode cX5_account 76 = .ok (.iload 5, 2) := by decide +kernel
theorem dX5_account_78 : decode cX5_account 78 = .ok (.iand, 1) := by decide +kernel
theorem dX5_account_79 : decode cX5_account 79 = .ok (.istore 4, 2) := by decide +kernel
theorem dX5_account_81 : decode cX5_account 81 = .ok (.iinc 5 1, 3) := by decide +kernel
theorem dX5_account_84 : decode cX5_account 84 = .ok (.goto (-44), 3) := by decide +kernel
theorem dX5_account_87 : decode cX5_account 87 = .ok (.iload_n 3, 1) := by decide +kernel
theorem dX5_account_88 : decode cX5_account 88 = .ok (.ifCond .ne 8, 3) := by decide +kernel
theorem dX5_account_91 : decode cX5_account 91 = .ok (.bipush (-9), 2) := by decide +kernel
theorem dX5_account_93 : decode cX5_account 93 = .ok (.goto 10, 3) := by decide +kernel
theorem dX5_account_96 : decode cX5_account 96 = .ok (.aload_n 0, 1) := by decide +kernel
theorem dX5_account_97 : decode cX5_account 97 = .ok (.iload_n 3, 1) := by decide +kernel
theorem dX5_account_98 : decode cX5_account 98 = .ok (.iload 4, 2) := by decide +kernel
theorem dX5_account_100 : decode cX5_account 100 = .ok (.invokevirtual 216, 3) := by decide +kernel
theorem dX5_account_103 : decode cX5_account 103 = .ok (.ireturn, 1) := by decide +kernel
theorem dX5_kinds_0 : decode cX5_kinds 0 = .ok (.aload_n 0, 1) := by decide +kernel
theorem dX5_kinds_1 : decode cX5_kinds 1 = .ok (.iload_n 1, 1) := by decide +kernel
theorem dX5_kinds_2 : decode cX5_kinds 2 = .ok (.invokevirtual 176, 3) := by decide +kernel
theorem dX5_kinds_5 : decode cX5_kinds 5 = .ok (.ifCond .eq 10, 3) := by decide +kernel
theorem dX5_kinds_8 : decode cX5_kinds 8 = .ok (.iload_n 2, 1) := by decide +kernel
theorem dX5_kinds_9 : decode cX5_kinds 9 = .ok (.invokestatic 83, 3) := by decide +kernel
theorem dX5_kinds_12 : decode cX5_kinds 12 = .ok (.ifCond .ne 5, 3) := by decide +kernel
theorem dX5_kinds_15 : decode cX5_kinds 15 = .ok (.iconst (-1), 1) := by decide +kernel
theorem dX5_kinds_16 : decode cX5_kinds 16 = .ok (.ireturn, 1) := by decide +kernel
theorem dX5_kinds_17 : decode cX5_kinds 17 = .ok (.aload_n 0, 1) := by decide +kernel
theorem dX5_kinds_18 : decode cX5_kinds 18 = .ok (.iload_n 2, 1) := by decide +kernel
theorem dX5_kinds_19 : decode cX5_kinds 19 = .ok (.invokevirtual 242, 3) := by decide +kernel
theorem dX5_kinds_22 : decode cX5_kinds 22 = .ok (.istore_n 3, 1) := by decide +kernel
theorem dX5_kinds_23 : decode cX5_kinds 23 = .ok (.iload_n 3, 1) := by decide +kernel
theorem dX5_kinds_24 : decode cX5_kinds 24 = .ok (.ifCond .eq 5, 3) := by decide +kernel
theorem dX5_kinds_27 : decode cX5_kinds 27 = .ok (.iload_n 3, 1) := by decide +kernel
theorem dX5_kinds_28 : decode cX5_kinds 28 = .ok (.ireturn, 1) := by decide +kernel
theorem dX5_kinds_29 : decode cX5_kinds 29 = .ok (.aload_n 0, 1) := by decide +kernel
theorem dX5_kinds_30 : decode cX5_kinds 30 = .ok (.getfield 29, 3) := by decide +kernel
theorem dX5_kinds_33 : decode cX5_kinds 33 = .ok (.iload_n 1, 1) := by decide +kernel
theorem dX5_kinds_34 : decode cX5_kinds 34 = .ok (.iaload, 1) := by decide +kernel
theorem dX5_kinds_35 : decode cX5_kinds 35 = .ok (.istore 4, 2) := by decide +kernel
theorem dX5_kinds_37 : decode cX5_kinds 37 = .ok (.iconst 0, 1) := by decide +kernel
theorem dX5_kinds_38 : decode cX5_kinds 38 = .ok (.istore 5, 2) := by decide +kernel
theorem dX5_kinds_40 : decode cX5_kinds 40 = .ok (.iconst 0, 1) := by decide +kernel
theorem dX5_kinds_41 : decode cX5_kinds 41 = .ok (.istore 6, 2) := by decide +kernel
theorem dX5_kinds_43 : decode cX5_kinds 43 = .ok (.iload 6, 2) := by decide +kernel
theorem dX5_kinds_45 : decode cX5_kinds 45 = .ok (.bipush 6, 2) := by decide +kernel
theorem dX5_kinds_47 : decode cX5_kinds 47 = .ok (.if_icmp .ge 42, 3) := by decide +kernel
theorem dX5_kinds_50 : decode cX5_kinds 50 = .ok (.aload_n 0, 1) := by decide +kernel
theorem dX5_kinds_51 : decode cX5_kinds 51 = .ok (.getfield 29, 3) := by decide +kernel
theorem dX5_kinds_54 : decode cX5_kinds 54 = .ok (.iload_n 1, 1) := by decide +kernel
theorem dX5_kinds_55 : decode cX5_kinds 55 = .ok (.iload 6, 2) := by decide +kernel
theorem dX5_kinds_57 : decode cX5_kinds 57 = .ok (.iastore, 1) := by decide +kernel
theorem dX5_kinds_58 : decode cX5_kinds 58 = .ok (.aload_n 0, 1) := by decide +kernel
theorem dX5_kinds_59 : decode cX5_kinds 59 = .ok (.invokevirtual 213, 3) := by decide +kernel
theorem dX5_kinds_62 : decode cX5_kinds 62 = .ok (.iload 5, 2) := by decide +kernel
theorem dX5_kinds_64 : decode cX5_kinds 64 = .ok (.aload_n 0, 1) := by decide +kernel
theorem dX5_kinds_65 : decode cX5_kinds 65 = .ok (.iload_n 2, 1) := by decide +kernel
theorem dX5_kinds_66 : decode cX5_kinds 66 = .ok (.invokevirtual 245, 3) := by decide +kernel
theorem dX5_kinds_69 : decode cX5_kinds 69 = .ok (.ifCond .eq 10, 3) := by decide +kernel
theorem dX5_kinds_72 : decode cX5_kinds 72 = .ok (.iconst 1, 1) := by decide +kernel
theorem dX5_kinds_73 : decode cX5_kinds 73 = .ok (.iload 6, 2) := by decide +kernel
theorem dX5_kinds_75 : decode cX5_kinds 75 = .ok (.ishl, 1) := by decide +kernel
theorem dX5_kinds_76 : decode cX5_kinds 76 = .ok (.goto 4, 3) := by decide +kernel
theorem dX5_kinds_79 : decode cX5_kinds 79 = .ok (.iconst 0, 1) := by decide +kernel
theorem dX5_kinds_80 : decode cX5_kinds 80 = .ok (.ior, 1) := by decide +kernel
theorem dX5_kinds_81 : decode cX5_kinds 81 = .ok (.istore 5, 2) := by decide +kernel
theorem dX5_kinds_83 : decode cX5_kinds 83 = .ok (.iinc 6 1, 3) := by decide +kernel
theorem dX5_kinds_86 : decode cX5_kinds 86 = .ok (.goto (-43), 3) := by decide +kernel
theorem dX5_kinds_89 : decode cX5_kinds 89 = .ok (.aload_n 0, 1) := by decide +kernel
theorem dX5_kinds_90 : decode cX5_kinds 90 = .ok (.getfield 29, 3) := by decide +kernel
theorem dX5_kinds_93 : decode cX5_kinds 93 = .ok (.iload_n 1, 1) := by decide +kernel
theorem dX5_kinds_94 : decode cX5_kinds 94 = .ok (.iload 4, 2) := by decide +kernel
theorem dX5_kinds_96 : decode cX5_kinds 96 = .ok (.iastore, 1) := by decide +kernel
theorem dX5_kinds_97 : decode cX5_kinds 97 = .ok (.iload 5, 2) := by decide +kernel
theorem dX5_kinds_99 : decode cX5_kinds 99 = .ok (.ireturn, 1) := by decide +kernel
theorem dX5_look_0 : decode cX5_look 0 = .ok (.aload_n 0, 1) := by decide +kernel
theorem dX5_look_1 : decode cX5_look 1 = .ok (.iload_n 1, 1) := by decide +kernel
theorem dX5_look_2 : decode cX5_look 2 = .ok (.invokevirtual 176, 3) := by decide +kernel
theorem dX5_look_5 : decode cX5_look 5 = .ok (.ifCond .ne 5, 3) := by decide +kernel
theorem dX5_look_8 : decode cX5_look 8 = .ok (.iconst (-1), 1) := by decide +kernel
theorem dX5_look_9 : decode cX5_look 9 = .ok (.ireturn, 1) := by decide +kernel
theorem dX5_look_10 : decode cX5_look 10 = .ok (.aload_n 0, 1) := by decide +kernel
theorem dX5_look_11 : decode cX5_look 11 = .ok (.getfield 29, 3) := by decide +kernel
theorem dX5_look_14 : decode cX5_look 14 = .ok (.iload_n 1, 1) := by decide +kernel
theorem dX5_look_15 : decode cX5_look 15 = .ok (.iaload, 1) := by decide +kernel
theorem dX5_look_16 : decode cX5_look 16 = .ok (.istore_n 2, 1) := by decide +kernel
theorem dX5_look_17 : decode cX5_look 17 = .ok (.iconst 0, 1) := by decide +kernel
theorem dX5_look_18 : decode cX5_look 18 = .ok (.istore_n 3, 1) := by decide +kernel
theorem dX5_look_19 : decode cX5_look 19 = .ok (.iload_n 3, 1) := by decide +kernel
theorem dX5_look_20 : decode cX5_look 20 = .ok (.bipush 6, 2) := by decide +kernel
theorem dX5_look_22 : decode cX5_look 22 = .ok (.if_icmp .ge 53, 3) := by decide +kernel
theorem dX5_look_25 : decode cX5_look 25 = .ok (.aload_n 0, 1) := by decide +kernel
theorem dX5_look_26 : decode cX5_look 26 = .ok (.getfield 29, 3) := by decide +kernel
theorem dX5_look_29 : decode cX5_look 29 = .ok (.iload_n 1, 1) := by decide +kernel
theorem dX5_look_30 : decode cX5_look 30 = .ok (.iload_n 3, 1) := by decide +kernel
theorem dX5_look_31 : decode cX5_look 31 = .ok (.iastore, 1) := by decide +kernel
theorem dX5_look_32 : decode cX5_look 32 = .ok (.aload_n 0, 1) := by decide +kernel
theorem dX5_look_33 : decode cX5_look 33 = .ok (.invokevirtual 213, 3) := by decide +kernel
theorem dX5_look_36 : decode cX5_look 36 = .ok (.iconst 0, 1) := by decide +kernel
theorem dX5_look_37 : decode cX5_look 37 = .ok (.istore 4, 2) := by decide +kernel
theorem dX5_look_39 : decode cX5_look 39 = .ok (.iload 4, 2) := by decide +kernel
theorem dX5_look_41 : decode cX5_look 41 = .ok (.bipush 20, 2) := by decide +kernel
theorem dX5_look_43 : decode cX5_look 43 = .ok (.if_icmp .ge 26, 3) := by decide +kernel
theorem dX5_look_46 : decode cX5_look 46 = .ok (.aload_n 0, 1) := by decide +kernel
theorem dX5_look_47 : decode cX5_look 47 = .ok (.getfield 56, 3) := by decide +kernel
theorem dX5_look_50 : decode cX5_look 50 = .ok (.bipush 20, 2) := by decide +kernel
theorem dX5_look_52 : decode cX5_look 52 = .ok (.iload_n 3, 1) := by decide +kernel
theorem dX5_look_53 : decode cX5_look 53 = .ok (.imul, 1) := by decide +kernel
theorem dX5_look_54 : decode cX5_look 54 = .ok (.iload 4, 2) := by decide +kernel
theorem dX5_look_56 : decode cX5_look 56 = .ok (.iadd, 1) := by decide +kernel
theorem dX5_look_57 : decode cX5_look 57 = .ok (.aload_n 0, 1) := by decide +kernel
theorem dX5_look_58 : decode cX5_look 58 = .ok (.iconst 1, 1) := by decide +kernel
theorem dX5_look_59 : decode cX5_look 59 = .ok (.invokevirtual 225, 3) := by decide +kernel
theorem dX5_look_62 : decode cX5_look 62 = .ok (.iastore, 1) := by decide +kernel
theorem dX5_look_63 : decode cX5_look 63 = .ok (.iinc 4 1, 3) := by decide +kernel
theorem dX5_look_66 : decode cX5_look 66 = .ok (.goto (-27), 3) := by decide +kernel
theorem dX5_look_69 : decode cX5_look 69 = .ok (.iinc 3 1, 3) := by decide +kernel
theorem dX5_look_72 : decode cX5_look 72 = .ok (.goto (-53), 3) := by decide +kernel
theorem dX5_look_75 : decode cX5_look 75 = .ok (.aload_n 0, 1) := by decide +kernel
theorem dX5_look_76 : decode cX5_look 76 = .ok (.getfield 29, 3) := by decide +kernel
theorem dX5_look_79 : decode cX5_look 79 = .ok (.iload_n 1, 1) := by decide +kernel
theorem dX5_look_80 : decode cX5_look 80 = .ok (.iload_n 2, 1) := by decide +kernel
theorem dX5_look_81 : decode cX5_look 81 = .ok (.iastore, 1) := by decide +kernel
theorem dX5_look_82 : decode cX5_look 82 = .ok (.iconst 0, 1) := by decide +kernel
theorem dX5_look_83 : decode cX5_look 83 = .ok (.istore_n 3, 1) := by decide +kernel
theorem dX5_look_84 : decode cX5_look 84 = .ok (.bipush 7, 2) := by decide +kernel
theorem dX5_look_86 : decode cX5_look 86 = .ok (.istore 4, 2) := by decide +kernel
theorem dX5_look_88 : decode cX5_look 88 = .ok (.iconst 0, 1) := by decide +kernel
theorem dX5_look_89 : decode cX5_look 89 = .ok (.istore 5, 2) := by decide +kernel
theorem dX5_look_91 : decode cX5_look 91 = .ok (.iload 5, 2) := by decide +kernel
theorem dX5_look_93 : decode cX5_look 93 = .ok (.bipush 20, 2) := by decide +kernel
theorem dX5_look_95 : decode cX5_look 95 = .ok (.if_icmp .ge 134, 3) := by decide +kernel
theorem dX5_look_98 : decode cX5_look 98 = .ok (.iconst 0, 1) := by decide +kernel
theorem dX5_look_99 : decode cX5_look 99 = .ok (.istore 6, 2) := by decide +kernel
theorem dX5_look_101 : decode cX5_look 101 = .ok (.iconst 0, 1) := by decide +kernel
theorem dX5_look_102 : decode cX5_look 102 = .ok (.istore 7, 2) := by decide +kernel
theorem dX5_look_104 : decode cX5_look 104 = .ok (.iload 7, 2) := by decide +kernel
theorem dX5_look_106 : decode cX5_look 106 = .ok (.bipush 6, 2) := by decide +kernel
theorem dX5_look_108 : decode cX5_look 108 = .ok (.if_icmp .ge 83, 3) := by decide +kernel
theorem dX5_look_111 : decode cX5_look 111 = .ok (.iconst 0, 1) := by decide +kernel
theorem dX5_look_112 : decode cX5_look 112 = .ok (.istore 8, 2) := by decide +kernel
theorem dX5_look_114 : decode cX5_look 114 = .ok (.iconst 0, 1) := by decide +kernel
theorem dX5_look_115 : decode cX5_look 115 = .ok (.istore 9, 2) := by decide +kernel
theorem dX5_look_117 : decode cX5_look 117 = .ok (.iload 9, 2) := by decide +kernel
theorem dX5_look_119 : decode cX5_look 119 = .ok (.bipush 6, 2) := by decide +kernel
theorem dX5_look_121 : decode cX5_look 121 = .ok (.if_icmp .ge 48, 3) := by decide +kernel
theorem dX5_look_124 : decode cX5_look 124 = .ok (.iload 8, 2) := by decide +kernel
theorem dX5_look_126 : decode cX5_look 126 = .ok (.aload_n 0, 1) := by decide +kernel
theorem dX5_look_127 : decode cX5_look 127 = .ok (.getfield 56, 3) := by decide +kernel
theorem dX5_look_130 : decode cX5_look 130 = .ok (.bipush 20, 2) := by decide +kernel
theorem dX5_look_132 : decode cX5_look 132 = .ok (.iload 7, 2) := by decide +kernel
theorem dX5_look_134 : decode cX5_look 134 = .ok (.imul, 1) := by decide +kernel
theorem dX5_look_135 : decode cX5_look 135 = .ok (.iload 5, 2) := by decide +kernel
theorem dX5_look_137 : decode cX5_look 137 = .ok (.iadd, 1) := by decide +kernel
theorem dX5_look_138 : decode cX5_look 138 = .ok (.iaload, 1) := by decide +kernel
theorem dX5_look_139 : decode cX5_look 139 = .ok (.aload_n 0, 1) := by decide +kernel
theorem dX5_look_140 : decode cX5_look 140 = .ok (.getfield 56, 3) := by decide +kernel
theorem dX5_look_143 : decode cX5_look 143 = .ok (.bipush 20, 2) := by decide +kernel
theorem dX5_look_145 : decode cX5_look 145 = .ok (.iload 9, 2) := by decide +kernel
theorem dX5_look_147 : decode cX5_look 147 = .ok (.imul, 1) := by decide +kernel
theorem dX5_look_148 : decode cX5_look 148 = .ok (.iload 5, 2) := by decide +kernel
theorem dX5_look_150 : decode cX5_look 150 = .ok (.iadd, 1) := by decide +kernel
theorem dX5_look_151 : decode cX5_look 151 = .ok (.iaload, 1) := by decide +kernel
theorem dX5_look_152 : decode cX5_look 152 = .ok (.if_icmp .ne 7, 3) := by decide +kernel
theorem dX5_look_155 : decode cX5_look 155 = .ok (.iconst 1, 1) := by decide +kernel
theorem dX5_look_156 : decode cX5_look 156 = .ok (.goto 4, 3) := by decide +kernel
theorem dX5_look_159 : decode cX5_look 159 = .ok (.iconst 0, 1) := by decide +kernel
theorem dX5_look_160 : decode cX5_look 160 = .ok (.iadd, 1) := by decide +kernel
theorem dX5_look_161 : decode cX5_look 161 = .ok (.istore 8, 2) := by decide +kernel
theorem dX5_look_163 : decode cX5_look 163 = .ok (.iinc 9 1, 3) := by decide +kernel
theorem dX5_look_166 : decode cX5_look 166 = .ok (.goto (-49), 3) := by decide +kernel
theorem dX5_look_169 : decode cX5_look 169 = .ok (.iload 8, 2) := by decide +kernel
theorem dX5_look_171 : decode cX5_look 171 = .ok (.iload 6, 2) := by decide +kernel
theorem dX5_look_173 : decode cX5_look 173 = .ok (.if_icmp .le 8, 3) := by decide +kernel
theorem dX5_look_176 : decode cX5_look 176 = .ok (.iload 8, 2) := by decide +kernel
theorem dX5_look_178 : decode cX5_look 178 = .ok (.goto 5, 3) := by decide +kernel
theorem dX5_look_181 : decode cX5_look 181 = .ok (.iload 6, 2) := by decide +kernel
theorem dX5_look_183 : decode cX5_look 183 = .ok (.istore 6, 2) := by decide +kernel
theorem dX5_look_185 : decode cX5_look 185 = .ok (.iinc 7 1, 3) := by decide +kernel
theorem dX5_look_188 : decode cX5_look 188 = .ok (.goto (-84), 3) := by decide +kernel
theorem dX5_look_191 : decode cX5_look 191 = .ok (.iload 6, 2) := by decide +kernel
theorem dX5_look_193 : decode cX5_look 193 = .ok (.iload 4, 2) := by decide +kernel
theorem dX5_look_195 : decode cX5_look 195 = .ok (.if_icmp .ge 10, 3) := by decide +kernel
theorem dX5_look_198 : decode cX5_look 198 = .ok (.iload 5, 2) := by decide +kernel
theorem dX5_look_200 : decode cX5_look 200 = .ok (.iconst 1, 1) := by decide +kernel
theorem dX5_look_201 : decode cX5_look 201 = .ok (.iadd, 1) := by decide +kernel
theorem dX5_look_202 : decode cX5_look 202 = .ok (.goto 4, 3) := by decide +kernel
theorem dX5_look_205 : decode cX5_look 205 = .ok (.iload_n 3, 1) := by decide +kernel
theorem dX5_look_206 : decode cX5_look 206 = .ok (.istore_n 3, 1) := by decide +kernel
theorem dX5_look_207 : decode cX5_look 207 = .ok (.iload 6, 2) := by decide +kernel
theorem dX5_look_209 : decode cX5_look 209 = .ok (.iload 4, 2) := by decide +kernel
theorem dX5_look_211 : decode cX5_look 211 = .ok (.if_icmp .ge 8, 3) := by decide +kernel
theorem dX5_look_214 : decode cX5_look 214 = .ok (.iload 6, 2) := by decide +kernel
theorem dX5_look_216 : decode cX5_look 216 = .ok (.goto 5, 3) := by decide +kernel
theorem dX5_look_219 : decode cX5_look 219 = .ok (.iload 4, 2) := by decide +kernel
theorem dX5_look_221 : decode cX5_look 221 = .ok (.istore 4, 2) := by decide +kernel
theorem dX5_look_223 : decode cX5_look 223 = .ok (.iinc 5 1, 3) := by decide +kernel
theorem dX5_look_226 : decode cX5_look 226 = .ok (.goto (-135), 3) := by decide +kernel
theorem dX5_look_229 : decode cX5_look 229 = .ok (.aload_n 0, 1) := by decide +kernel
theorem dX5_look_230 : decode cX5_look 230 = .ok (.iload_n 3, 1) := by decide +kernel
theorem dX5_look_231 : decode cX5_look 231 = .ok (.iload 4, 2) := by decide +kernel
theorem dX5_look_233 : decode cX5_look 233 = .ok (.invokevirtual 216, 3) := by decide +kernel
theorem dX5_look_236 : decode cX5_look 236 = .ok (.ireturn, 1) := by decide +kernel
theorem dX5_weighs_0 : decode cX5_weighs 0 = .ok (.aload_n 0, 1) := by decide +kernel
theorem dX5_weighs_1 : decode cX5_weighs 1 = .ok (.getfield 59, 3) := by decide +kernel
theorem dX5_weighs_4 : decode cX5_weighs 4 = .ok (.iload_n 1, 1) := by decide +kernel
theorem dX5_weighs_5 : decode cX5_weighs 5 = .ok (.iaload, 1) := by decide +kernel
theorem dX5_weighs_6 : decode cX5_weighs 6 = .ok (.istore_n 3, 1) := by decide +kernel
theorem dX5_weighs_7 : decode cX5_weighs 7 = .ok (.iconst 0, 1) := by decide +kernel
theorem dX5_weighs_8 : decode cX5_weighs 8 = .ok (.istore 4, 2) := by decide +kernel
theorem dX5_weighs_10 : decode cX5_weighs 10 = .ok (.iload 4, 2) := by decide +kernel
theorem dX5_weighs_12 : decode cX5_weighs 12 = .ok (.aload_n 0, 1) := by decide +kernel
theorem dX5_weighs_13 : decode cX5_weighs 13 = .ok (.getfield 97, 3) := by decide +kernel
theorem dX5_weighs_16 : decode cX5_weighs 16 = .ok (.if_icmp .ge 68, 3) := by decide +kernel
theorem dX5_weighs_19 : decode cX5_weighs 19 = .ok (.iload_n 1, 1) := by decide +kernel
theorem dX5_weighs_20 : decode cX5_weighs 20 = .ok (.iload 4, 2) := by decide +kernel
theorem dX5_weighs_22 : decode cX5_weighs 22 = .ok (.invokestatic 165, 3) := by decide +kernel
theorem dX5_weighs_25 : decode cX5_weighs 25 = .ok (.iload_n 2, 1) := by decide +kernel
theorem dX5_weighs_26 : decode cX5_weighs 26 = .ok (.if_icmp .ne 17, 3) := by decide +kernel
theorem dX5_weighs_29 : decode cX5_weighs 29 = .ok (.aload_n 0, 1) := by decide +kernel
theorem dX5_weighs_30 : decode cX5_weighs 30 = .ok (.getfield 59, 3) := by decide +kernel
theorem dX5_weighs_33 : decode cX5_weighs 33 = .ok (.iload_n 1, 1) := by decide +kernel
theorem dX5_weighs_34 : decode cX5_weighs 34 = .ok (.iconst 1, 1) := by decide +kernel
theorem dX5_weighs_35 : decode cX5_weighs 35 = .ok (.iload 4, 2) := by decide +kernel
theorem dX5_weighs_37 : decode cX5_weighs 37 = .ok (.ishl, 1) := by decide +kernel
theorem dX5_weighs_38 : decode cX5_weighs 38 = .ok (.ixor, 1) := by decide +kernel
theorem dX5_weighs_39 : decode cX5_weighs 39 = .ok (.iaload, 1) := by decide +kernel
theorem dX5_weighs_40 : decode cX5_weighs 40 = .ok (.goto 4, 3) := by decide +kernel
theorem dX5_weighs_43 : decode cX5_weighs 43 = .ok (.iload_n 3, 1) := by decide +kernel
theorem dX5_weighs_44 : decode cX5_weighs 44 = .ok (.istore 5, 2) := by decide +kernel
theorem dX5_weighs_46 : decode cX5_weighs 46 = .ok (.iload_n 2, 1) := by decide +kernel
theorem dX5_weighs_47 : decode cX5_weighs 47 = .ok (.ifCond .eq 18, 3) := by decide +kernel
theorem dX5_weighs_50 : decode cX5_weighs 50 = .ok (.iload 5, 2) := by decide +kernel
theorem dX5_weighs_52 : decode cX5_weighs 52 = .ok (.iload_n 3, 1) := by decide +kernel
theorem dX5_weighs_53 : decode cX5_weighs 53 = .ok (.if_icmp .le 8, 3) := by decide +kernel
theorem dX5_weighs_56 : decode cX5_weighs 56 = .ok (.iload 5, 2) := by decide +kernel
theorem dX5_weighs_58 : decode cX5_weighs 58 = .ok (.goto 19, 3) := by decide +kernel
theorem dX5_weighs_61 : decode cX5_weighs 61 = .ok (.iload_n 3, 1) := by decide +kernel
theorem dX5_weighs_62 : decode cX5_weighs 62 = .ok (.goto 15, 3) := by decide +kernel
theorem dX5_weighs_65 : decode cX5_weighs 65 = .ok (.iload 5, 2) := by decide +kernel
theorem dX5_weighs_67 : decode cX5_weighs 67 = .ok (.iload_n 3, 1) := by decide +kernel
theorem dX5_weighs_68 : decode cX5_weighs 68 = .ok (.if_icmp .ge 8, 3) := by decide +kernel
theorem dX5_weighs_71 : decode cX5_weighs 71 = .ok (.iload 5, 2) := by decide +kernel
theorem dX5_weighs_73 : decode cX5_weighs 73 = .ok (.goto 4, 3) := by decide +kernel
theorem dX5_weighs_76 : decode cX5_weighs 76 = .ok (.iload_n 3, 1) := by decide +kernel
theorem dX5_weighs_77 : decode cX5_weighs 77 = .ok (.istore_n 3, 1) := by decide +kernel
theorem dX5_weighs_78 : decode cX5_weighs 78 = .ok (.iinc 4 1, 3) := by decide +kernel
theorem dX5_weighs_81 : decode cX5_weighs 81 = .ok (.goto (-71), 3) := by decide +kernel
theorem dX5_weighs_84 : decode cX5_weighs 84 = .ok (.iload_n 3, 1) := by decide +kernel
theorem dX5_weighs_85 : decode cX5_weighs 85 = .ok (.ireturn, 1) := by decide +kernel
theorem dX5_duel_0 : decode cX5_duel 0 = .ok (.iload_n 1, 1) := by decide +kernel
theorem dX5_duel_1 : decode cX5_duel 1 = .ok (.i2l, 1) := by decide +kernel
theorem dX5_duel_2 : decode cX5_duel 2 = .ok (.lconst 0, 1) := by decide +kernel
theorem dX5_duel_3 : decode cX5_duel 3 = .ok (.ldc2_w 179, 3) := by decide +kernel
theorem dX5_duel_6 : decode cX5_duel 6 = .ok (.invokestatic 77, 3) := by decide +kernel
theorem dX5_duel_9 : decode cX5_duel 9 = .ok (.ifCond .ne 5, 3) := by decide +kernel
theorem dX5_duel_12 : decode cX5_duel 12 = .ok (.iconst (-1), 1) := by decide +kernel
theorem dX5_duel_13 : decode cX5_duel 13 = .ok (.ireturn, 1) := by decide +kernel
theorem dX5_duel_14 : decode cX5_duel 14 = .ok (.aload_n 0, 1) := by decide +kernel
theorem dX5_duel_15 : decode cX5_duel 15 = .ok (.getfield 97, 3) := by decide +kernel
theorem dX5_duel_18 : decode cX5_duel 18 = .ok (.ifCond .ne 6, 3) := by decide +kernel
theorem dX5_duel_21 : decode cX5_duel 21 = .ok (.bipush (-4), 2) := by decide +kernel
theorem dX5_duel_23 : decode cX5_duel 23 = .ok (.ireturn, 1) := by decide +kernel
theorem dX5_duel_24 : decode cX5_duel 24 = .ok (.iconst 1, 1) := by decide +kernel
theorem dX5_duel_25 : decode cX5_duel 25 = .ok (.aload_n 0, 1) := by decide +kernel
theorem dX5_duel_26 : decode cX5_duel 26 = .ok (.getfield 97, 3) := by decide +kernel
theorem dX5_duel_29 : decode cX5_duel 29 = .ok (.ishl, 1) := by decide +kernel
theorem dX5_duel_30 : decode cX5_duel 30 = .ok (.istore_n 2, 1) := by decide +kernel
theorem dX5_duel_31 : decode cX5_duel 31 = .ok (.iconst 0, 1) := by decide +kernel
theorem dX5_duel_32 : decode cX5_duel 32 = .ok (.istore_n 3, 1) := by decide +kernel
theorem dX5_duel_33 : decode cX5_duel 33 = .ok (.iload_n 3, 1) := by decide +kernel
theorem dX5_duel_34 : decode cX5_duel 34 = .ok (.iload_n 2, 1) := by decide +kernel
theorem dX5_duel_35 : decode cX5_duel 35 = .ok (.if_icmp .ge 32, 3) := by decide +kernel
theorem dX5_duel_38 : decode cX5_duel 38 = .ok (.aload_n 0, 1) := by decide +kernel
theorem dX5_duel_39 : decode cX5_duel 39 = .ok (.invokevirtual 213, 3) := by decide +kernel
theorem dX5_duel_42 : decode cX5_duel 42 = .ok (.aload_n 0, 1) := by decide +kernel
theorem dX5_duel_43 : decode cX5_duel 43 = .ok (.getfield 38, 3) := by decide +kernel
theorem dX5_duel_46 : decode cX5_duel 46 = .ok (.iconst 2, 1) := by decide +kernel
theorem dX5_duel_47 : decode cX5_duel 47 = .ok (.iload_n 3, 1) := by decide +kernel
theorem dX5_duel_48 : decode cX5_duel 48 = .ok (.iastore, 1) := by decide +kernel
theorem dX5_duel_49 : decode cX5_duel 49 = .ok (.aload_n 0, 1) := by decide +kernel
theorem dX5_duel_50 : decode cX5_duel 50 = .ok (.getfield 59, 3) := by decide +kernel
theorem dX5_duel_53 : decode cX5_duel 53 = .ok (.iload_n 3, 1) := by decide +kernel
theorem dX5_duel_54 : decode cX5_duel 54 = .ok (.aload_n 0, 1) := by decide +kernel
theorem dX5_duel_55 : decode cX5_duel 55 = .ok (.bipush 20, 2) := by decide +kernel
theorem dX5_duel_57 : decode cX5_duel 57 = .ok (.invokevirtual 225, 3) := by decide +kernel
theorem dX5_duel_60 : decode cX5_duel 60 = .ok (.iastore, 1) := by decide +kernel
theorem dX5_duel_61 : decode cX5_duel 61 = .ok (.iinc 3 1, 3) := by decide +kernel
theorem dX5_duel_64 : decode cX5_duel 64 = .ok (.goto (-31), 3) := by decide +kernel
theorem dX5_duel_67 : decode cX5_duel 67 = .ok (.iload_n 1, 1) := by decide +kernel
theorem dX5_duel_68 : decode cX5_duel 68 = .ok (.istore_n 3, 1) := by decide +kernel
theorem dX5_duel_69 : decode cX5_duel 69 = .ok (.iload_n 3, 1) := by decide +kernel
theorem dX5_duel_70 : decode cX5_duel 70 = .ok (.ifCond .le 63, 3) := by decide +kernel
theorem dX5_duel_73 : decode cX5_duel 73 = .ok (.iconst 0, 1) := by decide +kernel
theorem dX5_duel_74 : decode cX5_duel 74 = .ok (.istore 4, 2) := by decide +kernel
theorem dX5_duel_76 : decode cX5_duel 76 = .ok (.iload 4, 2) := by decide +kernel
theorem dX5_duel_78 : decode cX5_duel 78 = .ok (.iload_n 2, 1) := by decide +kernel
theorem dX5_duel_79 : decode cX5_duel 79 = .ok (.if_icmp .ge 34, 3) := by decide +kernel
theorem dX5_duel_82 : decode cX5_duel 82 = .ok (.aload_n 0, 1) := by decide +kernel
theorem dX5_duel_83 : decode cX5_duel 83 = .ok (.getfield 62, 3) := by decide +kernel
theorem dX5_duel_86 : decode cX5_duel 86 = .ok (.iload 4, 2) := by decide +kernel
theorem dX5_duel_88 : decode cX5_duel 88 = .ok (.aload_n 0, 1) := by decide +kernel
theorem dX5_duel_89 : decode cX5_duel 89 = .ok (.iload 4, 2) := by decide +kernel
theorem dX5_duel_91 : decode cX5_duel 91 = .ok (.iload_n 3, 1) := by decide +kernel
theorem dX5_duel_92 : decode cX5_duel 92 = .ok (.iconst 2, 1) := by decide +kernel
theorem dX5_duel_93 : decode cX5_duel 93 = .ok (.irem, 1) := by decide +kernel
theorem dX5_duel_94 : decode cX5_duel 94 = .ok (.iconst 1, 1) := by decide +kernel
theorem dX5_duel_95 : decode cX5_duel 95 = .ok (.if_icmp .ne 7, 3) := by decide +kernel
theorem dX5_duel_98 : decode cX5_duel 98 = .ok (.iconst 1, 1) := by decide +kernel
theorem dX5_duel_99 : decode cX5_duel 99 = .ok (.goto 4, 3) := by decide +kernel
theorem dX5_duel_102 : decode cX5_duel 102 = .ok (.iconst 0, 1) := by decide +kernel
theorem dX5_duel_103 : decode cX5_duel 103 = .ok (.invokevirtual 248, 3) := by decide +kernel
theorem dX5_duel_106 : decode cX5_duel 106 = .ok (.iastore, 1) := by decide +kernel
theorem dX5_duel_107 : decode cX5_duel 107 = .ok (.iinc 4 1, 3) := by decide +kernel
theorem dX5_duel_110 : decode cX5_duel 110 = .ok (.goto (-34), 3) := by decide +kernel
theorem dX5_duel_113 : decode cX5_duel 113 = .ok (.aload_n 0, 1) := by decide +kernel
theorem dX5_duel_114 : decode cX5_duel 114 = .ok (.getfield 62, 3) := by decide +kernel
theorem dX5_duel_117 : decode cX5_duel 117 = .ok (.iconst 0, 1) := by decide +kernel
theorem dX5_duel_118 : decode cX5_duel 118 = .ok (.aload_n 0, 1) := by decide +kernel
theorem dX5_duel_119 : decode cX5_duel 119 = .ok (.getfield 59, 3) := by decide +kernel
theorem dX5_duel_122 : decode cX5_duel 122 = .ok (.iconst 0, 1) := by decide +kernel
theorem dX5_duel_123 : decode cX5_duel 123 = .ok (.iload_n 2, 1) := by decide +kernel
theorem dX5_duel_124 : decode cX5_duel 124 = .ok (.invokestatic 197, 3) := by decide +kernel
theorem dX5_duel_127 : decode cX5_duel 127 = .ok (.iinc 3 (-1), 3) := by decide +kernel
theorem dX5_duel_130 : decode cX5_duel 130 = .ok (.goto (-61), 3) := by decide +kernel
theorem dX5_duel_133 : decode cX5_duel 133 = .ok (.aload_n 0, 1) := by decide +kernel
theorem dX5_duel_134 : decode cX5_duel 134 = .ok (.getfield 59, 3) := by decide +kernel
theorem dX5_duel_137 : decode cX5_duel 137 = .ok (.aload_n 0, 1) := by decide +kernel
theorem dX5_duel_138 : decode cX5_duel 138 = .ok (.getfield 35, 3) := by decide +kernel
theorem dX5_duel_141 : decode cX5_duel 141 = .ok (.iconst 2, 1) := by decide +kernel
theorem dX5_duel_142 : decode cX5_duel 142 = .ok (.iaload, 1) := by decide +kernel
theorem dX5_duel_143 : decode cX5_duel 143 = .ok (.iaload, 1) := by decide +kernel
theorem dX5_duel_144 : decode cX5_duel 144 = .ok (.ireturn, 1) := by decide +kernel
theorem dX5_fraction_0 : decode cX5_fraction 0 = .ok (.lload_n 1, 1) := by decide +kernel
theorem dX5_fraction_1 : decode cX5_fraction 1 = .ok (.lstore 5, 2) := by decide +kernel
theorem dX5_fraction_3 : decode cX5_fraction 3 = .ok (.lload_n 3, 1) := by decide +kernel
theorem dX5_fraction_4 : decode cX5_fraction 4 = .ok (.lstore 7, 2) := by decide +kernel
theorem dX5_fraction_6 : decode cX5_fraction 6 = .ok (.lload 7, 2) := by decide +kernel
theorem dX5_fraction_8 : decode cX5_fraction 8 = .ok (.lconst 0, 1) := by decide +kernel
theorem dX5_fraction_9 : decode cX5_fraction 9 = .ok (.lcmp, 1) := by decide +kernel
theorem dX5_fraction_10 : decode cX5_fraction 10 = .ok (.ifCond .eq 21, 3) := by decide +kernel
theorem dX5_fraction_13 : decode cX5_fraction 13 = .ok (.lload 5, 2) := by decide +kernel
theorem dX5_fraction_15 : decode cX5_fraction 15 = .ok (.lload 7, 2) := by decide +kernel
theorem dX5_fraction_17 : decode cX5_fraction 17 = .ok (.lrem, 1) := by decide +kernel
theorem dX5_fraction_18 : decode cX5_fraction 18 = .ok (.lstore 9, 2) := by decide +kernel
theorem dX5_fraction_20 : decode cX5_fraction 20 = .ok (.lload 7, 2) := by decide +kernel
theorem dX5_fraction_22 : decode cX5_fraction 22 = .ok (.lstore 5, 2) := by decide +kernel
theorem dX5_fraction_24 : decode cX5_fraction 24 = .ok (.lload 9, 2) := by decide +kernel
theorem dX5_fraction_26 : decode cX5_fraction 26 = .ok (.lstore 7, 2) := by decide +kernel
theorem dX5_fraction_28 : decode cX5_fraction 28 = .ok (.goto (-22), 3) := by decide +kernel
theorem dX5_fraction_31 : decode cX5_fraction 31 = .ok (.aload_n 0, 1) := by decide +kernel
theorem dX5_fraction_32 : decode cX5_fraction 32 = .ok (.lload_n 1, 1) := by decide +kernel
theorem dX5_fraction_33 : decode cX5_fraction 33 = .ok (.lload 5, 2) := by decide +kernel
theorem dX5_fraction_35 : decode cX5_fraction 35 = .ok (.ldiv, 1) := by decide +kernel
theorem dX5_fraction_36 : decode cX5_fraction 36 = .ok (.putfield 252, 3) := by decide +kernel
theorem dX5_fraction_39 : decode cX5_fraction 39 = .ok (.aload_n 0, 1) := by decide +kernel
theorem dX5_fraction_40 : decode cX5_fraction 40 = .ok (.lload_n 3, 1) := by decide +kernel
theorem dX5_fraction_41 : decode cX5_fraction 41 = .ok (.lload 5, 2) := by decide +kernel
theorem dX5_fraction_43 : decode cX5_fraction 43 = .ok (.ldiv, 1) := by decide +kernel
theorem dX5_fraction_44 : decode cX5_fraction 44 = .ok (.putfield 22, 3) := by decide +kernel
theorem dX5_fraction_47 : decode cX5_fraction 47 = .ok (.iconst 1, 1) := by decide +kernel
theorem dX5_fraction_48 : decode cX5_fraction 48 = .ok (.ireturn, 1) := by decide +kernel
theorem dX5_ways_0 : decode cX5_ways 0 = .ok (.lconst 0, 1) := by decide +kernel
theorem dX5_ways_1 : decode cX5_ways 1 = .ok (.lstore 4, 2) := by decide +kernel
theorem dX5_ways_3 : decode cX5_ways 3 = .ok (.iconst 0, 1) := by decide +kernel
theorem dX5_ways_4 : decode cX5_ways 4 = .ok (.istore 6, 2) := by decide +kernel
theorem dX5_ways_6 : decode cX5_ways 6 = .ok (.iload 6, 2) := by decide +kernel
theorem dX5_ways_8 : decode cX5_ways 8 = .ok (.iconst 1, 1) := by decide +kernel
theorem dX5_ways_9 : decode cX5_ways 9 = .ok (.aload_n 0, 1) := by decide +kernel
theorem dX5_ways_10 : decode cX5_ways 10 = .ok (.getfield 97, 3) := by decide +kernel
theorem dX5_ways_13 : decode cX5_ways 13 = .ok (.ishl, 1) := by decide +kernel
theorem dX5_ways_14 : decode cX5_ways 14 = .ok (.if_icmp .ge 141, 3) := by decide +kernel
theorem dX5_ways_17 : decode cX5_ways 17 = .ok (.iload 6, 2) := by decide +kernel
theorem dX5_ways_19 : decode cX5_ways 19 = .ok (.aload_n 0, 1) := by decide +kernel
theorem dX5_ways_20 : decode cX5_ways 20 = .ok (.getfield 35, 3) := by decide +kernel
theorem dX5_ways_23 : decode cX5_ways 23 = .ok (.iconst 2, 1) := by decide +kernel
theorem dX5_ways_24 : decode cX5_ways 24 = .ok (.iaload, 1) := by decide +kernel
theorem dX5_ways_25 : decode cX5_ways 25 = .ok (.iconst (-1), 1) := by decide +kernel
theorem dX5_ways_26 : decode cX5_ways 26 = .ok (.ixor, 1) := by decide +kernel
theorem dX5_ways_27 : decode cX5_ways 27 = .ok (.iand, 1) := by decide +kernel
theorem dX5_ways_28 : decode cX5_ways 28 = .ok (.ifCond .ne 121, 3) := by decide +kernel
theorem dX5_ways_31 : decode cX5_ways 31 = .ok (.lconst 1, 1) := by decide +kernel
theorem dX5_ways_32 : decode cX5_ways 32 = .ok (.lstore 7, 2) := by decide +kernel
theorem dX5_ways_34 : decode cX5_ways 34 = .ok (.iconst 0, 1) := by decide +kernel
theorem dX5_ways_35 : decode cX5_ways 35 = .ok (.istore 9, 2) := by decide +kernel
theorem dX5_ways_37 : decode cX5_ways 37 = .ok (.iload 9, 2) := by decide +kernel
theorem dX5_ways_39 : decode cX5_ways 39 = .ok (.aload_n 0, 1) := by decide +kernel
theorem dX5_ways_40 : decode cX5_ways 40 = .ok (.getfield 97, 3) := by decide +kernel
theorem dX5_ways_43 : decode cX5_ways 43 = .ok (.if_icmp .ge 53, 3) := by decide +kernel
theorem dX5_ways_46 : decode cX5_ways 46 = .ok (.lload 7, 2) := by decide +kernel
theorem dX5_ways_48 : decode cX5_ways 48 = .ok (.aload_n 0, 1) := by decide +kernel
theorem dX5_ways_49 : decode cX5_ways 49 = .ok (.getfield 35, 3) := by decide +kernel
theorem dX5_ways_52 : decode cX5_ways 52 = .ok (.iconst 2, 1) := by decide +kernel
theorem dX5_ways_53 : decode cX5_ways 53 = .ok (.iaload, 1) := by decide +kernel
theorem dX5_ways_54 : decode cX5_ways 54 = .ok (.iload 9, 2) := by decide +kernel
theorem dX5_ways_56 : decode cX5_ways 56 = .ok (.invokestatic 165, 3) := by decide +kernel
theorem dX5_ways_59 : decode cX5_ways 59 = .ok (.ifCond .ne 7, 3) := by decide +kernel
theorem dX5_ways_62 : decode cX5_ways 62 = .ok (.lconst 1, 1) := by decide +kernel
theorem dX5_ways_63 : decode cX5_ways 63 = .ok (.goto 24, 3) := by decide +kernel
theorem dX5_ways_66 : decode cX5_ways 66 = .ok (.iload 6, 2) := by decide +kernel
theorem dX5_ways_68 : decode cX5_ways 68 = .ok (.iload 9, 2) := by decide +kernel
theorem dX5_ways_70 : decode cX5_ways 70 = .ok (.invokestatic 165, 3) := by decide +kernel
theorem dX5_ways_73 : decode cX5_ways 73 = .ok (.ifCond .eq 8, 3) := by decide +kernel
theorem dX5_ways_76 : decode cX5_ways 76 = .ok (.iload_n 3, 1) := by decide +kernel
theorem dX5_ways_77 : decode cX5_ways 77 = .ok (.i2l, 1) := by decide +kernel
theorem dX5_ways_78 : decode cX5_ways 78 = .ok (.goto 9, 3) := by decide +kernel
theorem dX5_ways_81 : decode cX5_ways 81 = .ok (.ldc2_w 255, 3) := by decide +kernel
theorem dX5_ways_84 : decode cX5_ways 84 = .ok (.iload_n 3, 1) := by decide +kernel
theorem dX5_ways_85 : decode cX5_ways 85 = .ok (.i2l, 1) := by decide +kernel
theorem dX5_ways_86 : decode cX5_ways 86 = .ok (.lsub, 1) := by decide +kernel
theorem dX5_ways_87 : decode cX5_ways 87 = .ok (.lmul, 1) := by decide +kernel
theorem dX5_ways_88 : decode cX5_ways 88 = .ok (.lstore 7, 2) := by decide +kernel
theorem dX5_ways_90 : decode cX5_ways 90 = .ok (.iinc 9 1, 3) := by decide +kernel
theorem dX5_ways_93 : decode cX5_ways 93 = .ok (.goto (-56), 3) := by decide +kernel
theorem dX5_ways_96 : decode cX5_ways 96 = .ok (.aload_n 0, 1) := by decide +kernel
theorem dX5_ways_97 : decode cX5_ways 97 = .ok (.invokevirtual 213, 3) := by decide +kernel
theorem dX5_ways_100 : decode cX5_ways 100 = .ok (.aload_n 0, 1) := by decide +kernel
theorem dX5_ways_101 : decode cX5_ways 101 = .ok (.getfield 38, 3) := by decide +kernel
theorem dX5_ways_104 : decode cX5_ways 104 = .ok (.iconst 2, 1) := by decide +kernel
theorem dX5_ways_105 : decode cX5_ways 105 = .ok (.dup2, 1) := by decide +kernel
theorem dX5_ways_106 : decode cX5_ways 106 = .ok (.iaload, 1) := by decide +kernel
theorem dX5_ways_107 : decode cX5_ways 107 = .ok (.iload 6, 2) := by decide +kernel
theorem dX5_ways_109 : decode cX5_ways 109 = .ok (.ixor, 1) := by decide +kernel
theorem dX5_ways_110 : decode cX5_ways 110 = .ok (.iastore, 1) := by decide +kernel
theorem dX5_ways_111 : decode cX5_ways 111 = .ok (.aload_n 0, 1) := by decide +kernel
theorem dX5_ways_112 : decode cX5_ways 112 = .ok (.iload_n 1, 1) := by decide +kernel
theorem dX5_ways_113 : decode cX5_ways 113 = .ok (.invokevirtual 225, 3) := by decide +kernel
theorem dX5_ways_116 : decode cX5_ways 116 = .ok (.istore 9, 2) := by decide +kernel
theorem dX5_ways_118 : decode cX5_ways 118 = .ok (.lload 4, 2) := by decide +kernel
theorem dX5_ways_120 : decode cX5_ways 120 = .ok (.lload 7, 2) := by decide +kernel
theorem dX5_ways_122 : decode cX5_ways 122 = .ok (.iload_n 2, 1) := by decide +kernel
theorem dX5_ways_123 : decode cX5_ways 123 = .ok (.bipush (-9), 2) := by decide +kernel
theorem dX5_ways_125 : decode cX5_ways 125 = .ok (.if_icmp .ne 9, 3) := by decide +kernel
theorem dX5_ways_128 : decode cX5_ways 128 = .ok (.iload 9, 2) := by decide +kernel
theorem dX5_ways_130 : decode cX5_ways 130 = .ok (.i2l, 1) := by decide +kernel
theorem dX5_ways_131 : decode cX5_ways 131 = .ok (.goto 14, 3) := by decide +kernel
theorem dX5_ways_134 : decode cX5_ways 134 = .ok (.iload 9, 2) := by decide +kernel
theorem dX5_ways_136 : decode cX5_ways 136 = .ok (.iload_n 2, 1) := by decide +kernel
theorem dX5_ways_137 : decode cX5_ways 137 = .ok (.if_icmp .lt 7, 3) := by decide +kernel
theorem dX5_ways_140 : decode cX5_ways 140 = .ok (.lconst 1, 1) := by decide +kernel
theorem dX5_ways_141 : decode cX5_ways 141 = .ok (.goto 4, 3) := by decide +kernel
theorem dX5_ways_144 : decode cX5_ways 144 = .ok (.lconst 0, 1) := by decide +kernel
theorem dX5_ways_145 : decode cX5_ways 145 = .ok (.lmul, 1) := by decide +kernel
theorem dX5_ways_146 : decode cX5_ways 146 = .ok (.ladd, 1) := by decide +kernel
theorem dX5_ways_147 : decode cX5_ways 147 = .ok (.lstore 4, 2) := by decide +kernel
theorem dX5_ways_149 : decode cX5_ways 149 = .ok (.iinc 6 1, 3) := by decide +kernel
theorem dX5_ways_152 : decode cX5_ways 152 = .ok (.goto (-146), 3) := by decide +kernel
theorem dX5_ways_155 : decode cX5_ways 155 = .ok (.lload 4, 2) := by decide +kernel
theorem dX5_ways_157 : decode cX5_ways 157 = .ok (.lreturn, 1) := by decide +kernel
theorem dX5_allWays_0 : decode cX5_allWays 0 = .ok (.lconst 1, 1) := by decide +kernel
theorem dX5_allWays_1 : decode cX5_allWays 1 = .ok (.lstore_n 1, 1) := by decide +kernel
theorem dX5_allWays_2 : decode cX5_allWays 2 = .ok (.aload_n 0, 1) := by decide +kernel
theorem dX5_allWays_3 : decode cX5_allWays 3 = .ok (.getfield 35, 3) := by decide +kernel
theorem dX5_allWays_6 : decode cX5_allWays 6 = .ok (.iconst 2, 1) := by decide +kernel
theorem dX5_allWays_7 : decode cX5_allWays 7 = .ok (.iaload, 1) := by decide +kernel
theorem dX5_allWays_8 : decode cX5_allWays 8 = .ok (.istore_n 3, 1) := by decide +kernel
theorem dX5_allWays_9 : decode cX5_allWays 9 = .ok (.iload_n 3, 1) := by decide +kernel
theorem dX5_allWays_10 : decode cX5_allWays 10 = .ok (.ifCond .eq 18, 3) := by decide +kernel
theorem dX5_allWays_13 : decode cX5_allWays 13 = .ok (.lload_n 1, 1) := by decide +kernel
theorem dX5_allWays_14 : decode cX5_allWays 14 = .ok (.ldc2_w 255, 3) := by decide +kernel
theorem dX5_allWays_17 : decode cX5_allWays 17 = .ok (.lmul, 1) := by decide +kernel
theorem dX5_allWays_18 : decode cX5_allWays 18 = .ok (.lstore_n 1, 1) := by decide +kernel
theorem dX5_allWays_19 : decode cX5_allWays 19 = .ok (.iload_n 3, 1) := by decide +kernel
theorem dX5_allWays_20 : decode cX5_allWays 20 = .ok (.iload_n 3, 1) := by decide +kernel
theorem dX5_allWays_21 : decode cX5_allWays 21 = .ok (.iconst 1, 1) := by decide +kernel
theorem dX5_allWays_22 : decode cX5_allWays 22 = .ok (.isub, 1) := by decide +kernel
theorem dX5_allWays_23 : decode cX5_allWays 23 = .ok (.iand, 1) := by decide +kernel
theorem dX5_allWays_24 : decode cX5_allWays 24 = .ok (.istore_n 3, 1) := by decide +kernel
theorem dX5_allWays_25 : decode cX5_allWays 25 = .ok (.goto (-16), 3) := by decide +kernel
theorem dX5_allWays_28 : decode cX5_allWays 28 = .ok (.lload_n 1, 1) := by decide +kernel
theorem dX5_allWays_29 : decode cX5_allWays 29 = .ok (.lreturn, 1) := by decide +kernel
theorem dX5_odds_0 : decode cX5_odds 0 = .ok (.iload_n 1, 1) := by decide +kernel
theorem dX5_odds_1 : decode cX5_odds 1 = .ok (.i2l, 1) := by decide +kernel
theorem dX5_odds_2 : decode cX5_odds 2 = .ok (.lconst 0, 1) := by decide +kernel
theorem dX5_odds_3 : decode cX5_odds 3 = .ok (.ldc2_w 257, 3) := by decide +kernel
theorem dX5_odds_6 : decode cX5_odds 6 = .ok (.invokestatic 77, 3) := by decide +kernel
theorem dX5_odds_9 : decode cX5_odds 9 = .ok (.ifCond .eq 27, 3) := by decide +kernel
theorem dX5_odds_12 : decode cX5_odds 12 = .ok (.iload_n 2, 1) := by decide +kernel
theorem dX5_odds_13 : decode cX5_odds 13 = .ok (.i2l, 1) := by decide +kernel
theorem dX5_odds_14 : decode cX5_odds 14 = .ok (.lconst 0, 1) := by decide +kernel
theorem dX5_odds_15 : decode cX5_odds 15 = .ok (.ldc2_w 231, 3) := by decide +kernel
theorem dX5_odds_18 : decode cX5_odds 18 = .ok (.invokestatic 77, 3) := by decide +kernel
theorem dX5_odds_21 : decode cX5_odds 21 = .ok (.ifCond .eq 15, 3) := by decide +kernel
theorem dX5_odds_24 : decode cX5_odds 24 = .ok (.iload_n 3, 1) := by decide +kernel
theorem dX5_odds_25 : decode cX5_odds 25 = .ok (.i2l, 1) := by decide +kernel
theorem dX5_odds_26 : decode cX5_odds 26 = .ok (.lconst 0, 1) := by decide +kernel
theorem dX5_odds_27 : decode cX5_odds 27 = .ok (.ldc2_w 255, 3) := by decide +kernel
theorem dX5_odds_30 : decode cX5_odds 30 = .ok (.invokestatic 77, 3) := by decide +kernel
theorem dX5_odds_33 : decode cX5_odds 33 = .ok (.ifCond .ne 5, 3) := by decide +kernel
theorem dX5_odds_36 : decode cX5_odds 36 = .ok (.iconst (-1), 1) := by decide +kernel
theorem dX5_odds_37 : decode cX5_odds 37 = .ok (.ireturn, 1) := by decide +kernel
theorem dX5_odds_38 : decode cX5_odds 38 = .ok (.aload_n 0, 1) := by decide +kernel
theorem dX5_odds_39 : decode cX5_odds 39 = .ok (.getfield 97, 3) := by decide +kernel
theorem dX5_odds_42 : decode cX5_odds 42 = .ok (.ifCond .ne 8, 3) := by decide +kernel
theorem dX5_odds_45 : decode cX5_odds 45 = .ok (.bipush (-4), 2) := by decide +kernel
theorem dX5_odds_47 : decode cX5_odds 47 = .ok (.goto 18, 3) := by decide +kernel
theorem dX5_odds_50 : decode cX5_odds 50 = .ok (.aload_n 0, 1) := by decide +kernel
theorem dX5_odds_51 : decode cX5_odds 51 = .ok (.aload_n 0, 1) := by decide +kernel
theorem dX5_odds_52 : decode cX5_odds 52 = .ok (.iload_n 1, 1) := by decide +kernel
theorem dX5_odds_53 : decode cX5_odds 53 = .ok (.iload_n 2, 1) := by decide +kernel
theorem dX5_odds_54 : decode cX5_odds 54 = .ok (.iload_n 3, 1) := by decide +kernel
theorem dX5_odds_55 : decode cX5_odds 55 = .ok (.invokevirtual 259, 3) := by decide +kernel
theorem dX5_odds_58 : decode cX5_odds 58 = .ok (.aload_n 0, 1) := by decide +kernel
theorem dX5_odds_59 : decode cX5_odds 59 = .ok (.invokevirtual 263, 3) := by decide +kernel
theorem dX5_odds_62 : decode cX5_odds 62 = .ok (.invokevirtual 267, 3) := by decide +kernel
theorem dX5_odds_65 : decode cX5_odds 65 = .ok (.ireturn, 1) := by decide +kernel
theorem dX5_mid_0 : decode cX5_mid 0 = .ok (.iload_n 1, 1) := by decide +kernel
theorem dX5_mid_1 : decode cX5_mid 1 = .ok (.i2l, 1) := by decide +kernel
theorem dX5_mid_2 : decode cX5_mid 2 = .ok (.lconst 0, 1) := by decide +kernel
theorem dX5_mid_3 : decode cX5_mid 3 = .ok (.ldc2_w 257, 3) := by decide +kernel
theorem dX5_mid_6 : decode cX5_mid 6 = .ok (.invokestatic 77, 3) := by decide +kernel
theorem dX5_mid_9 : decode cX5_mid 9 = .ok (.ifCond .eq 15, 3) := by decide +kernel
theorem dX5_mid_12 : decode cX5_mid 12 = .ok (.iload_n 2, 1) := by decide +kernel
theorem dX5_mid_13 : decode cX5_mid 13 = .ok (.i2l, 1) := by decide +kernel
theorem dX5_mid_14 : decode cX5_mid 14 = .ok (.lconst 0, 1) := by decide +kernel
theorem dX5_mid_15 : decode cX5_mid 15 = .ok (.ldc2_w 255, 3) := by decide +kernel
theorem dX5_mid_18 : decode cX5_mid 18 = .ok (.invokestatic 77, 3) := by decide +kernel
theorem dX5_mid_21 : decode cX5_mid 21 = .ok (.ifCond .ne 5, 3) := by decide +kernel
theorem dX5_mid_24 : decode cX5_mid 24 = .ok (.iconst (-1), 1) := by decide +kernel
theorem dX5_mid_25 : decode cX5_mid 25 = .ok (.ireturn, 1) := by decide +kernel
theorem dX5_mid_26 : decode cX5_mid 26 = .ok (.aload_n 0, 1) := by decide +kernel
theorem dX5_mid_27 : decode cX5_mid 27 = .ok (.getfield 97, 3) := by decide +kernel
theorem dX5_mid_30 : decode cX5_mid 30 = .ok (.ifCond .ne 8, 3) := by decide +kernel
theorem dX5_mid_33 : decode cX5_mid 33 = .ok (.bipush (-4), 2) := by decide +kernel
theorem dX5_mid_35 : decode cX5_mid 35 = .ok (.goto 19, 3) := by decide +kernel
theorem dX5_mid_38 : decode cX5_mid 38 = .ok (.aload_n 0, 1) := by decide +kernel
theorem dX5_mid_39 : decode cX5_mid 39 = .ok (.aload_n 0, 1) := by decide +kernel
theorem dX5_mid_40 : decode cX5_mid 40 = .ok (.iload_n 1, 1) := by decide +kernel
theorem dX5_mid_41 : decode cX5_mid 41 = .ok (.bipush (-9), 2) := by decide +kernel
theorem dX5_mid_43 : decode cX5_mid 43 = .ok (.iload_n 2, 1) := by decide +kernel
theorem dX5_mid_44 : decode cX5_mid 44 = .ok (.invokevirtual 259, 3) := by decide +kernel
theorem dX5_mid_47 : decode cX5_mid 47 = .ok (.aload_n 0, 1) := by decide +kernel
theorem dX5_mid_48 : decode cX5_mid 48 = .ok (.invokevirtual 263, 3) := by decide +kernel
theorem dX5_mid_51 : decode cX5_mid 51 = .ok (.invokevirtual 267, 3) := by decide +kernel
theorem dX5_mid_54 : decode cX5_mid 54 = .ok (.ireturn, 1) := by decide +kernel
theorem dX5_lot_0 : decode cX5_lot 0 = .ok (.iload_n 1, 1) := by decide +kernel
theorem dX5_lot_1 : decode cX5_lot 1 = .ok (.bipush 8, 2) := by decide +kernel
theorem dX5_lot_3 : decode cX5_lot 3 = .ok (.idiv, 1) := by decide +kernel
theorem dX5_lot_4 : decode cX5_lot 4 = .ok (.aload_n 0, 1) := by decide +kernel
theorem dX5_lot_5 : decode cX5_lot 5 = .ok (.getfield 97, 3) := by decide +kernel
theorem dX5_lot_8 : decode cX5_lot 8 = .ok (.irem, 1) := by decide +kernel
theorem dX5_lot_9 : decode cX5_lot 9 = .ok (.istore_n 2, 1) := by decide +kernel
theorem dX5_lot_10 : decode cX5_lot 10 = .ok (.aload_n 0, 1) := by decide +kernel
theorem dX5_lot_11 : decode cX5_lot 11 = .ok (.invokevirtual 201, 3) := by decide +kernel
theorem dX5_lot_14 : decode cX5_lot 14 = .ok (.iload_n 1, 1) := by decide +kernel
theorem dX5_lot_15 : decode cX5_lot 15 = .ok (.iconst 4, 1) := by decide +kernel
theorem dX5_lot_16 : decode cX5_lot 16 = .ok (.irem, 1) := by decide +kernel
theorem dX5_lot_17 : decode cX5_lot 17 = .ok (.ifCond .ne 18, 3) := by decide +kernel
theorem dX5_lot_20 : decode cX5_lot 20 = .ok (.aload_n 0, 1) := by decide +kernel
theorem dX5_lot_21 : decode cX5_lot 21 = .ok (.getfield 35, 3) := by decide +kernel
theorem dX5_lot_24 : decode cX5_lot 24 = .ok (.iconst 2, 1) := by decide +kernel
theorem dX5_lot_25 : decode cX5_lot 25 = .ok (.dup2, 1) := by decide +kernel
theorem dX5_lot_26 : decode cX5_lot 26 = .ok (.iaload, 1) := by decide +kernel
theorem dX5_lot_27 : decode cX5_lot 27 = .ok (.iconst 1, 1) := by decide +kernel
theorem dX5_lot_28 : decode cX5_lot 28 = .ok (.iload_n 2, 1) := by decide +kernel
theorem dX5_lot_29 : decode cX5_lot 29 = .ok (.ishl, 1) := by decide +kernel
theorem dX5_lot_30 : decode cX5_lot 30 = .ok (.ixor, 1) := by decide +kernel
theorem dX5_lot_31 : decode cX5_lot 31 = .ok (.iastore, 1) := by decide +kernel
theorem dX5_lot_32 : decode cX5_lot 32 = .ok (.goto 48, 3) := by decide +kernel
theorem dX5_lot_35 : decode cX5_lot 35 = .ok (.iload_n 1, 1) := by decide +kernel
theorem dX5_lot_36 : decode cX5_lot 36 = .ok (.iconst 4, 1) := by decide +kernel
theorem dX5_lot_37 : decode cX5_lot 37 = .ok (.irem, 1) := by decide +kernel
theorem dX5_lot_38 : decode cX5_lot 38 = .ok (.iconst 1, 1) := by decide +kernel
theorem dX5_lot_39 : decode cX5_lot 39 = .ok (.if_icmp .ne 21, 3) := by decide +kernel
theorem dX5_lot_42 : decode cX5_lot 42 = .ok (.aload_n 0, 1) := by decide +kernel
theorem dX5_lot_43 : decode cX5_lot 43 = .ok (.getfield 35, 3) := by decide +kernel
theorem dX5_lot_46 : decode cX5_lot 46 = .ok (.iconst 3, 1) := by decide +kernel
theorem dX5_lot_47 : decode cX5_lot 47 = .ok (.iload_n 2, 1) := by decide +kernel
theorem dX5_lot_48 : decode cX5_lot 48 = .ok (.iadd, 1) := by decide +kernel
theorem dX5_lot_49 : decode cX5_lot 49 = .ok (.iload_n 1, 1) := by decide +kernel
theorem dX5_lot_50 : decode cX5_lot 50 = .ok (.bipush 64, 2) := by decide +kernel
theorem dX5_lot_52 : decode cX5_lot 52 = .ok (.idiv, 1) := by decide +kernel
theorem dX5_lot_53 : decode cX5_lot 53 = .ok (.bipush 10, 2) := by decide +kernel
theorem dX5_lot_55 : decode cX5_lot 55 = .ok (.irem, 1) := by decide +kernel
theorem dX5_lot_56 : decode cX5_lot 56 = .ok (.iastore, 1) := by decide +kernel
theorem dX5_lot_57 : decode cX5_lot 57 = .ok (.goto 23, 3) := by decide +kernel
theorem dX5_lot_60 : decode cX5_lot 60 = .ok (.aload_n 0, 1) := by decide +kernel
theorem dX5_lot_61 : decode cX5_lot 61 = .ok (.getfield 35, 3) := by decide +kernel
theorem dX5_lot_64 : decode cX5_lot 64 = .ok (.iconst 0, 1) := by decide +kernel
theorem dX5_lot_65 : decode cX5_lot 65 = .ok (.iaload, 1) := by decide +kernel
theorem dX5_lot_66 : decode cX5_lot 66 = .ok (.bipush 99, 2) := by decide +kernel
theorem dX5_lot_68 : decode cX5_lot 68 = .ok (.if_icmp .ge 12, 3) := by decide +kernel
theorem dX5_lot_71 : decode cX5_lot 71 = .ok (.aload_n 0, 1) := by decide +kernel
theorem dX5_lot_72 : decode cX5_lot 72 = .ok (.aload_n 0, 1) := by decide +kernel
theorem dX5_lot_73 : decode cX5_lot 73 = .ok (.getfield 35, 3) := by decide +kernel
theorem dX5_lot_76 : decode cX5_lot 76 = .ok (.invokevirtual 204, 3) := by decide +kernel
theorem dX5_lot_79 : decode cX5_lot 79 = .ok (.istore_n 3, 1) := by decide +kernel
theorem dX5_lot_80 : decode cX5_lot 80 = .ok (.return_, 1) := by decide +kernel
theorem dX5_lots_0 : decode cX5_lots 0 = .ok (.iload_n 1, 1) := by decide +kernel
theorem dX5_lots_1 : decode cX5_lots 1 = .ok (.i2l, 1) := by decide +kernel
theorem dX5_lots_2 : decode cX5_lots 2 = .ok (.lconst 1, 1) := by decide +kernel
theorem dX5_lots_3 : decode cX5_lots 3 = .ok (.ldc2_w 231, 3) := by decide +kernel
theorem dX5_lots_6 : decode cX5_lots 6 = .ok (.invokestatic 77, 3) := by decide +kernel
theorem dX5_lots_9 : decode cX5_lots 9 = .ok (.ifCond .eq 15, 3) := by decide +kernel
theorem dX5_lots_12 : decode cX5_lots 12 = .ok (.iload_n 2, 1) := by decide +kernel
theorem dX5_lots_13 : decode cX5_lots 13 = .ok (.i2l, 1) := by decide +kernel
theorem dX5_lots_14 : decode cX5_lots 14 = .ok (.lconst 1, 1) := by decide +kernel
theorem dX5_lots_15 : decode cX5_lots 15 = .ok (.ldc2_w 271, 3) := by decide +kernel
theorem dX5_lots_18 : decode cX5_lots 18 = .ok (.invokestatic 77, 3) := by decide +kernel
theorem dX5_lots_21 : decode cX5_lots 21 = .ok (.ifCond .ne 5, 3) := by decide +kernel
theorem dX5_lots_24 : decode cX5_lots 24 = .ok (.iconst (-1), 1) := by decide +kernel
theorem dX5_lots_25 : decode cX5_lots 25 = .ok (.ireturn, 1) := by decide +kernel
theorem dX5_lots_26 : decode cX5_lots 26 = .ok (.aload_n 0, 1) := by decide +kernel
theorem dX5_lots_27 : decode cX5_lots 27 = .ok (.iload_n 1, 1) := by decide +kernel
theorem dX5_lots_28 : decode cX5_lots 28 = .ok (.invokevirtual 273, 3) := by decide +kernel
theorem dX5_lots_31 : decode cX5_lots 31 = .ok (.istore_n 3, 1) := by decide +kernel
theorem dX5_lots_32 : decode cX5_lots 32 = .ok (.iload_n 3, 1) := by decide +kernel
theorem dX5_lots_33 : decode cX5_lots 33 = .ok (.ifCond .eq 5, 3) := by decide +kernel
theorem dX5_lots_36 : decode cX5_lots 36 = .ok (.iload_n 3, 1) := by decide +kernel
theorem dX5_lots_37 : decode cX5_lots 37 = .ok (.ireturn, 1) := by decide +kernel
theorem dX5_lots_38 : decode cX5_lots 38 = .ok (.iload_n 2, 1) := by decide +kernel
theorem dX5_lots_39 : decode cX5_lots 39 = .ok (.i2l, 1) := by decide +kernel
theorem dX5_lots_40 : decode cX5_lots 40 = .ok (.lstore 4, 2) := by decide +kernel
theorem dX5_lots_42 : decode cX5_lots 42 = .ok (.iconst 0, 1) := by decide +kernel
theorem dX5_lots_43 : decode cX5_lots 43 = .ok (.istore 6, 2) := by decide +kernel
theorem dX5_lots_45 : decode cX5_lots 45 = .ok (.iload 6, 2) := by decide +kernel
theorem dX5_lots_47 : decode cX5_lots 47 = .ok (.iload_n 1, 1) := by decide +kernel
theorem dX5_lots_48 : decode cX5_lots 48 = .ok (.if_icmp .ge 28, 3) := by decide +kernel
theorem dX5_lots_51 : decode cX5_lots 51 = .ok (.lload 4, 2) := by decide +kernel
theorem dX5_lots_53 : decode cX5_lots 53 = .ok (.ldc2_w 276, 3) := by decide +kernel
theorem dX5_lots_56 : decode cX5_lots 56 = .ok (.lmul, 1) := by decide +kernel
theorem dX5_lots_57 : decode cX5_lots 57 = .ok (.ldc2_w 278, 3) := by decide +kernel
theorem dX5_lots_60 : decode cX5_lots 60 = .ok (.lrem, 1) := by decide +kernel
theorem dX5_lots_61 : decode cX5_lots 61 = .ok (.lstore 4, 2) := by decide +kernel
theorem dX5_lots_63 : decode cX5_lots 63 = .ok (.aload_n 0, 1) := by decide +kernel
theorem dX5_lots_64 : decode cX5_lots 64 = .ok (.lload 4, 2) := by decide +kernel
theorem dX5_lots_66 : decode cX5_lots 66 = .ok (.l2i, 1) := by decide +kernel
theorem dX5_lots_67 : decode cX5_lots 67 = .ok (.invokevirtual 280, 3) := by decide +kernel
theorem dX5_lots_70 : decode cX5_lots 70 = .ok (.iinc 6 1, 3) := by decide +kernel
theorem dX5_lots_73 : decode cX5_lots 73 = .ok (.goto (-28), 3) := by decide +kernel
theorem dX5_lots_76 : decode cX5_lots 76 = .ok (.aload_n 0, 1) := by decide +kernel
theorem dX5_lots_77 : decode cX5_lots 77 = .ok (.getfield 35, 3) := by decide +kernel
theorem dX5_lots_80 : decode cX5_lots 80 = .ok (.iconst 1, 1) := by decide +kernel
theorem dX5_lots_81 : decode cX5_lots 81 = .ok (.iaload, 1) := by decide +kernel
theorem dX5_lots_82 : decode cX5_lots 82 = .ok (.ireturn, 1) := by decide +kernel
theorem dX5_asked_0 : decode cX5_asked 0 = .ok (.aload_n 0, 1) := by decide +kernel
theorem dX5_asked_1 : decode cX5_asked 1 = .ok (.getfield 72, 3) := by decide +kernel
theorem dX5_asked_4 : decode cX5_asked 4 = .ok (.ireturn, 1) := by decide +kernel
theorem dX5_upper_0 : decode cX5_upper 0 = .ok (.aload_n 0, 1) := by decide +kernel
theorem dX5_upper_1 : decode cX5_upper 1 = .ok (.getfield 252, 3) := by decide +kernel
theorem dX5_upper_4 : decode cX5_upper 4 = .ok (.lreturn, 1) := by decide +kernel
theorem dX5_lower_0 : decode cX5_lower 0 = .ok (.aload_n 0, 1) := by decide +kernel
theorem dX5_lower_1 : decode cX5_lower 1 = .ok (.getfield 22, 3) := by decide +kernel
theorem dX5_lower_4 : decode cX5_lower 4 = .ok (.lreturn, 1) := by decide +kernel
theorem dX5_there_0 : decode cX5_there 0 = .ok (.iconst 0, 1) := by decide +kernel
theorem dX5_there_1 : decode cX5_there 1 = .ok (.istore_n 3, 1) := by decide +kernel
theorem dX5_there_2 : decode cX5_there 2 = .ok (.iconst 0, 1) := by decide +kernel
theorem dX5_there_3 : decode cX5_there 3 = .ok (.istore 4, 2) := by decide +kernel
theorem dX5_there_5 : decode cX5_there 5 = .ok (.iload 4, 2) := by decide +kernel
theorem dX5_there_7 : decode cX5_there 7 = .ok (.iload_n 1, 1) := by decide +kernel
theorem dX5_there_8 : decode cX5_there 8 = .ok (.if_icmp .ge 26, 3) := by decide +kernel
theorem dX5_there_11 : decode cX5_there 11 = .ok (.iload_n 3, 1) := by decide +kernel
theorem dX5_there_12 : decode cX5_there 12 = .ok (.aload_n 0, 1) := by decide +kernel
theorem dX5_there_13 : decode cX5_there 13 = .ok (.iload_n 2, 1) := by decide +kernel
theorem dX5_there_14 : decode cX5_there 14 = .ok (.iload 4, 2) := by decide +kernel
theorem dX5_there_16 : decode cX5_there 16 = .ok (.imul, 1) := by decide +kernel
theorem dX5_there_17 : decode cX5_there 17 = .ok (.iaload, 1) := by decide +kernel
theorem dX5_there_18 : decode cX5_there 18 = .ok (.ifCond .ge 7, 3) := by decide +kernel
theorem dX5_there_21 : decode cX5_there 21 = .ok (.iconst 0, 1) := by decide +kernel
theorem dX5_there_22 : decode cX5_there 22 = .ok (.goto 4, 3) := by decide +kernel
theorem dX5_there_25 : decode cX5_there 25 = .ok (.iconst 1, 1) := by decide +kernel
theorem dX5_there_26 : decode cX5_there 26 = .ok (.iadd, 1) := by decide +kernel
theorem dX5_there_27 : decode cX5_there 27 = .ok (.istore_n 3, 1) := by decide +kernel
theorem dX5_there_28 : decode cX5_there 28 = .ok (.iinc 4 1, 3) := by decide +kernel
theorem dX5_there_31 : decode cX5_there 31 = .ok (.goto (-26), 3) := by decide +kernel
theorem dX5_there_34 : decode cX5_there 34 = .ok (.iload_n 3, 1) := by decide +kernel
theorem dX5_there_35 : decode cX5_there 35 = .ok (.ireturn, 1) := by decide +kernel
theorem dX5_whoDream_0 : decode cX5_whoDream 0 = .ok (.iconst 0, 1) := by decide +kernel
theorem dX5_whoDream_1 : decode cX5_whoDream 1 = .ok (.istore_n 1, 1) := by decide +kernel
theorem dX5_whoDream_2 : decode cX5_whoDream 2 = .ok (.iconst 0, 1) := by decide +kernel
theorem dX5_whoDream_3 : decode cX5_whoDream 3 = .ok (.istore_n 2, 1) := by decide +kernel
theorem dX5_whoDream_4 : decode cX5_whoDream 4 = .ok (.iload_n 2, 1) := by decide +kernel
theorem dX5_whoDream_5 : decode cX5_whoDream 5 = .ok (.aload_n 0, 1) := by decide +kernel
theorem dX5_whoDream_6 : decode cX5_whoDream 6 = .ok (.getfield 97, 3) := by decide +kernel
theorem dX5_whoDream_9 : decode cX5_whoDream 9 = .ok (.if_icmp .ge 27, 3) := by decide +kernel
theorem dX5_whoDream_12 : decode cX5_whoDream 12 = .ok (.iload_n 1, 1) := by decide +kernel
theorem dX5_whoDream_13 : decode cX5_whoDream 13 = .ok (.aload_n 0, 1) := by decide +kernel
theorem dX5_whoDream_14 : decode cX5_whoDream 14 = .ok (.iload_n 2, 1) := by decide +kernel
theorem dX5_whoDream_15 : decode cX5_whoDream 15 = .ok (.invokevirtual 181, 3) := by decide +kernel
theorem dX5_whoDream_18 : decode cX5_whoDream 18 = .ok (.ifCond .eq 9, 3) := by decide +kernel
theorem dX5_whoDream_21 : decode cX5_whoDream 21 = .ok (.iconst 1, 1) := by decide +kernel
theorem dX5_whoDream_22 : decode cX5_whoDream 22 = .ok (.iload_n 2, 1) := by decide +kernel
theorem dX5_whoDream_23 : decode cX5_whoDream 23 = .ok (.ishl, 1) := by decide +kernel
theorem dX5_whoDream_24 : decode cX5_whoDream 24 = .ok (.goto 4, 3) := by decide +kernel
theorem dX5_whoDream_27 : decode cX5_whoDream 27 = .ok (.iconst 0, 1) := by decide +kernel
theorem dX5_whoDream_28 : decode cX5_whoDream 28 = .ok (.ior, 1) := by decide +kernel
theorem dX5_whoDream_29 : decode cX5_whoDream 29 = .ok (.istore_n 1, 1) := by decide +kernel
theorem dX5_whoDream_30 : decode cX5_whoDream 30 = .ok (.iinc 2 1, 3) := by decide +kernel
theorem dX5_whoDream_33 : decode cX5_whoDream 33 = .ok (.goto (-29), 3) := by decide +kernel
theorem dX5_whoDream_36 : decode cX5_whoDream 36 = .ok (.iload_n 1, 1) := by decide +kernel
theorem dX5_whoDream_37 : decode cX5_whoDream 37 = .ok (.ireturn, 1) := by decide +kernel
theorem dX5_ofCheese_0 : decode cX5_ofCheese 0 = .ok (.iconst 0, 1) := by decide +kernel
theorem dX5_ofCheese_1 : decode cX5_ofCheese 1 = .ok (.istore_n 1, 1) := by decide +kernel
theorem dX5_ofCheese_2 : decode cX5_ofCheese 2 = .ok (.iconst 0, 1) := by decide +kernel
theorem dX5_ofCheese_3 : decode cX5_ofCheese 3 = .ok (.istore_n 2, 1) := by decide +kernel
theorem dX5_ofCheese_4 : decode cX5_ofCheese 4 = .ok (.iload_n 2, 1) := by decide +kernel
theorem dX5_ofCheese_5 : decode cX5_ofCheese 5 = .ok (.aload_n 0, 1) := by decide +kernel
theorem dX5_ofCheese_6 : decode cX5_ofCheese 6 = .ok (.getfield 97, 3) := by decide +kernel
theorem dX5_ofCheese_9 : decode cX5_ofCheese 9 = .ok (.if_icmp .ge 30, 3) := by decide +kernel
theorem dX5_ofCheese_12 : decode cX5_ofCheese 12 = .ok (.iload_n 1, 1) := by decide +kernel
theorem dX5_ofCheese_13 : decode cX5_ofCheese 13 = .ok (.aload_n 0, 1) := by decide +kernel
theorem dX5_ofCheese_14 : decode cX5_ofCheese 14 = .ok (.getfield 29, 3) := by decide +kernel
theorem dX5_ofCheese_17 : decode cX5_ofCheese 17 = .ok (.iload_n 2, 1) := by decide +kernel
theorem dX5_ofCheese_18 : decode cX5_ofCheese 18 = .ok (.iaload, 1) := by decide +kernel
theorem dX5_ofCheese_19 : decode cX5_ofCheese 19 = .ok (.iconst 1, 1) := by decide +kernel
theorem dX5_ofCheese_20 : decode cX5_ofCheese 20 = .ok (.invokestatic 184, 3) := by decide +kernel
theorem dX5_ofCheese_23 : decode cX5_ofCheese 23 = .ok (.ifCond .eq 7, 3) := by decide +kernel
theorem dX5_ofCheese_26 : decode cX5_ofCheese 26 = .ok (.iconst 1, 1) := by decide +kernel
theorem dX5_ofCheese_27 : decode cX5_ofCheese 27 = .ok (.goto 4, 3) := by decide +kernel
theorem dX5_ofCheese_30 : decode cX5_ofCheese 30 = .ok (.iconst 0, 1) := by decide +kernel
theorem dX5_ofCheese_31 : decode cX5_ofCheese 31 = .ok (.iadd, 1) := by decide +kernel
theorem dX5_ofCheese_32 : decode cX5_ofCheese 32 = .ok (.istore_n 1, 1) := by decide +kernel
theorem dX5_ofCheese_33 : decode cX5_ofCheese 33 = .ok (.iinc 2 1, 3) := by decide +kernel
theorem dX5_ofCheese_36 : decode cX5_ofCheese 36 = .ok (.goto (-32), 3) := by decide +kernel
theorem dX5_ofCheese_39 : decode cX5_ofCheese 39 = .ok (.iload_n 1, 1) := by decide +kernel
theorem dX5_ofCheese_40 : decode cX5_ofCheese 40 = .ok (.ireturn, 1) := by decide +kernel
theorem dX5_count_0 : decode cX5_count 0 = .ok (.iload_n 1, 1) := by decide +kernel
theorem dX5_count_1 : decode cX5_count 1 = .ok (.tableswitch 147 0 11 #[63, 68, 73, 78, 85, 92, 99, 104, 109, 120, 130, 142], 63) := by decide +kernel
theorem dX5_count_64 : decode cX5_count 64 = .ok (.aload_n 0, 1) := by decide +kernel
theorem dX5_count_65 : decode cX5_count 65 = .ok (.getfield 97, 3) := by decide +kernel
theorem dX5_count_68 : decode cX5_count 68 = .ok (.ireturn, 1) := by decide +kernel
theorem dX5_count_69 : decode cX5_count 69 = .ok (.aload_n 0, 1) := by decide +kernel
theorem dX5_count_70 : decode cX5_count 70 = .ok (.getfield 155, 3) := by decide +kernel
theorem dX5_count_73 : decode cX5_count 73 = .ok (.ireturn, 1) := by decide +kernel
theorem dX5_count_74 : decode cX5_count 74 = .ok (.aload_n 0, 1) := by decide +kernel
theorem dX5_count_75 : decode cX5_count 75 = .ok (.getfield 100, 3) := by decide +kernel
theorem dX5_count_78 : decode cX5_count 78 = .ok (.ireturn, 1) := by decide +kernel
theorem dX5_count_79 : decode cX5_count 79 = .ok (.aload_n 0, 1) := by decide +kernel
theorem dX5_count_80 : decode cX5_count 80 = .ok (.getfield 35, 3) := by decide +kernel
theorem dX5_count_83 : decode cX5_count 83 = .ok (.iconst 0, 1) := by decide +kernel
theorem dX5_count_84 : decode cX5_count 84 = .ok (.iaload, 1) := by decide +kernel
theorem dX5_count_85 : decode cX5_count 85 = .ok (.ireturn, 1) := by decide +kernel
theorem dX5_count_86 : decode cX5_count 86 = .ok (.aload_n 0, 1) := by decide +kernel
theorem dX5_count_87 : decode cX5_count 87 = .ok (.getfield 35, 3) := by decide +kernel
theorem dX5_count_90 : decode cX5_count 90 = .ok (.iconst 1, 1) := by decide +kernel
theorem dX5_count_91 : decode cX5_count 91 = .ok (.iaload, 1) := by decide +kernel
theorem dX5_count_92 : decode cX5_count 92 = .ok (.ireturn, 1) := by decide +kernel
theorem dX5_count_93 : decode cX5_count 93 = .ok (.aload_n 0, 1) := by decide +kernel
theorem dX5_count_94 : decode cX5_count 94 = .ok (.getfield 35, 3) := by decide +kernel
theorem dX5_count_97 : decode cX5_count 97 = .ok (.iconst 2, 1) := by decide +kernel
theorem dX5_count_98 : decode cX5_count 98 = .ok (.iaload, 1) := by decide +kernel
theorem dX5_count_99 : decode cX5_count 99 = .ok (.ireturn, 1) := by decide +kernel
theorem dX5_count_100 : decode cX5_count 100 = .ok (.aload_n 0, 1) := by decide +kernel
theorem dX5_count_101 : decode cX5_count 101 = .ok (.invokevirtual 284, 3) := by decide +kernel
theorem dX5_count_104 : decode cX5_count 104 = .ok (.ireturn, 1) := by decide +kernel
theorem dX5_count_105 : decode cX5_count 105 = .ok (.aload_n 0, 1) := by decide +kernel
theorem dX5_count_106 : decode cX5_count 106 = .ok (.getfield 158, 3) := by decide +kernel
theorem dX5_count_109 : decode cX5_count 109 = .ok (.ireturn, 1) := by decide +kernel
theorem dX5_count_110 : decode cX5_count 110 = .ok (.aload_n 0, 1) := by decide +kernel
theorem dX5_count_111 : decode cX5_count 111 = .ok (.getfield 13, 3) := by decide +kernel
theorem dX5_count_114 : decode cX5_count 114 = .ok (.bipush 6, 2) := by decide +kernel
theorem dX5_count_116 : decode cX5_count 116 = .ok (.iconst 1, 1) := by decide +kernel
theorem dX5_count_117 : decode cX5_count 117 = .ok (.invokestatic 287, 3) := by decide +kernel
theorem dX5_count_120 : decode cX5_count 120 = .ok (.ireturn, 1) := by decide +kernel
theorem dX5_count_121 : decode cX5_count 121 = .ok (.aload_n 0, 1) := by decide +kernel
theorem dX5_count_122 : decode cX5_count 122 = .ok (.getfield 19, 3) := by decide +kernel
theorem dX5_count_125 : decode cX5_count 125 = .ok (.iconst 4, 1) := by decide +kernel
theorem dX5_count_126 : decode cX5_count 126 = .ok (.iconst 1, 1) := by decide +kernel
theorem dX5_count_127 : decode cX5_count 127 = .ok (.invokestatic 287, 3) := by decide +kernel
theorem dX5_count_130 : decode cX5_count 130 = .ok (.ireturn, 1) := by decide +kernel
theorem dX5_count_131 : decode cX5_count 131 = .ok (.aload_n 0, 1) := by decide +kernel
theorem dX5_count_132 : decode cX5_count 132 = .ok (.getfield 44, 3) := by decide +kernel
theorem dX5_count_135 : decode cX5_count 135 = .ok (.iconst 3, 1) := by decide +kernel
theorem dX5_count_136 : decode cX5_count 136 = .ok (.sipush 370, 3) := by decide +kernel
theorem dX5_count_139 : decode cX5_count 139 = .ok (.invokestatic 287, 3) := by decide +kernel
theorem dX5_count_142 : decode cX5_count 142 = .ok (.ireturn, 1) := by decide +kernel
theorem dX5_count_143 : decode cX5_count 143 = .ok (.aload_n 0, 1) := by decide +kernel
theorem dX5_count_144 : decode cX5_count 144 = .ok (.invokevirtual 290, 3) := by decide +kernel
theorem dX5_count_147 : decode cX5_count 147 = .ok (.ireturn, 1) := by decide +kernel
theorem dX5_count_148 : decode cX5_count 148 = .ok (.iconst (-1), 1) := by decide +kernel
theorem dX5_count_149 : decode cX5_count 149 = .ok (.ireturn, 1) := by decide +kernel
theorem dX5_finding_0 : decode cX5_finding 0 = .ok (.aload_n 0, 1) := by decide +kernel
theorem dX5_finding_1 : decode cX5_finding 1 = .ok (.getfield 68, 3) := by decide +kernel
theorem dX5_finding_4 : decode cX5_finding 4 = .ok (.ireturn, 1) := by decide +kernel
theorem dX5_findings_0 : decode cX5_findings 0 = .ok (.iload_n 1, 1) := by decide +kernel
theorem dX5_findings_1 : decode cX5_findings 1 = .ok (.i2l, 1) := by decide +kernel
theorem dX5_findings_2 : decode cX5_findings 2 = .ok (.lconst 1, 1) := by decide +kernel
theorem dX5_findings_3 : decode cX5_findings 3 = .ok (.ldc2_w 75, 3) := by decide +kernel
theorem dX5_findings_6 : decode cX5_findings 6 = .ok (.invokestatic 77, 3) := by decide +kernel
theorem dX5_findings_9 : decode cX5_findings 9 = .ok (.ifCond .eq 12, 3) := by decide +kernel
theorem dX5_findings_12 : decode cX5_findings 12 = .ok (.aload_n 0, 1) := by decide +kernel
theorem dX5_findings_13 : decode cX5_findings 13 = .ok (.getfield 26, 3) := by decide +kernel
theorem dX5_findings_16 : decode cX5_findings 16 = .ok (.iload_n 1, 1) := by decide +kernel
theorem dX5_findings_17 : decode cX5_findings 17 = .ok (.iaload, 1) := by decide +kernel
theorem dX5_findings_18 : decode cX5_findings 18 = .ok (.goto 4, 3) := by decide +kernel
theorem dX5_findings_21 : decode cX5_findings 21 = .ok (.iconst (-1), 1) := by decide +kernel
theorem dX5_findings_22 : decode cX5_findings 22 = .ok (.ireturn, 1) := by decide +kernel
theorem dX5_digest_0 : decode cX5_digest 0 = .ok (.ldc2_w 293, 3) := by decide +kernel
theorem dX5_digest_3 : decode cX5_digest 3 = .ok (.lstore_n 1, 1) := by decide +kernel
theorem dX5_digest_4 : decode cX5_digest 4 = .ok (.iconst 0, 1) := by decide +kernel
theorem dX5_digest_5 : decode cX5_digest 5 = .ok (.istore_n 3, 1) := by decide +kernel
theorem dX5_digest_6 : decode cX5_digest 6 = .ok (.iload_n 3, 1) := by decide +kernel
theorem dX5_digest_7 : decode cX5_digest 7 = .ok (.bipush 12, 2) := by decide +kernel
theorem dX5_digest_9 : decode cX5_digest 9 = .ok (.if_icmp .ge 22, 3) := by decide +kernel
theorem dX5_digest_12 : decode cX5_digest 12 = .ok (.ldc2_w 295, 3) := by decide +kernel
theorem dX5_digest_15 : decode cX5_digest 15 = .ok (.lload_n 1, 1) := by decide +kernel
theorem dX5_digest_16 : decode cX5_digest 16 = .ok (.lmul, 1) := by decide +kernel
theorem dX5_digest_17 : decode cX5_digest 17 = .ok (.aload_n 0, 1) := by decide +kernel
theorem dX5_digest_18 : decode cX5_digest 18 = .ok (.iload_n 3, 1) := by decide +kernel
theorem dX5_digest_19 : decode cX5_digest 19 = .ok (.invokevirtual 297, 3) := by decide +kernel
theorem dX5_digest_22 : decode cX5_digest 22 = .ok (.i2l, 1) := by decide +kernel
theorem dX5_digest_23 : decode cX5_digest 23 = .ok (.ladd, 1) := by decide +kernel
theorem dX5_digest_24 : decode cX5_digest 24 = .ok (.lstore_n 1, 1) := by decide +kernel
theorem dX5_digest_25 : decode cX5_digest 25 = .ok (.iinc 3 1, 3) := by decide +kernel
theorem dX5_digest_28 : decode cX5_digest 28 = .ok (.goto (-22), 3) := by decide +kernel
theorem dX5_digest_31 : decode cX5_digest 31 = .ok (.iconst 0, 1) := by decide +kernel
theorem dX5_digest_32 : decode cX5_digest 32 = .ok (.istore_n 3, 1) := by decide +kernel
theorem dX5_digest_33 : decode cX5_digest 33 = .ok (.iload_n 3, 1) := by decide +kernel
theorem dX5_digest_34 : decode cX5_digest 34 = .ok (.aload_n 0, 1) := by decide +kernel
theorem dX5_digest_35 : decode cX5_digest 35 = .ok (.getfield 97, 3) := by decide +kernel
theorem dX5_digest_38 : decode cX5_digest 38 = .ok (.if_icmp .ge 86, 3) := by decide +kernel
theorem dX5_digest_41 : decode cX5_digest 41 = .ok (.ldc2_w 295, 3) := by decide +kernel
theorem dX5_digest_44 : decode cX5_digest 44 = .ok (.ldc2_w 295, 3) := by decide +kernel
theorem dX5_digest_47 : decode cX5_digest 47 = .ok (.ldc2_w 295, 3) := by decide +kernel
theorem dX5_digest_50 : decode cX5_digest 50 = .ok (.lload_n 1, 1) := by decide +kernel
theorem dX5_digest_51 : decode cX5_digest 51 = .ok (.lmul, 1) := by decide +kernel
theorem dX5_digest_52 : decode cX5_digest 52 = .ok (.aload_n 0, 1) := by decide +kernel
theorem dX5_digest_53 : decode cX5_digest 53 = .ok (.getfield 29, 3) := by decide +kernel
theorem dX5_digest_56 : decode cX5_digest 56 = .ok (.iload_n 3, 1) := by decide +kernel
theorem dX5_digest_57 : decode cX5_digest 57 = .ok (.iaload, 1) := by decide +kernel
theorem dX5_digest_58 : decode cX5_digest 58 = .ok (.i2l, 1) := by decide +kernel
theorem dX5_digest_59 : decode cX5_digest 59 = .ok (.ladd, 1) := by decide +kernel
theorem dX5_digest_60 : decode cX5_digest 60 = .ok (.lmul, 1) := by decide +kernel
theorem dX5_digest_61 : decode cX5_digest 61 = .ok (.aload_n 0, 1) := by decide +kernel
theorem dX5_digest_62 : decode cX5_digest 62 = .ok (.getfield 32, 3) := by decide +kernel
theorem dX5_digest_65 : decode cX5_digest 65 = .ok (.iload_n 3, 1) := by decide +kernel
theorem dX5_digest_66 : decode cX5_digest 66 = .ok (.iaload, 1) := by decide +kernel
theorem dX5_digest_67 : decode cX5_digest 67 = .ok (.i2l, 1) := by decide +kernel
theorem dX5_digest_68 : decode cX5_digest 68 = .ok (.ladd, 1) := by decide +kernel
theorem dX5_digest_69 : decode cX5_digest 69 = .ok (.lmul, 1) := by decide +kernel
theorem dX5_digest_70 : decode cX5_digest 70 = .ok (.aload_n 0, 1) := by decide +kernel
theorem dX5_digest_71 : decode cX5_digest 71 = .ok (.getfield 35, 3) := by decide +kernel
theorem dX5_digest_74 : decode cX5_digest 74 = .ok (.iconst 3, 1) := by decide +kernel
theorem dX5_digest_75 : decode cX5_digest 75 = .ok (.iload_n 3, 1) := by decide +kernel
theorem dX5_digest_76 : decode cX5_digest 76 = .ok (.iadd, 1) := by decide +kernel
theorem dX5_digest_77 : decode cX5_digest 77 = .ok (.iaload, 1) := by decide +kernel
theorem dX5_digest_78 : decode cX5_digest 78 = .ok (.i2l, 1) := by decide +kernel
theorem dX5_digest_79 : decode cX5_digest 79 = .ok (.ladd, 1) := by decide +kernel
theorem dX5_digest_80 : decode cX5_digest 80 = .ok (.lstore_n 1, 1) := by decide +kernel
theorem dX5_digest_81 : decode cX5_digest 81 = .ok (.ldc2_w 295, 3) := by decide +kernel
theorem dX5_digest_84 : decode cX5_digest 84 = .ok (.ldc2_w 295, 3) := by decide +kernel
theorem dX5_digest_87 : decode cX5_digest 87 = .ok (.lload_n 1, 1) := by decide +kernel
theorem dX5_digest_88 : decode cX5_digest 88 = .ok (.lmul, 1) := by decide +kernel
theorem dX5_digest_89 : decode cX5_digest 89 = .ok (.aload_n 0, 1) := by decide +kernel
theorem dX5_digest_90 : decode cX5_digest 90 = .ok (.getfield 35, 3) := by decide +kernel
theorem dX5_digest_93 : decode cX5_digest 93 = .ok (.iconst 2, 1) := by decide +kernel
theorem dX5_digest_94 : decode cX5_digest 94 = .ok (.iaload, 1) := by decide +kernel
theorem dX5_digest_95 : decode cX5_digest 95 = .ok (.iload_n 3, 1) := by decide +kernel
theorem dX5_digest_96 : decode cX5_digest 96 = .ok (.ishr, 1) := by decide +kernel
theorem dX5_digest_97 : decode cX5_digest 97 = .ok (.iconst 1, 1) := by decide +kernel
theorem dX5_digest_98 : decode cX5_digest 98 = .ok (.iand, 1) := by decide +kernel
theorem dX5_digest_99 : decode cX5_digest 99 = .ok (.i2l, 1) := by decide +kernel
theorem dX5_digest_100 : decode cX5_digest 100 = .ok (.ladd, 1) := by decide +kernel
theorem dX5_digest_101 : decode cX5_digest 101 = .ok (.lmul, 1) := by decide +kernel
theorem dX5_digest_102 : decode cX5_digest 102 = .ok (.aload_n 0, 1) := by decide +kernel
theorem dX5_digest_103 : decode cX5_digest 103 = .ok (.iload_n 3, 1) := by decide +kernel
theorem dX5_digest_104 : decode cX5_digest 104 = .ok (.invokevirtual 181, 3) := by decide +kernel
theorem dX5_digest_107 : decode cX5_digest 107 = .ok (.ifCond .eq 7, 3) := by decide +kernel
theorem dX5_digest_110 : decode cX5_digest 110 = .ok (.iconst 1, 1) := by decide +kernel
theorem dX5_digest_111 : decode cX5_digest 111 = .ok (.goto 4, 3) := by decide +kernel
theorem dX5_digest_114 : decode cX5_digest 114 = .ok (.iconst 0, 1) := by decide +kernel
theorem dX5_digest_115 : decode cX5_digest 115 = .ok (.i2l, 1) := by decide +kernel
theorem dX5_digest_116 : decode cX5_digest 116 = .ok (.ladd, 1) := by decide +kernel
theorem dX5_digest_117 : decode cX5_digest 117 = .ok (.lstore_n 1, 1) := by decide +kernel
theorem dX5_digest_118 : decode cX5_digest 118 = .ok (.iinc 3 1, 3) := by decide +kernel
theorem dX5_digest_121 : decode cX5_digest 121 = .ok (.goto (-88), 3) := by decide +kernel
theorem dX5_digest_124 : decode cX5_digest 124 = .ok (.iconst 0, 1) := by decide +kernel
theorem dX5_digest_125 : decode cX5_digest 125 = .ok (.istore_n 3, 1) := by decide +kernel
theorem dX5_digest_126 : decode cX5_digest 126 = .ok (.iload_n 3, 1) := by decide +kernel
theorem dX5_digest_127 : decode cX5_digest 127 = .ok (.iconst 3, 1) := by decide +kernel
theorem dX5_digest_128 : decode cX5_digest 128 = .ok (.if_icmp .ge 27, 3) := by decide +kernel
theorem dX5_digest_131 : decode cX5_digest 131 = .ok (.ldc2_w 295, 3) := by decide +kernel
theorem dX5_digest_134 : decode cX5_digest 134 = .ok (.lload_n 1, 1) := by decide +kernel
theorem dX5_digest_135 : decode cX5_digest 135 = .ok (.lmul, 1) := by decide +kernel
theorem dX5_digest_136 : decode cX5_digest 136 = .ok (.aload_n 0, 1) := by decide +kernel
theorem dX5_digest_137 : decode cX5_digest 137 = .ok (.getfield 44, 3) := by decide +kernel
theorem dX5_digest_140 : decode cX5_digest 140 = .ok (.sipush 370, 3) := by decide +kernel
theorem dX5_digest_143 : decode cX5_digest 143 = .ok (.iload_n 3, 1) := by decide +kernel
theorem dX5_digest_144 : decode cX5_digest 144 = .ok (.imul, 1) := by decide +kernel
theorem dX5_digest_145 : decode cX5_digest 145 = .ok (.iaload, 1) := by decide +kernel
theorem dX5_digest_146 : decode cX5_digest 146 = .ok (.i2l, 1) := by decide +kernel
theorem dX5_digest_147 : decode cX5_digest 147 = .ok (.ladd, 1) := by decide +kernel
theorem dX5_digest_148 : decode cX5_digest 148 = .ok (.lstore_n 1, 1) := by decide +kernel
theorem dX5_digest_149 : decode cX5_digest 149 = .ok (.iinc 3 1, 3) := by decide +kernel
theorem dX5_digest_152 : decode cX5_digest 152 = .ok (.goto (-26), 3) := by decide +kernel
theorem dX5_digest_155 : decode cX5_digest 155 = .ok (.iconst 0, 1) := by decide +kernel
theorem dX5_digest_156 : decode cX5_digest 156 = .ok (.istore_n 3, 1) := by decide +kernel
theorem dX5_digest_157 : decode cX5_digest 157 = .ok (.iload_n 3, 1) := by decide +kernel
theorem dX5_digest_158 : decode cX5_digest 158 = .ok (.bipush 6, 2) := by decide +kernel
theorem dX5_digest_160 : decode cX5_digest 160 = .ok (.if_icmp .ge 63, 3) := by decide +kernel
theorem dX5_digest_163 : decode cX5_digest 163 = .ok (.ldc2_w 295, 3) := by decide +kernel
theorem dX5_digest_166 : decode cX5_digest 166 = .ok (.lload_n 1, 1) := by decide +kernel
theorem dX5_digest_167 : decode cX5_digest 167 = .ok (.lmul, 1) := by decide +kernel
theorem dX5_digest_168 : decode cX5_digest 168 = .ok (.aload_n 0, 1) := by decide +kernel
theorem dX5_digest_169 : decode cX5_digest 169 = .ok (.getfield 13, 3) := by decide +kernel
theorem dX5_digest_172 : decode cX5_digest 172 = .ok (.iload_n 3, 1) := by decide +kernel
theorem dX5_digest_173 : decode cX5_digest 173 = .ok (.iaload, 1) := by decide +kernel
theorem dX5_digest_174 : decode cX5_digest 174 = .ok (.i2l, 1) := by decide +kernel
theorem dX5_digest_175 : decode cX5_digest 175 = .ok (.ladd, 1) := by decide +kernel
theorem dX5_digest_176 : decode cX5_digest 176 = .ok (.lstore_n 1, 1) := by decide +kernel
theorem dX5_digest_177 : decode cX5_digest 177 = .ok (.iconst 0, 1) := by decide +kernel
theorem dX5_digest_178 : decode cX5_digest 178 = .ok (.istore 4, 2) := by decide +kernel
theorem dX5_digest_180 : decode cX5_digest 180 = .ok (.iload 4, 2) := by decide +kernel
theorem dX5_digest_182 : decode cX5_digest 182 = .ok (.aload_n 0, 1) := by decide +kernel
theorem dX5_digest_183 : decode cX5_digest 183 = .ok (.getfield 13, 3) := by decide +kernel
theorem dX5_digest_186 : decode cX5_digest 186 = .ok (.iload_n 3, 1) := by decide +kernel
theorem dX5_digest_187 : decode cX5_digest 187 = .ok (.iaload, 1) := by decide +kernel
theorem dX5_digest_188 : decode cX5_digest 188 = .ok (.if_icmp .ge 29, 3) := by decide +kernel
theorem dX5_digest_191 : decode cX5_digest 191 = .ok (.ldc2_w 295, 3) := by decide +kernel
theorem dX5_digest_194 : decode cX5_digest 194 = .ok (.lload_n 1, 1) := by decide +kernel
theorem dX5_digest_195 : decode cX5_digest 195 = .ok (.lmul, 1) := by decide +kernel
theorem dX5_digest_196 : decode cX5_digest 196 = .ok (.aload_n 0, 1) := by decide +kernel
theorem dX5_digest_197 : decode cX5_digest 197 = .ok (.getfield 7, 3) := by decide +kernel
theorem dX5_digest_200 : decode cX5_digest 200 = .ok (.bipush 40, 2) := by decide +kernel
theorem dX5_digest_202 : decode cX5_digest 202 = .ok (.iload_n 3, 1) := by decide +kernel
theorem dX5_digest_203 : decode cX5_digest 203 = .ok (.imul, 1) := by decide +kernel
theorem dX5_digest_204 : decode cX5_digest 204 = .ok (.iload 4, 2) := by decide +kernel
theorem dX5_digest_206 : decode cX5_digest 206 = .ok (.iadd, 1) := by decide +kernel
theorem dX5_digest_207 : decode cX5_digest 207 = .ok (.iaload, 1) := by decide +kernel
theorem dX5_digest_208 : decode cX5_digest 208 = .ok (.i2l, 1) := by decide +kernel
theorem dX5_digest_209 : decode cX5_digest 209 = .ok (.ladd, 1) := by decide +kernel
theorem dX5_digest_210 : decode cX5_digest 210 = .ok (.lstore_n 1, 1) := by decide +kernel
theorem dX5_digest_211 : decode cX5_digest 211 = .ok (.iinc 4 1, 3) := by decide +kernel
theorem dX5_digest_214 : decode cX5_digest 214 = .ok (.goto (-34), 3) := by decide +kernel
theorem dX5_digest_217 : decode cX5_digest 217 = .ok (.iinc 3 1, 3) := by decide +kernel
theorem dX5_digest_220 : decode cX5_digest 220 = .ok (.goto (-63), 3) := by decide +kernel
theorem dX5_digest_223 : decode cX5_digest 223 = .ok (.iconst 0, 1) := by decide +kernel
theorem dX5_digest_224 : decode cX5_digest 224 = .ok (.istore_n 3, 1) := by decide +kernel
theorem dX5_digest_225 : decode cX5_digest 225 = .ok (.iload_n 3, 1) := by decide +kernel
theorem dX5_digest_226 : decode cX5_digest 226 = .ok (.iconst 4, 1) := by decide +kernel
theorem dX5_digest_227 : decode cX5_digest 227 = .ok (.if_icmp .ge 63, 3) := by decide +kernel
theorem dX5_digest_230 : decode cX5_digest 230 = .ok (.ldc2_w 295, 3) := by decide +kernel
theorem dX5_digest_233 : decode cX5_digest 233 = .ok (.lload_n 1, 1) := by decide +kernel
theorem dX5_digest_234 : decode cX5_digest 234 = .ok (.lmul, 1) := by decide +kernel
theorem dX5_digest_235 : decode cX5_digest 235 = .ok (.aload_n 0, 1) := by decide +kernel
theorem dX5_digest_236 : decode cX5_digest 236 = .ok (.getfield 19, 3) := by decide +kernel
theorem dX5_digest_239 : decode cX5_digest 239 = .ok (.iload_n 3, 1) := by decide +kernel
theorem dX5_digest_240 : decode cX5_digest 240 = .ok (.iaload, 1) := by decide +kernel
theorem dX5_digest_241 : decode cX5_digest 241 = .ok (.i2l, 1) := by decide +kernel
theorem dX5_digest_242 : decode cX5_digest 242 = .ok (.ladd, 1) := by decide +kernel
theorem dX5_digest_243 : decode cX5_digest 243 = .ok (.lstore_n 1, 1) := by decide +kernel
theorem dX5_digest_244 : decode cX5_digest 244 = .ok (.iconst 0, 1) := by decide +kernel
theorem dX5_digest_245 : decode cX5_digest 245 = .ok (.istore 4, 2) := by decide +kernel
theorem dX5_digest_247 : decode cX5_digest 247 = .ok (.iload 4, 2) := by decide +kernel
theorem dX5_digest_249 : decode cX5_digest 249 = .ok (.aload_n 0, 1) := by decide +kernel
theorem dX5_digest_250 : decode cX5_digest 250 = .ok (.getfield 19, 3) := by decide +kernel
theorem dX5_digest_253 : decode cX5_digest 253 = .ok (.iload_n 3, 1) := by decide +kernel
theorem dX5_digest_254 : decode cX5_digest 254 = .ok (.iaload, 1) := by decide +kernel
theorem dX5_digest_255 : decode cX5_digest 255 = .ok (.if_icmp .ge 29, 3) := by decide +kernel
theorem dX5_digest_258 : decode cX5_digest 258 = .ok (.ldc2_w 295, 3) := by decide +kernel
theorem dX5_digest_261 : decode cX5_digest 261 = .ok (.lload_n 1, 1) := by decide +kernel
theorem dX5_digest_262 : decode cX5_digest 262 = .ok (.lmul, 1) := by decide +kernel
theorem dX5_digest_263 : decode cX5_digest 263 = .ok (.aload_n 0, 1) := by decide +kernel
theorem dX5_digest_264 : decode cX5_digest 264 = .ok (.getfield 16, 3) := by decide +kernel
theorem dX5_digest_267 : decode cX5_digest 267 = .ok (.bipush 60, 2) := by decide +kernel
theorem dX5_digest_269 : decode cX5_digest 269 = .ok (.iload_n 3, 1) := by decide +kernel
theorem dX5_digest_270 : decode cX5_digest 270 = .ok (.imul, 1) := by decide +kernel
theorem dX5_digest_271 : decode cX5_digest 271 = .ok (.iload 4, 2) := by decide +kernel
theorem dX5_digest_273 : decode cX5_digest 273 = .ok (.iadd, 1) := by decide +kernel
theorem dX5_digest_274 : decode cX5_digest 274 = .ok (.iaload, 1) := by decide +kernel
theorem dX5_digest_275 : decode cX5_digest 275 = .ok (.i2l, 1) := by decide +kernel
theorem dX5_digest_276 : decode cX5_digest 276 = .ok (.ladd, 1) := by decide +kernel
theorem dX5_digest_277 : decode cX5_digest 277 = .ok (.lstore_n 1, 1) := by decide +kernel
theorem dX5_digest_278 : decode cX5_digest 278 = .ok (.iinc 4 1, 3) := by decide +kernel
theorem dX5_digest_281 : decode cX5_digest 281 = .ok (.goto (-34), 3) := by decide +kernel
theorem dX5_digest_284 : decode cX5_digest 284 = .ok (.iinc 3 1, 3) := by decide +kernel
theorem dX5_digest_287 : decode cX5_digest 287 = .ok (.goto (-62), 3) := by decide +kernel
theorem dX5_digest_290 : decode cX5_digest 290 = .ok (.lload_n 1, 1) := by decide +kernel
theorem dX5_digest_291 : decode cX5_digest 291 = .ok (.lreturn, 1) := by decide +kernel
theorem dJ6_bitCount_0f7a4_0 : decode cJ6_bitCount_0f7a4 0 = .ok (.iload_n 0, 1) := by decide +kernel
theorem dJ6_bitCount_0f7a4_1 : decode cJ6_bitCount_0f7a4 1 = .ok (.iload_n 0, 1) := by decide +kernel
theorem dJ6_bitCount_0f7a4_2 : decode cJ6_bitCount_0f7a4 2 = .ok (.iconst 1, 1) := by decide +kernel
theorem dJ6_bitCount_0f7a4_3 : decode cJ6_bitCount_0f7a4 3 = .ok (.iushr, 1) := by decide +kernel
theorem dJ6_bitCount_0f7a4_4 : decode cJ6_bitCount_0f7a4 4 = .ok (.ldc_w 265, 3) := by decide +kernel
theorem dJ6_bitCount_0f7a4_7 : decode cJ6_bitCount_0f7a4 7 = .ok (.iand, 1) := by decide +kernel
theorem dJ6_bitCount_0f7a4_8 : decode cJ6_bitCount_0f7a4 8 = .ok (.isub, 1) := by decide +kernel
theorem dJ6_bitCount_0f7a4_9 : decode cJ6_bitCount_0f7a4 9 = .ok (.istore_n 0, 1) := by decide +kernel
theorem dJ6_bitCount_0f7a4_10 : decode cJ6_bitCount_0f7a4 10 = .ok (.iload_n 0, 1) := by decide +kernel
theorem dJ6_bitCount_0f7a4_11 : decode cJ6_bitCount_0f7a4 11 = .ok (.ldc_w 266, 3) := by decide +kernel
theorem dJ6_bitCount_0f7a4_14 : decode cJ6_bitCount_0f7a4 14 = .ok (.iand, 1) := by decide +kernel
theorem dJ6_bitCount_0f7a4_15 : decode cJ6_bitCount_0f7a4 15 = .ok (.iload_n 0, 1) := by decide +kernel
theorem dJ6_bitCount_0f7a4_16 : decode cJ6_bitCount_0f7a4 16 = .ok (.iconst 2, 1) := by decide +kernel
theorem dJ6_bitCount_0f7a4_17 : decode cJ6_bitCount_0f7a4 17 = .ok (.iushr, 1) := by decide +kernel
theorem dJ6_bitCount_0f7a4_18 : decode cJ6_bitCount_0f7a4 18 = .ok (.ldc_w 266, 3) := by decide +kernel
theorem dJ6_bitCount_0f7a4_21 : decode cJ6_bitCount_0f7a4 21 = .ok (.iand, 1) := by decide +kernel
theorem dJ6_bitCount_0f7a4_22 : decode cJ6_bitCount_0f7a4 22 = .ok (.iadd, 1) := by decide +kernel
theorem dJ6_bitCount_0f7a4_23 : decode cJ6_bitCount_0f7a4 23 = .ok (.istore_n 0, 1) := by decide +kernel
theorem dJ6_bitCount_0f7a4_24 : decode cJ6_bitCount_0f7a4 24 = .ok (.iload_n 0, 1) := by decide +kernel
theorem dJ6_bitCount_0f7a4_25 : decode cJ6_bitCount_0f7a4 25 = .ok (.iload_n 0, 1) := by decide +kernel
theorem dJ6_bitCount_0f7a4_26 : decode cJ6_bitCount_0f7a4 26 = .ok (.iconst 4, 1) := by decide +kernel
theorem dJ6_bitCount_0f7a4_27 : decode cJ6_bitCount_0f7a4 27 = .ok (.iushr, 1) := by decide +kernel
theorem dJ6_bitCount_0f7a4_28 : decode cJ6_bitCount_0f7a4 28 = .ok (.iadd, 1) := by decide +kernel
theorem dJ6_bitCount_0f7a4_29 : decode cJ6_bitCount_0f7a4 29 = .ok (.ldc_w 267, 3) := by decide +kernel
theorem dJ6_bitCount_0f7a4_32 : decode cJ6_bitCount_0f7a4 32 = .ok (.iand, 1) := by decide +kernel
theorem dJ6_bitCount_0f7a4_33 : decode cJ6_bitCount_0f7a4 33 = .ok (.istore_n 0, 1) := by decide +kernel
theorem dJ6_bitCount_0f7a4_34 : decode cJ6_bitCount_0f7a4 34 = .ok (.iload_n 0, 1) := by decide +kernel
theorem dJ6_bitCount_0f7a4_35 : decode cJ6_bitCount_0f7a4 35 = .ok (.iload_n 0, 1) := by decide +kernel
theorem dJ6_bitCount_0f7a4_36 : decode cJ6_bitCount_0f7a4 36 = .ok (.bipush 8, 2) := by decide +kernel
theorem dJ6_bitCount_0f7a4_38 : decode cJ6_bitCount_0f7a4 38 = .ok (.iushr, 1) := by decide +kernel
theorem dJ6_bitCount_0f7a4_39 : decode cJ6_bitCount_0f7a4 39 = .ok (.iadd, 1) := by decide +kernel
theorem dJ6_bitCount_0f7a4_40 : decode cJ6_bitCount_0f7a4 40 = .ok (.istore_n 0, 1) := by decide +kernel
theorem dJ6_bitCount_0f7a4_41 : decode cJ6_bitCount_0f7a4 41 = .ok (.iload_n 0, 1) := by decide +kernel
theorem dJ6_bitCount_0f7a4_42 : decode cJ6_bitCount_0f7a4 42 = .ok (.iload_n 0, 1) := by decide +kernel
theorem dJ6_bitCount_0f7a4_43 : decode cJ6_bitCount_0f7a4 43 = .ok (.bipush 16, 2) := by decide +kernel
theorem dJ6_bitCount_0f7a4_45 : decode cJ6_bitCount_0f7a4 45 = .ok (.iushr, 1) := by decide +kernel
theorem dJ6_bitCount_0f7a4_46 : decode cJ6_bitCount_0f7a4 46 = .ok (.iadd, 1) := by decide +kernel
theorem dJ6_bitCount_0f7a4_47 : decode cJ6_bitCount_0f7a4 47 = .ok (.istore_n 0, 1) := by decide +kernel
theorem dJ6_bitCount_0f7a4_48 : decode cJ6_bitCount_0f7a4 48 = .ok (.iload_n 0, 1) := by decide +kernel
theorem dJ6_bitCount_0f7a4_49 : decode cJ6_bitCount_0f7a4 49 = .ok (.bipush 63, 2) := by decide +kernel
theorem dJ6_bitCount_0f7a4_51 : decode cJ6_bitCount_0f7a4 51 = .ok (.iand, 1) := by decide +kernel
theorem dJ6_bitCount_0f7a4_52 : decode cJ6_bitCount_0f7a4 52 = .ok (.ireturn, 1) := by decide +kernel
theorem dJ9_max_7cf53_0 : decode cJ9_max_7cf53 0 = .ok (.iload_n 0, 1) := by decide +kernel
theorem dJ9_max_7cf53_1 : decode cJ9_max_7cf53 1 = .ok (.iload_n 1, 1) := by decide +kernel
theorem dJ9_max_7cf53_2 : decode cJ9_max_7cf53 2 = .ok (.if_icmp .lt 7, 3) := by decide +kernel
theorem dJ9_max_7cf53_5 : decode cJ9_max_7cf53 5 = .ok (.iload_n 0, 1) := by decide +kernel
theorem dJ9_max_7cf53_6 : decode cJ9_max_7cf53 6 = .ok (.goto 4, 3) := by decide +kernel
theorem dJ9_max_7cf53_9 : decode cJ9_max_7cf53 9 = .ok (.iload_n 1, 1) := by decide +kernel
theorem dJ9_max_7cf53_10 : decode cJ9_max_7cf53 10 = .ok (.ireturn, 1) := by decide +kernel
theorem dJ9_max_f86c9_0 : decode cJ9_max_f86c9 0 = .ok (.lload_n 0, 1) := by decide +kernel
theorem dJ9_max_f86c9_1 : decode cJ9_max_f86c9 1 = .ok (.lload_n 2, 1) := by decide +kernel
theorem dJ9_max_f86c9_2 : decode cJ9_max_f86c9 2 = .ok (.lcmp, 1) := by decide +kernel
theorem dJ9_max_f86c9_3 : decode cJ9_max_f86c9 3 = .ok (.ifCond .lt 7, 3) := by decide +kernel
theorem dJ9_max_f86c9_6 : decode cJ9_max_f86c9 6 = .ok (.lload_n 0, 1) := by decide +kernel
theorem dJ9_max_f86c9_7 : decode cJ9_max_f86c9 7 = .ok (.goto 4, 3) := by decide +kernel
theorem dJ9_max_f86c9_10 : decode cJ9_max_f86c9 10 = .ok (.lload_n 2, 1) := by decide +kernel
theorem dJ9_max_f86c9_11 : decode cJ9_max_f86c9 11 = .ok (.lreturn, 1) := by decide +kernel
theorem dJ9_min_7cf53_0 : decode cJ9_min_7cf53 0 = .ok (.iload_n 0, 1) := by decide +kernel
theorem dJ9_min_7cf53_1 : decode cJ9_min_7cf53 1 = .ok (.iload_n 1, 1) := by decide +kernel
theorem dJ9_min_7cf53_2 : decode cJ9_min_7cf53 2 = .ok (.if_icmp .gt 7, 3) := by decide +kernel
theorem dJ9_min_7cf53_5 : decode cJ9_min_7cf53 5 = .ok (.iload_n 0, 1) := by decide +kernel
theorem dJ9_min_7cf53_6 : decode cJ9_min_7cf53 6 = .ok (.goto 4, 3) := by decide +kernel
theorem dJ9_min_7cf53_9 : decode cJ9_min_7cf53 9 = .ok (.iload_n 1, 1) := by decide +kernel
theorem dJ9_min_7cf53_10 : decode cJ9_min_7cf53 10 = .ok (.ireturn, 1) := by decide +kernel
theorem dJ7_fill_d0a16_0 : decode cJ7_fill_d0a16 0 = .ok (.iconst 0, 1) := by decide +kernel
theorem dJ7_fill_d0a16_1 : decode cJ7_fill_d0a16 1 = .ok (.istore_n 3, 1) := by decide +kernel
theorem dJ7_fill_d0a16_2 : decode cJ7_fill_d0a16 2 = .ok (.aload_n 0, 1) := by decide +kernel
theorem dJ7_fill_d0a16_3 : decode cJ7_fill_d0a16 3 = .ok (.arraylength, 1) := by decide +kernel
theorem dJ7_fill_d0a16_4 : decode cJ7_fill_d0a16 4 = .ok (.istore 4, 2) := by decide +kernel
theorem dJ7_fill_d0a16_6 : decode cJ7_fill_d0a16 6 = .ok (.iload_n 3, 1) := by decide +kernel
theorem dJ7_fill_d0a16_7 : decode cJ7_fill_d0a16 7 = .ok (.iload 4, 2) := by decide +kernel
theorem dJ7_fill_d0a16_9 : decode cJ7_fill_d0a16 9 = .ok (.if_icmp .ge 13, 3) := by decide +kernel
theorem dJ7_fill_d0a16_12 : decode cJ7_fill_d0a16 12 = .ok (.aload_n 0, 1) := by decide +kernel
theorem dJ7_fill_d0a16_13 : decode cJ7_fill_d0a16 13 = .ok (.iload_n 3, 1) := by decide +kernel
theorem dJ7_fill_d0a16_14 : decode cJ7_fill_d0a16 14 = .ok (.lload_n 1, 1) := by decide +kernel
theorem dJ7_fill_d0a16_15 : decode cJ7_fill_d0a16 15 = .ok (.lastore, 1) := by decide +kernel
theorem dJ7_fill_d0a16_16 : decode cJ7_fill_d0a16 16 = .ok (.iinc 3 1, 3) := by decide +kernel
theorem dJ7_fill_d0a16_19 : decode cJ7_fill_d0a16 19 = .ok (.goto (-13), 3) := by decide +kernel
theorem dJ7_fill_d0a16_22 : decode cJ7_fill_d0a16 22 = .ok (.return_, 1) := by decide +kernel
theorem dJ7_fill_53178_0 : decode cJ7_fill_53178 0 = .ok (.iconst 0, 1) := by decide +kernel
theorem dJ7_fill_53178_1 : decode cJ7_fill_53178 1 = .ok (.istore_n 2, 1) := by decide +kernel
theorem dJ7_fill_53178_2 : decode cJ7_fill_53178 2 = .ok (.aload_n 0, 1) := by decide +kernel
theorem dJ7_fill_53178_3 : decode cJ7_fill_53178 3 = .ok (.arraylength, 1) := by decide +kernel
theorem dJ7_fill_53178_4 : decode cJ7_fill_53178 4 = .ok (.istore_n 3, 1) := by decide +kernel
theorem dJ7_fill_53178_5 : decode cJ7_fill_53178 5 = .ok (.iload_n 2, 1) := by decide +kernel
theorem dJ7_fill_53178_6 : decode cJ7_fill_53178 6 = .ok (.iload_n 3, 1) := by decide +kernel
theorem dJ7_fill_53178_7 : decode cJ7_fill_53178 7 = .ok (.if_icmp .ge 13, 3) := by decide +kernel
theorem dJ7_fill_53178_10 : decode cJ7_fill_53178 10 = .ok (.aload_n 0, 1) := by decide +kernel
theorem dJ7_fill_53178_11 : decode cJ7_fill_53178 11 = .ok (.iload_n 2, 1) := by decide +kernel
theorem dJ7_fill_53178_12 : decode cJ7_fill_53178 12 = .ok (.iload_n 1, 1) := by decide +kernel
theorem dJ7_fill_53178_13 : decode cJ7_fill_53178 13 = .ok (.iastore, 1) := by decide +kernel
theorem dJ7_fill_53178_14 : decode cJ7_fill_53178 14 = .ok (.iinc 2 1, 3) := by decide +kernel
theorem dJ7_fill_53178_17 : decode cJ7_fill_53178 17 = .ok (.goto (-12), 3) := by decide +kernel
theorem dJ7_fill_53178_20 : decode cJ7_fill_53178 20 = .ok (.return_, 1) := by decide +kernel
theorem dL_law_0 : decode cL_law 0 = .ok (.new 7, 3) := by decide +kernel
theorem dL_law_3 : decode cL_law 3 = .ok (.dup, 1) := by decide +kernel
theorem dL_law_4 : decode cL_law 4 = .ok (.invokespecial 9, 3) := by decide +kernel
theorem dL_law_7 : decode cL_law 7 = .ok (.astore_n 1, 1) := by decide +kernel
theorem dL_law_8 : decode cL_law 8 = .ok (.new 10, 3) := by decide +kernel
theorem dL_law_11 : decode cL_law 11 = .ok (.dup, 1) := by decide +kernel
theorem dL_law_12 : decode cL_law 12 = .ok (.invokespecial 12, 3) := by decide +kernel
theorem dL_law_15 : decode cL_law 15 = .ok (.astore_n 2, 1) := by decide +kernel
theorem dL_law_16 : decode cL_law 16 = .ok (.iconst 0, 1) := by decide +kernel
theorem dL_law_17 : decode cL_law 17 = .ok (.istore_n 3, 1) := by decide +kernel
theorem dL_law_18 : decode cL_law 18 = .ok (.iload_n 3, 1) := by decide +kernel
theorem dL_law_19 : decode cL_law 19 = .ok (.aload_n 0, 1) := by decide +kernel
theorem dL_law_20 : decode cL_law 20 = .ok (.arraylength, 1) := by decide +kernel
theorem dL_law_21 : decode cL_law 21 = .ok (.bipush 6, 2) := by decide +kernel
theorem dL_law_23 : decode cL_law 23 = .ok (.isub, 1) := by decide +kernel
theorem dL_law_24 : decode cL_law 24 = .ok (.if_icmp .gt 1243, 3) := by decide +kernel
theorem dL_law_27 : decode cL_law 27 = .ok (.aload_n 0, 1) := by decide +kernel
theorem dL_law_28 : decode cL_law 28 = .ok (.iload_n 3, 1) := by decide +kernel
theorem dL_law_29 : decode cL_law 29 = .ok (.iaload, 1) := by decide +kernel
theorem dL_law_30 : decode cL_law 30 = .ok (.bipush 63, 2) := by decide +kernel
theorem dL_law_32 : decode cL_law 32 = .ok (.iand, 1) := by decide +kernel
theorem dL_law_33 : decode cL_law 33 = .ok (.tableswitch 1228 0 39 #[175, 208, 251, 284, 307, 370, 393, 426, 469, 492, 515, 548, 581, 614, 627, 660, 683, 706, 729, 752, 775, 798, 811, 834, 847, 880, 903, 926, 959, 982, 1005, 1048, 1081, 1114, 1127, 1141, 1155, 1178, 1191, 1214], 175) := by decide +kernel
theorem dL_law_208 : decode cL_law 208 = .ok (.aload_n 1, 1) := by decide +kernel
theorem dL_law_209 : decode cL_law 209 = .ok (.aload_n 0, 1) := by decide +kernel
theorem dL_law_210 : decode cL_law 210 = .ok (.iload_n 3, 1) := by decide +kernel
theorem dL_law_211 : decode cL_law 211 = .ok (.iconst 1, 1) := by decide +kernel
theorem dL_law_212 : decode cL_law 212 = .ok (.iadd, 1) := by decide +kernel
theorem dL_law_213 : decode cL_law 213 = .ok (.iaload, 1) := by decide +kernel
theorem dL_law_214 : decode cL_law 214 = .ok (.aload_n 0, 1) := by decide +kernel
theorem dL_law_215 : decode cL_law 215 = .ok (.iload_n 3, 1) := by decide +kernel
theorem dL_law_216 : decode cL_law 216 = .ok (.iconst 2, 1) := by decide +kernel
theorem dL_law_217 : decode cL_law 217 = .ok (.iadd, 1) := by decide +kernel
theorem dL_law_218 : decode cL_law 218 = .ok (.iaload, 1) := by decide +kernel
theorem dL_law_219 : decode cL_law 219 = .ok (.invokevirtual 13, 3) := by decide +kernel
theorem dL_law_222 : decode cL_law 222 = .ok (.aload_n 2, 1) := by decide +kernel
theorem dL_law_223 : decode cL_law 223 = .ok (.aload_n 0, 1) := by decide +kernel
theorem dL_law_224 : decode cL_law 224 = .ok (.iload_n 3, 1) := by decide +kernel
theorem dL_law_225 : decode cL_law 225 = .ok (.iconst 1, 1) := by decide +kernel
theorem dL_law_226 : decode cL_law 226 = .ok (.iadd, 1) := by decide +kernel
theorem dL_law_227 : decode cL_law 227 = .ok (.iaload, 1) := by decide +kernel
theorem dL_law_228 : decode cL_law 228 = .ok (.aload_n 0, 1) := by decide +kernel
theorem dL_law_229 : decode cL_law 229 = .ok (.iload_n 3, 1) := by decide +kernel
theorem dL_law_230 : decode cL_law 230 = .ok (.iconst 2, 1) := by decide +kernel
theorem dL_law_231 : decode cL_law 231 = .ok (.iadd, 1) := by decide +kernel
theorem dL_law_232 : decode cL_law 232 = .ok (.iaload, 1) := by decide +kernel
theorem dL_law_233 : decode cL_law 233 = .ok (.invokevirtual 17, 3) := by decide +kernel
theorem dL_law_236 : decode cL_law 236 = .ok (.if_icmp .eq 1025, 3) := by decide +kernel
theorem dL_law_239 : decode cL_law 239 = .ok (.iconst 0, 1) := by decide +kernel
theorem dL_law_240 : decode cL_law 240 = .ok (.ireturn, 1) := by decide +kernel
theorem dL_law_241 : decode cL_law 241 = .ok (.aload_n 1, 1) := by decide +kernel
theorem dL_law_242 : decode cL_law 242 = .ok (.aload_n 0, 1) := by decide +kernel
theorem dL_law_243 : decode cL_law 243 = .ok (.iload_n 3, 1) := by decide +kernel
theorem dL_law_244 : decode cL_law 244 = .ok (.iconst 1, 1) := by decide +kernel
theorem dL_law_245 : decode cL_law 245 = .ok (.iadd, 1) := by decide +kernel
theorem dL_law_246 : decode cL_law 246 = .ok (.iaload, 1) := by decide +kernel
theorem dL_law_247 : decode cL_law 247 = .ok (.aload_n 0, 1) := by decide +kernel
theorem dL_law_248 : decode cL_law 248 = .ok (.iload_n 3, 1) := by decide +kernel
theorem dL_law_249 : decode cL_law 249 = .ok (.iconst 2, 1) := by decide +kernel
theorem dL_law_250 : decode cL_law 250 = .ok (.iadd, 1) := by decide +kernel
theorem dL_law_251 : decode cL_law 251 = .ok (.iaload, 1) := by decide +kernel
theorem dL_law_252 : decode cL_law 252 = .ok (.aload_n 0, 1) := by decide +kernel
theorem dL_law_253 : decode cL_law 253 = .ok (.iload_n 3, 1) := by decide +kernel
theorem dL_law_254 : decode cL_law 254 = .ok (.iconst 3, 1) := by decide +kernel
theorem dL_law_255 : decode cL_law 255 = .ok (.iadd, 1) := by decide +kernel
theorem dL_law_256 : decode cL_law 256 = .ok (.iaload, 1) := by decide +kernel
theorem dL_law_257 : decode cL_law 257 = .ok (.invokevirtual 18, 3) := by decide +kernel
theorem dL_law_260 : decode cL_law 260 = .ok (.aload_n 2, 1) := by decide +kernel
theorem dL_law_261 : decode cL_law 261 = .ok (.aload_n 0, 1) := by decide +kernel
theorem dL_law_262 : decode cL_law 262 = .ok (.iload_n 3, 1) := by decide +kernel
theorem dL_law_263 : decode cL_law 263 = .ok (.iconst 1, 1) := by decide +kernel
theorem dL_law_264 : decode cL_law 264 = .ok (.iadd, 1) := by decide +kernel
theorem dL_law_265 : decode cL_law 265 = .ok (.iaload, 1) := by decide +kernel
theorem dL_law_266 : decode cL_law 266 = .ok (.aload_n 0, 1) := by decide +kernel
theorem dL_law_267 : decode cL_law 267 = .ok (.iload_n 3, 1) := by decide +kernel
theorem dL_law_268 : decode cL_law 268 = .ok (.iconst 2, 1) := by decide +kernel
theorem dL_law_269 : decode cL_law 269 = .ok (.iadd, 1) := by decide +kernel
theorem dL_law_270 : decode cL_law 270 = .ok (.iaload, 1) := by decide +kernel
theorem dL_law_271 : decode cL_law 271 = .ok (.aload_n 0, 1) := by decide +kernel
theorem dL_law_272 : decode cL_law 272 = .ok (.iload_n 3, 1) := by decide +kernel
theorem dL_law_273 : decode cL_law 273 = .ok (.iconst 3, 1) := by decide +kernel
theorem dL_law_274 : decode cL_law 274 = .ok (.iadd, 1) := by decide +kernel
theorem dL_law_275 : decode cL_law 275 = .ok (.iaload, 1) := by decide +kernel
theorem dL_law_276 : decode cL_law 276 = .ok (.invokevirtual 22, 3) := by decide +kernel
theorem dL_law_279 : decode cL_law 279 = .ok (.if_icmp .eq 982, 3) := by decide +kernel
theorem dL_law_282 : decode cL_law 282 = .ok (.iconst 0, 1) := by decide +kernel
theorem dL_law_283 : decode cL_law 283 = .ok (.ireturn, 1) := by decide +kernel
theorem dL_law_284 : decode cL_law 284 = .ok (.aload_n 1, 1) := by decide +kernel
theorem dL_law_285 : decode cL_law 285 = .ok (.aload_n 0, 1) := by decide +kernel
theorem dL_law_286 : decode cL_law 286 = .ok (.iload_n 3, 1) := by decide +kernel
theorem dL_law_287 : decode cL_law 287 = .ok (.iconst 1, 1) := by decide +kernel
theorem dL_law_288 : decode cL_law 288 = .ok (.iadd, 1) := by decide +kernel
theorem dL_law_289 : decode cL_law 289 = .ok (.iaload, 1) := by decide +kernel
theorem dL_law_290 : decode cL_law 290 = .ok (.aload_n 0, 1) := by decide +kernel
theorem dL_law_291 : decode cL_law 291 = .ok (.iload_n 3, 1) := by decide +kernel
theorem dL_law_292 : decode cL_law 292 = .ok (.iconst 2, 1) := by decide +kernel
theorem dL_law_293 : decode cL_law 293 = .ok (.iadd, 1) := by decide +kernel
theorem dL_law_294 : decode cL_law 294 = .ok (.iaload, 1) := by decide +kernel
theorem dL_law_295 : decode cL_law 295 = .ok (.invokevirtual 23, 3) := by decide +kernel
theorem dL_law_298 : decode cL_law 298 = .ok (.aload_n 2, 1) := by decide +kernel
theorem dL_law_299 : decode cL_law 299 = .ok (.aload_n 0, 1) := by decide +kernel
theorem dL_law_300 : decode cL_law 300 = .ok (.iload_n 3, 1) := by decide +kernel
theorem dL_law_301 : decode cL_law 301 = .ok (.iconst 1, 1) := by decide +kernel
theorem dL_law_302 : decode cL_law 302 = .ok (.iadd, 1) := by decide +kernel
theorem dL_law_303 : decode cL_law 303 = .ok (.iaload, 1) := by decide +kernel
theorem dL_law_304 : decode cL_law 304 = .ok (.aload_n 0, 1) := by decide +kernel
theorem dL_law_305 : decode cL_law 305 = .ok (.iload_n 3, 1) := by decide +kernel
theorem dL_law_306 : decode cL_law 306 = .ok (.iconst 2, 1) := by decide +kernel
theorem dL_law_307 : decode cL_law 307 = .ok (.iadd, 1) := by decide +kernel
theorem dL_law_308 : decode cL_law 308 = .ok (.iaload, 1) := by decide +kernel
theorem dL_law_309 : decode cL_law 309 = .ok (.invokevirtual 26, 3) := by decide +kernel
theorem dL_law_312 : decode cL_law 312 = .ok (.if_icmp .eq 949, 3) := by decide +kernel
theorem dL_law_315 : decode cL_law 315 = .ok (.iconst 0, 1) := by decide +kernel
theorem dL_law_316 : decode cL_law 316 = .ok (.ireturn, 1) := by decide +kernel
theorem dL_law_317 : decode cL_law 317 = .ok (.aload_n 1, 1) := by decide +kernel
theorem dL_law_318 : decode cL_law 318 = .ok (.aload_n 0, 1) := by decide +kernel
theorem dL_law_319 : decode cL_law 319 = .ok (.iload_n 3, 1) := by decide +kernel
theorem dL_law_320 : decode cL_law 320 = .ok (.iconst 1, 1) := by decide +kernel
theorem dL_law_321 : decode cL_law 321 = .ok (.iadd, 1) := by decide +kernel
theorem dL_law_322 : decode cL_law 322 = .ok (.iaload, 1) := by decide +kernel
theorem dL_law_323 : decode cL_law 323 = .ok (.invokevirtual 27, 3) := by decide +kernel
theorem dL_law_326 : decode cL_law 326 = .ok (.aload_n 2, 1) := by decide +kernel
theorem dL_law_327 : decode cL_law 327 = .ok (.aload_n 0, 1) := by decide +kernel
theorem dL_law_328 : decode cL_law 328 = .ok (.iload_n 3, 1) := by decide +kernel
theorem dL_law_329 : decode cL_law 329 = .ok (.iconst 1, 1) := by decide +kernel
theorem dL_law_330 : decode cL_law 330 = .ok (.iadd, 1) := by decide +kernel
theorem dL_law_331 : decode cL_law 331 = .ok (.iaload, 1) := by decide +kernel
theorem dL_law_332 : decode cL_law 332 = .ok (.invokevirtual 31, 3) := by decide +kernel
theorem dL_law_335 : decode cL_law 335 = .ok (.if_icmp .eq 926, 3) := by decide +kernel
theorem dL_law_338 : decode cL_law 338 = .ok (.iconst 0, 1) := by decide +kernel
theorem dL_law_339 : decode cL_law 339 = .ok (.ireturn, 1) := by decide +kernel
theorem dL_law_340 : decode cL_law 340 = .ok (.aload_n 1, 1) := by decide +kernel
theorem dL_law_341 : decode cL_law 341 = .ok (.aload_n 0, 1) := by decide +kernel
theorem dL_law_342 : decode cL_law 342 = .ok (.iload_n 3, 1) := by decide +kernel
theorem dL_law_343 : decode cL_law 343 = .ok (.iconst 1, 1) := by decide +kernel
theorem dL_law_344 : decode cL_law 344 = .ok (.iadd, 1) := by decide +kernel
theorem dL_law_345 : decode cL_law 345 = .ok (.iaload, 1) := by decide +kernel
theorem dL_law_346 : decode cL_law 346 = .ok (.aload_n 0, 1) := by decide +kernel
theorem dL_law_347 : decode cL_law 347 = .ok (.iload_n 3, 1) := by decide +kernel
theorem dL_law_348 : decode cL_law 348 = .ok (.iconst 2, 1) := by decide +kernel
theorem dL_law_349 : decode cL_law 349 = .ok (.iadd, 1) := by decide +kernel
theorem dL_law_350 : decode cL_law 350 = .ok (.iaload, 1) := by decide +kernel
theorem dL_law_351 : decode cL_law 351 = .ok (.aload_n 0, 1) := by decide +kernel
theorem dL_law_352 : decode cL_law 352 = .ok (.iload_n 3, 1) := by decide +kernel
theorem dL_law_353 : decode cL_law 353 = .ok (.iconst 3, 1) := by decide +kernel
theorem dL_law_354 : decode cL_law 354 = .ok (.iadd, 1) := by decide +kernel
theorem dL_law_355 : decode cL_law 355 = .ok (.iaload, 1) := by decide +kernel
theorem dL_law_356 : decode cL_law 356 = .ok (.aload_n 0, 1) := by decide +kernel
theorem dL_law_357 : decode cL_law 357 = .ok (.iload_n 3, 1) := by decide +kernel
theorem dL_law_358 : decode cL_law 358 = .ok (.iconst 4, 1) := by decide +kernel
theorem dL_law_359 : decode cL_law 359 = .ok (.iadd, 1) := by decide +kernel
theorem dL_law_360 : decode cL_law 360 = .ok (.iaload, 1) := by decide +kernel
theorem dL_law_361 : decode cL_law 361 = .ok (.aload_n 0, 1) := by decide +kernel
theorem dL_law_362 : decode cL_law 362 = .ok (.iload_n 3, 1) := by decide +kernel
theorem dL_law_363 : decode cL_law 363 = .ok (.iconst 5, 1) := by decide +kernel
theorem dL_law_364 : decode cL_law 364 = .ok (.iadd, 1) := by decide +kernel
theorem dL_law_365 : decode cL_law 365 = .ok (.iaload, 1) := by decide +kernel
theorem dL_law_366 : decode cL_law 366 = .ok (.invokevirtual 32, 3) := by decide +kernel
theorem dL_law_369 : decode cL_law 369 = .ok (.aload_n 2, 1) := by decide +kernel
theorem dL_law_370 : decode cL_law 370 = .ok (.aload_n 0, 1) := by decide +kernel
theorem dL_law_371 : decode cL_law 371 = .ok (.iload_n 3, 1) := by decide +kernel
theorem dL_law_372 : decode cL_law 372 = .ok (.iconst 1, 1) := by decide +kernel
theorem dL_law_373 : decode cL_law 373 = .ok (.iadd, 1) := by decide +kernel
theorem dL_law_374 : decode cL_law 374 = .ok (.iaload, 1) := by decide +kernel
theorem dL_law_375 : decode cL_law 375 = .ok (.aload_n 0, 1) := by decide +kernel
theorem dL_law_376 : decode cL_law 376 = .ok (.iload_n 3, 1) := by decide +kernel
theorem dL_law_377 : decode cL_law 377 = .ok (.iconst 2, 1) := by decide +kernel
theorem dL_law_378 : decode cL_law 378 = .ok (.iadd, 1) := by decide +kernel
theorem dL_law_379 : decode cL_law 379 = .ok (.iaload, 1) := by decide +kernel
theorem dL_law_380 : decode cL_law 380 = .ok (.aload_n 0, 1) := by decide +kernel
theorem dL_law_381 : decode cL_law 381 = .ok (.iload_n 3, 1) := by decide +kernel
theorem dL_law_382 : decode cL_law 382 = .ok (.iconst 3, 1) := by decide +kernel
theorem dL_law_383 : decode cL_law 383 = .ok (.iadd, 1) := by decide +kernel
theorem dL_law_384 : decode cL_law 384 = .ok (.iaload, 1) := by decide +kernel
theorem dL_law_385 : decode cL_law 385 = .ok (.aload_n 0, 1) := by decide +kernel
theorem dL_law_386 : decode cL_law 386 = .ok (.iload_n 3, 1) := by decide +kernel
theorem dL_law_387 : decode cL_law 387 = .ok (.iconst 4, 1) := by decide +kernel
theorem dL_law_388 : decode cL_law 388 = .ok (.iadd, 1) := by decide +kernel
theorem dL_law_389 : decode cL_law 389 = .ok (.iaload, 1) := by decide +kernel
theorem dL_law_390 : decode cL_law 390 = .ok (.aload_n 0, 1) := by decide +kernel
theorem dL_law_391 : decode cL_law 391 = .ok (.iload_n 3, 1) := by decide +kernel
theorem dL_law_392 : decode cL_law 392 = .ok (.iconst 5, 1) := by decide +kernel
theorem dL_law_393 : decode cL_law 393 = .ok (.iadd, 1) := by decide +kernel
theorem dL_law_394 : decode cL_law 394 = .ok (.iaload, 1) := by decide +kernel
theorem dL_law_395 : decode cL_law 395 = .ok (.invokevirtual 36, 3) := by decide +kernel
theorem dL_law_398 : decode cL_law 398 = .ok (.if_icmp .eq 863, 3) := by decide +kernel
theorem dL_law_401 : decode cL_law 401 = .ok (.iconst 0, 1) := by decide +kernel
theorem dL_law_402 : decode cL_law 402 = .ok (.ireturn, 1) := by decide +kernel
theorem dL_law_403 : decode cL_law 403 = .ok (.aload_n 1, 1) := by decide +kernel
theorem dL_law_404 : decode cL_law 404 = .ok (.aload_n 0, 1) := by decide +kernel
theorem dL_law_405 : decode cL_law 405 = .ok (.iload_n 3, 1) := by decide +kernel
theorem dL_law_406 : decode cL_law 406 = .ok (.iconst 1, 1) := by decide +kernel
theorem dL_law_407 : decode cL_law 407 = .ok (.iadd, 1) := by decide +kernel
theorem dL_law_408 : decode cL_law 408 = .ok (.iaload, 1) := by decide +kernel
theorem dL_law_409 : decode cL_law 409 = .ok (.invokevirtual 37, 3) := by decide +kernel
theorem dL_law_412 : decode cL_law 412 = .ok (.aload_n 2, 1) := by decide +kernel
theorem dL_law_413 : decode cL_law 413 = .ok (.aload_n 0, 1) := by decide +kernel
theorem dL_law_414 : decode cL_law 414 = .ok (.iload_n 3, 1) := by decide +kernel
theorem dL_law_415 : decode cL_law 415 = .ok (.iconst 1, 1) := by decide +kernel
theorem dL_law_416 : decode cL_law 416 = .ok (.iadd, 1) := by decide +kernel
theorem dL_law_417 : decode cL_law 417 = .ok (.iaload, 1) := by decide +kernel
theorem dL_law_418 : decode cL_law 418 = .ok (.invokevirtual 40, 3) := by decide +kernel
theorem dL_law_421 : decode cL_law 421 = .ok (.if_icmp .eq 840, 3) := by decide +kernel
theorem dL_law_424 : decode cL_law 424 = .ok (.iconst 0, 1) := by decide +kernel
theorem dL_law_425 : decode cL_law 425 = .ok (.ireturn, 1) := by decide +kernel
theorem dL_law_426 : decode cL_law 426 = .ok (.aload_n 1, 1) := by decide +kernel
theorem dL_law_427 : decode cL_law 427 = .ok (.aload_n 0, 1) := by decide +kernel
theorem dL_law_428 : decode cL_law 428 = .ok (.iload_n 3, 1) := by decide +kernel
theorem dL_law_429 : decode cL_law 429 = .ok (.iconst 1, 1) := by decide +kernel
theorem dL_law_430 : decode cL_law 430 = .ok (.iadd, 1) := by decide +kernel
theorem dL_law_431 : decode cL_law 431 = .ok (.iaload, 1) := by decide +kernel
theorem dL_law_432 : decode cL_law 432 = .ok (.aload_n 0, 1) := by decide +kernel
theorem dL_law_433 : decode cL_law 433 = .ok (.iload_n 3, 1) := by decide +kernel
theorem dL_law_434 : decode cL_law 434 = .ok (.iconst 2, 1) := by decide +kernel
theorem dL_law_435 : decode cL_law 435 = .ok (.iadd, 1) := by decide +kernel
theorem dL_law_436 : decode cL_law 436 = .ok (.iaload, 1) := by decide +kernel
theorem dL_law_437 : decode cL_law 437 = .ok (.invokevirtual 41, 3) := by decide +kernel
theorem dL_law_440 : decode cL_law 440 = .ok (.aload_n 2, 1) := by decide +kernel
theorem dL_law_441 : decode cL_law 441 = .ok (.aload_n 0, 1) := by decide +kernel
theorem dL_law_442 : decode cL_law 442 = .ok (.iload_n 3, 1) := by decide +kernel
theorem dL_law_443 : decode cL_law 443 = .ok (.iconst 1, 1) := by decide +kernel
theorem dL_law_444 : decode cL_law 444 = .ok (.iadd, 1) := by decide +kernel
theorem dL_law_445 : decode cL_law 445 = .ok (.iaload, 1) := by decide +kernel
theorem dL_law_446 : decode cL_law 446 = .ok (.aload_n 0, 1) := by decide +kernel
theorem dL_law_447 : decode cL_law 447 = .ok (.iload_n 3, 1) := by decide +kernel
theorem dL_law_448 : decode cL_law 448 = .ok (.iconst 2, 1) := by decide +kernel
theorem dL_law_449 : decode cL_law 449 = .ok (.iadd, 1) := by decide +kernel
theorem dL_law_450 : decode cL_law 450 = .ok (.iaload, 1) := by decide +kernel
theorem dL_law_451 : decode cL_law 451 = .ok (.invokevirtual 44, 3) := by decide +kernel
theorem dL_law_454 : decode cL_law 454 = .ok (.if_icmp .eq 807, 3) := by decide +kernel
theorem dL_law_457 : decode cL_law 457 = .ok (.iconst 0, 1) := by decide +kernel
theorem dL_law_458 : decode cL_law 458 = .ok (.ireturn, 1) := by decide +kernel
theorem dL_law_459 : decode cL_law 459 = .ok (.aload_n 1, 1) := by decide +kernel
theorem dL_law_460 : decode cL_law 460 = .ok (.aload_n 0, 1) := by decide +kernel
theorem dL_law_461 : decode cL_law 461 = .ok (.iload_n 3, 1) := by decide +kernel
theorem dL_law_462 : decode cL_law 462 = .ok (.iconst 1, 1) := by decide +kernel
theorem dL_law_463 : decode cL_law 463 = .ok (.iadd, 1) := by decide +kernel
theorem dL_law_464 : decode cL_law 464 = .ok (.iaload, 1) := by decide +kernel
theorem dL_law_465 : decode cL_law 465 = .ok (.aload_n 0, 1) := by decide +kernel
theorem dL_law_466 : decode cL_law 466 = .ok (.iload_n 3, 1) := by decide +kernel
theorem dL_law_467 : decode cL_law 467 = .ok (.iconst 2, 1) := by decide +kernel
theorem dL_law_468 : decode cL_law 468 = .ok (.iadd, 1) := by decide +kernel
theorem dL_law_469 : decode cL_law 469 = .ok (.iaload, 1) := by decide +kernel
theorem dL_law_470 : decode cL_law 470 = .ok (.aload_n 0, 1) := by decide +kernel
theorem dL_law_471 : decode cL_law 471 = .ok (.iload_n 3, 1) := by decide +kernel
theorem dL_law_472 : decode cL_law 472 = .ok (.iconst 3, 1) := by decide +kernel
theorem dL_law_473 : decode cL_law 473 = .ok (.iadd, 1) := by decide +kernel
theorem dL_law_474 : decode cL_law 474 = .ok (.iaload, 1) := by decide +kernel
theorem dL_law_475 : decode cL_law 475 = .ok (.invokevirtual 45, 3) := by decide +kernel
theorem dL_law_478 : decode cL_law 478 = .ok (.aload_n 2, 1) := by decide +kernel
theorem dL_law_479 : decode cL_law 479 = .ok (.aload_n 0, 1) := by decide +kernel
theorem dL_law_480 : decode cL_law 480 = .ok (.iload_n 3, 1) := by decide +kernel
theorem dL_law_481 : decode cL_law 481 = .ok (.iconst 1, 1) := by decide +kernel
theorem dL_law_482 : decode cL_law 482 = .ok (.iadd, 1) := by decide +kernel
theorem dL_law_483 : decode cL_law 483 = .ok (.iaload, 1) := by decide +kernel
theorem dL_law_484 : decode cL_law 484 = .ok (.aload_n 0, 1) := by decide +kernel
theorem dL_law_485 : decode cL_law 485 = .ok (.iload_n 3, 1) := by decide +kernel
theorem dL_law_486 : decode cL_law 486 = .ok (.iconst 2, 1) := by decide +kernel
theorem dL_law_487 : decode cL_law 487 = .ok (.iadd, 1) := by decide +kernel
theorem dL_law_488 : decode cL_law 488 = .ok (.iaload, 1) := by decide +kernel
theorem dL_law_489 : decode cL_law 489 = .ok (.aload_n 0, 1) := by decide +kernel
theorem dL_law_490 : decode cL_law 490 = .ok (.iload_n 3, 1) := by decide +kernel
theorem dL_law_491 : decode cL_law 491 = .ok (.iconst 3, 1) := by decide +kernel
theorem dL_law_492 : decode cL_law 492 = .ok (.iadd, 1) := by decide +kernel
theorem dL_law_493 : decode cL_law 493 = .ok (.iaload, 1) := by decide +kernel
theorem dL_law_494 : decode cL_law 494 = .ok (.invokevirtual 48, 3) := by decide +kernel
theorem dL_law_497 : decode cL_law 497 = .ok (.if_icmp .eq 764, 3) := by decide +kernel
theorem dL_law_500 : decode cL_law 500 = .ok (.iconst 0, 1) := by decide +kernel
theorem dL_law_501 : decode cL_law 501 = .ok (.ireturn, 1) := by decide +kernel
theorem dL_law_502 : decode cL_law 502 = .ok (.aload_n 1, 1) := by decide +kernel
theorem dL_law_503 : decode cL_law 503 = .ok (.aload_n 0, 1) := by decide +kernel
theorem dL_law_504 : decode cL_law 504 = .ok (.iload_n 3, 1) := by decide +kernel
theorem dL_law_505 : decode cL_law 505 = .ok (.iconst 1, 1) := by decide +kernel
theorem dL_law_506 : decode cL_law 506 = .ok (.iadd, 1) := by decide +kernel
theorem dL_law_507 : decode cL_law 507 = .ok (.iaload, 1) := by decide +kernel
theorem dL_law_508 : decode cL_law 508 = .ok (.invokevirtual 49, 3) := by decide +kernel
theorem dL_law_511 : decode cL_law 511 = .ok (.aload_n 2, 1) := by decide +kernel
theorem dL_law_512 : decode cL_law 512 = .ok (.aload_n 0, 1) := by decide +kernel
theorem dL_law_513 : decode cL_law 513 = .ok (.iload_n 3, 1) := by decide +kernel
theorem dL_law_514 : decode cL_law 514 = .ok (.iconst 1, 1) := by decide +kernel
theorem dL_law_515 : decode cL_law 515 = .ok (.iadd, 1) := by decide +kernel
theorem dL_law_516 : decode cL_law 516 = .ok (.iaload, 1) := by decide +kernel
theorem dL_law_517 : decode cL_law 517 = .ok (.invokevirtual 52, 3) := by decide +kernel
theorem dL_law_520 : decode cL_law 520 = .ok (.if_icmp .eq 741, 3) := by decide +kernel
theorem dL_law_523 : decode cL_law 523 = .ok (.iconst 0, 1) := by decide +kernel
theorem dL_law_524 : decode cL_law 524 = .ok (.ireturn, 1) := by decide +kernel
theorem dL_law_525 : decode cL_law 525 = .ok (.aload_n 1, 1) := by decide +kernel
theorem dL_law_526 : decode cL_law 526 = .ok (.aload_n 0, 1) := by decide +kernel
theorem dL_law_527 : decode cL_law 527 = .ok (.iload_n 3, 1) := by decide +kernel
theorem dL_law_528 : decode cL_law 528 = .ok (.iconst 1, 1) := by decide +kernel
theorem dL_law_529 : decode cL_law 529 = .ok (.iadd, 1) := by decide +kernel
theorem dL_law_530 : decode cL_law 530 = .ok (.iaload, 1) := by decide +kernel
theorem dL_law_531 : decode cL_law 531 = .ok (.invokevirtual 53, 3) := by decide +kernel
theorem dL_law_534 : decode cL_law 534 = .ok (.aload_n 2, 1) := by decide +kernel
theorem dL_law_535 : decode cL_law 535 = .ok (.aload_n 0, 1) := by decide +kernel
theorem dL_law_536 : decode cL_law 536 = .ok (.iload_n 3, 1) := by decide +kernel
theorem dL_law_537 : decode cL_law 537 = .ok (.iconst 1, 1) := by decide +kernel
theorem dL_law_538 : decode cL_law 538 = .ok (.iadd, 1) := by decide +kernel
theorem dL_law_539 : decode cL_law 539 = .ok (.iaload, 1) := by decide +kernel
theorem dL_law_540 : decode cL_law 540 = .ok (.invokevirtual 56, 3) := by decide +kernel
theorem dL_law_543 : decode cL_law 543 = .ok (.if_icmp .eq 718, 3) := by decide +kernel
theorem dL_law_546 : decode cL_law 546 = .ok (.iconst 0, 1) := by decide +kernel
theorem dL_law_547 : decode cL_law 547 = .ok (.ireturn, 1) := by decide +kernel
theorem dL_law_548 : decode cL_law 548 = .ok (.aload_n 1, 1) := by decide +kernel
theorem dL_law_549 : decode cL_law 549 = .ok (.aload_n 0, 1) := by decide +kernel
theorem dL_law_550 : decode cL_law 550 = .ok (.iload_n 3, 1) := by decide +kernel
theorem dL_law_551 : decode cL_law 551 = .ok (.iconst 1, 1) := by decide +kernel
theorem dL_law_552 : decode cL_law 552 = .ok (.iadd, 1) := by decide +kernel
theorem dL_law_553 : decode cL_law 553 = .ok (.iaload, 1) := by decide +kernel
theorem dL_law_554 : decode cL_law 554 = .ok (.aload_n 0, 1) := by decide +kernel
theorem dL_law_555 : decode cL_law 555 = .ok (.iload_n 3, 1) := by decide +kernel
theorem dL_law_556 : decode cL_law 556 = .ok (.iconst 2, 1) := by decide +kernel
theorem dL_law_557 : decode cL_law 557 = .ok (.iadd, 1) := by decide +kernel
theorem dL_law_558 : decode cL_law 558 = .ok (.iaload, 1) := by decide +kernel
theorem dL_law_559 : decode cL_law 559 = .ok (.invokevirtual 57, 3) := by decide +kernel
theorem dL_law_562 : decode cL_law 562 = .ok (.aload_n 2, 1) := by decide +kernel
theorem dL_law_563 : decode cL_law 563 = .ok (.aload_n 0, 1) := by decide +kernel
theorem dL_law_564 : decode cL_law 564 = .ok (.iload_n 3, 1) := by decide +kernel
theorem dL_law_565 : decode cL_law 565 = .ok (.iconst 1, 1) := by decide +kernel
theorem dL_law_566 : decode cL_law 566 = .ok (.iadd, 1) := by decide +kernel
theorem dL_law_567 : decode cL_law 567 = .ok (.iaload, 1) := by decide +kernel
theorem dL_law_568 : decode cL_law 568 = .ok (.aload_n 0, 1) := by decide +kernel
theorem dL_law_569 : decode cL_law 569 = .ok (.iload_n 3, 1) := by decide +kernel
theorem dL_law_570 : decode cL_law 570 = .ok (.iconst 2, 1) := by decide +kernel
theorem dL_law_571 : decode cL_law 571 = .ok (.iadd, 1) := by decide +kernel
theorem dL_law_572 : decode cL_law 572 = .ok (.iaload, 1) := by decide +kernel
theorem dL_law_573 : decode cL_law 573 = .ok (.invokevirtual 60, 3) := by decide +kernel
theorem dL_law_576 : decode cL_law 576 = .ok (.if_icmp .eq 685, 3) := by decide +kernel
theorem dL_law_579 : decode cL_law 579 = .ok (.iconst 0, 1) := by decide +kernel
theorem dL_law_580 : decode cL_law 580 = .ok (.ireturn, 1) := by decide +kernel
theorem dL_law_581 : decode cL_law 581 = .ok (.aload_n 1, 1) := by decide +kernel
theorem dL_law_582 : decode cL_law 582 = .ok (.aload_n 0, 1) := by decide +kernel
theorem dL_law_583 : decode cL_law 583 = .ok (.iload_n 3, 1) := by decide +kernel
theorem dL_law_584 : decode cL_law 584 = .ok (.iconst 1, 1) := by decide +kernel
theorem dL_law_585 : decode cL_law 585 = .ok (.iadd, 1) := by decide +kernel
theorem dL_law_586 : decode cL_law 586 = .ok (.iaload, 1) := by decide +kernel
theorem dL_law_587 : decode cL_law 587 = .ok (.aload_n 0, 1) := by decide +kernel
theorem dL_law_588 : decode cL_law 588 = .ok (.iload_n 3, 1) := by decide +kernel
theorem dL_law_589 : decode cL_law 589 = .ok (.iconst 2, 1) := by decide +kernel
theorem dL_law_590 : decode cL_law 590 = .ok (.iadd, 1) := by decide +kernel
theorem dL_law_591 : decode cL_law 591 = .ok (.iaload, 1) := by decide +kernel
theorem dL_law_592 : decode cL_law 592 = .ok (.invokevirtual 61, 3) := by decide +kernel
theorem dL_law_595 : decode cL_law 595 = .ok (.aload_n 2, 1) := by decide +kernel
theorem dL_law_596 : decode cL_law 596 = .ok (.aload_n 0, 1) := by decide +kernel
theorem dL_law_597 : decode cL_law 597 = .ok (.iload_n 3, 1) := by decide +kernel
theorem dL_law_598 : decode cL_law 598 = .ok (.iconst 1, 1) := by decide +kernel
theorem dL_law_599 : decode cL_law 599 = .ok (.iadd, 1) := by decide +kernel
theorem dL_law_600 : decode cL_law 600 = .ok (.iaload, 1) := by decide +kernel
theorem dL_law_601 : decode cL_law 601 = .ok (.aload_n 0, 1) := by decide +kernel
theorem dL_law_602 : decode cL_law 602 = .ok (.iload_n 3, 1) := by decide +kernel
theorem dL_law_603 : decode cL_law 603 = .ok (.iconst 2, 1) := by decide +kernel
theorem dL_law_604 : decode cL_law 604 = .ok (.iadd, 1) := by decide +kernel
theorem dL_law_605 : decode cL_law 605 = .ok (.iaload, 1) := by decide +kernel
theorem dL_law_606 : decode cL_law 606 = .ok (.invokevirtual 64, 3) := by decide +kernel
theorem dL_law_609 : decode cL_law 609 = .ok (.if_icmp .eq 652, 3) := by decide +kernel
theorem dL_law_612 : decode cL_law 612 = .ok (.iconst 0, 1) := by decide +kernel
theorem dL_law_613 : decode cL_law 613 = .ok (.ireturn, 1) := by decide +kernel
theorem dL_law_614 : decode cL_law 614 = .ok (.aload_n 1, 1) := by decide +kernel
theorem dL_law_615 : decode cL_law 615 = .ok (.aload_n 0, 1) := by decide +kernel
theorem dL_law_616 : decode cL_law 616 = .ok (.iload_n 3, 1) := by decide +kernel
theorem dL_law_617 : decode cL_law 617 = .ok (.iconst 1, 1) := by decide +kernel
theorem dL_law_618 : decode cL_law 618 = .ok (.iadd, 1) := by decide +kernel
theorem dL_law_619 : decode cL_law 619 = .ok (.iaload, 1) := by decide +kernel
theorem dL_law_620 : decode cL_law 620 = .ok (.aload_n 0, 1) := by decide +kernel
theorem dL_law_621 : decode cL_law 621 = .ok (.iload_n 3, 1) := by decide +kernel
theorem dL_law_622 : decode cL_law 622 = .ok (.iconst 2, 1) := by decide +kernel
theorem dL_law_623 : decode cL_law 623 = .ok (.iadd, 1) := by decide +kernel
theorem dL_law_624 : decode cL_law 624 = .ok (.iaload, 1) := by decide +kernel
theorem dL_law_625 : decode cL_law 625 = .ok (.invokevirtual 65, 3) := by decide +kernel
theorem dL_law_628 : decode cL_law 628 = .ok (.aload_n 2, 1) := by decide +kernel
theorem dL_law_629 : decode cL_law 629 = .ok (.aload_n 0, 1) := by decide +kernel
theorem dL_law_630 : decode cL_law 630 = .ok (.iload_n 3, 1) := by decide +kernel
theorem dL_law_631 : decode cL_law 631 = .ok (.iconst 1, 1) := by decide +kernel
theorem dL_law_632 : decode cL_law 632 = .ok (.iadd, 1) := by decide +kernel
theorem dL_law_633 : decode cL_law 633 = .ok (.iaload, 1) := by decide +kernel
theorem dL_law_634 : decode cL_law 634 = .ok (.aload_n 0, 1) := by decide +kernel
theorem dL_law_635 : decode cL_law 635 = .ok (.iload_n 3, 1) := by decide +kernel
theorem dL_law_636 : decode cL_law 636 = .ok (.iconst 2, 1) := by decide +kernel
theorem dL_law_637 : decode cL_law 637 = .ok (.iadd, 1) := by decide +kernel
theorem dL_law_638 : decode cL_law 638 = .ok (.iaload, 1) := by decide +kernel
theorem dL_law_639 : decode cL_law 639 = .ok (.invokevirtual 68, 3) := by decide +kernel
theorem dL_law_642 : decode cL_law 642 = .ok (.if_icmp .eq 619, 3) := by decide +kernel
theorem dL_law_645 : decode cL_law 645 = .ok (.iconst 0, 1) := by decide +kernel
theorem dL_law_646 : decode cL_law 646 = .ok (.ireturn, 1) := by decide +kernel
theorem dL_law_647 : decode cL_law 647 = .ok (.aload_n 1, 1) := by decide +kernel
theorem dL_law_648 : decode cL_law 648 = .ok (.invokevirtual 69, 3) := by decide +kernel
theorem dL_law_651 : decode cL_law 651 = .ok (.aload_n 2, 1) := by decide +kernel
theorem dL_law_652 : decode cL_law 652 = .ok (.invokevirtual 73, 3) := by decide +kernel
theorem dL_law_655 : decode cL_law 655 = .ok (.if_icmp .eq 606, 3) := by decide +kernel
theorem dL_law_658 : decode cL_law 658 = .ok (.iconst 0, 1) := by decide +kernel
theorem dL_law_659 : decode cL_law 659 = .ok (.ireturn, 1) := by decide +kernel
theorem dL_law_660 : decode cL_law 660 = .ok (.aload_n 1, 1) := by decide +kernel
theorem dL_law_661 : decode cL_law 661 = .ok (.aload_n 0, 1) := by decide +kernel
theorem dL_law_662 : decode cL_law 662 = .ok (.iload_n 3, 1) := by decide +kernel
theorem dL_law_663 : decode cL_law 663 = .ok (.iconst 1, 1) := by decide +kernel
theorem dL_law_664 : decode cL_law 664 = .ok (.iadd, 1) := by decide +kernel
theorem dL_law_665 : decode cL_law 665 = .ok (.iaload, 1) := by decide +kernel
theorem dL_law_666 : decode cL_law 666 = .ok (.aload_n 0, 1) := by decide +kernel
theorem dL_law_667 : decode cL_law 667 = .ok (.iload_n 3, 1) := by decide +kernel
theorem dL_law_668 : decode cL_law 668 = .ok (.iconst 2, 1) := by decide +kernel
theorem dL_law_669 : decode cL_law 669 = .ok (.iadd, 1) := by decide +kernel
theorem dL_law_670 : decode cL_law 670 = .ok (.iaload, 1) := by decide +kernel
theorem dL_law_671 : decode cL_law 671 = .ok (.invokevirtual 74, 3) := by decide +kernel
theorem dL_law_674 : decode cL_law 674 = .ok (.aload_n 2, 1) := by decide +kernel
theorem dL_law_675 : decode cL_law 675 = .ok (.aload_n 0, 1) := by decide +kernel
theorem dL_law_676 : decode cL_law 676 = .ok (.iload_n 3, 1) := by decide +kernel
theorem dL_law_677 : decode cL_law 677 = .ok (.iconst 1, 1) := by decide +kernel
theorem dL_law_678 : decode cL_law 678 = .ok (.iadd, 1) := by decide +kernel
theorem dL_law_679 : decode cL_law 679 = .ok (.iaload, 1) := by decide +kernel
theorem dL_law_680 : decode cL_law 680 = .ok (.aload_n 0, 1) := by decide +kernel
theorem dL_law_681 : decode cL_law 681 = .ok (.iload_n 3, 1) := by decide +kernel
theorem dL_law_682 : decode cL_law 682 = .ok (.iconst 2, 1) := by decide +kernel
theorem dL_law_683 : decode cL_law 683 = .ok (.iadd, 1) := by decide +kernel
theorem dL_law_684 : decode cL_law 684 = .ok (.iaload, 1) := by decide +kernel
theorem dL_law_685 : decode cL_law 685 = .ok (.invokevirtual 77, 3) := by decide +kernel
theorem dL_law_688 : decode cL_law 688 = .ok (.if_icmp .eq 573, 3) := by decide +kernel
theorem dL_law_691 : decode cL_law 691 = .ok (.iconst 0, 1) := by decide +kernel
theorem dL_law_692 : decode cL_law 692 = .ok (.ireturn, 1) := by decide +kernel
theorem dL_law_693 : decode cL_law 693 = .ok (.aload_n 1, 1) := by decide +kernel
theorem dL_law_694 : decode cL_law 694 = .ok (.aload_n 0, 1) := by decide +kernel
theorem dL_law_695 : decode cL_law 695 = .ok (.iload_n 3, 1) := by decide +kernel
theorem dL_law_696 : decode cL_law 696 = .ok (.iconst 1, 1) := by decide +kernel
theorem dL_law_697 : decode cL_law 697 = .ok (.iadd, 1) := by decide +kernel
theorem dL_law_698 : decode cL_law 698 = .ok (.iaload, 1) := by decide +kernel
theorem dL_law_699 : decode cL_law 699 = .ok (.invokevirtual 78, 3) := by decide +kernel
theorem dL_law_702 : decode cL_law 702 = .ok (.aload_n 2, 1) := by decide +kernel
theorem dL_law_703 : decode cL_law 703 = .ok (.aload_n 0, 1) := by decide +kernel
theorem dL_law_704 : decode cL_law 704 = .ok (.iload_n 3, 1) := by decide +kernel
theorem dL_law_705 : decode cL_law 705 = .ok (.iconst 1, 1) := by decide +kernel
theorem dL_law_706 : decode cL_law 706 = .ok (.iadd, 1) := by decide +kernel
theorem dL_law_707 : decode cL_law 707 = .ok (.iaload, 1) := by decide +kernel
theorem dL_law_708 : decode cL_law 708 = .ok (.invokevirtual 81, 3) := by decide +kernel
theorem dL_law_711 : decode cL_law 711 = .ok (.if_icmp .eq 550, 3) := by decide +kernel
theorem dL_law_714 : decode cL_law 714 = .ok (.iconst 0, 1) := by decide +kernel
theorem dL_law_715 : decode cL_law 715 = .ok (.ireturn, 1) := by decide +kernel
theorem dL_law_716 : decode cL_law 716 = .ok (.aload_n 1, 1) := by decide +kernel
theorem dL_law_717 : decode cL_law 717 = .ok (.aload_n 0, 1) := by decide +kernel
theorem dL_law_718 : decode cL_law 718 = .ok (.iload_n 3, 1) := by decide +kernel
theorem dL_law_719 : decode cL_law 719 = .ok (.iconst 1, 1) := by decide +kernel
theorem dL_law_720 : decode cL_law 720 = .ok (.iadd, 1) := by decide +kernel
theorem dL_law_721 : decode cL_law 721 = .ok (.iaload, 1) := by decide +kernel
theorem dL_law_722 : decode cL_law 722 = .ok (.invokevirtual 82, 3) := by decide +kernel
theorem dL_law_725 : decode cL_law 725 = .ok (.aload_n 2, 1) := by decide +kernel
theorem dL_law_726 : decode cL_law 726 = .ok (.aload_n 0, 1) := by decide +kernel
theorem dL_law_727 : decode cL_law 727 = .ok (.iload_n 3, 1) := by decide +kernel
theorem dL_law_728 : decode cL_law 728 = .ok (.iconst 1, 1) := by decide +kernel
theorem dL_law_729 : decode cL_law 729 = .ok (.iadd, 1) := by decide +kernel
theorem dL_law_730 : decode cL_law 730 = .ok (.iaload, 1) := by decide +kernel
theorem dL_law_731 : decode cL_law 731 = .ok (.invokevirtual 85, 3) := by decide +kernel
theorem dL_law_734 : decode cL_law 734 = .ok (.if_icmp .eq 527, 3) := by decide +kernel
theorem dL_law_737 : decode cL_law 737 = .ok (.iconst 0, 1) := by decide +kernel
theorem dL_law_738 : decode cL_law 738 = .ok (.ireturn, 1) := by decide +kernel
theorem dL_law_739 : decode cL_law 739 = .ok (.aload_n 1, 1) := by decide +kernel
theorem dL_law_740 : decode cL_law 740 = .ok (.aload_n 0, 1) := by decide +kernel
theorem dL_law_741 : decode cL_law 741 = .ok (.iload_n 3, 1) := by decide +kernel
theorem dL_law_742 : decode cL_law 742 = .ok (.iconst 1, 1) := by decide +kernel
theorem dL_law_743 : decode cL_law 743 = .ok (.iadd, 1) := by decide +kernel
theorem dL_law_744 : decode cL_law 744 = .ok (.iaload, 1) := by decide +kernel
theorem dL_law_745 : decode cL_law 745 = .ok (.invokevirtual 86, 3) := by decide +kernel
theorem dL_law_748 : decode cL_law 748 = .ok (.aload_n 2, 1) := by decide +kernel
theorem dL_law_749 : decode cL_law 749 = .ok (.aload_n 0, 1) := by decide +kernel
theorem dL_law_750 : decode cL_law 750 = .ok (.iload_n 3, 1) := by decide +kernel
theorem dL_law_751 : decode cL_law 751 = .ok (.iconst 1, 1) := by decide +kernel
theorem dL_law_752 : decode cL_law 752 = .ok (.iadd, 1) := by decide +kernel
theorem dL_law_753 : decode cL_law 753 = .ok (.iaload, 1) := by decide +kernel
theorem dL_law_754 : decode cL_law 754 = .ok (.invokevirtual 89, 3) := by decide +kernel
theorem dL_law_757 : decode cL_law 757 = .ok (.if_icmp .eq 504, 3) := by decide +kernel
theorem dL_law_760 : decode cL_law 760 = .ok (.iconst 0, 1) := by decide +kernel
theorem dL_law_761 : decode cL_law 761 = .ok (.ireturn, 1) := by decide +kernel
theorem dL_law_762 : decode cL_law 762 = .ok (.aload_n 1, 1) := by decide +kernel
theorem dL_law_763 : decode cL_law 763 = .ok (.aload_n 0, 1) := by decide +kernel
theorem dL_law_764 : decode cL_law 764 = .ok (.iload_n 3, 1) := by decide +kernel
theorem dL_law_765 : decode cL_law 765 = .ok (.iconst 1, 1) := by decide +kernel
theorem dL_law_766 : decode cL_law 766 = .ok (.iadd, 1) := by decide +kernel
theorem dL_law_767 : decode cL_law 767 = .ok (.iaload, 1) := by decide +kernel
theorem dL_law_768 : decode cL_law 768 = .ok (.invokevirtual 90, 3) := by decide +kernel
theorem dL_law_771 : decode cL_law 771 = .ok (.aload_n 2, 1) := by decide +kernel
theorem dL_law_772 : decode cL_law 772 = .ok (.aload_n 0, 1) := by decide +kernel
theorem dL_law_773 : decode cL_law 773 = .ok (.iload_n 3, 1) := by decide +kernel
theorem dL_law_774 : decode cL_law 774 = .ok (.iconst 1, 1) := by decide +kernel
theorem dL_law_775 : decode cL_law 775 = .ok (.iadd, 1) := by decide +kernel
theorem dL_law_776 : decode cL_law 776 = .ok (.iaload, 1) := by decide +kernel
theorem dL_law_777 : decode cL_law 777 = .ok (.invokevirtual 93, 3) := by decide +kernel
theorem dL_law_780 : decode cL_law 780 = .ok (.if_icmp .eq 481, 3) := by decide +kernel
theorem dL_law_783 : decode cL_law 783 = .ok (.iconst 0, 1) := by decide +kernel
theorem dL_law_784 : decode cL_law 784 = .ok (.ireturn, 1) := by decide +kernel
theorem dL_law_785 : decode cL_law 785 = .ok (.aload_n 1, 1) := by decide +kernel
theorem dL_law_786 : decode cL_law 786 = .ok (.aload_n 0, 1) := by decide +kernel
theorem dL_law_787 : decode cL_law 787 = .ok (.iload_n 3, 1) := by decide +kernel
theorem dL_law_788 : decode cL_law 788 = .ok (.iconst 1, 1) := by decide +kernel
theorem dL_law_789 : decode cL_law 789 = .ok (.iadd, 1) := by decide +kernel
theorem dL_law_790 : decode cL_law 790 = .ok (.iaload, 1) := by decide +kernel
theorem dL_law_791 : decode cL_law 791 = .ok (.invokevirtual 94, 3) := by decide +kernel
theorem dL_law_794 : decode cL_law 794 = .ok (.aload_n 2, 1) := by decide +kernel
theorem dL_law_795 : decode cL_law 795 = .ok (.aload_n 0, 1) := by decide +kernel
theorem dL_law_796 : decode cL_law 796 = .ok (.iload_n 3, 1) := by decide +kernel
theorem dL_law_797 : decode cL_law 797 = .ok (.iconst 1, 1) := by decide +kernel
theorem dL_law_798 : decode cL_law 798 = .ok (.iadd, 1) := by decide +kernel
theorem dL_law_799 : decode cL_law 799 = .ok (.iaload, 1) := by decide +kernel
theorem dL_law_800 : decode cL_law 800 = .ok (.invokevirtual 97, 3) := by decide +kernel
theorem dL_law_803 : decode cL_law 803 = .ok (.if_icmp .eq 458, 3) := by decide +kernel
theorem dL_law_806 : decode cL_law 806 = .ok (.iconst 0, 1) := by decide +kernel
theorem dL_law_807 : decode cL_law 807 = .ok (.ireturn, 1) := by decide +kernel
theorem dL_law_808 : decode cL_law 808 = .ok (.aload_n 1, 1) := by decide +kernel
theorem dL_law_809 : decode cL_law 809 = .ok (.aload_n 0, 1) := by decide +kernel
theorem dL_law_810 : decode cL_law 810 = .ok (.iload_n 3, 1) := by decide +kernel
theorem dL_law_811 : decode cL_law 811 = .ok (.iconst 1, 1) := by decide +kernel
theorem dL_law_812 : decode cL_law 812 = .ok (.iadd, 1) := by decide +kernel
theorem dL_law_813 : decode cL_law 813 = .ok (.iaload, 1) := by decide +kernel
theorem dL_law_814 : decode cL_law 814 = .ok (.invokevirtual 98, 3) := by decide +kernel
theorem dL_law_817 : decode cL_law 817 = .ok (.aload_n 2, 1) := by decide +kernel
theorem dL_law_818 : decode cL_law 818 = .ok (.aload_n 0, 1) := by decide +kernel
theorem dL_law_819 : decode cL_law 819 = .ok (.iload_n 3, 1) := by decide +kernel
theorem dL_law_820 : decode cL_law 820 = .ok (.iconst 1, 1) := by decide +kernel
theorem dL_law_821 : decode cL_law 821 = .ok (.iadd, 1) := by decide +kernel
theorem dL_law_822 : decode cL_law 822 = .ok (.iaload, 1) := by decide +kernel
theorem dL_law_823 : decode cL_law 823 = .ok (.invokevirtual 101, 3) := by decide +kernel
theorem dL_law_826 : decode cL_law 826 = .ok (.if_icmp .eq 435, 3) := by decide +kernel
theorem dL_law_829 : decode cL_law 829 = .ok (.iconst 0, 1) := by decide +kernel
theorem dL_law_830 : decode cL_law 830 = .ok (.ireturn, 1) := by decide +kernel
theorem dL_law_831 : decode cL_law 831 = .ok (.aload_n 1, 1) := by decide +kernel
theorem dL_law_832 : decode cL_law 832 = .ok (.invokevirtual 102, 3) := by decide +kernel
theorem dL_law_835 : decode cL_law 835 = .ok (.aload_n 2, 1) := by decide +kernel
theorem dL_law_836 : decode cL_law 836 = .ok (.invokevirtual 105, 3) := by decide +kernel
theorem dL_law_839 : decode cL_law 839 = .ok (.if_icmp .eq 422, 3) := by decide +kernel
theorem dL_law_842 : decode cL_law 842 = .ok (.iconst 0, 1) := by decide +kernel
theorem dL_law_843 : decode cL_law 843 = .ok (.ireturn, 1) := by decide +kernel
theorem dL_law_844 : decode cL_law 844 = .ok (.aload_n 1, 1) := by decide +kernel
theorem dL_law_845 : decode cL_law 845 = .ok (.aload_n 0, 1) := by decide +kernel
theorem dL_law_846 : decode cL_law 846 = .ok (.iload_n 3, 1) := by decide +kernel
theorem dL_law_847 : decode cL_law 847 = .ok (.iconst 1, 1) := by decide +kernel
theorem dL_law_848 : decode cL_law 848 = .ok (.iadd, 1) := by decide +kernel
theorem dL_law_849 : decode cL_law 849 = .ok (.iaload, 1) := by decide +kernel
theorem dL_law_850 : decode cL_law 850 = .ok (.invokevirtual 106, 3) := by decide +kernel
theorem dL_law_853 : decode cL_law 853 = .ok (.aload_n 2, 1) := by decide +kernel
theorem dL_law_854 : decode cL_law 854 = .ok (.aload_n 0, 1) := by decide +kernel
theorem dL_law_855 : decode cL_law 855 = .ok (.iload_n 3, 1) := by decide +kernel
theorem dL_law_856 : decode cL_law 856 = .ok (.iconst 1, 1) := by decide +kernel
theorem dL_law_857 : decode cL_law 857 = .ok (.iadd, 1) := by decide +kernel
theorem dL_law_858 : decode cL_law 858 = .ok (.iaload, 1) := by decide +kernel
theorem dL_law_859 : decode cL_law 859 = .ok (.invokevirtual 109, 3) := by decide +kernel
theorem dL_law_862 : decode cL_law 862 = .ok (.if_icmp .eq 399, 3) := by decide +kernel
theorem dL_law_865 : decode cL_law 865 = .ok (.iconst 0, 1) := by decide +kernel
theorem dL_law_866 : decode cL_law 866 = .ok (.ireturn, 1) := by decide +kernel
theorem dL_law_867 : decode cL_law 867 = .ok (.aload_n 1, 1) := by decide +kernel
theorem dL_law_868 : decode cL_law 868 = .ok (.invokevirtual 110, 3) := by decide +kernel
theorem dL_law_871 : decode cL_law 871 = .ok (.aload_n 2, 1) := by decide +kernel
theorem dL_law_872 : decode cL_law 872 = .ok (.invokevirtual 113, 3) := by decide +kernel
theorem dL_law_875 : decode cL_law 875 = .ok (.if_icmp .eq 386, 3) := by decide +kernel
theorem dL_law_878 : decode cL_law 878 = .ok (.iconst 0, 1) := by decide +kernel
theorem dL_law_879 : decode cL_law 879 = .ok (.ireturn, 1) := by decide +kernel
theorem dL_law_880 : decode cL_law 880 = .ok (.aload_n 1, 1) := by decide +kernel
theorem dL_law_881 : decode cL_law 881 = .ok (.aload_n 0, 1) := by decide +kernel
theorem dL_law_882 : decode cL_law 882 = .ok (.iload_n 3, 1) := by decide +kernel
theorem dL_law_883 : decode cL_law 883 = .ok (.iconst 1, 1) := by decide +kernel
theorem dL_law_884 : decode cL_law 884 = .ok (.iadd, 1) := by decide +kernel
theorem dL_law_885 : decode cL_law 885 = .ok (.iaload, 1) := by decide +kernel
theorem dL_law_886 : decode cL_law 886 = .ok (.aload_n 0, 1) := by decide +kernel
theorem dL_law_887 : decode cL_law 887 = .ok (.iload_n 3, 1) := by decide +kernel
theorem dL_law_888 : decode cL_law 888 = .ok (.iconst 2, 1) := by decide +kernel
theorem dL_law_889 : decode cL_law 889 = .ok (.iadd, 1) := by decide +kernel
theorem dL_law_890 : decode cL_law 890 = .ok (.iaload, 1) := by decide +kernel
theorem dL_law_891 : decode cL_law 891 = .ok (.invokevirtual 114, 3) := by decide +kernel
theorem dL_law_894 : decode cL_law 894 = .ok (.aload_n 2, 1) := by decide +kernel
theorem dL_law_895 : decode cL_law 895 = .ok (.aload_n 0, 1) := by decide +kernel
theorem dL_law_896 : decode cL_law 896 = .ok (.iload_n 3, 1) := by decide +kernel
theorem dL_law_897 : decode cL_law 897 = .ok (.iconst 1, 1) := by decide +kernel
theorem dL_law_898 : decode cL_law 898 = .ok (.iadd, 1) := by decide +kernel
theorem dL_law_899 : decode cL_law 899 = .ok (.iaload, 1) := by decide +kernel
theorem dL_law_900 : decode cL_law 900 = .ok (.aload_n 0, 1) := by decide +kernel
theorem dL_law_901 : decode cL_law 901 = .ok (.iload_n 3, 1) := by decide +kernel
theorem dL_law_902 : decode cL_law 902 = .ok (.iconst 2, 1) := by decide +kernel
theorem dL_law_903 : decode cL_law 903 = .ok (.iadd, 1) := by decide +kernel
theorem dL_law_904 : decode cL_law 904 = .ok (.iaload, 1) := by decide +kernel
theorem dL_law_905 : decode cL_law 905 = .ok (.invokevirtual 117, 3) := by decide +kernel
theorem dL_law_908 : decode cL_law 908 = .ok (.if_icmp .eq 353, 3) := by decide +kernel
theorem dL_law_911 : decode cL_law 911 = .ok (.iconst 0, 1) := by decide +kernel
theorem dL_law_912 : decode cL_law 912 = .ok (.ireturn, 1) := by decide +kernel
theorem dL_law_913 : decode cL_law 913 = .ok (.aload_n 1, 1) := by decide +kernel
theorem dL_law_914 : decode cL_law 914 = .ok (.aload_n 0, 1) := by decide +kernel
theorem dL_law_915 : decode cL_law 915 = .ok (.iload_n 3, 1) := by decide +kernel
theorem dL_law_916 : decode cL_law 916 = .ok (.iconst 1, 1) := by decide +kernel
theorem dL_law_917 : decode cL_law 917 = .ok (.iadd, 1) := by decide +kernel
theorem dL_law_918 : decode cL_law 918 = .ok (.iaload, 1) := by decide +kernel
theorem dL_law_919 : decode cL_law 919 = .ok (.invokevirtual 118, 3) := by decide +kernel
theorem dL_law_922 : decode cL_law 922 = .ok (.aload_n 2, 1) := by decide +kernel
theorem dL_law_923 : decode cL_law 923 = .ok (.aload_n 0, 1) := by decide +kernel
theorem dL_law_924 : decode cL_law 924 = .ok (.iload_n 3, 1) := by decide +kernel
theorem dL_law_925 : decode cL_law 925 = .ok (.iconst 1, 1) := by decide +kernel
theorem dL_law_926 : decode cL_law 926 = .ok (.iadd, 1) := by decide +kernel
theorem dL_law_927 : decode cL_law 927 = .ok (.iaload, 1) := by decide +kernel
theorem dL_law_928 : decode cL_law 928 = .ok (.invokevirtual 121, 3) := by decide +kernel
theorem dL_law_931 : decode cL_law 931 = .ok (.if_icmp .eq 330, 3) := by decide +kernel
theorem dL_law_934 : decode cL_law 934 = .ok (.iconst 0, 1) := by decide +kernel
theorem dL_law_935 : decode cL_law 935 = .ok (.ireturn, 1) := by decide +kernel
theorem dL_law_936 : decode cL_law 936 = .ok (.aload_n 1, 1) := by decide +kernel
theorem dL_law_937 : decode cL_law 937 = .ok (.aload_n 0, 1) := by decide +kernel
theorem dL_law_938 : decode cL_law 938 = .ok (.iload_n 3, 1) := by decide +kernel
theorem dL_law_939 : decode cL_law 939 = .ok (.iconst 1, 1) := by decide +kernel
theorem dL_law_940 : decode cL_law 940 = .ok (.iadd, 1) := by decide +kernel
theorem dL_law_941 : decode cL_law 941 = .ok (.iaload, 1) := by decide +kernel
theorem dL_law_942 : decode cL_law 942 = .ok (.invokevirtual 122, 3) := by decide +kernel
theorem dL_law_945 : decode cL_law 945 = .ok (.aload_n 2, 1) := by decide +kernel
theorem dL_law_946 : decode cL_law 946 = .ok (.aload_n 0, 1) := by decide +kernel
theorem dL_law_947 : decode cL_law 947 = .ok (.iload_n 3, 1) := by decide +kernel
theorem dL_law_948 : decode cL_law 948 = .ok (.iconst 1, 1) := by decide +kernel
theorem dL_law_949 : decode cL_law 949 = .ok (.iadd, 1) := by decide +kernel
theorem dL_law_950 : decode cL_law 950 = .ok (.iaload, 1) := by decide +kernel
theorem dL_law_951 : decode cL_law 951 = .ok (.invokevirtual 125, 3) := by decide +kernel
theorem dL_law_954 : decode cL_law 954 = .ok (.if_icmp .eq 307, 3) := by decide +kernel
theorem dL_law_957 : decode cL_law 957 = .ok (.iconst 0, 1) := by decide +kernel
theorem dL_law_958 : decode cL_law 958 = .ok (.ireturn, 1) := by decide +kernel
theorem dL_law_959 : decode cL_law 959 = .ok (.aload_n 1, 1) := by decide +kernel
theorem dL_law_960 : decode cL_law 960 = .ok (.aload_n 0, 1) := by decide +kernel
theorem dL_law_961 : decode cL_law 961 = .ok (.iload_n 3, 1) := by decide +kernel
theorem dL_law_962 : decode cL_law 962 = .ok (.iconst 1, 1) := by decide +kernel
theorem dL_law_963 : decode cL_law 963 = .ok (.iadd, 1) := by decide +kernel
theorem dL_law_964 : decode cL_law 964 = .ok (.iaload, 1) := by decide +kernel
theorem dL_law_965 : decode cL_law 965 = .ok (.aload_n 0, 1) := by decide +kernel
theorem dL_law_966 : decode cL_law 966 = .ok (.iload_n 3, 1) := by decide +kernel
theorem dL_law_967 : decode cL_law 967 = .ok (.iconst 2, 1) := by decide +kernel
theorem dL_law_968 : decode cL_law 968 = .ok (.iadd, 1) := by decide +kernel
theorem dL_law_969 : decode cL_law 969 = .ok (.iaload, 1) := by decide +kernel
theorem dL_law_970 : decode cL_law 970 = .ok (.invokevirtual 126, 3) := by decide +kernel
theorem dL_law_973 : decode cL_law 973 = .ok (.aload_n 2, 1) := by decide +kernel
theorem dL_law_974 : decode cL_law 974 = .ok (.aload_n 0, 1) := by decide +kernel
theorem dL_law_975 : decode cL_law 975 = .ok (.iload_n 3, 1) := by decide +kernel
theorem dL_law_976 : decode cL_law 976 = .ok (.iconst 1, 1) := by decide +kernel
theorem dL_law_977 : decode cL_law 977 = .ok (.iadd, 1) := by decide +kernel
theorem dL_law_978 : decode cL_law 978 = .ok (.iaload, 1) := by decide +kernel
theorem dL_law_979 : decode cL_law 979 = .ok (.aload_n 0, 1) := by decide +kernel
theorem dL_law_980 : decode cL_law 980 = .ok (.iload_n 3, 1) := by decide +kernel
theorem dL_law_981 : decode cL_law 981 = .ok (.iconst 2, 1) := by decide +kernel
theorem dL_law_982 : decode cL_law 982 = .ok (.iadd, 1) := by decide +kernel
theorem dL_law_983 : decode cL_law 983 = .ok (.iaload, 1) := by decide +kernel
theorem dL_law_984 : decode cL_law 984 = .ok (.invokevirtual 129, 3) := by decide +kernel
theorem dL_law_987 : decode cL_law 987 = .ok (.if_icmp .eq 274, 3) := by decide +kernel
theorem dL_law_990 : decode cL_law 990 = .ok (.iconst 0, 1) := by decide +kernel
theorem dL_law_991 : decode cL_law 991 = .ok (.ireturn, 1) := by decide +kernel
theorem dL_law_992 : decode cL_law 992 = .ok (.aload_n 1, 1) := by decide +kernel
theorem dL_law_993 : decode cL_law 993 = .ok (.aload_n 0, 1) := by decide +kernel
theorem dL_law_994 : decode cL_law 994 = .ok (.iload_n 3, 1) := by decide +kernel
theorem dL_law_995 : decode cL_law 995 = .ok (.iconst 1, 1) := by decide +kernel
theorem dL_law_996 : decode cL_law 996 = .ok (.iadd, 1) := by decide +kernel
theorem dL_law_997 : decode cL_law 997 = .ok (.iaload, 1) := by decide +kernel
theorem dL_law_998 : decode cL_law 998 = .ok (.invokevirtual 130, 3) := by decide +kernel
theorem dL_law_1001 : decode cL_law 1001 = .ok (.aload_n 2, 1) := by decide +kernel
theorem dL_law_1002 : decode cL_law 1002 = .ok (.aload_n 0, 1) := by decide +kernel
theorem dL_law_1003 : decode cL_law 1003 = .ok (.iload_n 3, 1) := by decide +kernel
theorem dL_law_1004 : decode cL_law 1004 = .ok (.iconst 1, 1) := by decide +kernel
theorem dL_law_1005 : decode cL_law 1005 = .ok (.iadd, 1) := by decide +kernel
theorem dL_law_1006 : decode cL_law 1006 = .ok (.iaload, 1) := by decide +kernel
theorem dL_law_1007 : decode cL_law 1007 = .ok (.invokevirtual 133, 3) := by decide +kernel
theorem dL_law_1010 : decode cL_law 1010 = .ok (.if_icmp .eq 251, 3) := by decide +kernel
theorem dL_law_1013 : decode cL_law 1013 = .ok (.iconst 0, 1) := by decide +kernel
theorem dL_law_1014 : decode cL_law 1014 = .ok (.ireturn, 1) := by decide +kernel
theorem dL_law_1015 : decode cL_law 1015 = .ok (.aload_n 1, 1) := by decide +kernel
theorem dL_law_1016 : decode cL_law 1016 = .ok (.aload_n 0, 1) := by decide +kernel
theorem dL_law_1017 : decode cL_law 1017 = .ok (.iload_n 3, 1) := by decide +kernel
theorem dL_law_1018 : decode cL_law 1018 = .ok (.iconst 1, 1) := by decide +kernel
theorem dL_law_1019 : decode cL_law 1019 = .ok (.iadd, 1) := by decide +kernel
theorem dL_law_1020 : decode cL_law 1020 = .ok (.iaload, 1) := by decide +kernel
theorem dL_law_1021 : decode cL_law 1021 = .ok (.invokevirtual 134, 3) := by decide +kernel
theorem dL_law_1024 : decode cL_law 1024 = .ok (.aload_n 2, 1) := by decide +kernel
theorem dL_law_1025 : decode cL_law 1025 = .ok (.aload_n 0, 1) := by decide +kernel
theorem dL_law_1026 : decode cL_law 1026 = .ok (.iload_n 3, 1) := by decide +kernel
theorem dL_law_1027 : decode cL_law 1027 = .ok (.iconst 1, 1) := by decide +kernel
theorem dL_law_1028 : decode cL_law 1028 = .ok (.iadd, 1) := by decide +kernel
theorem dL_law_1029 : decode cL_law 1029 = .ok (.iaload, 1) := by decide +kernel
theorem dL_law_1030 : decode cL_law 1030 = .ok (.invokevirtual 137, 3) := by decide +kernel
theorem dL_law_1033 : decode cL_law 1033 = .ok (.if_icmp .eq 228, 3) := by decide +kernel
theorem dL_law_1036 : decode cL_law 1036 = .ok (.iconst 0, 1) := by decide +kernel
theorem dL_law_1037 : decode cL_law 1037 = .ok (.ireturn, 1) := by decide +kernel
theorem dL_law_1038 : decode cL_law 1038 = .ok (.aload_n 1, 1) := by decide +kernel
theorem dL_law_1039 : decode cL_law 1039 = .ok (.aload_n 0, 1) := by decide +kernel
theorem dL_law_1040 : decode cL_law 1040 = .ok (.iload_n 3, 1) := by decide +kernel
theorem dL_law_1041 : decode cL_law 1041 = .ok (.iconst 1, 1) := by decide +kernel
theorem dL_law_1042 : decode cL_law 1042 = .ok (.iadd, 1) := by decide +kernel
theorem dL_law_1043 : decode cL_law 1043 = .ok (.iaload, 1) := by decide +kernel
theorem dL_law_1044 : decode cL_law 1044 = .ok (.aload_n 0, 1) := by decide +kernel
theorem dL_law_1045 : decode cL_law 1045 = .ok (.iload_n 3, 1) := by decide +kernel
theorem dL_law_1046 : decode cL_law 1046 = .ok (.iconst 2, 1) := by decide +kernel
theorem dL_law_1047 : decode cL_law 1047 = .ok (.iadd, 1) := by decide +kernel
theorem dL_law_1048 : decode cL_law 1048 = .ok (.iaload, 1) := by decide +kernel
theorem dL_law_1049 : decode cL_law 1049 = .ok (.aload_n 0, 1) := by decide +kernel
theorem dL_law_1050 : decode cL_law 1050 = .ok (.iload_n 3, 1) := by decide +kernel
theorem dL_law_1051 : decode cL_law 1051 = .ok (.iconst 3, 1) := by decide +kernel
theorem dL_law_1052 : decode cL_law 1052 = .ok (.iadd, 1) := by decide +kernel
theorem dL_law_1053 : decode cL_law 1053 = .ok (.iaload, 1) := by decide +kernel
theorem dL_law_1054 : decode cL_law 1054 = .ok (.invokevirtual 138, 3) := by decide +kernel
theorem dL_law_1057 : decode cL_law 1057 = .ok (.aload_n 2, 1) := by decide +kernel
theorem dL_law_1058 : decode cL_law 1058 = .ok (.aload_n 0, 1) := by decide +kernel
theorem dL_law_1059 : decode cL_law 1059 = .ok (.iload_n 3, 1) := by decide +kernel
theorem dL_law_1060 : decode cL_law 1060 = .ok (.iconst 1, 1) := by decide +kernel
theorem dL_law_1061 : decode cL_law 1061 = .ok (.iadd, 1) := by decide +kernel
theorem dL_law_1062 : decode cL_law 1062 = .ok (.iaload, 1) := by decide +kernel
theorem dL_law_1063 : decode cL_law 1063 = .ok (.aload_n 0, 1) := by decide +kernel
theorem dL_law_1064 : decode cL_law 1064 = .ok (.iload_n 3, 1) := by decide +kernel
theorem dL_law_1065 : decode cL_law 1065 = .ok (.iconst 2, 1) := by decide +kernel
theorem dL_law_1066 : decode cL_law 1066 = .ok (.iadd, 1) := by decide +kernel
theorem dL_law_1067 : decode cL_law 1067 = .ok (.iaload, 1) := by decide +kernel
theorem dL_law_1068 : decode cL_law 1068 = .ok (.aload_n 0, 1) := by decide +kernel
theorem dL_law_1069 : decode cL_law 1069 = .ok (.iload_n 3, 1) := by decide +kernel
theorem dL_law_1070 : decode cL_law 1070 = .ok (.iconst 3, 1) := by decide +kernel
theorem dL_law_1071 : decode cL_law 1071 = .ok (.iadd, 1) := by decide +kernel
theorem dL_law_1072 : decode cL_law 1072 = .ok (.iaload, 1) := by decide +kernel
theorem dL_law_1073 : decode cL_law 1073 = .ok (.invokevirtual 141, 3) := by decide +kernel
theorem dL_law_1076 : decode cL_law 1076 = .ok (.if_icmp .eq 185, 3) := by decide +kernel
theorem dL_law_1079 : decode cL_law 1079 = .ok (.iconst 0, 1) := by decide +kernel
theorem dL_law_1080 : decode cL_law 1080 = .ok (.ireturn, 1) := by decide +kernel
theorem dL_law_1081 : decode cL_law 1081 = .ok (.aload_n 1, 1) := by decide +kernel
theorem dL_law_1082 : decode cL_law 1082 = .ok (.aload_n 0, 1) := by decide +kernel
theorem dL_law_1083 : decode cL_law 1083 = .ok (.iload_n 3, 1) := by decide +kernel
theorem dL_law_1084 : decode cL_law 1084 = .ok (.iconst 1, 1) := by decide +kernel
theorem dL_law_1085 : decode cL_law 1085 = .ok (.iadd, 1) := by decide +kernel
theorem dL_law_1086 : decode cL_law 1086 = .ok (.iaload, 1) := by decide +kernel
theorem dL_law_1087 : decode cL_law 1087 = .ok (.aload_n 0, 1) := by decide +kernel
theorem dL_law_1088 : decode cL_law 1088 = .ok (.iload_n 3, 1) := by decide +kernel
theorem dL_law_1089 : decode cL_law 1089 = .ok (.iconst 2, 1) := by decide +kernel
theorem dL_law_1090 : decode cL_law 1090 = .ok (.iadd, 1) := by decide +kernel
theorem dL_law_1091 : decode cL_law 1091 = .ok (.iaload, 1) := by decide +kernel
theorem dL_law_1092 : decode cL_law 1092 = .ok (.invokevirtual 142, 3) := by decide +kernel
theorem dL_law_1095 : decode cL_law 1095 = .ok (.aload_n 2, 1) := by decide +kernel
theorem dL_law_1096 : decode cL_law 1096 = .ok (.aload_n 0, 1) := by decide +kernel
theorem dL_law_1097 : decode cL_law 1097 = .ok (.iload_n 3, 1) := by decide +kernel
theorem dL_law_1098 : decode cL_law 1098 = .ok (.iconst 1, 1) := by decide +kernel
theorem dL_law_1099 : decode cL_law 1099 = .ok (.iadd, 1) := by decide +kernel
theorem dL_law_1100 : decode cL_law 1100 = .ok (.iaload, 1) := by decide +kernel
theorem dL_law_1101 : decode cL_law 1101 = .ok (.aload_n 0, 1) := by decide +kernel
theorem dL_law_1102 : decode cL_law 1102 = .ok (.iload_n 3, 1) := by decide +kernel
theorem dL_law_1103 : decode cL_law 1103 = .ok (.iconst 2, 1) := by decide +kernel
theorem dL_law_1104 : decode cL_law 1104 = .ok (.iadd, 1) := by decide +kernel
theorem dL_law_1105 : decode cL_law 1105 = .ok (.iaload, 1) := by decide +kernel
theorem dL_law_1106 : decode cL_law 1106 = .ok (.invokevirtual 145, 3) := by decide +kernel
theorem dL_law_1109 : decode cL_law 1109 = .ok (.if_icmp .eq 152, 3) := by decide +kernel
theorem dL_law_1112 : decode cL_law 1112 = .ok (.iconst 0, 1) := by decide +kernel
theorem dL_law_1113 : decode cL_law 1113 = .ok (.ireturn, 1) := by decide +kernel
theorem dL_law_1114 : decode cL_law 1114 = .ok (.aload_n 1, 1) := by decide +kernel
theorem dL_law_1115 : decode cL_law 1115 = .ok (.aload_n 0, 1) := by decide +kernel
theorem dL_law_1116 : decode cL_law 1116 = .ok (.iload_n 3, 1) := by decide +kernel
theorem dL_law_1117 : decode cL_law 1117 = .ok (.iconst 1, 1) := by decide +kernel
theorem dL_law_1118 : decode cL_law 1118 = .ok (.iadd, 1) := by decide +kernel
theorem dL_law_1119 : decode cL_law 1119 = .ok (.iaload, 1) := by decide +kernel
theorem dL_law_1120 : decode cL_law 1120 = .ok (.aload_n 0, 1) := by decide +kernel
theorem dL_law_1121 : decode cL_law 1121 = .ok (.iload_n 3, 1) := by decide +kernel
theorem dL_law_1122 : decode cL_law 1122 = .ok (.iconst 2, 1) := by decide +kernel
theorem dL_law_1123 : decode cL_law 1123 = .ok (.iadd, 1) := by decide +kernel
theorem dL_law_1124 : decode cL_law 1124 = .ok (.iaload, 1) := by decide +kernel
theorem dL_law_1125 : decode cL_law 1125 = .ok (.invokevirtual 146, 3) := by decide +kernel
theorem dL_law_1128 : decode cL_law 1128 = .ok (.aload_n 2, 1) := by decide +kernel
theorem dL_law_1129 : decode cL_law 1129 = .ok (.aload_n 0, 1) := by decide +kernel
theorem dL_law_1130 : decode cL_law 1130 = .ok (.iload_n 3, 1) := by decide +kernel
theorem dL_law_1131 : decode cL_law 1131 = .ok (.iconst 1, 1) := by decide +kernel
theorem dL_law_1132 : decode cL_law 1132 = .ok (.iadd, 1) := by decide +kernel
theorem dL_law_1133 : decode cL_law 1133 = .ok (.iaload, 1) := by decide +kernel
theorem dL_law_1134 : decode cL_law 1134 = .ok (.aload_n 0, 1) := by decide +kernel
theorem dL_law_1135 : decode cL_law 1135 = .ok (.iload_n 3, 1) := by decide +kernel
theorem dL_law_1136 : decode cL_law 1136 = .ok (.iconst 2, 1) := by decide +kernel
theorem dL_law_1137 : decode cL_law 1137 = .ok (.iadd, 1) := by decide +kernel
theorem dL_law_1138 : decode cL_law 1138 = .ok (.iaload, 1) := by decide +kernel
theorem dL_law_1139 : decode cL_law 1139 = .ok (.invokevirtual 149, 3) := by decide +kernel
theorem dL_law_1142 : decode cL_law 1142 = .ok (.if_icmp .eq 119, 3) := by decide +kernel
theorem dL_law_1145 : decode cL_law 1145 = .ok (.iconst 0, 1) := by decide +kernel
theorem dL_law_1146 : decode cL_law 1146 = .ok (.ireturn, 1) := by decide +kernel
theorem dL_law_1147 : decode cL_law 1147 = .ok (.aload_n 1, 1) := by decide +kernel
theorem dL_law_1148 : decode cL_law 1148 = .ok (.invokevirtual 150, 3) := by decide +kernel
theorem dL_law_1151 : decode cL_law 1151 = .ok (.aload_n 2, 1) := by decide +kernel
theorem dL_law_1152 : decode cL_law 1152 = .ok (.invokevirtual 153, 3) := by decide +kernel
theorem dL_law_1155 : decode cL_law 1155 = .ok (.if_icmp .eq 106, 3) := by decide +kernel
theorem dL_law_1158 : decode cL_law 1158 = .ok (.iconst 0, 1) := by decide +kernel
theorem dL_law_1159 : decode cL_law 1159 = .ok (.ireturn, 1) := by decide +kernel
theorem dL_law_1160 : decode cL_law 1160 = .ok (.aload_n 1, 1) := by decide +kernel
theorem dL_law_1161 : decode cL_law 1161 = .ok (.invokevirtual 154, 3) := by decide +kernel
theorem dL_law_1164 : decode cL_law 1164 = .ok (.aload_n 2, 1) := by decide +kernel
theorem dL_law_1165 : decode cL_law 1165 = .ok (.invokevirtual 158, 3) := by decide +kernel
theorem dL_law_1168 : decode cL_law 1168 = .ok (.lcmp, 1) := by decide +kernel
theorem dL_law_1169 : decode cL_law 1169 = .ok (.ifCond .eq 92, 3) := by decide +kernel
theorem dL_law_1172 : decode cL_law 1172 = .ok (.iconst 0, 1) := by decide +kernel
theorem dL_law_1173 : decode cL_law 1173 = .ok (.ireturn, 1) := by decide +kernel
theorem dL_law_1174 : decode cL_law 1174 = .ok (.aload_n 1, 1) := by decide +kernel
theorem dL_law_1175 : decode cL_law 1175 = .ok (.invokevirtual 159, 3) := by decide +kernel
theorem dL_law_1178 : decode cL_law 1178 = .ok (.aload_n 2, 1) := by decide +kernel
theorem dL_law_1179 : decode cL_law 1179 = .ok (.invokevirtual 162, 3) := by decide +kernel
theorem dL_law_1182 : decode cL_law 1182 = .ok (.lcmp, 1) := by decide +kernel
theorem dL_law_1183 : decode cL_law 1183 = .ok (.ifCond .eq 78, 3) := by decide +kernel
theorem dL_law_1186 : decode cL_law 1186 = .ok (.iconst 0, 1) := by decide +kernel
theorem dL_law_1187 : decode cL_law 1187 = .ok (.ireturn, 1) := by decide +kernel
theorem dL_law_1188 : decode cL_law 1188 = .ok (.aload_n 1, 1) := by decide +kernel
theorem dL_law_1189 : decode cL_law 1189 = .ok (.aload_n 0, 1) := by decide +kernel
theorem dL_law_1190 : decode cL_law 1190 = .ok (.iload_n 3, 1) := by decide +kernel
theorem dL_law_1191 : decode cL_law 1191 = .ok (.iconst 1, 1) := by decide +kernel
theorem dL_law_1192 : decode cL_law 1192 = .ok (.iadd, 1) := by decide +kernel
theorem dL_law_1193 : decode cL_law 1193 = .ok (.iaload, 1) := by decide +kernel
theorem dL_law_1194 : decode cL_law 1194 = .ok (.invokevirtual 163, 3) := by decide +kernel
theorem dL_law_1197 : decode cL_law 1197 = .ok (.aload_n 2, 1) := by decide +kernel
theorem dL_law_1198 : decode cL_law 1198 = .ok (.aload_n 0, 1) := by decide +kernel
theorem dL_law_1199 : decode cL_law 1199 = .ok (.iload_n 3, 1) := by decide +kernel
theorem dL_law_1200 : decode cL_law 1200 = .ok (.iconst 1, 1) := by decide +kernel
theorem dL_law_1201 : decode cL_law 1201 = .ok (.iadd, 1) := by decide +kernel
theorem dL_law_1202 : decode cL_law 1202 = .ok (.iaload, 1) := by decide +kernel
theorem dL_law_1203 : decode cL_law 1203 = .ok (.invokevirtual 166, 3) := by decide +kernel
theorem dL_law_1206 : decode cL_law 1206 = .ok (.if_icmp .eq 55, 3) := by decide +kernel
theorem dL_law_1209 : decode cL_law 1209 = .ok (.iconst 0, 1) := by decide +kernel
theorem dL_law_1210 : decode cL_law 1210 = .ok (.ireturn, 1) := by decide +kernel
theorem dL_law_1211 : decode cL_law 1211 = .ok (.aload_n 1, 1) := by decide +kernel
theorem dL_law_1212 : decode cL_law 1212 = .ok (.invokevirtual 167, 3) := by decide +kernel
theorem dL_law_1215 : decode cL_law 1215 = .ok (.aload_n 2, 1) := by decide +kernel
theorem dL_law_1216 : decode cL_law 1216 = .ok (.invokevirtual 170, 3) := by decide +kernel
theorem dL_law_1219 : decode cL_law 1219 = .ok (.if_icmp .eq 42, 3) := by decide +kernel
theorem dL_law_1222 : decode cL_law 1222 = .ok (.iconst 0, 1) := by decide +kernel
theorem dL_law_1223 : decode cL_law 1223 = .ok (.ireturn, 1) := by decide +kernel
theorem dL_law_1224 : decode cL_law 1224 = .ok (.aload_n 1, 1) := by decide +kernel
theorem dL_law_1225 : decode cL_law 1225 = .ok (.aload_n 0, 1) := by decide +kernel
theorem dL_law_1226 : decode cL_law 1226 = .ok (.iload_n 3, 1) := by decide +kernel
theorem dL_law_1227 : decode cL_law 1227 = .ok (.iconst 1, 1) := by decide +kernel
theorem dL_law_1228 : decode cL_law 1228 = .ok (.iadd, 1) := by decide +kernel
theorem dL_law_1229 : decode cL_law 1229 = .ok (.iaload, 1) := by decide +kernel
theorem dL_law_1230 : decode cL_law 1230 = .ok (.invokevirtual 171, 3) := by decide +kernel
theorem dL_law_1233 : decode cL_law 1233 = .ok (.aload_n 2, 1) := by decide +kernel
theorem dL_law_1234 : decode cL_law 1234 = .ok (.aload_n 0, 1) := by decide +kernel
theorem dL_law_1235 : decode cL_law 1235 = .ok (.iload_n 3, 1) := by decide +kernel
theorem dL_law_1236 : decode cL_law 1236 = .ok (.iconst 1, 1) := by decide +kernel
theorem dL_law_1237 : decode cL_law 1237 = .ok (.iadd, 1) := by decide +kernel
theorem dL_law_1238 : decode cL_law 1238 = .ok (.iaload, 1) := by decide +kernel
theorem dL_law_1239 : decode cL_law 1239 = .ok (.invokevirtual 174, 3) := by decide +kernel
theorem dL_law_1242 : decode cL_law 1242 = .ok (.if_icmp .eq 19, 3) := by decide +kernel
theorem dL_law_1245 : decode cL_law 1245 = .ok (.iconst 0, 1) := by decide +kernel
theorem dL_law_1246 : decode cL_law 1246 = .ok (.ireturn, 1) := by decide +kernel
theorem dL_law_1247 : decode cL_law 1247 = .ok (.aload_n 1, 1) := by decide +kernel
theorem dL_law_1248 : decode cL_law 1248 = .ok (.invokevirtual 175, 3) := by decide +kernel
theorem dL_law_1251 : decode cL_law 1251 = .ok (.aload_n 2, 1) := by decide +kernel
theorem dL_law_1252 : decode cL_law 1252 = .ok (.invokevirtual 178, 3) := by decide +kernel
theorem dL_law_1255 : decode cL_law 1255 = .ok (.lcmp, 1) := by decide +kernel
theorem dL_law_1256 : decode cL_law 1256 = .ok (.ifCond .eq 5, 3) := by decide +kernel
theorem dL_law_1259 : decode cL_law 1259 = .ok (.iconst 0, 1) := by decide +kernel
theorem dL_law_1260 : decode cL_law 1260 = .ok (.ireturn, 1) := by decide +kernel
theorem dL_law_1261 : decode cL_law 1261 = .ok (.iinc 3 6, 3) := by decide +kernel
theorem dL_law_1264 : decode cL_law 1264 = .ok (.goto (-1246), 3) := by decide +kernel
theorem dL_law_1267 : decode cL_law 1267 = .ok (.iconst 1, 1) := by decide +kernel
theorem dL_law_1268 : decode cL_law 1268 = .ok (.ireturn, 1) := by decide +kernel
