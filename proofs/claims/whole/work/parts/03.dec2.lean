theorem dX4_found_2 : decode cX4_found 2 = .ok (.putfield 293, 3) := by decide +kernel
theorem dX4_found_5 : decode cX4_found 5 = .ok (.aload_n 0, 1) := by decide +kernel
theorem dX4_found_6 : decode cX4_found 6 = .ok (.getfield 70, 3) := by decide +kernel
theorem dX4_found_9 : decode cX4_found 9 = .ok (.iload_n 1, 1) := by decide +kernel
theorem dX4_found_10 : decode cX4_found 10 = .ok (.dup2, 1) := by decide +kernel
theorem dX4_found_11 : decode cX4_found 11 = .ok (.iaload, 1) := by decide +kernel
theorem dX4_found_12 : decode cX4_found 12 = .ok (.iconst 1, 1) := by decide +kernel
theorem dX4_found_13 : decode cX4_found 13 = .ok (.iadd, 1) := by decide +kernel
theorem dX4_found_14 : decode cX4_found 14 = .ok (.iastore, 1) := by decide +kernel
theorem dX4_found_15 : decode cX4_found 15 = .ok (.bipush (-3), 2) := by decide +kernel
theorem dX4_found_17 : decode cX4_found 17 = .ok (.ireturn, 1) := by decide +kernel
theorem dX4_refusalOfShelf_0 : decode cX4_refusalOfShelf 0 = .ok (.aload_n 1, 1) := by decide +kernel
theorem dX4_refusalOfShelf_1 : decode cX4_refusalOfShelf 1 = .ok (.iload_n 2, 1) := by decide +kernel
theorem dX4_refusalOfShelf_2 : decode cX4_refusalOfShelf 2 = .ok (.invokevirtual 78, 3) := by decide +kernel
theorem dX4_refusalOfShelf_5 : decode cX4_refusalOfShelf 5 = .ok (.ifCond .ne 5, 3) := by decide +kernel
theorem dX4_refusalOfShelf_8 : decode cX4_refusalOfShelf 8 = .ok (.iconst (-1), 1) := by decide +kernel
theorem dX4_refusalOfShelf_9 : decode cX4_refusalOfShelf 9 = .ok (.ireturn, 1) := by decide +kernel
theorem dX4_refusalOfShelf_10 : decode cX4_refusalOfShelf 10 = .ok (.aload_n 1, 1) := by decide +kernel
theorem dX4_refusalOfShelf_11 : decode cX4_refusalOfShelf 11 = .ok (.iload_n 2, 1) := by decide +kernel
theorem dX4_refusalOfShelf_12 : decode cX4_refusalOfShelf 12 = .ok (.invokevirtual 108, 3) := by decide +kernel
theorem dX4_refusalOfShelf_15 : decode cX4_refusalOfShelf 15 = .ok (.ifCond .eq 7, 3) := by decide +kernel
theorem dX4_refusalOfShelf_18 : decode cX4_refusalOfShelf 18 = .ok (.iconst 0, 1) := by decide +kernel
theorem dX4_refusalOfShelf_19 : decode cX4_refusalOfShelf 19 = .ok (.goto 8, 3) := by decide +kernel
theorem dX4_refusalOfShelf_22 : decode cX4_refusalOfShelf 22 = .ok (.aload_n 0, 1) := by decide +kernel
theorem dX4_refusalOfShelf_23 : decode cX4_refusalOfShelf 23 = .ok (.iconst 1, 1) := by decide +kernel
theorem dX4_refusalOfShelf_24 : decode cX4_refusalOfShelf 24 = .ok (.invokevirtual 82, 3) := by decide +kernel
theorem dX4_refusalOfShelf_27 : decode cX4_refusalOfShelf 27 = .ok (.ireturn, 1) := by decide +kernel
theorem dX4_refusalOfCell_0 : decode cX4_refusalOfCell 0 = .ok (.aload_n 0, 1) := by decide +kernel
theorem dX4_refusalOfCell_1 : decode cX4_refusalOfCell 1 = .ok (.aload_n 1, 1) := by decide +kernel
theorem dX4_refusalOfCell_2 : decode cX4_refusalOfCell 2 = .ok (.iload_n 2, 1) := by decide +kernel
theorem dX4_refusalOfCell_3 : decode cX4_refusalOfCell 3 = .ok (.invokevirtual 101, 3) := by decide +kernel
theorem dX4_refusalOfCell_6 : decode cX4_refusalOfCell 6 = .ok (.istore 4, 2) := by decide +kernel
theorem dX4_refusalOfCell_8 : decode cX4_refusalOfCell 8 = .ok (.iload 4, 2) := by decide +kernel
theorem dX4_refusalOfCell_10 : decode cX4_refusalOfCell 10 = .ok (.ifCond .eq 6, 3) := by decide +kernel
theorem dX4_refusalOfCell_13 : decode cX4_refusalOfCell 13 = .ok (.iload 4, 2) := by decide +kernel
theorem dX4_refusalOfCell_15 : decode cX4_refusalOfCell 15 = .ok (.ireturn, 1) := by decide +kernel
theorem dX4_refusalOfCell_16 : decode cX4_refusalOfCell 16 = .ok (.iload_n 3, 1) := by decide +kernel
theorem dX4_refusalOfCell_17 : decode cX4_refusalOfCell 17 = .ok (.aload_n 1, 1) := by decide +kernel
theorem dX4_refusalOfCell_18 : decode cX4_refusalOfCell 18 = .ok (.getfield 105, 3) := by decide +kernel
theorem dX4_refusalOfCell_21 : decode cX4_refusalOfCell 21 = .ok (.iload_n 2, 1) := by decide +kernel
theorem dX4_refusalOfCell_22 : decode cX4_refusalOfCell 22 = .ok (.iaload, 1) := by decide +kernel
theorem dX4_refusalOfCell_23 : decode cX4_refusalOfCell 23 = .ok (.invokestatic 132, 3) := by decide +kernel
theorem dX4_refusalOfCell_26 : decode cX4_refusalOfCell 26 = .ok (.ifCond .eq 7, 3) := by decide +kernel
theorem dX4_refusalOfCell_29 : decode cX4_refusalOfCell 29 = .ok (.iconst 0, 1) := by decide +kernel
theorem dX4_refusalOfCell_30 : decode cX4_refusalOfCell 30 = .ok (.goto 8, 3) := by decide +kernel
theorem dX4_refusalOfCell_33 : decode cX4_refusalOfCell 33 = .ok (.aload_n 0, 1) := by decide +kernel
theorem dX4_refusalOfCell_34 : decode cX4_refusalOfCell 34 = .ok (.iconst 2, 1) := by decide +kernel
theorem dX4_refusalOfCell_35 : decode cX4_refusalOfCell 35 = .ok (.invokevirtual 82, 3) := by decide +kernel
theorem dX4_refusalOfCell_38 : decode cX4_refusalOfCell 38 = .ok (.ireturn, 1) := by decide +kernel
theorem dX4_refusalOfSeen_0 : decode cX4_refusalOfSeen 0 = .ok (.aload_n 0, 1) := by decide +kernel
theorem dX4_refusalOfSeen_1 : decode cX4_refusalOfSeen 1 = .ok (.aload_n 0, 1) := by decide +kernel
theorem dX4_refusalOfSeen_2 : decode cX4_refusalOfSeen 2 = .ok (.getfield 14, 3) := by decide +kernel
theorem dX4_refusalOfSeen_5 : decode cX4_refusalOfSeen 5 = .ok (.iload_n 1, 1) := by decide +kernel
theorem dX4_refusalOfSeen_6 : decode cX4_refusalOfSeen 6 = .ok (.invokevirtual 101, 3) := by decide +kernel
theorem dX4_refusalOfSeen_9 : decode cX4_refusalOfSeen 9 = .ok (.istore_n 2, 1) := by decide +kernel
theorem dX4_refusalOfSeen_10 : decode cX4_refusalOfSeen 10 = .ok (.iload_n 2, 1) := by decide +kernel
theorem dX4_refusalOfSeen_11 : decode cX4_refusalOfSeen 11 = .ok (.ifCond .eq 5, 3) := by decide +kernel
theorem dX4_refusalOfSeen_14 : decode cX4_refusalOfSeen 14 = .ok (.iload_n 2, 1) := by decide +kernel
theorem dX4_refusalOfSeen_15 : decode cX4_refusalOfSeen 15 = .ok (.ireturn, 1) := by decide +kernel
theorem dX4_refusalOfSeen_16 : decode cX4_refusalOfSeen 16 = .ok (.aload_n 0, 1) := by decide +kernel
theorem dX4_refusalOfSeen_17 : decode cX4_refusalOfSeen 17 = .ok (.getfield 14, 3) := by decide +kernel
theorem dX4_refusalOfSeen_20 : decode cX4_refusalOfSeen 20 = .ok (.getfield 105, 3) := by decide +kernel
theorem dX4_refusalOfSeen_23 : decode cX4_refusalOfSeen 23 = .ok (.iload_n 1, 1) := by decide +kernel
theorem dX4_refusalOfSeen_24 : decode cX4_refusalOfSeen 24 = .ok (.iaload, 1) := by decide +kernel
theorem dX4_refusalOfSeen_25 : decode cX4_refusalOfSeen 25 = .ok (.istore_n 3, 1) := by decide +kernel
theorem dX4_refusalOfSeen_26 : decode cX4_refusalOfSeen 26 = .ok (.iload_n 3, 1) := by decide +kernel
theorem dX4_refusalOfSeen_27 : decode cX4_refusalOfSeen 27 = .ok (.iconst 1, 1) := by decide +kernel
theorem dX4_refusalOfSeen_28 : decode cX4_refusalOfSeen 28 = .ok (.if_icmp .lt 9, 3) := by decide +kernel
theorem dX4_refusalOfSeen_31 : decode cX4_refusalOfSeen 31 = .ok (.iload_n 3, 1) := by decide +kernel
theorem dX4_refusalOfSeen_32 : decode cX4_refusalOfSeen 32 = .ok (.bipush 20, 2) := by decide +kernel
theorem dX4_refusalOfSeen_34 : decode cX4_refusalOfSeen 34 = .ok (.if_icmp .le 9, 3) := by decide +kernel
theorem dX4_refusalOfSeen_37 : decode cX4_refusalOfSeen 37 = .ok (.aload_n 0, 1) := by decide +kernel
theorem dX4_refusalOfSeen_38 : decode cX4_refusalOfSeen 38 = .ok (.iconst 5, 1) := by decide +kernel
theorem dX4_refusalOfSeen_39 : decode cX4_refusalOfSeen 39 = .ok (.invokevirtual 82, 3) := by decide +kernel
theorem dX4_refusalOfSeen_42 : decode cX4_refusalOfSeen 42 = .ok (.ireturn, 1) := by decide +kernel
theorem dX4_refusalOfSeen_43 : decode cX4_refusalOfSeen 43 = .ok (.iconst 0, 1) := by decide +kernel
theorem dX4_refusalOfSeen_44 : decode cX4_refusalOfSeen 44 = .ok (.istore 4, 2) := by decide +kernel
theorem dX4_refusalOfSeen_46 : decode cX4_refusalOfSeen 46 = .ok (.iload 4, 2) := by decide +kernel
theorem dX4_refusalOfSeen_48 : decode cX4_refusalOfSeen 48 = .ok (.iload_n 3, 1) := by decide +kernel
theorem dX4_refusalOfSeen_49 : decode cX4_refusalOfSeen 49 = .ok (.if_icmp .ge 42, 3) := by decide +kernel
theorem dX4_refusalOfSeen_52 : decode cX4_refusalOfSeen 52 = .ok (.aload_n 0, 1) := by decide +kernel
theorem dX4_refusalOfSeen_53 : decode cX4_refusalOfSeen 53 = .ok (.getfield 14, 3) := by decide +kernel
theorem dX4_refusalOfSeen_56 : decode cX4_refusalOfSeen 56 = .ok (.getfield 94, 3) := by decide +kernel
theorem dX4_refusalOfSeen_59 : decode cX4_refusalOfSeen 59 = .ok (.iload_n 1, 1) := by decide +kernel
theorem dX4_refusalOfSeen_60 : decode cX4_refusalOfSeen 60 = .ok (.aaload, 1) := by decide +kernel
theorem dX4_refusalOfSeen_61 : decode cX4_refusalOfSeen 61 = .ok (.iload 4, 2) := by decide +kernel
theorem dX4_refusalOfSeen_63 : decode cX4_refusalOfSeen 63 = .ok (.iaload, 1) := by decide +kernel
theorem dX4_refusalOfSeen_64 : decode cX4_refusalOfSeen 64 = .ok (.aload_n 0, 1) := by decide +kernel
theorem dX4_refusalOfSeen_65 : decode cX4_refusalOfSeen 65 = .ok (.getfield 24, 3) := by decide +kernel
theorem dX4_refusalOfSeen_68 : decode cX4_refusalOfSeen 68 = .ok (.getfield 205, 3) := by decide +kernel
theorem dX4_refusalOfSeen_71 : decode cX4_refusalOfSeen 71 = .ok (.iconst 1, 1) := by decide +kernel
theorem dX4_refusalOfSeen_72 : decode cX4_refusalOfSeen 72 = .ok (.iadd, 1) := by decide +kernel
theorem dX4_refusalOfSeen_73 : decode cX4_refusalOfSeen 73 = .ok (.invokestatic 132, 3) := by decide +kernel
theorem dX4_refusalOfSeen_76 : decode cX4_refusalOfSeen 76 = .ok (.ifCond .ne 9, 3) := by decide +kernel
theorem dX4_refusalOfSeen_79 : decode cX4_refusalOfSeen 79 = .ok (.aload_n 0, 1) := by decide +kernel
theorem dX4_refusalOfSeen_80 : decode cX4_refusalOfSeen 80 = .ok (.iconst 3, 1) := by decide +kernel
theorem dX4_refusalOfSeen_81 : decode cX4_refusalOfSeen 81 = .ok (.invokevirtual 82, 3) := by decide +kernel
theorem dX4_refusalOfSeen_84 : decode cX4_refusalOfSeen 84 = .ok (.ireturn, 1) := by decide +kernel
theorem dX4_refusalOfSeen_85 : decode cX4_refusalOfSeen 85 = .ok (.iinc 4 1, 3) := by decide +kernel
theorem dX4_refusalOfSeen_88 : decode cX4_refusalOfSeen 88 = .ok (.goto (-42), 3) := by decide +kernel
theorem dX4_refusalOfSeen_91 : decode cX4_refusalOfSeen 91 = .ok (.iconst 0, 1) := by decide +kernel
theorem dX4_refusalOfSeen_92 : decode cX4_refusalOfSeen 92 = .ok (.ireturn, 1) := by decide +kernel
theorem dX4_wouldDream_0 : decode cX4_wouldDream 0 = .ok (.iload_n 2, 1) := by decide +kernel
theorem dX4_wouldDream_1 : decode cX4_wouldDream 1 = .ok (.iload_n 1, 1) := by decide +kernel
theorem dX4_wouldDream_2 : decode cX4_wouldDream 2 = .ok (.iadd, 1) := by decide +kernel
theorem dX4_wouldDream_3 : decode cX4_wouldDream 3 = .ok (.bipush 6, 2) := by decide +kernel
theorem dX4_wouldDream_5 : decode cX4_wouldDream 5 = .ok (.irem, 1) := by decide +kernel
theorem dX4_wouldDream_6 : decode cX4_wouldDream 6 = .ok (.istore_n 3, 1) := by decide +kernel
theorem dX4_wouldDream_7 : decode cX4_wouldDream 7 = .ok (.iload_n 3, 1) := by decide +kernel
theorem dX4_wouldDream_8 : decode cX4_wouldDream 8 = .ok (.iconst 1, 1) := by decide +kernel
theorem dX4_wouldDream_9 : decode cX4_wouldDream 9 = .ok (.if_icmp .gt 7, 3) := by decide +kernel
theorem dX4_wouldDream_12 : decode cX4_wouldDream 12 = .ok (.iconst 1, 1) := by decide +kernel
theorem dX4_wouldDream_13 : decode cX4_wouldDream 13 = .ok (.goto 4, 3) := by decide +kernel
theorem dX4_wouldDream_16 : decode cX4_wouldDream 16 = .ok (.iconst 0, 1) := by decide +kernel
theorem dX4_wouldDream_17 : decode cX4_wouldDream 17 = .ok (.istore 4, 2) := by decide +kernel
theorem dX4_wouldDream_19 : decode cX4_wouldDream 19 = .ok (.iload_n 3, 1) := by decide +kernel
theorem dX4_wouldDream_20 : decode cX4_wouldDream 20 = .ok (.iconst 3, 1) := by decide +kernel
theorem dX4_wouldDream_21 : decode cX4_wouldDream 21 = .ok (.if_icmp .gt 7, 3) := by decide +kernel
theorem dX4_wouldDream_24 : decode cX4_wouldDream 24 = .ok (.iconst 1, 1) := by decide +kernel
theorem dX4_wouldDream_25 : decode cX4_wouldDream 25 = .ok (.goto 4, 3) := by decide +kernel
theorem dX4_wouldDream_28 : decode cX4_wouldDream 28 = .ok (.iconst 0, 1) := by decide +kernel
theorem dX4_wouldDream_29 : decode cX4_wouldDream 29 = .ok (.istore 5, 2) := by decide +kernel
theorem dX4_wouldDream_31 : decode cX4_wouldDream 31 = .ok (.iload 4, 2) := by decide +kernel
theorem dX4_wouldDream_33 : decode cX4_wouldDream 33 = .ok (.ifCond .ne 11, 3) := by decide +kernel
theorem dX4_wouldDream_36 : decode cX4_wouldDream 36 = .ok (.iload_n 2, 1) := by decide +kernel
theorem dX4_wouldDream_37 : decode cX4_wouldDream 37 = .ok (.iload_n 1, 1) := by decide +kernel
theorem dX4_wouldDream_38 : decode cX4_wouldDream 38 = .ok (.iadd, 1) := by decide +kernel
theorem dX4_wouldDream_39 : decode cX4_wouldDream 39 = .ok (.iconst 5, 1) := by decide +kernel
theorem dX4_wouldDream_40 : decode cX4_wouldDream 40 = .ok (.irem, 1) := by decide +kernel
theorem dX4_wouldDream_41 : decode cX4_wouldDream 41 = .ok (.ifCond .ne 7, 3) := by decide +kernel
theorem dX4_wouldDream_44 : decode cX4_wouldDream 44 = .ok (.iconst 1, 1) := by decide +kernel
theorem dX4_wouldDream_45 : decode cX4_wouldDream 45 = .ok (.goto 4, 3) := by decide +kernel
theorem dX4_wouldDream_48 : decode cX4_wouldDream 48 = .ok (.iconst 0, 1) := by decide +kernel
theorem dX4_wouldDream_49 : decode cX4_wouldDream 49 = .ok (.istore 6, 2) := by decide +kernel
theorem dX4_wouldDream_51 : decode cX4_wouldDream 51 = .ok (.iload_n 0, 1) := by decide +kernel
theorem dX4_wouldDream_52 : decode cX4_wouldDream 52 = .ok (.tableswitch 93 1 5 #[36, 39, 42, 59, 76], 36) := by decide +kernel
theorem dX4_wouldDream_88 : decode cX4_wouldDream 88 = .ok (.iload 5, 2) := by decide +kernel
theorem dX4_wouldDream_90 : decode cX4_wouldDream 90 = .ok (.ireturn, 1) := by decide +kernel
theorem dX4_wouldDream_91 : decode cX4_wouldDream 91 = .ok (.iload 6, 2) := by decide +kernel
theorem dX4_wouldDream_93 : decode cX4_wouldDream 93 = .ok (.ireturn, 1) := by decide +kernel
theorem dX4_wouldDream_94 : decode cX4_wouldDream 94 = .ok (.iload 4, 2) := by decide +kernel
theorem dX4_wouldDream_96 : decode cX4_wouldDream 96 = .ok (.ifCond .eq 13, 3) := by decide +kernel
theorem dX4_wouldDream_99 : decode cX4_wouldDream 99 = .ok (.iload_n 2, 1) := by decide +kernel
theorem dX4_wouldDream_100 : decode cX4_wouldDream 100 = .ok (.bipush 20, 2) := by decide +kernel
theorem dX4_wouldDream_102 : decode cX4_wouldDream 102 = .ok (.if_icmp .lt 7, 3) := by decide +kernel
theorem dX4_wouldDream_105 : decode cX4_wouldDream 105 = .ok (.iconst 1, 1) := by decide +kernel
theorem dX4_wouldDream_106 : decode cX4_wouldDream 106 = .ok (.goto 4, 3) := by decide +kernel
theorem dX4_wouldDream_109 : decode cX4_wouldDream 109 = .ok (.iconst 0, 1) := by decide +kernel
theorem dX4_wouldDream_110 : decode cX4_wouldDream 110 = .ok (.ireturn, 1) := by decide +kernel
theorem dX4_wouldDream_111 : decode cX4_wouldDream 111 = .ok (.iload 5, 2) := by decide +kernel
theorem dX4_wouldDream_113 : decode cX4_wouldDream 113 = .ok (.ifCond .ne 9, 3) := by decide +kernel
theorem dX4_wouldDream_116 : decode cX4_wouldDream 116 = .ok (.iload_n 2, 1) := by decide +kernel
theorem dX4_wouldDream_117 : decode cX4_wouldDream 117 = .ok (.bipush 30, 2) := by decide +kernel
theorem dX4_wouldDream_119 : decode cX4_wouldDream 119 = .ok (.if_icmp .lt 7, 3) := by decide +kernel
theorem dX4_wouldDream_122 : decode cX4_wouldDream 122 = .ok (.iconst 1, 1) := by decide +kernel
theorem dX4_wouldDream_123 : decode cX4_wouldDream 123 = .ok (.goto 4, 3) := by decide +kernel
theorem dX4_wouldDream_126 : decode cX4_wouldDream 126 = .ok (.iconst 0, 1) := by decide +kernel
theorem dX4_wouldDream_127 : decode cX4_wouldDream 127 = .ok (.ireturn, 1) := by decide +kernel
theorem dX4_wouldDream_128 : decode cX4_wouldDream 128 = .ok (.iload 6, 2) := by decide +kernel
theorem dX4_wouldDream_130 : decode cX4_wouldDream 130 = .ok (.ifCond .eq 13, 3) := by decide +kernel
theorem dX4_wouldDream_133 : decode cX4_wouldDream 133 = .ok (.iload_n 1, 1) := by decide +kernel
theorem dX4_wouldDream_134 : decode cX4_wouldDream 134 = .ok (.iconst 2, 1) := by decide +kernel
theorem dX4_wouldDream_135 : decode cX4_wouldDream 135 = .ok (.irem, 1) := by decide +kernel
theorem dX4_wouldDream_136 : decode cX4_wouldDream 136 = .ok (.ifCond .ne 7, 3) := by decide +kernel
theorem dX4_wouldDream_139 : decode cX4_wouldDream 139 = .ok (.iconst 1, 1) := by decide +kernel
theorem dX4_wouldDream_140 : decode cX4_wouldDream 140 = .ok (.goto 4, 3) := by decide +kernel
theorem dX4_wouldDream_143 : decode cX4_wouldDream 143 = .ok (.iconst 0, 1) := by decide +kernel
theorem dX4_wouldDream_144 : decode cX4_wouldDream 144 = .ok (.ireturn, 1) := by decide +kernel
theorem dX4_wouldDream_145 : decode cX4_wouldDream 145 = .ok (.iload 4, 2) := by decide +kernel
theorem dX4_wouldDream_147 : decode cX4_wouldDream 147 = .ok (.ireturn, 1) := by decide +kernel
theorem dX4_dreamtMinutes_0 : decode cX4_dreamtMinutes 0 = .ok (.iconst 0, 1) := by decide +kernel
theorem dX4_dreamtMinutes_1 : decode cX4_dreamtMinutes 1 = .ok (.istore_n 2, 1) := by decide +kernel
theorem dX4_dreamtMinutes_2 : decode cX4_dreamtMinutes 2 = .ok (.iconst 0, 1) := by decide +kernel
theorem dX4_dreamtMinutes_3 : decode cX4_dreamtMinutes 3 = .ok (.istore_n 3, 1) := by decide +kernel
theorem dX4_dreamtMinutes_4 : decode cX4_dreamtMinutes 4 = .ok (.iload_n 3, 1) := by decide +kernel
theorem dX4_dreamtMinutes_5 : decode cX4_dreamtMinutes 5 = .ok (.bipush 60, 2) := by decide +kernel
theorem dX4_dreamtMinutes_7 : decode cX4_dreamtMinutes 7 = .ok (.if_icmp .ge 21, 3) := by decide +kernel
theorem dX4_dreamtMinutes_10 : decode cX4_dreamtMinutes 10 = .ok (.iload_n 2, 1) := by decide +kernel
theorem dX4_dreamtMinutes_11 : decode cX4_dreamtMinutes 11 = .ok (.iload_n 0, 1) := by decide +kernel
theorem dX4_dreamtMinutes_12 : decode cX4_dreamtMinutes 12 = .ok (.iload_n 1, 1) := by decide +kernel
theorem dX4_dreamtMinutes_13 : decode cX4_dreamtMinutes 13 = .ok (.iload_n 3, 1) := by decide +kernel
theorem dX4_dreamtMinutes_14 : decode cX4_dreamtMinutes 14 = .ok (.invokestatic 155, 3) := by decide +kernel
theorem dX4_dreamtMinutes_17 : decode cX4_dreamtMinutes 17 = .ok (.invokestatic 158, 3) := by decide +kernel
theorem dX4_dreamtMinutes_20 : decode cX4_dreamtMinutes 20 = .ok (.iadd, 1) := by decide +kernel
theorem dX4_dreamtMinutes_21 : decode cX4_dreamtMinutes 21 = .ok (.istore_n 2, 1) := by decide +kernel
theorem dX4_dreamtMinutes_22 : decode cX4_dreamtMinutes 22 = .ok (.iinc 3 1, 3) := by decide +kernel
theorem dX4_dreamtMinutes_25 : decode cX4_dreamtMinutes 25 = .ok (.goto (-21), 3) := by decide +kernel
theorem dX4_dreamtMinutes_28 : decode cX4_dreamtMinutes 28 = .ok (.iload_n 2, 1) := by decide +kernel
theorem dX4_dreamtMinutes_29 : decode cX4_dreamtMinutes 29 = .ok (.ireturn, 1) := by decide +kernel
theorem dX4_firstDream_0 : decode cX4_firstDream 0 = .ok (.iconst 0, 1) := by decide +kernel
theorem dX4_firstDream_1 : decode cX4_firstDream 1 = .ok (.istore_n 2, 1) := by decide +kernel
theorem dX4_firstDream_2 : decode cX4_firstDream 2 = .ok (.iload_n 2, 1) := by decide +kernel
theorem dX4_firstDream_3 : decode cX4_firstDream 3 = .ok (.bipush 60, 2) := by decide +kernel
theorem dX4_firstDream_5 : decode cX4_firstDream 5 = .ok (.if_icmp .ge 44, 3) := by decide +kernel
theorem dX4_firstDream_8 : decode cX4_firstDream 8 = .ok (.iload_n 0, 1) := by decide +kernel
theorem dX4_firstDream_9 : decode cX4_firstDream 9 = .ok (.iconst 4, 1) := by decide +kernel
theorem dX4_firstDream_10 : decode cX4_firstDream 10 = .ok (.if_icmp .ne 12, 3) := by decide +kernel
theorem dX4_firstDream_13 : decode cX4_firstDream 13 = .ok (.iconst 1, 1) := by decide +kernel
theorem dX4_firstDream_14 : decode cX4_firstDream 14 = .ok (.iload_n 1, 1) := by decide +kernel
theorem dX4_firstDream_15 : decode cX4_firstDream 15 = .ok (.iload_n 2, 1) := by decide +kernel
theorem dX4_firstDream_16 : decode cX4_firstDream 16 = .ok (.invokestatic 155, 3) := by decide +kernel
theorem dX4_firstDream_19 : decode cX4_firstDream 19 = .ok (.ifCond .ne 7, 3) := by decide +kernel
theorem dX4_firstDream_22 : decode cX4_firstDream 22 = .ok (.iconst 1, 1) := by decide +kernel
theorem dX4_firstDream_23 : decode cX4_firstDream 23 = .ok (.goto 4, 3) := by decide +kernel
theorem dX4_firstDream_26 : decode cX4_firstDream 26 = .ok (.iconst 0, 1) := by decide +kernel
theorem dX4_firstDream_27 : decode cX4_firstDream 27 = .ok (.istore_n 3, 1) := by decide +kernel
theorem dX4_firstDream_28 : decode cX4_firstDream 28 = .ok (.iload_n 3, 1) := by decide +kernel
theorem dX4_firstDream_29 : decode cX4_firstDream 29 = .ok (.ifCond .eq 14, 3) := by decide +kernel
theorem dX4_firstDream_32 : decode cX4_firstDream 32 = .ok (.iload_n 0, 1) := by decide +kernel
theorem dX4_firstDream_33 : decode cX4_firstDream 33 = .ok (.iload_n 1, 1) := by decide +kernel
theorem dX4_firstDream_34 : decode cX4_firstDream 34 = .ok (.iload_n 2, 1) := by decide +kernel
theorem dX4_firstDream_35 : decode cX4_firstDream 35 = .ok (.invokestatic 155, 3) := by decide +kernel
theorem dX4_firstDream_38 : decode cX4_firstDream 38 = .ok (.ifCond .eq 5, 3) := by decide +kernel
theorem dX4_firstDream_41 : decode cX4_firstDream 41 = .ok (.iload_n 2, 1) := by decide +kernel
theorem dX4_firstDream_42 : decode cX4_firstDream 42 = .ok (.ireturn, 1) := by decide +kernel
theorem dX4_firstDream_43 : decode cX4_firstDream 43 = .ok (.iinc 2 1, 3) := by decide +kernel
theorem dX4_firstDream_46 : decode cX4_firstDream 46 = .ok (.goto (-44), 3) := by decide +kernel
theorem dX4_firstDream_49 : decode cX4_firstDream 49 = .ok (.bipush (-9), 2) := by decide +kernel
theorem dX4_firstDream_51 : decode cX4_firstDream 51 = .ok (.ireturn, 1) := by decide +kernel
theorem dX4_dreamBitsFrom_0 : decode cX4_dreamBitsFrom 0 = .ok (.lconst 0, 1) := by decide +kernel
theorem dX4_dreamBitsFrom_1 : decode cX4_dreamBitsFrom 1 = .ok (.lstore_n 3, 1) := by decide +kernel
theorem dX4_dreamBitsFrom_2 : decode cX4_dreamBitsFrom 2 = .ok (.iconst 0, 1) := by decide +kernel
theorem dX4_dreamBitsFrom_3 : decode cX4_dreamBitsFrom 3 = .ok (.istore 5, 2) := by decide +kernel
theorem dX4_dreamBitsFrom_5 : decode cX4_dreamBitsFrom 5 = .ok (.iload 5, 2) := by decide +kernel
theorem dX4_dreamBitsFrom_7 : decode cX4_dreamBitsFrom 7 = .ok (.bipush 60, 2) := by decide +kernel
theorem dX4_dreamBitsFrom_9 : decode cX4_dreamBitsFrom 9 = .ok (.if_icmp .gt 28, 3) := by decide +kernel
theorem dX4_dreamBitsFrom_12 : decode cX4_dreamBitsFrom 12 = .ok (.iload_n 0, 1) := by decide +kernel
theorem dX4_dreamBitsFrom_13 : decode cX4_dreamBitsFrom 13 = .ok (.iload_n 1, 1) := by decide +kernel
theorem dX4_dreamBitsFrom_14 : decode cX4_dreamBitsFrom 14 = .ok (.iload_n 2, 1) := by decide +kernel
theorem dX4_dreamBitsFrom_15 : decode cX4_dreamBitsFrom 15 = .ok (.iload 5, 2) := by decide +kernel
theorem dX4_dreamBitsFrom_17 : decode cX4_dreamBitsFrom 17 = .ok (.iadd, 1) := by decide +kernel
theorem dX4_dreamBitsFrom_18 : decode cX4_dreamBitsFrom 18 = .ok (.invokestatic 155, 3) := by decide +kernel
theorem dX4_dreamBitsFrom_21 : decode cX4_dreamBitsFrom 21 = .ok (.ifCond .eq 10, 3) := by decide +kernel
theorem dX4_dreamBitsFrom_24 : decode cX4_dreamBitsFrom 24 = .ok (.lload_n 3, 1) := by decide +kernel
theorem dX4_dreamBitsFrom_25 : decode cX4_dreamBitsFrom 25 = .ok (.lconst 1, 1) := by decide +kernel
theorem dX4_dreamBitsFrom_26 : decode cX4_dreamBitsFrom 26 = .ok (.iload 5, 2) := by decide +kernel
theorem dX4_dreamBitsFrom_28 : decode cX4_dreamBitsFrom 28 = .ok (.lshl, 1) := by decide +kernel
theorem dX4_dreamBitsFrom_29 : decode cX4_dreamBitsFrom 29 = .ok (.lor, 1) := by decide +kernel
theorem dX4_dreamBitsFrom_30 : decode cX4_dreamBitsFrom 30 = .ok (.lstore_n 3, 1) := by decide +kernel
theorem dX4_dreamBitsFrom_31 : decode cX4_dreamBitsFrom 31 = .ok (.iinc 5 1, 3) := by decide +kernel
theorem dX4_dreamBitsFrom_34 : decode cX4_dreamBitsFrom 34 = .ok (.goto (-29), 3) := by decide +kernel
theorem dX4_dreamBitsFrom_37 : decode cX4_dreamBitsFrom 37 = .ok (.lload_n 3, 1) := by decide +kernel
theorem dX4_dreamBitsFrom_38 : decode cX4_dreamBitsFrom 38 = .ok (.lreturn, 1) := by decide +kernel
theorem dX4_learnSuppers_0 : decode cX4_learnSuppers 0 = .ok (.iconst 0, 1) := by decide +kernel
theorem dX4_learnSuppers_1 : decode cX4_learnSuppers 1 = .ok (.istore_n 1, 1) := by decide +kernel
theorem dX4_learnSuppers_2 : decode cX4_learnSuppers 2 = .ok (.iload_n 1, 1) := by decide +kernel
theorem dX4_learnSuppers_3 : decode cX4_learnSuppers 3 = .ok (.aload_n 0, 1) := by decide +kernel
theorem dX4_learnSuppers_4 : decode cX4_learnSuppers 4 = .ok (.getfield 24, 3) := by decide +kernel
theorem dX4_learnSuppers_7 : decode cX4_learnSuppers 7 = .ok (.getfield 129, 3) := by decide +kernel
theorem dX4_learnSuppers_10 : decode cX4_learnSuppers 10 = .ok (.if_icmp .ge 51, 3) := by decide +kernel
theorem dX4_learnSuppers_13 : decode cX4_learnSuppers 13 = .ok (.iconst 0, 1) := by decide +kernel
theorem dX4_learnSuppers_14 : decode cX4_learnSuppers 14 = .ok (.istore_n 2, 1) := by decide +kernel
theorem dX4_learnSuppers_15 : decode cX4_learnSuppers 15 = .ok (.iload_n 2, 1) := by decide +kernel
theorem dX4_learnSuppers_16 : decode cX4_learnSuppers 16 = .ok (.bipush 10, 2) := by decide +kernel
theorem dX4_learnSuppers_18 : decode cX4_learnSuppers 18 = .ok (.if_icmp .ge 37, 3) := by decide +kernel
theorem dX4_learnSuppers_21 : decode cX4_learnSuppers 21 = .ok (.aload_n 0, 1) := by decide +kernel
theorem dX4_learnSuppers_22 : decode cX4_learnSuppers 22 = .ok (.getfield 55, 3) := by decide +kernel
theorem dX4_learnSuppers_25 : decode cX4_learnSuppers 25 = .ok (.iload_n 1, 1) := by decide +kernel
theorem dX4_learnSuppers_26 : decode cX4_learnSuppers 26 = .ok (.aaload, 1) := by decide +kernel
theorem dX4_learnSuppers_27 : decode cX4_learnSuppers 27 = .ok (.iload_n 2, 1) := by decide +kernel
theorem dX4_learnSuppers_28 : decode cX4_learnSuppers 28 = .ok (.aload_n 0, 1) := by decide +kernel
theorem dX4_learnSuppers_29 : decode cX4_learnSuppers 29 = .ok (.getfield 24, 3) := by decide +kernel
theorem dX4_learnSuppers_32 : decode cX4_learnSuppers 32 = .ok (.getfield 140, 3) := by decide +kernel
theorem dX4_learnSuppers_35 : decode cX4_learnSuppers 35 = .ok (.iload_n 1, 1) := by decide +kernel
theorem dX4_learnSuppers_36 : decode cX4_learnSuppers 36 = .ok (.iaload, 1) := by decide +kernel
theorem dX4_learnSuppers_37 : decode cX4_learnSuppers 37 = .ok (.iload_n 2, 1) := by decide +kernel
theorem dX4_learnSuppers_38 : decode cX4_learnSuppers 38 = .ok (.aload_n 0, 1) := by decide +kernel
theorem dX4_learnSuppers_39 : decode cX4_learnSuppers 39 = .ok (.getfield 24, 3) := by decide +kernel
theorem dX4_learnSuppers_42 : decode cX4_learnSuppers 42 = .ok (.getfield 162, 3) := by decide +kernel
theorem dX4_learnSuppers_45 : decode cX4_learnSuppers 45 = .ok (.invokestatic 257, 3) := by decide +kernel
theorem dX4_learnSuppers_48 : decode cX4_learnSuppers 48 = .ok (.lastore, 1) := by decide +kernel
theorem dX4_learnSuppers_49 : decode cX4_learnSuppers 49 = .ok (.iinc 2 1, 3) := by decide +kernel
theorem dX4_learnSuppers_52 : decode cX4_learnSuppers 52 = .ok (.goto (-37), 3) := by decide +kernel
theorem dX4_learnSuppers_55 : decode cX4_learnSuppers 55 = .ok (.iinc 1 1, 3) := by decide +kernel
theorem dX4_learnSuppers_58 : decode cX4_learnSuppers 58 = .ok (.goto (-56), 3) := by decide +kernel
theorem dX4_learnSuppers_61 : decode cX4_learnSuppers 61 = .ok (.return_, 1) := by decide +kernel
theorem dX4_standsBehind_0 : decode cX4_standsBehind 0 = .ok (.aload_n 0, 1) := by decide +kernel
theorem dX4_standsBehind_1 : decode cX4_standsBehind 1 = .ok (.getfield 49, 3) := by decide +kernel
theorem dX4_standsBehind_4 : decode cX4_standsBehind 4 = .ok (.iload_n 1, 1) := by decide +kernel
theorem dX4_standsBehind_5 : decode cX4_standsBehind 5 = .ok (.iconst 1, 1) := by decide +kernel
theorem dX4_standsBehind_6 : decode cX4_standsBehind 6 = .ok (.iadd, 1) := by decide +kernel
theorem dX4_standsBehind_7 : decode cX4_standsBehind 7 = .ok (.aload_n 0, 1) := by decide +kernel
theorem dX4_standsBehind_8 : decode cX4_standsBehind 8 = .ok (.getfield 24, 3) := by decide +kernel
theorem dX4_standsBehind_11 : decode cX4_standsBehind 11 = .ok (.getfield 196, 3) := by decide +kernel
theorem dX4_standsBehind_14 : decode cX4_standsBehind 14 = .ok (.invokevirtual 199, 3) := by decide +kernel
theorem dX4_standsBehind_17 : decode cX4_standsBehind 17 = .ok (.pop, 1) := by decide +kernel
theorem dX4_standsBehind_18 : decode cX4_standsBehind 18 = .ok (.aload_n 0, 1) := by decide +kernel
theorem dX4_standsBehind_19 : decode cX4_standsBehind 19 = .ok (.getfield 49, 3) := by decide +kernel
theorem dX4_standsBehind_22 : decode cX4_standsBehind 22 = .ok (.getfield 202, 3) := by decide +kernel
theorem dX4_standsBehind_25 : decode cX4_standsBehind 25 = .ok (.iload_n 1, 1) := by decide +kernel
theorem dX4_standsBehind_26 : decode cX4_standsBehind 26 = .ok (.iaload, 1) := by decide +kernel
theorem dX4_standsBehind_27 : decode cX4_standsBehind 27 = .ok (.iload_n 2, 1) := by decide +kernel
theorem dX4_standsBehind_28 : decode cX4_standsBehind 28 = .ok (.if_icmp .ne 22, 3) := by decide +kernel
theorem dX4_standsBehind_31 : decode cX4_standsBehind 31 = .ok (.aload_n 0, 1) := by decide +kernel
theorem dX4_standsBehind_32 : decode cX4_standsBehind 32 = .ok (.getfield 49, 3) := by decide +kernel
theorem dX4_standsBehind_35 : decode cX4_standsBehind 35 = .ok (.getfield 202, 3) := by decide +kernel
theorem dX4_standsBehind_38 : decode cX4_standsBehind 38 = .ok (.iload_n 1, 1) := by decide +kernel
theorem dX4_standsBehind_39 : decode cX4_standsBehind 39 = .ok (.iconst 1, 1) := by decide +kernel
theorem dX4_standsBehind_40 : decode cX4_standsBehind 40 = .ok (.iadd, 1) := by decide +kernel
theorem dX4_standsBehind_41 : decode cX4_standsBehind 41 = .ok (.iaload, 1) := by decide +kernel
theorem dX4_standsBehind_42 : decode cX4_standsBehind 42 = .ok (.iload_n 2, 1) := by decide +kernel
theorem dX4_standsBehind_43 : decode cX4_standsBehind 43 = .ok (.if_icmp .ne 7, 3) := by decide +kernel
theorem dX4_standsBehind_46 : decode cX4_standsBehind 46 = .ok (.iconst 1, 1) := by decide +kernel
theorem dX4_standsBehind_47 : decode cX4_standsBehind 47 = .ok (.goto 4, 3) := by decide +kernel
theorem dX4_standsBehind_50 : decode cX4_standsBehind 50 = .ok (.iconst 0, 1) := by decide +kernel
theorem dX4_standsBehind_51 : decode cX4_standsBehind 51 = .ok (.ireturn, 1) := by decide +kernel
theorem dX4_mattersTo_0 : decode cX4_mattersTo 0 = .ok (.aload_n 0, 1) := by decide +kernel
theorem dX4_mattersTo_1 : decode cX4_mattersTo 1 = .ok (.getfield 24, 3) := by decide +kernel
theorem dX4_mattersTo_4 : decode cX4_mattersTo 4 = .ok (.iload_n 2, 1) := by decide +kernel
theorem dX4_mattersTo_5 : decode cX4_mattersTo 5 = .ok (.invokevirtual 177, 3) := by decide +kernel
theorem dX4_mattersTo_8 : decode cX4_mattersTo 8 = .ok (.ifCond .eq 39, 3) := by decide +kernel
theorem dX4_mattersTo_11 : decode cX4_mattersTo 11 = .ok (.aload_n 0, 1) := by decide +kernel
theorem dX4_mattersTo_12 : decode cX4_mattersTo 12 = .ok (.getfield 24, 3) := by decide +kernel
theorem dX4_mattersTo_15 : decode cX4_mattersTo 15 = .ok (.getfield 208, 3) := by decide +kernel
theorem dX4_mattersTo_18 : decode cX4_mattersTo 18 = .ok (.iload_n 2, 1) := by decide +kernel
theorem dX4_mattersTo_19 : decode cX4_mattersTo 19 = .ok (.iaload, 1) := by decide +kernel
theorem dX4_mattersTo_20 : decode cX4_mattersTo 20 = .ok (.aload_n 0, 1) := by decide +kernel
theorem dX4_mattersTo_21 : decode cX4_mattersTo 21 = .ok (.getfield 24, 3) := by decide +kernel
theorem dX4_mattersTo_24 : decode cX4_mattersTo 24 = .ok (.getfield 171, 3) := by decide +kernel
theorem dX4_mattersTo_27 : decode cX4_mattersTo 27 = .ok (.if_icmp .lt 20, 3) := by decide +kernel
theorem dX4_mattersTo_30 : decode cX4_mattersTo 30 = .ok (.aload_n 0, 1) := by decide +kernel
theorem dX4_mattersTo_31 : decode cX4_mattersTo 31 = .ok (.getfield 24, 3) := by decide +kernel
theorem dX4_mattersTo_34 : decode cX4_mattersTo 34 = .ok (.getfield 208, 3) := by decide +kernel
theorem dX4_mattersTo_37 : decode cX4_mattersTo 37 = .ok (.iload_n 2, 1) := by decide +kernel
theorem dX4_mattersTo_38 : decode cX4_mattersTo 38 = .ok (.iaload, 1) := by decide +kernel
theorem dX4_mattersTo_39 : decode cX4_mattersTo 39 = .ok (.iload_n 1, 1) := by decide +kernel
theorem dX4_mattersTo_40 : decode cX4_mattersTo 40 = .ok (.if_icmp .gt 7, 3) := by decide +kernel
theorem dX4_mattersTo_43 : decode cX4_mattersTo 43 = .ok (.iconst 1, 1) := by decide +kernel
theorem dX4_mattersTo_44 : decode cX4_mattersTo 44 = .ok (.goto 4, 3) := by decide +kernel
theorem dX4_mattersTo_47 : decode cX4_mattersTo 47 = .ok (.iconst 0, 1) := by decide +kernel
theorem dX4_mattersTo_48 : decode cX4_mattersTo 48 = .ok (.ireturn, 1) := by decide +kernel
theorem dX4_wayByOne_0 : decode cX4_wayByOne 0 = .ok (.iload_n 1, 1) := by decide +kernel
theorem dX4_wayByOne_1 : decode cX4_wayByOne 1 = .ok (.istore 4, 2) := by decide +kernel
theorem dX4_wayByOne_3 : decode cX4_wayByOne 3 = .ok (.iload 4, 2) := by decide +kernel
theorem dX4_wayByOne_5 : decode cX4_wayByOne 5 = .ok (.aload_n 0, 1) := by decide +kernel
theorem dX4_wayByOne_6 : decode cX4_wayByOne 6 = .ok (.getfield 24, 3) := by decide +kernel
theorem dX4_wayByOne_9 : decode cX4_wayByOne 9 = .ok (.getfield 129, 3) := by decide +kernel
theorem dX4_wayByOne_12 : decode cX4_wayByOne 12 = .ok (.bipush 10, 2) := by decide +kernel
theorem dX4_wayByOne_14 : decode cX4_wayByOne 14 = .ok (.imul, 1) := by decide +kernel
theorem dX4_wayByOne_15 : decode cX4_wayByOne 15 = .ok (.if_icmp .ge 89, 3) := by decide +kernel
theorem dX4_wayByOne_18 : decode cX4_wayByOne 18 = .ok (.iload 4, 2) := by decide +kernel
theorem dX4_wayByOne_20 : decode cX4_wayByOne 20 = .ok (.bipush 10, 2) := by decide +kernel
theorem dX4_wayByOne_22 : decode cX4_wayByOne 22 = .ok (.idiv, 1) := by decide +kernel
theorem dX4_wayByOne_23 : decode cX4_wayByOne 23 = .ok (.istore 5, 2) := by decide +kernel
theorem dX4_wayByOne_25 : decode cX4_wayByOne 25 = .ok (.aload_n 0, 1) := by decide +kernel
theorem dX4_wayByOne_26 : decode cX4_wayByOne 26 = .ok (.iload_n 3, 1) := by decide +kernel
theorem dX4_wayByOne_27 : decode cX4_wayByOne 27 = .ok (.iload 5, 2) := by decide +kernel
theorem dX4_wayByOne_29 : decode cX4_wayByOne 29 = .ok (.invokevirtual 304, 3) := by decide +kernel
theorem dX4_wayByOne_32 : decode cX4_wayByOne 32 = .ok (.ifCond .eq 66, 3) := by decide +kernel
theorem dX4_wayByOne_35 : decode cX4_wayByOne 35 = .ok (.aload_n 0, 1) := by decide +kernel
theorem dX4_wayByOne_36 : decode cX4_wayByOne 36 = .ok (.getfield 49, 3) := by decide +kernel
theorem dX4_wayByOne_39 : decode cX4_wayByOne 39 = .ok (.getfield 254, 3) := by decide +kernel
theorem dX4_wayByOne_42 : decode cX4_wayByOne 42 = .ok (.iload 5, 2) := by decide +kernel
theorem dX4_wayByOne_44 : decode cX4_wayByOne 44 = .ok (.laload, 1) := by decide +kernel
theorem dX4_wayByOne_45 : decode cX4_wayByOne 45 = .ok (.lstore 6, 2) := by decide +kernel
theorem dX4_wayByOne_47 : decode cX4_wayByOne 47 = .ok (.aload_n 0, 1) := by decide +kernel
theorem dX4_wayByOne_48 : decode cX4_wayByOne 48 = .ok (.getfield 49, 3) := by decide +kernel
theorem dX4_wayByOne_51 : decode cX4_wayByOne 51 = .ok (.getfield 254, 3) := by decide +kernel
theorem dX4_wayByOne_54 : decode cX4_wayByOne 54 = .ok (.iload 5, 2) := by decide +kernel
theorem dX4_wayByOne_56 : decode cX4_wayByOne 56 = .ok (.aload_n 0, 1) := by decide +kernel
theorem dX4_wayByOne_57 : decode cX4_wayByOne 57 = .ok (.getfield 55, 3) := by decide +kernel
theorem dX4_wayByOne_60 : decode cX4_wayByOne 60 = .ok (.iload 5, 2) := by decide +kernel
theorem dX4_wayByOne_62 : decode cX4_wayByOne 62 = .ok (.aaload, 1) := by decide +kernel
theorem dX4_wayByOne_63 : decode cX4_wayByOne 63 = .ok (.iload 4, 2) := by decide +kernel
theorem dX4_wayByOne_65 : decode cX4_wayByOne 65 = .ok (.bipush 10, 2) := by decide +kernel
theorem dX4_wayByOne_67 : decode cX4_wayByOne 67 = .ok (.irem, 1) := by decide +kernel
theorem dX4_wayByOne_68 : decode cX4_wayByOne 68 = .ok (.laload, 1) := by decide +kernel
theorem dX4_wayByOne_69 : decode cX4_wayByOne 69 = .ok (.lastore, 1) := by decide +kernel
theorem dX4_wayByOne_70 : decode cX4_wayByOne 70 = .ok (.aload_n 0, 1) := by decide +kernel
theorem dX4_wayByOne_71 : decode cX4_wayByOne 71 = .ok (.iload_n 2, 1) := by decide +kernel
theorem dX4_wayByOne_72 : decode cX4_wayByOne 72 = .ok (.iload_n 3, 1) := by decide +kernel
theorem dX4_wayByOne_73 : decode cX4_wayByOne 73 = .ok (.invokevirtual 234, 3) := by decide +kernel
theorem dX4_wayByOne_76 : decode cX4_wayByOne 76 = .ok (.istore 8, 2) := by decide +kernel
theorem dX4_wayByOne_78 : decode cX4_wayByOne 78 = .ok (.aload_n 0, 1) := by decide +kernel
theorem dX4_wayByOne_79 : decode cX4_wayByOne 79 = .ok (.getfield 49, 3) := by decide +kernel
theorem dX4_wayByOne_82 : decode cX4_wayByOne 82 = .ok (.getfield 254, 3) := by decide +kernel
theorem dX4_wayByOne_85 : decode cX4_wayByOne 85 = .ok (.iload 5, 2) := by decide +kernel
theorem dX4_wayByOne_87 : decode cX4_wayByOne 87 = .ok (.lload 6, 2) := by decide +kernel
theorem dX4_wayByOne_89 : decode cX4_wayByOne 89 = .ok (.lastore, 1) := by decide +kernel
theorem dX4_wayByOne_90 : decode cX4_wayByOne 90 = .ok (.iload 8, 2) := by decide +kernel
theorem dX4_wayByOne_92 : decode cX4_wayByOne 92 = .ok (.ifCond .eq 6, 3) := by decide +kernel
theorem dX4_wayByOne_95 : decode cX4_wayByOne 95 = .ok (.iload 4, 2) := by decide +kernel
theorem dX4_wayByOne_97 : decode cX4_wayByOne 97 = .ok (.ireturn, 1) := by decide +kernel
theorem dX4_wayByOne_98 : decode cX4_wayByOne 98 = .ok (.iinc 4 1, 3) := by decide +kernel
theorem dX4_wayByOne_101 : decode cX4_wayByOne 101 = .ok (.goto (-98), 3) := by decide +kernel
theorem dX4_wayByOne_104 : decode cX4_wayByOne 104 = .ok (.bipush (-9), 2) := by decide +kernel
theorem dX4_wayByOne_106 : decode cX4_wayByOne 106 = .ok (.ireturn, 1) := by decide +kernel
theorem dX4_wayByTwo_0 : decode cX4_wayByTwo 0 = .ok (.iconst 0, 1) := by decide +kernel
theorem dX4_wayByTwo_1 : decode cX4_wayByTwo 1 = .ok (.istore_n 3, 1) := by decide +kernel
theorem dX4_wayByTwo_2 : decode cX4_wayByTwo 2 = .ok (.iload_n 3, 1) := by decide +kernel
theorem dX4_wayByTwo_3 : decode cX4_wayByTwo 3 = .ok (.aload_n 0, 1) := by decide +kernel
theorem dX4_wayByTwo_4 : decode cX4_wayByTwo 4 = .ok (.getfield 24, 3) := by decide +kernel
theorem dX4_wayByTwo_7 : decode cX4_wayByTwo 7 = .ok (.getfield 129, 3) := by decide +kernel
theorem dX4_wayByTwo_10 : decode cX4_wayByTwo 10 = .ok (.bipush 10, 2) := by decide +kernel
theorem dX4_wayByTwo_12 : decode cX4_wayByTwo 12 = .ok (.imul, 1) := by decide +kernel
theorem dX4_wayByTwo_13 : decode cX4_wayByTwo 13 = .ok (.if_icmp .ge 102, 3) := by decide +kernel
theorem dX4_wayByTwo_16 : decode cX4_wayByTwo 16 = .ok (.iload_n 3, 1) := by decide +kernel
theorem dX4_wayByTwo_17 : decode cX4_wayByTwo 17 = .ok (.bipush 10, 2) := by decide +kernel
theorem dX4_wayByTwo_19 : decode cX4_wayByTwo 19 = .ok (.idiv, 1) := by decide +kernel
theorem dX4_wayByTwo_20 : decode cX4_wayByTwo 20 = .ok (.istore 4, 2) := by decide +kernel
theorem dX4_wayByTwo_22 : decode cX4_wayByTwo 22 = .ok (.aload_n 0, 1) := by decide +kernel
theorem dX4_wayByTwo_23 : decode cX4_wayByTwo 23 = .ok (.iload_n 2, 1) := by decide +kernel
theorem dX4_wayByTwo_24 : decode cX4_wayByTwo 24 = .ok (.iload 4, 2) := by decide +kernel
theorem dX4_wayByTwo_26 : decode cX4_wayByTwo 26 = .ok (.invokevirtual 304, 3) := by decide +kernel
theorem dX4_wayByTwo_29 : decode cX4_wayByTwo 29 = .ok (.ifCond .eq 80, 3) := by decide +kernel
theorem dX4_wayByTwo_32 : decode cX4_wayByTwo 32 = .ok (.aload_n 0, 1) := by decide +kernel
theorem dX4_wayByTwo_33 : decode cX4_wayByTwo 33 = .ok (.getfield 49, 3) := by decide +kernel
theorem dX4_wayByTwo_36 : decode cX4_wayByTwo 36 = .ok (.getfield 254, 3) := by decide +kernel
theorem dX4_wayByTwo_39 : decode cX4_wayByTwo 39 = .ok (.iload 4, 2) := by decide +kernel
theorem dX4_wayByTwo_41 : decode cX4_wayByTwo 41 = .ok (.laload, 1) := by decide +kernel
theorem dX4_wayByTwo_42 : decode cX4_wayByTwo 42 = .ok (.lstore 5, 2) := by decide +kernel
theorem dX4_wayByTwo_44 : decode cX4_wayByTwo 44 = .ok (.aload_n 0, 1) := by decide +kernel
theorem dX4_wayByTwo_45 : decode cX4_wayByTwo 45 = .ok (.getfield 49, 3) := by decide +kernel
theorem dX4_wayByTwo_48 : decode cX4_wayByTwo 48 = .ok (.getfield 254, 3) := by decide +kernel
theorem dX4_wayByTwo_51 : decode cX4_wayByTwo 51 = .ok (.iload 4, 2) := by decide +kernel
theorem dX4_wayByTwo_53 : decode cX4_wayByTwo 53 = .ok (.aload_n 0, 1) := by decide +kernel
theorem dX4_wayByTwo_54 : decode cX4_wayByTwo 54 = .ok (.getfield 55, 3) := by decide +kernel
theorem dX4_wayByTwo_57 : decode cX4_wayByTwo 57 = .ok (.iload 4, 2) := by decide +kernel
theorem dX4_wayByTwo_59 : decode cX4_wayByTwo 59 = .ok (.aaload, 1) := by decide +kernel
theorem dX4_wayByTwo_60 : decode cX4_wayByTwo 60 = .ok (.iload_n 3, 1) := by decide +kernel
theorem dX4_wayByTwo_61 : decode cX4_wayByTwo 61 = .ok (.bipush 10, 2) := by decide +kernel
theorem dX4_wayByTwo_63 : decode cX4_wayByTwo 63 = .ok (.irem, 1) := by decide +kernel
theorem dX4_wayByTwo_64 : decode cX4_wayByTwo 64 = .ok (.laload, 1) := by decide +kernel
theorem dX4_wayByTwo_65 : decode cX4_wayByTwo 65 = .ok (.lastore, 1) := by decide +kernel
theorem dX4_wayByTwo_66 : decode cX4_wayByTwo 66 = .ok (.aload_n 0, 1) := by decide +kernel
theorem dX4_wayByTwo_67 : decode cX4_wayByTwo 67 = .ok (.iload 4, 2) := by decide +kernel
theorem dX4_wayByTwo_69 : decode cX4_wayByTwo 69 = .ok (.iconst 1, 1) := by decide +kernel
theorem dX4_wayByTwo_70 : decode cX4_wayByTwo 70 = .ok (.iadd, 1) := by decide +kernel
theorem dX4_wayByTwo_71 : decode cX4_wayByTwo 71 = .ok (.bipush 10, 2) := by decide +kernel
theorem dX4_wayByTwo_73 : decode cX4_wayByTwo 73 = .ok (.imul, 1) := by decide +kernel
theorem dX4_wayByTwo_74 : decode cX4_wayByTwo 74 = .ok (.iload_n 1, 1) := by decide +kernel
theorem dX4_wayByTwo_75 : decode cX4_wayByTwo 75 = .ok (.iload_n 2, 1) := by decide +kernel
theorem dX4_wayByTwo_76 : decode cX4_wayByTwo 76 = .ok (.invokevirtual 240, 3) := by decide +kernel
theorem dX4_wayByTwo_79 : decode cX4_wayByTwo 79 = .ok (.istore 7, 2) := by decide +kernel
theorem dX4_wayByTwo_81 : decode cX4_wayByTwo 81 = .ok (.aload_n 0, 1) := by decide +kernel
theorem dX4_wayByTwo_82 : decode cX4_wayByTwo 82 = .ok (.getfield 49, 3) := by decide +kernel
theorem dX4_wayByTwo_85 : decode cX4_wayByTwo 85 = .ok (.getfield 254, 3) := by decide +kernel
theorem dX4_wayByTwo_88 : decode cX4_wayByTwo 88 = .ok (.iload 4, 2) := by decide +kernel
theorem dX4_wayByTwo_90 : decode cX4_wayByTwo 90 = .ok (.lload 5, 2) := by decide +kernel
theorem dX4_wayByTwo_92 : decode cX4_wayByTwo 92 = .ok (.lastore, 1) := by decide +kernel
theorem dX4_wayByTwo_93 : decode cX4_wayByTwo 93 = .ok (.iload 7, 2) := by decide +kernel
theorem dX4_wayByTwo_95 : decode cX4_wayByTwo 95 = .ok (.bipush (-9), 2) := by decide +kernel
theorem dX4_wayByTwo_97 : decode cX4_wayByTwo 97 = .ok (.if_icmp .eq 12, 3) := by decide +kernel
theorem dX4_wayByTwo_100 : decode cX4_wayByTwo 100 = .ok (.sipush 1000, 3) := by decide +kernel
theorem dX4_wayByTwo_103 : decode cX4_wayByTwo 103 = .ok (.iload_n 3, 1) := by decide +kernel
theorem dX4_wayByTwo_104 : decode cX4_wayByTwo 104 = .ok (.imul, 1) := by decide +kernel
theorem dX4_wayByTwo_105 : decode cX4_wayByTwo 105 = .ok (.iload 7, 2) := by decide +kernel
theorem dX4_wayByTwo_107 : decode cX4_wayByTwo 107 = .ok (.iadd, 1) := by decide +kernel
theorem dX4_wayByTwo_108 : decode cX4_wayByTwo 108 = .ok (.ireturn, 1) := by decide +kernel
theorem dX4_wayByTwo_109 : decode cX4_wayByTwo 109 = .ok (.iinc 3 1, 3) := by decide +kernel
theorem dX4_wayByTwo_112 : decode cX4_wayByTwo 112 = .ok (.goto (-110), 3) := by decide +kernel
theorem dX4_wayByTwo_115 : decode cX4_wayByTwo 115 = .ok (.bipush (-9), 2) := by decide +kernel
theorem dX4_wayByTwo_117 : decode cX4_wayByTwo 117 = .ok (.ireturn, 1) := by decide +kernel
theorem dX4_fitsSeen_0 : decode cX4_fitsSeen 0 = .ok (.aload_n 0, 1) := by decide +kernel
theorem dX4_fitsSeen_1 : decode cX4_fitsSeen 1 = .ok (.getfield 14, 3) := by decide +kernel
theorem dX4_fitsSeen_4 : decode cX4_fitsSeen 4 = .ok (.getfield 105, 3) := by decide +kernel
theorem dX4_fitsSeen_7 : decode cX4_fitsSeen 7 = .ok (.iload_n 1, 1) := by decide +kernel
theorem dX4_fitsSeen_8 : decode cX4_fitsSeen 8 = .ok (.iaload, 1) := by decide +kernel
theorem dX4_fitsSeen_9 : decode cX4_fitsSeen 9 = .ok (.istore_n 3, 1) := by decide +kernel
theorem dX4_fitsSeen_10 : decode cX4_fitsSeen 10 = .ok (.aload_n 0, 1) := by decide +kernel
theorem dX4_fitsSeen_11 : decode cX4_fitsSeen 11 = .ok (.getfield 49, 3) := by decide +kernel
theorem dX4_fitsSeen_14 : decode cX4_fitsSeen 14 = .ok (.iload_n 3, 1) := by decide +kernel
theorem dX4_fitsSeen_15 : decode cX4_fitsSeen 15 = .ok (.iload_n 2, 1) := by decide +kernel
theorem dX4_fitsSeen_16 : decode cX4_fitsSeen 16 = .ok (.invokevirtual 199, 3) := by decide +kernel
theorem dX4_fitsSeen_19 : decode cX4_fitsSeen 19 = .ok (.pop, 1) := by decide +kernel
theorem dX4_fitsSeen_20 : decode cX4_fitsSeen 20 = .ok (.iconst 0, 1) := by decide +kernel
theorem dX4_fitsSeen_21 : decode cX4_fitsSeen 21 = .ok (.istore 4, 2) := by decide +kernel
theorem dX4_fitsSeen_23 : decode cX4_fitsSeen 23 = .ok (.iload 4, 2) := by decide +kernel
theorem dX4_fitsSeen_25 : decode cX4_fitsSeen 25 = .ok (.iload_n 3, 1) := by decide +kernel
theorem dX4_fitsSeen_26 : decode cX4_fitsSeen 26 = .ok (.if_icmp .ge 38, 3) := by decide +kernel
theorem dX4_fitsSeen_29 : decode cX4_fitsSeen 29 = .ok (.aload_n 0, 1) := by decide +kernel
theorem dX4_fitsSeen_30 : decode cX4_fitsSeen 30 = .ok (.getfield 49, 3) := by decide +kernel
theorem dX4_fitsSeen_33 : decode cX4_fitsSeen 33 = .ok (.getfield 202, 3) := by decide +kernel
theorem dX4_fitsSeen_36 : decode cX4_fitsSeen 36 = .ok (.iload 4, 2) := by decide +kernel
theorem dX4_fitsSeen_38 : decode cX4_fitsSeen 38 = .ok (.iconst 1, 1) := by decide +kernel
theorem dX4_fitsSeen_39 : decode cX4_fitsSeen 39 = .ok (.iadd, 1) := by decide +kernel
theorem dX4_fitsSeen_40 : decode cX4_fitsSeen 40 = .ok (.iaload, 1) := by decide +kernel
theorem dX4_fitsSeen_41 : decode cX4_fitsSeen 41 = .ok (.aload_n 0, 1) := by decide +kernel
theorem dX4_fitsSeen_42 : decode cX4_fitsSeen 42 = .ok (.getfield 14, 3) := by decide +kernel
theorem dX4_fitsSeen_45 : decode cX4_fitsSeen 45 = .ok (.getfield 94, 3) := by decide +kernel
theorem dX4_fitsSeen_48 : decode cX4_fitsSeen 48 = .ok (.iload_n 1, 1) := by decide +kernel
theorem dX4_fitsSeen_49 : decode cX4_fitsSeen 49 = .ok (.aaload, 1) := by decide +kernel
theorem dX4_fitsSeen_50 : decode cX4_fitsSeen 50 = .ok (.iload 4, 2) := by decide +kernel
theorem dX4_fitsSeen_52 : decode cX4_fitsSeen 52 = .ok (.iaload, 1) := by decide +kernel
theorem dX4_fitsSeen_53 : decode cX4_fitsSeen 53 = .ok (.if_icmp .eq 5, 3) := by decide +kernel
theorem dX4_fitsSeen_56 : decode cX4_fitsSeen 56 = .ok (.iconst 0, 1) := by decide +kernel
theorem dX4_fitsSeen_57 : decode cX4_fitsSeen 57 = .ok (.ireturn, 1) := by decide +kernel
theorem dX4_fitsSeen_58 : decode cX4_fitsSeen 58 = .ok (.iinc 4 1, 3) := by decide +kernel
theorem dX4_fitsSeen_61 : decode cX4_fitsSeen 61 = .ok (.goto (-38), 3) := by decide +kernel
theorem dX4_fitsSeen_64 : decode cX4_fitsSeen 64 = .ok (.iconst 1, 1) := by decide +kernel
theorem dX4_fitsSeen_65 : decode cX4_fitsSeen 65 = .ok (.ireturn, 1) := by decide +kernel
theorem dX4_greatestPart_0 : decode cX4_greatestPart 0 = .ok (.iconst 0, 1) := by decide +kernel
theorem dX4_greatestPart_1 : decode cX4_greatestPart 1 = .ok (.istore_n 2, 1) := by decide +kernel
theorem dX4_greatestPart_2 : decode cX4_greatestPart 2 = .ok (.iconst 0, 1) := by decide +kernel
theorem dX4_greatestPart_3 : decode cX4_greatestPart 3 = .ok (.istore_n 3, 1) := by decide +kernel
theorem dX4_greatestPart_4 : decode cX4_greatestPart 4 = .ok (.iload_n 3, 1) := by decide +kernel
theorem dX4_greatestPart_5 : decode cX4_greatestPart 5 = .ok (.bipush 6, 2) := by decide +kernel
theorem dX4_greatestPart_7 : decode cX4_greatestPart 7 = .ok (.if_icmp .ge 68, 3) := by decide +kernel
theorem dX4_greatestPart_10 : decode cX4_greatestPart 10 = .ok (.iconst 0, 1) := by decide +kernel
theorem dX4_greatestPart_11 : decode cX4_greatestPart 11 = .ok (.istore 4, 2) := by decide +kernel
theorem dX4_greatestPart_13 : decode cX4_greatestPart 13 = .ok (.iconst 0, 1) := by decide +kernel
theorem dX4_greatestPart_14 : decode cX4_greatestPart 14 = .ok (.istore 5, 2) := by decide +kernel
theorem dX4_greatestPart_16 : decode cX4_greatestPart 16 = .ok (.iload 5, 2) := by decide +kernel
theorem dX4_greatestPart_18 : decode cX4_greatestPart 18 = .ok (.bipush 6, 2) := by decide +kernel
theorem dX4_greatestPart_20 : decode cX4_greatestPart 20 = .ok (.if_icmp .ge 42, 3) := by decide +kernel
theorem dX4_greatestPart_23 : decode cX4_greatestPart 23 = .ok (.iload 4, 2) := by decide +kernel
theorem dX4_greatestPart_25 : decode cX4_greatestPart 25 = .ok (.aload_n 0, 1) := by decide +kernel
theorem dX4_greatestPart_26 : decode cX4_greatestPart 26 = .ok (.getfield 60, 3) := by decide +kernel
theorem dX4_greatestPart_29 : decode cX4_greatestPart 29 = .ok (.iload 5, 2) := by decide +kernel
theorem dX4_greatestPart_31 : decode cX4_greatestPart 31 = .ok (.aaload, 1) := by decide +kernel
theorem dX4_greatestPart_32 : decode cX4_greatestPart 32 = .ok (.iload_n 1, 1) := by decide +kernel
theorem dX4_greatestPart_33 : decode cX4_greatestPart 33 = .ok (.iaload, 1) := by decide +kernel
theorem dX4_greatestPart_34 : decode cX4_greatestPart 34 = .ok (.aload_n 0, 1) := by decide +kernel
theorem dX4_greatestPart_35 : decode cX4_greatestPart 35 = .ok (.getfield 60, 3) := by decide +kernel
theorem dX4_greatestPart_38 : decode cX4_greatestPart 38 = .ok (.iload_n 3, 1) := by decide +kernel
theorem dX4_greatestPart_39 : decode cX4_greatestPart 39 = .ok (.aaload, 1) := by decide +kernel
theorem dX4_greatestPart_40 : decode cX4_greatestPart 40 = .ok (.iload_n 1, 1) := by decide +kernel
theorem dX4_greatestPart_41 : decode cX4_greatestPart 41 = .ok (.iaload, 1) := by decide +kernel
theorem dX4_greatestPart_42 : decode cX4_greatestPart 42 = .ok (.if_icmp .ne 7, 3) := by decide +kernel
theorem dX4_greatestPart_45 : decode cX4_greatestPart 45 = .ok (.iconst 1, 1) := by decide +kernel
theorem dX4_greatestPart_46 : decode cX4_greatestPart 46 = .ok (.goto 4, 3) := by decide +kernel
theorem dX4_greatestPart_49 : decode cX4_greatestPart 49 = .ok (.iconst 0, 1) := by decide +kernel
theorem dX4_greatestPart_50 : decode cX4_greatestPart 50 = .ok (.invokestatic 158, 3) := by decide +kernel
theorem dX4_greatestPart_53 : decode cX4_greatestPart 53 = .ok (.iadd, 1) := by decide +kernel
theorem dX4_greatestPart_54 : decode cX4_greatestPart 54 = .ok (.istore 4, 2) := by decide +kernel
theorem dX4_greatestPart_56 : decode cX4_greatestPart 56 = .ok (.iinc 5 1, 3) := by decide +kernel
theorem dX4_greatestPart_59 : decode cX4_greatestPart 59 = .ok (.goto (-43), 3) := by decide +kernel
theorem dX4_greatestPart_62 : decode cX4_greatestPart 62 = .ok (.iload_n 2, 1) := by decide +kernel
theorem dX4_greatestPart_63 : decode cX4_greatestPart 63 = .ok (.iload 4, 2) := by decide +kernel
theorem dX4_greatestPart_65 : decode cX4_greatestPart 65 = .ok (.invokestatic 217, 3) := by decide +kernel
theorem dX4_greatestPart_68 : decode cX4_greatestPart 68 = .ok (.istore_n 2, 1) := by decide +kernel
theorem dX4_greatestPart_69 : decode cX4_greatestPart 69 = .ok (.iinc 3 1, 3) := by decide +kernel
theorem dX4_greatestPart_72 : decode cX4_greatestPart 72 = .ok (.goto (-68), 3) := by decide +kernel
theorem dX4_greatestPart_75 : decode cX4_greatestPart 75 = .ok (.iload_n 2, 1) := by decide +kernel
theorem dX4_greatestPart_76 : decode cX4_greatestPart 76 = .ok (.ireturn, 1) := by decide +kernel
theorem dX4_playTurn_0 : decode cX4_playTurn 0 = .ok (.iconst 0, 1) := by decide +kernel
theorem dX4_playTurn_1 : decode cX4_playTurn 1 = .ok (.istore_n 3, 1) := by decide +kernel
theorem dX4_playTurn_2 : decode cX4_playTurn 2 = .ok (.iload_n 3, 1) := by decide +kernel
theorem dX4_playTurn_3 : decode cX4_playTurn 3 = .ok (.aload_n 0, 1) := by decide +kernel
theorem dX4_playTurn_4 : decode cX4_playTurn 4 = .ok (.getfield 24, 3) := by decide +kernel
theorem dX4_playTurn_7 : decode cX4_playTurn 7 = .ok (.invokevirtual 222, 3) := by decide +kernel
theorem dX4_playTurn_10 : decode cX4_playTurn 10 = .ok (.if_icmp .ge 126, 3) := by decide +kernel
theorem dX4_playTurn_13 : decode cX4_playTurn 13 = .ok (.aload_n 0, 1) := by decide +kernel
theorem dX4_playTurn_14 : decode cX4_playTurn 14 = .ok (.getfield 63, 3) := by decide +kernel
theorem dX4_playTurn_17 : decode cX4_playTurn 17 = .ok (.iload_n 1, 1) := by decide +kernel
theorem dX4_playTurn_18 : decode cX4_playTurn 18 = .ok (.iconst 1, 1) := by decide +kernel
theorem dX4_playTurn_19 : decode cX4_playTurn 19 = .ok (.isub, 1) := by decide +kernel
theorem dX4_playTurn_20 : decode cX4_playTurn 20 = .ok (.aaload, 1) := by decide +kernel
theorem dX4_playTurn_21 : decode cX4_playTurn 21 = .ok (.iload_n 3, 1) := by decide +kernel
theorem dX4_playTurn_22 : decode cX4_playTurn 22 = .ok (.iaload, 1) := by decide +kernel
theorem dX4_playTurn_23 : decode cX4_playTurn 23 = .ok (.istore 4, 2) := by decide +kernel
theorem dX4_playTurn_25 : decode cX4_playTurn 25 = .ok (.iconst 0, 1) := by decide +kernel
theorem dX4_playTurn_26 : decode cX4_playTurn 26 = .ok (.istore 5, 2) := by decide +kernel
theorem dX4_playTurn_28 : decode cX4_playTurn 28 = .ok (.iload 5, 2) := by decide +kernel
theorem dX4_playTurn_30 : decode cX4_playTurn 30 = .ok (.aload_n 0, 1) := by decide +kernel
theorem dX4_playTurn_31 : decode cX4_playTurn 31 = .ok (.getfield 24, 3) := by decide +kernel
theorem dX4_playTurn_34 : decode cX4_playTurn 34 = .ok (.getfield 129, 3) := by decide +kernel
theorem dX4_playTurn_37 : decode cX4_playTurn 37 = .ok (.if_icmp .ge 83, 3) := by decide +kernel
theorem dX4_playTurn_40 : decode cX4_playTurn 40 = .ok (.iconst 1, 1) := by decide +kernel
theorem dX4_playTurn_41 : decode cX4_playTurn 41 = .ok (.iload 5, 2) := by decide +kernel
theorem dX4_playTurn_43 : decode cX4_playTurn 43 = .ok (.ishl, 1) := by decide +kernel
theorem dX4_playTurn_44 : decode cX4_playTurn 44 = .ok (.istore 6, 2) := by decide +kernel
theorem dX4_playTurn_46 : decode cX4_playTurn 46 = .ok (.aload_n 0, 1) := by decide +kernel
theorem dX4_playTurn_47 : decode cX4_playTurn 47 = .ok (.getfield 63, 3) := by decide +kernel
theorem dX4_playTurn_50 : decode cX4_playTurn 50 = .ok (.iload_n 1, 1) := by decide +kernel
theorem dX4_playTurn_51 : decode cX4_playTurn 51 = .ok (.iconst 1, 1) := by decide +kernel
theorem dX4_playTurn_52 : decode cX4_playTurn 52 = .ok (.isub, 1) := by decide +kernel
theorem dX4_playTurn_53 : decode cX4_playTurn 53 = .ok (.aaload, 1) := by decide +kernel
theorem dX4_playTurn_54 : decode cX4_playTurn 54 = .ok (.iload_n 3, 1) := by decide +kernel
theorem dX4_playTurn_55 : decode cX4_playTurn 55 = .ok (.iload 6, 2) := by decide +kernel
theorem dX4_playTurn_57 : decode cX4_playTurn 57 = .ok (.ixor, 1) := by decide +kernel
theorem dX4_playTurn_58 : decode cX4_playTurn 58 = .ok (.iaload, 1) := by decide +kernel
theorem dX4_playTurn_59 : decode cX4_playTurn 59 = .ok (.istore 7, 2) := by decide +kernel
theorem dX4_playTurn_61 : decode cX4_playTurn 61 = .ok (.iload_n 3, 1) := by decide +kernel
theorem dX4_playTurn_62 : decode cX4_playTurn 62 = .ok (.iload 6, 2) := by decide +kernel
theorem dX4_playTurn_64 : decode cX4_playTurn 64 = .ok (.iand, 1) := by decide +kernel
theorem dX4_playTurn_65 : decode cX4_playTurn 65 = .ok (.ifCond .eq 7, 3) := by decide +kernel
theorem dX4_playTurn_68 : decode cX4_playTurn 68 = .ok (.iconst 1, 1) := by decide +kernel
theorem dX4_playTurn_69 : decode cX4_playTurn 69 = .ok (.goto 4, 3) := by decide +kernel
theorem dX4_playTurn_72 : decode cX4_playTurn 72 = .ok (.iconst 0, 1) := by decide +kernel
theorem dX4_playTurn_73 : decode cX4_playTurn 73 = .ok (.istore 8, 2) := by decide +kernel
theorem dX4_playTurn_75 : decode cX4_playTurn 75 = .ok (.iload_n 2, 1) := by decide +kernel
theorem dX4_playTurn_76 : decode cX4_playTurn 76 = .ok (.ifCond .eq 20, 3) := by decide +kernel
theorem dX4_playTurn_79 : decode cX4_playTurn 79 = .ok (.iload 8, 2) := by decide +kernel
theorem dX4_playTurn_81 : decode cX4_playTurn 81 = .ok (.ifCond .eq 15, 3) := by decide +kernel
theorem dX4_playTurn_84 : decode cX4_playTurn 84 = .ok (.iload 4, 2) := by decide +kernel
theorem dX4_playTurn_86 : decode cX4_playTurn 86 = .ok (.iload 7, 2) := by decide +kernel
theorem dX4_playTurn_88 : decode cX4_playTurn 88 = .ok (.invokestatic 217, 3) := by decide +kernel
theorem dX4_playTurn_91 : decode cX4_playTurn 91 = .ok (.istore 4, 2) := by decide +kernel
theorem dX4_playTurn_93 : decode cX4_playTurn 93 = .ok (.goto 21, 3) := by decide +kernel
theorem dX4_playTurn_96 : decode cX4_playTurn 96 = .ok (.iload_n 2, 1) := by decide +kernel
theorem dX4_playTurn_97 : decode cX4_playTurn 97 = .ok (.ifCond .ne 17, 3) := by decide +kernel
theorem dX4_playTurn_100 : decode cX4_playTurn 100 = .ok (.iload 8, 2) := by decide +kernel
theorem dX4_playTurn_102 : decode cX4_playTurn 102 = .ok (.ifCond .ne 12, 3) := by decide +kernel
theorem dX4_playTurn_105 : decode cX4_playTurn 105 = .ok (.iload 4, 2) := by decide +kernel
theorem dX4_playTurn_107 : decode cX4_playTurn 107 = .ok (.iload 7, 2) := by decide +kernel
theorem dX4_playTurn_109 : decode cX4_playTurn 109 = .ok (.invokestatic 307, 3) := by decide +kernel
theorem dX4_playTurn_112 : decode cX4_playTurn 112 = .ok (.istore 4, 2) := by decide +kernel
theorem dX4_playTurn_114 : decode cX4_playTurn 114 = .ok (.iinc 5 1, 3) := by decide +kernel
theorem dX4_playTurn_117 : decode cX4_playTurn 117 = .ok (.goto (-89), 3) := by decide +kernel
theorem dX4_playTurn_120 : decode cX4_playTurn 120 = .ok (.aload_n 0, 1) := by decide +kernel
theorem dX4_playTurn_121 : decode cX4_playTurn 121 = .ok (.getfield 63, 3) := by decide +kernel
theorem dX4_playTurn_124 : decode cX4_playTurn 124 = .ok (.iload_n 1, 1) := by decide +kernel
theorem dX4_playTurn_125 : decode cX4_playTurn 125 = .ok (.aaload, 1) := by decide +kernel
theorem dX4_playTurn_126 : decode cX4_playTurn 126 = .ok (.iload_n 3, 1) := by decide +kernel
theorem dX4_playTurn_127 : decode cX4_playTurn 127 = .ok (.iload 4, 2) := by decide +kernel
theorem dX4_playTurn_129 : decode cX4_playTurn 129 = .ok (.iastore, 1) := by decide +kernel
theorem dX4_playTurn_130 : decode cX4_playTurn 130 = .ok (.iinc 3 1, 3) := by decide +kernel
theorem dX4_playTurn_133 : decode cX4_playTurn 133 = .ok (.goto (-131), 3) := by decide +kernel
theorem dX4_playTurn_136 : decode cX4_playTurn 136 = .ok (.return_, 1) := by decide +kernel
theorem dX4_weighPlaces_0 : decode cX4_weighPlaces 0 = .ok (.aload_n 0, 1) := by decide +kernel
theorem dX4_weighPlaces_1 : decode cX4_weighPlaces 1 = .ok (.getfield 66, 3) := by decide +kernel
theorem dX4_weighPlaces_4 : decode cX4_weighPlaces 4 = .ok (.lconst 0, 1) := by decide +kernel
theorem dX4_weighPlaces_5 : decode cX4_weighPlaces 5 = .ok (.invokestatic 310, 3) := by decide +kernel
theorem dX4_weighPlaces_8 : decode cX4_weighPlaces 8 = .ok (.aload_n 0, 1) := by decide +kernel
theorem dX4_weighPlaces_9 : decode cX4_weighPlaces 9 = .ok (.getfield 49, 3) := by decide +kernel
theorem dX4_weighPlaces_12 : decode cX4_weighPlaces 12 = .ok (.aload_n 0, 1) := by decide +kernel
theorem dX4_weighPlaces_13 : decode cX4_weighPlaces 13 = .ok (.getfield 24, 3) := by decide +kernel
theorem dX4_weighPlaces_16 : decode cX4_weighPlaces 16 = .ok (.invokevirtual 193, 3) := by decide +kernel
theorem dX4_weighPlaces_19 : decode cX4_weighPlaces 19 = .ok (.iconst 0, 1) := by decide +kernel
theorem dX4_weighPlaces_20 : decode cX4_weighPlaces 20 = .ok (.istore_n 3, 1) := by decide +kernel
theorem dX4_weighPlaces_21 : decode cX4_weighPlaces 21 = .ok (.iload_n 3, 1) := by decide +kernel
theorem dX4_weighPlaces_22 : decode cX4_weighPlaces 22 = .ok (.aload_n 0, 1) := by decide +kernel
theorem dX4_weighPlaces_23 : decode cX4_weighPlaces 23 = .ok (.getfield 24, 3) := by decide +kernel
theorem dX4_weighPlaces_26 : decode cX4_weighPlaces 26 = .ok (.invokevirtual 222, 3) := by decide +kernel
theorem dX4_weighPlaces_29 : decode cX4_weighPlaces 29 = .ok (.if_icmp .ge 78, 3) := by decide +kernel
theorem dX4_weighPlaces_32 : decode cX4_weighPlaces 32 = .ok (.iload_n 3, 1) := by decide +kernel
theorem dX4_weighPlaces_33 : decode cX4_weighPlaces 33 = .ok (.aload_n 0, 1) := by decide +kernel
theorem dX4_weighPlaces_34 : decode cX4_weighPlaces 34 = .ok (.getfield 24, 3) := by decide +kernel
theorem dX4_weighPlaces_37 : decode cX4_weighPlaces 37 = .ok (.getfield 196, 3) := by decide +kernel
theorem dX4_weighPlaces_40 : decode cX4_weighPlaces 40 = .ok (.invokestatic 231, 3) := by decide +kernel
theorem dX4_weighPlaces_43 : decode cX4_weighPlaces 43 = .ok (.ifCond .eq 58, 3) := by decide +kernel
theorem dX4_weighPlaces_46 : decode cX4_weighPlaces 46 = .ok (.aload_n 0, 1) := by decide +kernel
theorem dX4_weighPlaces_47 : decode cX4_weighPlaces 47 = .ok (.getfield 49, 3) := by decide +kernel
theorem dX4_weighPlaces_50 : decode cX4_weighPlaces 50 = .ok (.iload_n 1, 1) := by decide +kernel
theorem dX4_weighPlaces_51 : decode cX4_weighPlaces 51 = .ok (.iload_n 3, 1) := by decide +kernel
theorem dX4_weighPlaces_52 : decode cX4_weighPlaces 52 = .ok (.invokevirtual 199, 3) := by decide +kernel
theorem dX4_weighPlaces_55 : decode cX4_weighPlaces 55 = .ok (.istore 4, 2) := by decide +kernel
theorem dX4_weighPlaces_57 : decode cX4_weighPlaces 57 = .ok (.iload_n 2, 1) := by decide +kernel
theorem dX4_weighPlaces_58 : decode cX4_weighPlaces 58 = .ok (.aload_n 0, 1) := by decide +kernel
theorem dX4_weighPlaces_59 : decode cX4_weighPlaces 59 = .ok (.getfield 24, 3) := by decide +kernel
theorem dX4_weighPlaces_62 : decode cX4_weighPlaces 62 = .ok (.getfield 196, 3) := by decide +kernel
theorem dX4_weighPlaces_65 : decode cX4_weighPlaces 65 = .ok (.iload_n 3, 1) := by decide +kernel
theorem dX4_weighPlaces_66 : decode cX4_weighPlaces 66 = .ok (.iconst (-1), 1) := by decide +kernel
theorem dX4_weighPlaces_67 : decode cX4_weighPlaces 67 = .ok (.ixor, 1) := by decide +kernel
theorem dX4_weighPlaces_68 : decode cX4_weighPlaces 68 = .ok (.iand, 1) := by decide +kernel
theorem dX4_weighPlaces_69 : decode cX4_weighPlaces 69 = .ok (.invokestatic 226, 3) := by decide +kernel
theorem dX4_weighPlaces_72 : decode cX4_weighPlaces 72 = .ok (.invokestatic 271, 3) := by decide +kernel
theorem dX4_weighPlaces_75 : decode cX4_weighPlaces 75 = .ok (.lstore 5, 2) := by decide +kernel
theorem dX4_weighPlaces_77 : decode cX4_weighPlaces 77 = .ok (.aload_n 0, 1) := by decide +kernel
theorem dX4_weighPlaces_78 : decode cX4_weighPlaces 78 = .ok (.getfield 66, 3) := by decide +kernel
theorem dX4_weighPlaces_81 : decode cX4_weighPlaces 81 = .ok (.iload 4, 2) := by decide +kernel
theorem dX4_weighPlaces_83 : decode cX4_weighPlaces 83 = .ok (.dup2, 1) := by decide +kernel
theorem dX4_weighPlaces_84 : decode cX4_weighPlaces 84 = .ok (.laload, 1) := by decide +kernel
theorem dX4_weighPlaces_85 : decode cX4_weighPlaces 85 = .ok (.lload 5, 2) := by decide +kernel
theorem dX4_weighPlaces_87 : decode cX4_weighPlaces 87 = .ok (.bipush 12, 2) := by decide +kernel
theorem dX4_weighPlaces_89 : decode cX4_weighPlaces 89 = .ok (.iload_n 2, 1) := by decide +kernel
theorem dX4_weighPlaces_90 : decode cX4_weighPlaces 90 = .ok (.isub, 1) := by decide +kernel
theorem dX4_weighPlaces_91 : decode cX4_weighPlaces 91 = .ok (.iload_n 3, 1) := by decide +kernel
theorem dX4_weighPlaces_92 : decode cX4_weighPlaces 92 = .ok (.invokestatic 226, 3) := by decide +kernel
theorem dX4_weighPlaces_95 : decode cX4_weighPlaces 95 = .ok (.invokestatic 271, 3) := by decide +kernel
theorem dX4_weighPlaces_98 : decode cX4_weighPlaces 98 = .ok (.lmul, 1) := by decide +kernel
theorem dX4_weighPlaces_99 : decode cX4_weighPlaces 99 = .ok (.ladd, 1) := by decide +kernel
theorem dX4_weighPlaces_100 : decode cX4_weighPlaces 100 = .ok (.lastore, 1) := by decide +kernel
theorem dX4_weighPlaces_101 : decode cX4_weighPlaces 101 = .ok (.iinc 3 1, 3) := by decide +kernel
theorem dX4_weighPlaces_104 : decode cX4_weighPlaces 104 = .ok (.goto (-83), 3) := by decide +kernel
theorem dX4_weighPlaces_107 : decode cX4_weighPlaces 107 = .ok (.return_, 1) := by decide +kernel
theorem dX4_tellPart_0 : decode cX4_tellPart 0 = .ok (.lload_n 1, 1) := by decide +kernel
theorem dX4_tellPart_1 : decode cX4_tellPart 1 = .ok (.lload_n 3, 1) := by decide +kernel
theorem dX4_tellPart_2 : decode cX4_tellPart 2 = .ok (.invokestatic 316, 3) := by decide +kernel
theorem dX4_tellPart_5 : decode cX4_tellPart 5 = .ok (.lstore 5, 2) := by decide +kernel
theorem dX4_tellPart_7 : decode cX4_tellPart 7 = .ok (.aload_n 0, 1) := by decide +kernel
theorem dX4_tellPart_8 : decode cX4_tellPart 8 = .ok (.lload_n 1, 1) := by decide +kernel
theorem dX4_tellPart_9 : decode cX4_tellPart 9 = .ok (.lload 5, 2) := by decide +kernel
theorem dX4_tellPart_11 : decode cX4_tellPart 11 = .ok (.ldiv, 1) := by decide +kernel
theorem dX4_tellPart_12 : decode cX4_tellPart 12 = .ok (.putfield 287, 3) := by decide +kernel
theorem dX4_tellPart_15 : decode cX4_tellPart 15 = .ok (.aload_n 0, 1) := by decide +kernel
theorem dX4_tellPart_16 : decode cX4_tellPart 16 = .ok (.lload_n 3, 1) := by decide +kernel
theorem dX4_tellPart_17 : decode cX4_tellPart 17 = .ok (.lload 5, 2) := by decide +kernel
theorem dX4_tellPart_19 : decode cX4_tellPart 19 = .ok (.ldiv, 1) := by decide +kernel
theorem dX4_tellPart_20 : decode cX4_tellPart 20 = .ok (.putfield 74, 3) := by decide +kernel
theorem dX4_tellPart_23 : decode cX4_tellPart 23 = .ok (.return_, 1) := by decide +kernel
theorem dX4_greatestDivisor_0 : decode cX4_greatestDivisor 0 = .ok (.iconst 0, 1) := by decide +kernel
theorem dX4_greatestDivisor_1 : decode cX4_greatestDivisor 1 = .ok (.istore 4, 2) := by decide +kernel
theorem dX4_greatestDivisor_3 : decode cX4_greatestDivisor 3 = .ok (.iload 4, 2) := by decide +kernel
theorem dX4_greatestDivisor_5 : decode cX4_greatestDivisor 5 = .ok (.sipush 200, 3) := by decide +kernel
theorem dX4_greatestDivisor_8 : decode cX4_greatestDivisor 8 = .ok (.if_icmp .ge 25, 3) := by decide +kernel
theorem dX4_greatestDivisor_11 : decode cX4_greatestDivisor 11 = .ok (.lload_n 2, 1) := by decide +kernel
theorem dX4_greatestDivisor_12 : decode cX4_greatestDivisor 12 = .ok (.lconst 0, 1) := by decide +kernel
theorem dX4_greatestDivisor_13 : decode cX4_greatestDivisor 13 = .ok (.lcmp, 1) := by decide +kernel
theorem dX4_greatestDivisor_14 : decode cX4_greatestDivisor 14 = .ok (.ifCond .eq 19, 3) := by decide +kernel
theorem dX4_greatestDivisor_17 : decode cX4_greatestDivisor 17 = .ok (.lload_n 0, 1) := by decide +kernel
theorem dX4_greatestDivisor_18 : decode cX4_greatestDivisor 18 = .ok (.lload_n 2, 1) := by decide +kernel
theorem dX4_greatestDivisor_19 : decode cX4_greatestDivisor 19 = .ok (.lrem, 1) := by decide +kernel
theorem dX4_greatestDivisor_20 : decode cX4_greatestDivisor 20 = .ok (.lstore 5, 2) := by decide +kernel
theorem dX4_greatestDivisor_22 : decode cX4_greatestDivisor 22 = .ok (.lload_n 2, 1) := by decide +kernel
theorem dX4_greatestDivisor_23 : decode cX4_greatestDivisor 23 = .ok (.lstore_n 0, 1) := by decide +kernel
theorem dX4_greatestDivisor_24 : decode cX4_greatestDivisor 24 = .ok (.lload 5, 2) := by decide +kernel
theorem dX4_greatestDivisor_26 : decode cX4_greatestDivisor 26 = .ok (.lstore_n 2, 1) := by decide +kernel
theorem dX4_greatestDivisor_27 : decode cX4_greatestDivisor 27 = .ok (.iinc 4 1, 3) := by decide +kernel
theorem dX4_greatestDivisor_30 : decode cX4_greatestDivisor 30 = .ok (.goto (-27), 3) := by decide +kernel
theorem dX4_greatestDivisor_33 : decode cX4_greatestDivisor 33 = .ok (.lconst 1, 1) := by decide +kernel
theorem dX4_greatestDivisor_34 : decode cX4_greatestDivisor 34 = .ok (.lload_n 0, 1) := by decide +kernel
theorem dX4_greatestDivisor_35 : decode cX4_greatestDivisor 35 = .ok (.invokestatic 320, 3) := by decide +kernel
theorem dX4_greatestDivisor_38 : decode cX4_greatestDivisor 38 = .ok (.lreturn, 1) := by decide +kernel
theorem dX4_power_0 : decode cX4_power 0 = .ok (.lconst 1, 1) := by decide +kernel
theorem dX4_power_1 : decode cX4_power 1 = .ok (.lstore_n 2, 1) := by decide +kernel
theorem dX4_power_2 : decode cX4_power 2 = .ok (.iconst 0, 1) := by decide +kernel
theorem dX4_power_3 : decode cX4_power 3 = .ok (.istore 4, 2) := by decide +kernel
theorem dX4_power_5 : decode cX4_power 5 = .ok (.iload 4, 2) := by decide +kernel
theorem dX4_power_7 : decode cX4_power 7 = .ok (.iload_n 1, 1) := by decide +kernel
theorem dX4_power_8 : decode cX4_power 8 = .ok (.if_icmp .ge 14, 3) := by decide +kernel
theorem dX4_power_11 : decode cX4_power 11 = .ok (.lload_n 2, 1) := by decide +kernel
theorem dX4_power_12 : decode cX4_power 12 = .ok (.iload_n 0, 1) := by decide +kernel
theorem dX4_power_13 : decode cX4_power 13 = .ok (.i2l, 1) := by decide +kernel
theorem dX4_power_14 : decode cX4_power 14 = .ok (.lmul, 1) := by decide +kernel
theorem dX4_power_15 : decode cX4_power 15 = .ok (.lstore_n 2, 1) := by decide +kernel
theorem dX4_power_16 : decode cX4_power 16 = .ok (.iinc 4 1, 3) := by decide +kernel
theorem dX4_power_19 : decode cX4_power 19 = .ok (.goto (-14), 3) := by decide +kernel
theorem dX4_power_22 : decode cX4_power 22 = .ok (.lload_n 2, 1) := by decide +kernel
theorem dX4_power_23 : decode cX4_power 23 = .ok (.lreturn, 1) := by decide +kernel
theorem dX4_doByLot_0 : decode cX4_doByLot 0 = .ok (.aload_n 0, 1) := by decide +kernel
theorem dX4_doByLot_1 : decode cX4_doByLot 1 = .ok (.getfield 24, 3) := by decide +kernel
theorem dX4_doByLot_4 : decode cX4_doByLot 4 = .ok (.getfield 129, 3) := by decide +kernel
theorem dX4_doByLot_7 : decode cX4_doByLot 7 = .ok (.ifCond .ne 4, 3) := by decide +kernel
theorem dX4_doByLot_10 : decode cX4_doByLot 10 = .ok (.return_, 1) := by decide +kernel
theorem dX4_doByLot_11 : decode cX4_doByLot 11 = .ok (.iload_n 1, 1) := by decide +kernel
theorem dX4_doByLot_12 : decode cX4_doByLot 12 = .ok (.bipush 8, 2) := by decide +kernel
theorem dX4_doByLot_14 : decode cX4_doByLot 14 = .ok (.idiv, 1) := by decide +kernel
theorem dX4_doByLot_15 : decode cX4_doByLot 15 = .ok (.aload_n 0, 1) := by decide +kernel
theorem dX4_doByLot_16 : decode cX4_doByLot 16 = .ok (.getfield 24, 3) := by decide +kernel
theorem dX4_doByLot_19 : decode cX4_doByLot 19 = .ok (.getfield 129, 3) := by decide +kernel
theorem dX4_doByLot_22 : decode cX4_doByLot 22 = .ok (.irem, 1) := by decide +kernel
theorem dX4_doByLot_23 : decode cX4_doByLot 23 = .ok (.istore_n 2, 1) := by decide +kernel
theorem dX4_doByLot_24 : decode cX4_doByLot 24 = .ok (.iload_n 1, 1) := by decide +kernel
theorem dX4_doByLot_25 : decode cX4_doByLot 25 = .ok (.iconst 4, 1) := by decide +kernel
theorem dX4_doByLot_26 : decode cX4_doByLot 26 = .ok (.irem, 1) := by decide +kernel
theorem dX4_doByLot_27 : decode cX4_doByLot 27 = .ok (.lookupswitch 54 #[(0, 25), (1, 36)], 25) := by decide +kernel
theorem dX4_doByLot_52 : decode cX4_doByLot 52 = .ok (.aload_n 0, 1) := by decide +kernel
theorem dX4_doByLot_53 : decode cX4_doByLot 53 = .ok (.getfield 24, 3) := by decide +kernel
theorem dX4_doByLot_56 : decode cX4_doByLot 56 = .ok (.iload_n 2, 1) := by decide +kernel
theorem dX4_doByLot_57 : decode cX4_doByLot 57 = .ok (.invokevirtual 183, 3) := by decide +kernel
theorem dX4_doByLot_60 : decode cX4_doByLot 60 = .ok (.goto 28, 3) := by decide +kernel
theorem dX4_doByLot_63 : decode cX4_doByLot 63 = .ok (.aload_n 0, 1) := by decide +kernel
theorem dX4_doByLot_64 : decode cX4_doByLot 64 = .ok (.getfield 24, 3) := by decide +kernel
theorem dX4_doByLot_67 : decode cX4_doByLot 67 = .ok (.iload_n 2, 1) := by decide +kernel
theorem dX4_doByLot_68 : decode cX4_doByLot 68 = .ok (.iload_n 1, 1) := by decide +kernel
theorem dX4_doByLot_69 : decode cX4_doByLot 69 = .ok (.bipush 64, 2) := by decide +kernel
theorem dX4_doByLot_71 : decode cX4_doByLot 71 = .ok (.idiv, 1) := by decide +kernel
theorem dX4_doByLot_72 : decode cX4_doByLot 72 = .ok (.bipush 10, 2) := by decide +kernel
theorem dX4_doByLot_74 : decode cX4_doByLot 74 = .ok (.irem, 1) := by decide +kernel
theorem dX4_doByLot_75 : decode cX4_doByLot 75 = .ok (.invokevirtual 174, 3) := by decide +kernel
theorem dX4_doByLot_78 : decode cX4_doByLot 78 = .ok (.goto 10, 3) := by decide +kernel
theorem dX4_doByLot_81 : decode cX4_doByLot 81 = .ok (.aload_n 0, 1) := by decide +kernel
theorem dX4_doByLot_82 : decode cX4_doByLot 82 = .ok (.getfield 24, 3) := by decide +kernel
theorem dX4_doByLot_85 : decode cX4_doByLot 85 = .ok (.invokevirtual 168, 3) := by decide +kernel
theorem dX4_doByLot_88 : decode cX4_doByLot 88 = .ok (.return_, 1) := by decide +kernel
theorem dX4_bit_0 : decode cX4_bit 0 = .ok (.iload_n 0, 1) := by decide +kernel
theorem dX4_bit_1 : decode cX4_bit 1 = .ok (.ifCond .eq 7, 3) := by decide +kernel
theorem dX4_bit_4 : decode cX4_bit 4 = .ok (.iconst 1, 1) := by decide +kernel
theorem dX4_bit_5 : decode cX4_bit 5 = .ok (.goto 4, 3) := by decide +kernel
theorem dX4_bit_8 : decode cX4_bit 8 = .ok (.iconst 0, 1) := by decide +kernel
theorem dX4_bit_9 : decode cX4_bit 9 = .ok (.ireturn, 1) := by decide +kernel
theorem dX4_isPart_0 : decode cX4_isPart 0 = .ok (.iload_n 0, 1) := by decide +kernel
theorem dX4_isPart_1 : decode cX4_isPart 1 = .ok (.iload_n 1, 1) := by decide +kernel
theorem dX4_isPart_2 : decode cX4_isPart 2 = .ok (.iconst (-1), 1) := by decide +kernel
theorem dX4_isPart_3 : decode cX4_isPart 3 = .ok (.ixor, 1) := by decide +kernel
theorem dX4_isPart_4 : decode cX4_isPart 4 = .ok (.iand, 1) := by decide +kernel
theorem dX4_isPart_5 : decode cX4_isPart 5 = .ok (.ifCond .ne 7, 3) := by decide +kernel
theorem dX4_isPart_8 : decode cX4_isPart 8 = .ok (.iconst 1, 1) := by decide +kernel
theorem dX4_isPart_9 : decode cX4_isPart 9 = .ok (.goto 4, 3) := by decide +kernel
theorem dX4_isPart_12 : decode cX4_isPart 12 = .ok (.iconst 0, 1) := by decide +kernel
theorem dX4_isPart_13 : decode cX4_isPart 13 = .ok (.ireturn, 1) := by decide +kernel
theorem dX4_toldOfSleeper_0 : decode cX4_toldOfSleeper 0 = .ok (.iload_n 2, 1) := by decide +kernel
theorem dX4_toldOfSleeper_1 : decode cX4_toldOfSleeper 1 = .ok (.tableswitch 73 0 3 #[31, 41, 51, 61], 31) := by decide +kernel
theorem dX4_toldOfSleeper_32 : decode cX4_toldOfSleeper 32 = .ok (.aload_n 0, 1) := by decide +kernel
theorem dX4_toldOfSleeper_33 : decode cX4_toldOfSleeper 33 = .ok (.getfield 24, 3) := by decide +kernel
theorem dX4_toldOfSleeper_36 : decode cX4_toldOfSleeper 36 = .ok (.getfield 140, 3) := by decide +kernel
theorem dX4_toldOfSleeper_39 : decode cX4_toldOfSleeper 39 = .ok (.iload_n 1, 1) := by decide +kernel
theorem dX4_toldOfSleeper_40 : decode cX4_toldOfSleeper 40 = .ok (.iaload, 1) := by decide +kernel
theorem dX4_toldOfSleeper_41 : decode cX4_toldOfSleeper 41 = .ok (.ireturn, 1) := by decide +kernel
theorem dX4_toldOfSleeper_42 : decode cX4_toldOfSleeper 42 = .ok (.aload_n 0, 1) := by decide +kernel
theorem dX4_toldOfSleeper_43 : decode cX4_toldOfSleeper 43 = .ok (.getfield 24, 3) := by decide +kernel
theorem dX4_toldOfSleeper_46 : decode cX4_toldOfSleeper 46 = .ok (.getfield 208, 3) := by decide +kernel
theorem dX4_toldOfSleeper_49 : decode cX4_toldOfSleeper 49 = .ok (.iload_n 1, 1) := by decide +kernel
theorem dX4_toldOfSleeper_50 : decode cX4_toldOfSleeper 50 = .ok (.iaload, 1) := by decide +kernel
theorem dX4_toldOfSleeper_51 : decode cX4_toldOfSleeper 51 = .ok (.ireturn, 1) := by decide +kernel
theorem dX4_toldOfSleeper_52 : decode cX4_toldOfSleeper 52 = .ok (.aload_n 0, 1) := by decide +kernel
theorem dX4_toldOfSleeper_53 : decode cX4_toldOfSleeper 53 = .ok (.getfield 24, 3) := by decide +kernel
theorem dX4_toldOfSleeper_56 : decode cX4_toldOfSleeper 56 = .ok (.getfield 146, 3) := by decide +kernel
theorem dX4_toldOfSleeper_59 : decode cX4_toldOfSleeper 59 = .ok (.iload_n 1, 1) := by decide +kernel
theorem dX4_toldOfSleeper_60 : decode cX4_toldOfSleeper 60 = .ok (.iaload, 1) := by decide +kernel
theorem dX4_toldOfSleeper_61 : decode cX4_toldOfSleeper 61 = .ok (.ireturn, 1) := by decide +kernel
theorem dX4_toldOfSleeper_62 : decode cX4_toldOfSleeper 62 = .ok (.aload_n 0, 1) := by decide +kernel
theorem dX4_toldOfSleeper_63 : decode cX4_toldOfSleeper 63 = .ok (.getfield 24, 3) := by decide +kernel
theorem dX4_toldOfSleeper_66 : decode cX4_toldOfSleeper 66 = .ok (.iload_n 1, 1) := by decide +kernel
theorem dX4_toldOfSleeper_67 : decode cX4_toldOfSleeper 67 = .ok (.invokevirtual 177, 3) := by decide +kernel
theorem dX4_toldOfSleeper_70 : decode cX4_toldOfSleeper 70 = .ok (.invokestatic 158, 3) := by decide +kernel
theorem dX4_toldOfSleeper_73 : decode cX4_toldOfSleeper 73 = .ok (.ireturn, 1) := by decide +kernel
theorem dX4_toldOfSleeper_74 : decode cX4_toldOfSleeper 74 = .ok (.aload_n 0, 1) := by decide +kernel
theorem dX4_toldOfSleeper_75 : decode cX4_toldOfSleeper 75 = .ok (.getfield 24, 3) := by decide +kernel
theorem dX4_toldOfSleeper_78 : decode cX4_toldOfSleeper 78 = .ok (.iload_n 1, 1) := by decide +kernel
theorem dX4_toldOfSleeper_79 : decode cX4_toldOfSleeper 79 = .ok (.invokevirtual 180, 3) := by decide +kernel
theorem dX4_toldOfSleeper_82 : decode cX4_toldOfSleeper 82 = .ok (.invokestatic 158, 3) := by decide +kernel
theorem dX4_toldOfSleeper_85 : decode cX4_toldOfSleeper 85 = .ok (.ireturn, 1) := by decide +kernel
theorem dX4_toldCount_0 : decode cX4_toldCount 0 = .ok (.iload_n 1, 1) := by decide +kernel
theorem dX4_toldCount_1 : decode cX4_toldCount 1 = .ok (.tableswitch 144 0 10 #[59, 67, 75, 83, 91, 99, 107, 115, 123, 131, 139], 59) := by decide +kernel
theorem dX4_toldCount_60 : decode cX4_toldCount 60 = .ok (.aload_n 0, 1) := by decide +kernel
theorem dX4_toldCount_61 : decode cX4_toldCount 61 = .ok (.getfield 24, 3) := by decide +kernel
theorem dX4_toldCount_64 : decode cX4_toldCount 64 = .ok (.getfield 129, 3) := by decide +kernel
theorem dX4_toldCount_67 : decode cX4_toldCount 67 = .ok (.ireturn, 1) := by decide +kernel
theorem dX4_toldCount_68 : decode cX4_toldCount 68 = .ok (.aload_n 0, 1) := by decide +kernel
theorem dX4_toldCount_69 : decode cX4_toldCount 69 = .ok (.getfield 24, 3) := by decide +kernel
theorem dX4_toldCount_72 : decode cX4_toldCount 72 = .ok (.getfield 205, 3) := by decide +kernel
theorem dX4_toldCount_75 : decode cX4_toldCount 75 = .ok (.ireturn, 1) := by decide +kernel
theorem dX4_toldCount_76 : decode cX4_toldCount 76 = .ok (.aload_n 0, 1) := by decide +kernel
theorem dX4_toldCount_77 : decode cX4_toldCount 77 = .ok (.getfield 24, 3) := by decide +kernel
theorem dX4_toldCount_80 : decode cX4_toldCount 80 = .ok (.getfield 187, 3) := by decide +kernel
theorem dX4_toldCount_83 : decode cX4_toldCount 83 = .ok (.ireturn, 1) := by decide +kernel
theorem dX4_toldCount_84 : decode cX4_toldCount 84 = .ok (.aload_n 0, 1) := by decide +kernel
theorem dX4_toldCount_85 : decode cX4_toldCount 85 = .ok (.getfield 24, 3) := by decide +kernel
theorem dX4_toldCount_88 : decode cX4_toldCount 88 = .ok (.getfield 162, 3) := by decide +kernel
theorem dX4_toldCount_91 : decode cX4_toldCount 91 = .ok (.ireturn, 1) := by decide +kernel
theorem dX4_toldCount_92 : decode cX4_toldCount 92 = .ok (.aload_n 0, 1) := by decide +kernel
theorem dX4_toldCount_93 : decode cX4_toldCount 93 = .ok (.getfield 24, 3) := by decide +kernel
theorem dX4_toldCount_96 : decode cX4_toldCount 96 = .ok (.getfield 171, 3) := by decide +kernel
theorem dX4_toldCount_99 : decode cX4_toldCount 99 = .ok (.ireturn, 1) := by decide +kernel
theorem dX4_toldCount_100 : decode cX4_toldCount 100 = .ok (.aload_n 0, 1) := by decide +kernel
theorem dX4_toldCount_101 : decode cX4_toldCount 101 = .ok (.getfield 24, 3) := by decide +kernel
theorem dX4_toldCount_104 : decode cX4_toldCount 104 = .ok (.getfield 196, 3) := by decide +kernel
theorem dX4_toldCount_107 : decode cX4_toldCount 107 = .ok (.ireturn, 1) := by decide +kernel
theorem dX4_toldCount_108 : decode cX4_toldCount 108 = .ok (.aload_n 0, 1) := by decide +kernel
theorem dX4_toldCount_109 : decode cX4_toldCount 109 = .ok (.getfield 24, 3) := by decide +kernel
theorem dX4_toldCount_112 : decode cX4_toldCount 112 = .ok (.invokevirtual 322, 3) := by decide +kernel
theorem dX4_toldCount_115 : decode cX4_toldCount 115 = .ok (.ireturn, 1) := by decide +kernel
theorem dX4_toldCount_116 : decode cX4_toldCount 116 = .ok (.aload_n 0, 1) := by decide +kernel
theorem dX4_toldCount_117 : decode cX4_toldCount 117 = .ok (.getfield 24, 3) := by decide +kernel
theorem dX4_toldCount_120 : decode cX4_toldCount 120 = .ok (.getfield 214, 3) := by decide +kernel
theorem dX4_toldCount_123 : decode cX4_toldCount 123 = .ok (.ireturn, 1) := by decide +kernel
theorem dX4_toldCount_124 : decode cX4_toldCount 124 = .ok (.aload_n 0, 1) := by decide +kernel
theorem dX4_toldCount_125 : decode cX4_toldCount 125 = .ok (.getfield 14, 3) := by decide +kernel
theorem dX4_toldCount_128 : decode cX4_toldCount 128 = .ok (.invokevirtual 325, 3) := by decide +kernel
theorem dX4_toldCount_131 : decode cX4_toldCount 131 = .ok (.ireturn, 1) := by decide +kernel
theorem dX4_toldCount_132 : decode cX4_toldCount 132 = .ok (.aload_n 0, 1) := by decide +kernel
theorem dX4_toldCount_133 : decode cX4_toldCount 133 = .ok (.getfield 18, 3) := by decide +kernel
theorem dX4_toldCount_136 : decode cX4_toldCount 136 = .ok (.invokevirtual 325, 3) := by decide +kernel
theorem dX4_toldCount_139 : decode cX4_toldCount 139 = .ok (.ireturn, 1) := by decide +kernel
theorem dX4_toldCount_140 : decode cX4_toldCount 140 = .ok (.aload_n 0, 1) := by decide +kernel
theorem dX4_toldCount_141 : decode cX4_toldCount 141 = .ok (.invokevirtual 328, 3) := by decide +kernel
theorem dX4_toldCount_144 : decode cX4_toldCount 144 = .ok (.ireturn, 1) := by decide +kernel
theorem dX4_toldCount_145 : decode cX4_toldCount 145 = .ok (.aload_n 0, 1) := by decide +kernel
theorem dX4_toldCount_146 : decode cX4_toldCount 146 = .ok (.getfield 24, 3) := by decide +kernel
theorem dX4_toldCount_149 : decode cX4_toldCount 149 = .ok (.invokevirtual 331, 3) := by decide +kernel
theorem dX4_toldCount_152 : decode cX4_toldCount 152 = .ok (.ireturn, 1) := by decide +kernel
theorem dX4_keptCount_0 : decode cX4_keptCount 0 = .ok (.iconst 0, 1) := by decide +kernel
theorem dX4_keptCount_1 : decode cX4_keptCount 1 = .ok (.istore_n 1, 1) := by decide +kernel
theorem dX4_keptCount_2 : decode cX4_keptCount 2 = .ok (.iconst 0, 1) := by decide +kernel
theorem dX4_keptCount_3 : decode cX4_keptCount 3 = .ok (.istore_n 2, 1) := by decide +kernel
theorem dX4_keptCount_4 : decode cX4_keptCount 4 = .ok (.iload_n 2, 1) := by decide +kernel
theorem dX4_keptCount_5 : decode cX4_keptCount 5 = .ok (.iconst 3, 1) := by decide +kernel
theorem dX4_keptCount_6 : decode cX4_keptCount 6 = .ok (.if_icmp .ge 21, 3) := by decide +kernel
theorem dX4_keptCount_9 : decode cX4_keptCount 9 = .ok (.iload_n 1, 1) := by decide +kernel
theorem dX4_keptCount_10 : decode cX4_keptCount 10 = .ok (.aload_n 0, 1) := by decide +kernel
theorem dX4_keptCount_11 : decode cX4_keptCount 11 = .ok (.getfield 35, 3) := by decide +kernel
theorem dX4_keptCount_14 : decode cX4_keptCount 14 = .ok (.iload_n 2, 1) := by decide +kernel
theorem dX4_keptCount_15 : decode cX4_keptCount 15 = .ok (.baload, 1) := by decide +kernel
theorem dX4_keptCount_16 : decode cX4_keptCount 16 = .ok (.invokestatic 158, 3) := by decide +kernel
theorem dX4_keptCount_19 : decode cX4_keptCount 19 = .ok (.iadd, 1) := by decide +kernel
theorem dX4_keptCount_20 : decode cX4_keptCount 20 = .ok (.istore_n 1, 1) := by decide +kernel
theorem dX4_keptCount_21 : decode cX4_keptCount 21 = .ok (.iinc 2 1, 3) := by decide +kernel
theorem dX4_keptCount_24 : decode cX4_keptCount 24 = .ok (.goto (-20), 3) := by decide +kernel
theorem dX4_keptCount_27 : decode cX4_keptCount 27 = .ok (.iload_n 1, 1) := by decide +kernel
theorem dX4_keptCount_28 : decode cX4_keptCount 28 = .ok (.ireturn, 1) := by decide +kernel
theorem dX5_init_0 : decode cX5_init 0 = .ok (.aload_n 0, 1) := by decide +kernel
theorem dX5_init_1 : decode cX5_init 1 = .ok (.invokespecial 1, 3) := by decide +kernel
theorem dX5_init_4 : decode cX5_init 4 = .ok (.aload_n 0, 1) := by decide +kernel
theorem dX5_init_5 : decode cX5_init 5 = .ok (.sipush 240, 3) := by decide +kernel
theorem dX5_init_8 : decode cX5_init 8 = .ok (.newarray .int, 2) := by decide +kernel
theorem dX5_init_10 : decode cX5_init 10 = .ok (.putfield 7, 3) := by decide +kernel
theorem dX5_init_13 : decode cX5_init 13 = .ok (.aload_n 0, 1) := by decide +kernel
theorem dX5_init_14 : decode cX5_init 14 = .ok (.bipush 6, 2) := by decide +kernel
theorem dX5_init_16 : decode cX5_init 16 = .ok (.newarray .int, 2) := by decide +kernel
theorem dX5_init_18 : decode cX5_init 18 = .ok (.putfield 13, 3) := by decide +kernel
theorem dX5_init_21 : decode cX5_init 21 = .ok (.aload_n 0, 1) := by decide +kernel
theorem dX5_init_22 : decode cX5_init 22 = .ok (.sipush 240, 3) := by decide +kernel
theorem dX5_init_25 : decode cX5_init 25 = .ok (.newarray .int, 2) := by decide +kernel
theorem dX5_init_27 : decode cX5_init 27 = .ok (.putfield 16, 3) := by decide +kernel
theorem dX5_init_30 : decode cX5_init 30 = .ok (.aload_n 0, 1) := by decide +kernel
theorem dX5_init_31 : decode cX5_init 31 = .ok (.iconst 4, 1) := by decide +kernel
theorem dX5_init_32 : decode cX5_init 32 = .ok (.newarray .int, 2) := by decide +kernel
theorem dX5_init_34 : decode cX5_init 34 = .ok (.putfield 19, 3) := by decide +kernel
theorem dX5_init_37 : decode cX5_init 37 = .ok (.aload_n 0, 1) := by decide +kernel
theorem dX5_init_38 : decode cX5_init 38 = .ok (.lconst 1, 1) := by decide +kernel
theorem dX5_init_39 : decode cX5_init 39 = .ok (.putfield 22, 3) := by decide +kernel
theorem dX5_init_42 : decode cX5_init 42 = .ok (.aload_n 0, 1) := by decide +kernel
theorem dX5_init_43 : decode cX5_init 43 = .ok (.bipush 6, 2) := by decide +kernel
theorem dX5_init_45 : decode cX5_init 45 = .ok (.newarray .int, 2) := by decide +kernel
theorem dX5_init_47 : decode cX5_init 47 = .ok (.putfield 26, 3) := by decide +kernel
theorem dX5_init_50 : decode cX5_init 50 = .ok (.aload_n 0, 1) := by decide +kernel
theorem dX5_init_51 : decode cX5_init 51 = .ok (.bipush 6, 2) := by decide +kernel
theorem dX5_init_53 : decode cX5_init 53 = .ok (.newarray .int, 2) := by decide +kernel
theorem dX5_init_55 : decode cX5_init 55 = .ok (.putfield 29, 3) := by decide +kernel
theorem dX5_init_58 : decode cX5_init 58 = .ok (.aload_n 0, 1) := by decide +kernel
theorem dX5_init_59 : decode cX5_init 59 = .ok (.bipush 6, 2) := by decide +kernel
theorem dX5_init_61 : decode cX5_init 61 = .ok (.newarray .int, 2) := by decide +kernel
theorem dX5_init_63 : decode cX5_init 63 = .ok (.putfield 32, 3) := by decide +kernel
theorem dX5_init_66 : decode cX5_init 66 = .ok (.aload_n 0, 1) := by decide +kernel
theorem dX5_init_67 : decode cX5_init 67 = .ok (.bipush 9, 2) := by decide +kernel
theorem dX5_init_69 : decode cX5_init 69 = .ok (.newarray .int, 2) := by decide +kernel
theorem dX5_init_71 : decode cX5_init 71 = .ok (.putfield 35, 3) := by decide +kernel
theorem dX5_init_74 : decode cX5_init 74 = .ok (.aload_n 0, 1) := by decide +kernel
theorem dX5_init_75 : decode cX5_init 75 = .ok (.bipush 9, 2) := by decide +kernel
theorem dX5_init_77 : decode cX5_init 77 = .ok (.newarray .int, 2) := by decide +kernel
theorem dX5_init_79 : decode cX5_init 79 = .ok (.putfield 38, 3) := by decide +kernel
theorem dX5_init_82 : decode cX5_init 82 = .ok (.aload_n 0, 1) := by decide +kernel
theorem dX5_init_83 : decode cX5_init 83 = .ok (.sipush 360, 3) := by decide +kernel
theorem dX5_init_86 : decode cX5_init 86 = .ok (.newarray .int, 2) := by decide +kernel
theorem dX5_init_88 : decode cX5_init 88 = .ok (.putfield 41, 3) := by decide +kernel
theorem dX5_init_91 : decode cX5_init 91 = .ok (.aload_n 0, 1) := by decide +kernel
theorem dX5_init_92 : decode cX5_init 92 = .ok (.sipush 1110, 3) := by decide +kernel
theorem dX5_init_95 : decode cX5_init 95 = .ok (.newarray .int, 2) := by decide +kernel
theorem dX5_init_97 : decode cX5_init 97 = .ok (.putfield 44, 3) := by decide +kernel
theorem dX5_init_100 : decode cX5_init 100 = .ok (.aload_n 0, 1) := by decide +kernel
theorem dX5_init_101 : decode cX5_init 101 = .ok (.bipush 6, 2) := by decide +kernel
theorem dX5_init_103 : decode cX5_init 103 = .ok (.newarray .int, 2) := by decide +kernel
theorem dX5_init_105 : decode cX5_init 105 = .ok (.putfield 47, 3) := by decide +kernel
theorem dX5_init_108 : decode cX5_init 108 = .ok (.aload_n 0, 1) := by decide +kernel
theorem dX5_init_109 : decode cX5_init 109 = .ok (.bipush 6, 2) := by decide +kernel
theorem dX5_init_111 : decode cX5_init 111 = .ok (.newarray .int, 2) := by decide +kernel
theorem dX5_init_113 : decode cX5_init 113 = .ok (.putfield 50, 3) := by decide +kernel
theorem dX5_init_116 : decode cX5_init 116 = .ok (.aload_n 0, 1) := by decide +kernel
theorem dX5_init_117 : decode cX5_init 117 = .ok (.bipush 6, 2) := by decide +kernel
theorem dX5_init_119 : decode cX5_init 119 = .ok (.newarray .int, 2) := by decide +kernel
theorem dX5_init_121 : decode cX5_init 121 = .ok (.putfield 53, 3) := by decide +kernel
theorem dX5_init_124 : decode cX5_init 124 = .ok (.aload_n 0, 1) := by decide +kernel
theorem dX5_init_125 : decode cX5_init 125 = .ok (.bipush 120, 2) := by decide +kernel
theorem dX5_init_127 : decode cX5_init 127 = .ok (.newarray .int, 2) := by decide +kernel
theorem dX5_init_129 : decode cX5_init 129 = .ok (.putfield 56, 3) := by decide +kernel
theorem dX5_init_132 : decode cX5_init 132 = .ok (.aload_n 0, 1) := by decide +kernel
theorem dX5_init_133 : decode cX5_init 133 = .ok (.bipush 64, 2) := by decide +kernel
theorem dX5_init_135 : decode cX5_init 135 = .ok (.newarray .int, 2) := by decide +kernel
theorem dX5_init_137 : decode cX5_init 137 = .ok (.putfield 59, 3) := by decide +kernel
theorem dX5_init_140 : decode cX5_init 140 = .ok (.aload_n 0, 1) := by decide +kernel
theorem dX5_init_141 : decode cX5_init 141 = .ok (.bipush 64, 2) := by decide +kernel
theorem dX5_init_143 : decode cX5_init 143 = .ok (.newarray .int, 2) := by decide +kernel
theorem dX5_init_145 : decode cX5_init 145 = .ok (.putfield 62, 3) := by decide +kernel
theorem dX5_init_148 : decode cX5_init 148 = .ok (.iconst 0, 1) := by decide +kernel
theorem dX5_init_149 : decode cX5_init 149 = .ok (.istore_n 1, 1) := by decide +kernel
theorem dX5_init_150 : decode cX5_init 150 = .ok (.iload_n 1, 1) := by decide +kernel
theorem dX5_init_151 : decode cX5_init 151 = .ok (.bipush 6, 2) := by decide +kernel
theorem dX5_init_153 : decode cX5_init 153 = .ok (.if_icmp .ge 16, 3) := by decide +kernel
theorem dX5_init_156 : decode cX5_init 156 = .ok (.aload_n 0, 1) := by decide +kernel
theorem dX5_init_157 : decode cX5_init 157 = .ok (.getfield 13, 3) := by decide +kernel
theorem dX5_init_160 : decode cX5_init 160 = .ok (.iload_n 1, 1) := by decide +kernel
theorem dX5_init_161 : decode cX5_init 161 = .ok (.iconst (-1), 1) := by decide +kernel
theorem dX5_init_162 : decode cX5_init 162 = .ok (.iastore, 1) := by decide +kernel
theorem dX5_init_163 : decode cX5_init 163 = .ok (.iinc 1 1, 3) := by decide +kernel
theorem dX5_init_166 : decode cX5_init 166 = .ok (.goto (-16), 3) := by decide +kernel
theorem dX5_init_169 : decode cX5_init 169 = .ok (.iconst 0, 1) := by decide +kernel
theorem dX5_init_170 : decode cX5_init 170 = .ok (.istore_n 1, 1) := by decide +kernel
theorem dX5_init_171 : decode cX5_init 171 = .ok (.iload_n 1, 1) := by decide +kernel
theorem dX5_init_172 : decode cX5_init 172 = .ok (.iconst 4, 1) := by decide +kernel
theorem dX5_init_173 : decode cX5_init 173 = .ok (.if_icmp .ge 16, 3) := by decide +kernel
theorem dX5_init_176 : decode cX5_init 176 = .ok (.aload_n 0, 1) := by decide +kernel
theorem dX5_init_177 : decode cX5_init 177 = .ok (.getfield 19, 3) := by decide +kernel
theorem dX5_init_180 : decode cX5_init 180 = .ok (.iload_n 1, 1) := by decide +kernel
theorem dX5_init_181 : decode cX5_init 181 = .ok (.iconst (-1), 1) := by decide +kernel
theorem dX5_init_182 : decode cX5_init 182 = .ok (.iastore, 1) := by decide +kernel
theorem dX5_init_183 : decode cX5_init 183 = .ok (.iinc 1 1, 3) := by decide +kernel
theorem dX5_init_186 : decode cX5_init 186 = .ok (.goto (-15), 3) := by decide +kernel
theorem dX5_init_189 : decode cX5_init 189 = .ok (.aload_n 0, 1) := by decide +kernel
theorem dX5_init_190 : decode cX5_init 190 = .ok (.invokevirtual 65, 3) := by decide +kernel
theorem dX5_init_193 : decode cX5_init 193 = .ok (.return_, 1) := by decide +kernel
theorem dX5_in_0 : decode cX5_in 0 = .ok (.lload_n 0, 1) := by decide +kernel
theorem dX5_in_1 : decode cX5_in 1 = .ok (.lload_n 2, 1) := by decide +kernel
theorem dX5_in_2 : decode cX5_in 2 = .ok (.lcmp, 1) := by decide +kernel
theorem dX5_in_3 : decode cX5_in 3 = .ok (.ifCond .lt 14, 3) := by decide +kernel
theorem dX5_in_6 : decode cX5_in 6 = .ok (.lload_n 0, 1) := by decide +kernel
theorem dX5_in_7 : decode cX5_in 7 = .ok (.lload 4, 2) := by decide +kernel
theorem dX5_in_9 : decode cX5_in 9 = .ok (.lcmp, 1) := by decide +kernel
theorem dX5_in_10 : decode cX5_in 10 = .ok (.ifCond .gt 7, 3) := by decide +kernel
theorem dX5_in_13 : decode cX5_in 13 = .ok (.iconst 1, 1) := by decide +kernel
theorem dX5_in_14 : decode cX5_in 14 = .ok (.goto 4, 3) := by decide +kernel
theorem dX5_in_17 : decode cX5_in 17 = .ok (.iconst 0, 1) := by decide +kernel
theorem dX5_in_18 : decode cX5_in 18 = .ok (.ireturn, 1) := by decide +kernel
theorem dX5_has_0 : decode cX5_has 0 = .ok (.iload_n 0, 1) := by decide +kernel
theorem dX5_has_1 : decode cX5_has 1 = .ok (.iload_n 1, 1) := by decide +kernel
theorem dX5_has_2 : decode cX5_has 2 = .ok (.ishr, 1) := by decide +kernel
theorem dX5_has_3 : decode cX5_has 3 = .ok (.iconst 1, 1) := by decide +kernel
theorem dX5_has_4 : decode cX5_has 4 = .ok (.iand, 1) := by decide +kernel
theorem dX5_has_5 : decode cX5_has 5 = .ok (.iconst 1, 1) := by decide +kernel
theorem dX5_has_6 : decode cX5_has 6 = .ok (.if_icmp .ne 7, 3) := by decide +kernel
theorem dX5_has_9 : decode cX5_has 9 = .ok (.iconst 1, 1) := by decide +kernel
theorem dX5_has_10 : decode cX5_has 10 = .ok (.goto 4, 3) := by decide +kernel
theorem dX5_has_13 : decode cX5_has 13 = .ok (.iconst 0, 1) := by decide +kernel
theorem dX5_has_14 : decode cX5_has 14 = .ok (.ireturn, 1) := by decide +kernel
theorem dX5_bits_0 : decode cX5_bits 0 = .ok (.iconst 0, 1) := by decide +kernel
theorem dX5_bits_1 : decode cX5_bits 1 = .ok (.istore_n 1, 1) := by decide +kernel
theorem dX5_bits_2 : decode cX5_bits 2 = .ok (.iload_n 0, 1) := by decide +kernel
theorem dX5_bits_3 : decode cX5_bits 3 = .ok (.istore_n 2, 1) := by decide +kernel
theorem dX5_bits_4 : decode cX5_bits 4 = .ok (.iload_n 2, 1) := by decide +kernel
theorem dX5_bits_5 : decode cX5_bits 5 = .ok (.ifCond .eq 15, 3) := by decide +kernel
theorem dX5_bits_8 : decode cX5_bits 8 = .ok (.iinc 1 1, 3) := by decide +kernel
theorem dX5_bits_11 : decode cX5_bits 11 = .ok (.iload_n 2, 1) := by decide +kernel
theorem dX5_bits_12 : decode cX5_bits 12 = .ok (.iload_n 2, 1) := by decide +kernel
theorem dX5_bits_13 : decode cX5_bits 13 = .ok (.iconst 1, 1) := by decide +kernel
theorem dX5_bits_14 : decode cX5_bits 14 = .ok (.isub, 1) := by decide +kernel
theorem dX5_bits_15 : decode cX5_bits 15 = .ok (.iand, 1) := by decide +kernel
theorem dX5_bits_16 : decode cX5_bits 16 = .ok (.istore_n 2, 1) := by decide +kernel
theorem dX5_bits_17 : decode cX5_bits 17 = .ok (.goto (-13), 3) := by decide +kernel
theorem dX5_bits_20 : decode cX5_bits 20 = .ok (.iload_n 1, 1) := by decide +kernel
theorem dX5_bits_21 : decode cX5_bits 21 = .ok (.ireturn, 1) := by decide +kernel
theorem dX5_found_0 : decode cX5_found 0 = .ok (.aload_n 0, 1) := by decide +kernel
theorem dX5_found_1 : decode cX5_found 1 = .ok (.iload_n 1, 1) := by decide +kernel
theorem dX5_found_2 : decode cX5_found 2 = .ok (.putfield 68, 3) := by decide +kernel
theorem dX5_found_5 : decode cX5_found 5 = .ok (.aload_n 0, 1) := by decide +kernel
theorem dX5_found_6 : decode cX5_found 6 = .ok (.getfield 26, 3) := by decide +kernel
theorem dX5_found_9 : decode cX5_found 9 = .ok (.iload_n 1, 1) := by decide +kernel
theorem dX5_found_10 : decode cX5_found 10 = .ok (.dup2, 1) := by decide +kernel
theorem dX5_found_11 : decode cX5_found 11 = .ok (.iaload, 1) := by decide +kernel
theorem dX5_found_12 : decode cX5_found 12 = .ok (.iconst 1, 1) := by decide +kernel
theorem dX5_found_13 : decode cX5_found 13 = .ok (.iadd, 1) := by decide +kernel
theorem dX5_found_14 : decode cX5_found 14 = .ok (.iastore, 1) := by decide +kernel
theorem dX5_found_15 : decode cX5_found 15 = .ok (.bipush (-3), 2) := by decide +kernel
theorem dX5_found_17 : decode cX5_found 17 = .ok (.ireturn, 1) := by decide +kernel
theorem dX5_tell_0 : decode cX5_tell 0 = .ok (.aload_n 0, 1) := by decide +kernel
theorem dX5_tell_1 : decode cX5_tell 1 = .ok (.iload_n 1, 1) := by decide +kernel
theorem dX5_tell_2 : decode cX5_tell 2 = .ok (.putfield 72, 3) := by decide +kernel
theorem dX5_tell_5 : decode cX5_tell 5 = .ok (.iconst 1, 1) := by decide +kernel
theorem dX5_tell_6 : decode cX5_tell 6 = .ok (.ireturn, 1) := by decide +kernel
theorem dX5_answer_0 : decode cX5_answer 0 = .ok (.aload_n 0, 1) := by decide +kernel
theorem dX5_answer_1 : decode cX5_answer 1 = .ok (.iload_n 2, 1) := by decide +kernel
theorem dX5_answer_2 : decode cX5_answer 2 = .ok (.putfield 72, 3) := by decide +kernel
theorem dX5_answer_5 : decode cX5_answer 5 = .ok (.iload_n 1, 1) := by decide +kernel
theorem dX5_answer_6 : decode cX5_answer 6 = .ok (.ireturn, 1) := by decide +kernel
theorem dX5_isRow_0 : decode cX5_isRow 0 = .ok (.iload_n 0, 1) := by decide +kernel
theorem dX5_isRow_1 : decode cX5_isRow 1 = .ok (.i2l, 1) := by decide +kernel
theorem dX5_isRow_2 : decode cX5_isRow 2 = .ok (.lconst 0, 1) := by decide +kernel
theorem dX5_isRow_3 : decode cX5_isRow 3 = .ok (.ldc2_w 75, 3) := by decide +kernel
theorem dX5_isRow_6 : decode cX5_isRow 6 = .ok (.invokestatic 77, 3) := by decide +kernel
theorem dX5_isRow_9 : decode cX5_isRow 9 = .ok (.ireturn, 1) := by decide +kernel
theorem dX5_isText_0 : decode cX5_isText 0 = .ok (.iload_n 0, 1) := by decide +kernel
theorem dX5_isText_1 : decode cX5_isText 1 = .ok (.i2l, 1) := by decide +kernel
theorem dX5_isText_2 : decode cX5_isText 2 = .ok (.lconst 0, 1) := by decide +kernel
theorem dX5_isText_3 : decode cX5_isText 3 = .ok (.ldc2_w 81, 3) := by decide +kernel
theorem dX5_isText_6 : decode cX5_isText 6 = .ok (.invokestatic 77, 3) := by decide +kernel
theorem dX5_isText_9 : decode cX5_isText 9 = .ok (.ireturn, 1) := by decide +kernel
theorem dX5_row_0 : decode cX5_row 0 = .ok (.iload_n 1, 1) := by decide +kernel
theorem dX5_row_1 : decode cX5_row 1 = .ok (.invokestatic 83, 3) := by decide +kernel
theorem dX5_row_4 : decode cX5_row 4 = .ok (.ifCond .eq 9, 3) := by decide +kernel
theorem dX5_row_7 : decode cX5_row 7 = .ok (.iload_n 2, 1) := by decide +kernel
theorem dX5_row_8 : decode cX5_row 8 = .ok (.bipush 40, 2) := by decide +kernel
theorem dX5_row_10 : decode cX5_row 10 = .ok (.if_icmp .le 5, 3) := by decide +kernel
theorem dX5_row_13 : decode cX5_row 13 = .ok (.iconst (-1), 1) := by decide +kernel
theorem dX5_row_14 : decode cX5_row 14 = .ok (.ireturn, 1) := by decide +kernel
theorem dX5_row_15 : decode cX5_row 15 = .ok (.iload_n 2, 1) := by decide +kernel
theorem dX5_row_16 : decode cX5_row 16 = .ok (.ifCond .ge 9, 3) := by decide +kernel
theorem dX5_row_19 : decode cX5_row 19 = .ok (.aload_n 0, 1) := by decide +kernel
theorem dX5_row_20 : decode cX5_row 20 = .ok (.iconst 5, 1) := by decide +kernel
theorem dX5_row_21 : decode cX5_row 21 = .ok (.invokevirtual 87, 3) := by decide +kernel
theorem dX5_row_24 : decode cX5_row 24 = .ok (.ireturn, 1) := by decide +kernel
theorem dX5_row_25 : decode cX5_row 25 = .ok (.aload_n 0, 1) := by decide +kernel
theorem dX5_row_26 : decode cX5_row 26 = .ok (.getfield 13, 3) := by decide +kernel
theorem dX5_row_29 : decode cX5_row 29 = .ok (.iload_n 1, 1) := by decide +kernel
theorem dX5_row_30 : decode cX5_row 30 = .ok (.iload_n 2, 1) := by decide +kernel
theorem dX5_row_31 : decode cX5_row 31 = .ok (.iastore, 1) := by decide +kernel
theorem dX5_row_32 : decode cX5_row 32 = .ok (.iconst 0, 1) := by decide +kernel
theorem dX5_row_33 : decode cX5_row 33 = .ok (.istore_n 3, 1) := by decide +kernel
theorem dX5_row_34 : decode cX5_row 34 = .ok (.iload_n 3, 1) := by decide +kernel
theorem dX5_row_35 : decode cX5_row 35 = .ok (.bipush 40, 2) := by decide +kernel
theorem dX5_row_37 : decode cX5_row 37 = .ok (.if_icmp .ge 21, 3) := by decide +kernel
theorem dX5_row_40 : decode cX5_row 40 = .ok (.aload_n 0, 1) := by decide +kernel
theorem dX5_row_41 : decode cX5_row 41 = .ok (.getfield 7, 3) := by decide +kernel
theorem dX5_row_44 : decode cX5_row 44 = .ok (.bipush 40, 2) := by decide +kernel
theorem dX5_row_46 : decode cX5_row 46 = .ok (.iload_n 1, 1) := by decide +kernel
theorem dX5_row_47 : decode cX5_row 47 = .ok (.imul, 1) := by decide +kernel
theorem dX5_row_48 : decode cX5_row 48 = .ok (.iload_n 3, 1) := by decide +kernel
theorem dX5_row_49 : decode cX5_row 49 = .ok (.iadd, 1) := by decide +kernel
theorem dX5_row_50 : decode cX5_row 50 = .ok (.iconst 0, 1) := by decide +kernel
theorem dX5_row_51 : decode cX5_row 51 = .ok (.iastore, 1) := by decide +kernel
theorem dX5_row_52 : decode cX5_row 52 = .ok (.iinc 3 1, 3) := by decide +kernel
theorem dX5_row_55 : decode cX5_row 55 = .ok (.goto (-21), 3) := by decide +kernel
theorem dX5_row_58 : decode cX5_row 58 = .ok (.iload_n 2, 1) := by decide +kernel
theorem dX5_row_59 : decode cX5_row 59 = .ok (.ireturn, 1) := by decide +kernel
theorem dX5_lay_0 : decode cX5_lay 0 = .ok (.iload_n 1, 1) := by decide +kernel
theorem dX5_lay_1 : decode cX5_lay 1 = .ok (.invokestatic 83, 3) := by decide +kernel
theorem dX5_lay_4 : decode cX5_lay 4 = .ok (.ifCond .ne 5, 3) := by decide +kernel
theorem dX5_lay_7 : decode cX5_lay 7 = .ok (.iconst (-1), 1) := by decide +kernel
theorem dX5_lay_8 : decode cX5_lay 8 = .ok (.ireturn, 1) := by decide +kernel
theorem dX5_lay_9 : decode cX5_lay 9 = .ok (.aload_n 0, 1) := by decide +kernel
theorem dX5_lay_10 : decode cX5_lay 10 = .ok (.getfield 13, 3) := by decide +kernel
theorem dX5_lay_13 : decode cX5_lay 13 = .ok (.iload_n 1, 1) := by decide +kernel
theorem dX5_lay_14 : decode cX5_lay 14 = .ok (.iaload, 1) := by decide +kernel
theorem dX5_lay_15 : decode cX5_lay 15 = .ok (.ifCond .ge 9, 3) := by decide +kernel
theorem dX5_lay_18 : decode cX5_lay 18 = .ok (.aload_n 0, 1) := by decide +kernel
theorem dX5_lay_19 : decode cX5_lay 19 = .ok (.iconst 1, 1) := by decide +kernel
theorem dX5_lay_20 : decode cX5_lay 20 = .ok (.invokevirtual 87, 3) := by decide +kernel
theorem dX5_lay_23 : decode cX5_lay 23 = .ok (.ireturn, 1) := by decide +kernel
theorem dX5_lay_24 : decode cX5_lay 24 = .ok (.iload_n 2, 1) := by decide +kernel
theorem dX5_lay_25 : decode cX5_lay 25 = .ok (.i2l, 1) := by decide +kernel
theorem dX5_lay_26 : decode cX5_lay 26 = .ok (.lconst 0, 1) := by decide +kernel
theorem dX5_lay_27 : decode cX5_lay 27 = .ok (.aload_n 0, 1) := by decide +kernel
theorem dX5_lay_28 : decode cX5_lay 28 = .ok (.getfield 13, 3) := by decide +kernel
theorem dX5_lay_31 : decode cX5_lay 31 = .ok (.iload_n 1, 1) := by decide +kernel
theorem dX5_lay_32 : decode cX5_lay 32 = .ok (.iaload, 1) := by decide +kernel
theorem dX5_lay_33 : decode cX5_lay 33 = .ok (.iconst 1, 1) := by decide +kernel
theorem dX5_lay_34 : decode cX5_lay 34 = .ok (.isub, 1) := by decide +kernel
theorem dX5_lay_35 : decode cX5_lay 35 = .ok (.i2l, 1) := by decide +kernel
theorem dX5_lay_36 : decode cX5_lay 36 = .ok (.invokestatic 77, 3) := by decide +kernel
theorem dX5_lay_39 : decode cX5_lay 39 = .ok (.ifCond .ne 9, 3) := by decide +kernel
theorem dX5_lay_42 : decode cX5_lay 42 = .ok (.aload_n 0, 1) := by decide +kernel
theorem dX5_lay_43 : decode cX5_lay 43 = .ok (.iconst 2, 1) := by decide +kernel
theorem dX5_lay_44 : decode cX5_lay 44 = .ok (.invokevirtual 87, 3) := by decide +kernel
theorem dX5_lay_47 : decode cX5_lay 47 = .ok (.ireturn, 1) := by decide +kernel
theorem dX5_lay_48 : decode cX5_lay 48 = .ok (.aload_n 0, 1) := by decide +kernel
theorem dX5_lay_49 : decode cX5_lay 49 = .ok (.getfield 7, 3) := by decide +kernel
theorem dX5_lay_52 : decode cX5_lay 52 = .ok (.bipush 40, 2) := by decide +kernel
theorem dX5_lay_54 : decode cX5_lay 54 = .ok (.iload_n 1, 1) := by decide +kernel
theorem dX5_lay_55 : decode cX5_lay 55 = .ok (.imul, 1) := by decide +kernel
theorem dX5_lay_56 : decode cX5_lay 56 = .ok (.iload_n 2, 1) := by decide +kernel
theorem dX5_lay_57 : decode cX5_lay 57 = .ok (.iadd, 1) := by decide +kernel
theorem dX5_lay_58 : decode cX5_lay 58 = .ok (.iaload, 1) := by decide +kernel
theorem dX5_lay_59 : decode cX5_lay 59 = .ok (.istore 4, 2) := by decide +kernel
theorem dX5_lay_61 : decode cX5_lay 61 = .ok (.aload_n 0, 1) := by decide +kernel
theorem dX5_lay_62 : decode cX5_lay 62 = .ok (.getfield 7, 3) := by decide +kernel
theorem dX5_lay_65 : decode cX5_lay 65 = .ok (.bipush 40, 2) := by decide +kernel
theorem dX5_lay_67 : decode cX5_lay 67 = .ok (.iload_n 1, 1) := by decide +kernel
theorem dX5_lay_68 : decode cX5_lay 68 = .ok (.imul, 1) := by decide +kernel
theorem dX5_lay_69 : decode cX5_lay 69 = .ok (.iload_n 2, 1) := by decide +kernel
theorem dX5_lay_70 : decode cX5_lay 70 = .ok (.iadd, 1) := by decide +kernel
theorem dX5_lay_71 : decode cX5_lay 71 = .ok (.iload_n 3, 1) := by decide +kernel
theorem dX5_lay_72 : decode cX5_lay 72 = .ok (.iastore, 1) := by decide +kernel
theorem dX5_lay_73 : decode cX5_lay 73 = .ok (.aload_n 0, 1) := by decide +kernel
theorem dX5_lay_74 : decode cX5_lay 74 = .ok (.iload 4, 2) := by decide +kernel
theorem dX5_lay_76 : decode cX5_lay 76 = .ok (.invokevirtual 91, 3) := by decide +kernel
theorem dX5_lay_79 : decode cX5_lay 79 = .ok (.ireturn, 1) := by decide +kernel
theorem dX5_at_0 : decode cX5_at 0 = .ok (.iload_n 1, 1) := by decide +kernel
theorem dX5_at_1 : decode cX5_at 1 = .ok (.invokestatic 83, 3) := by decide +kernel
theorem dX5_at_4 : decode cX5_at 4 = .ok (.ifCond .ne 5, 3) := by decide +kernel
theorem dX5_at_7 : decode cX5_at 7 = .ok (.iconst (-1), 1) := by decide +kernel
theorem dX5_at_8 : decode cX5_at 8 = .ok (.ireturn, 1) := by decide +kernel
theorem dX5_at_9 : decode cX5_at 9 = .ok (.aload_n 0, 1) := by decide +kernel
theorem dX5_at_10 : decode cX5_at 10 = .ok (.getfield 13, 3) := by decide +kernel
theorem dX5_at_13 : decode cX5_at 13 = .ok (.iload_n 1, 1) := by decide +kernel
theorem dX5_at_14 : decode cX5_at 14 = .ok (.iaload, 1) := by decide +kernel
theorem dX5_at_15 : decode cX5_at 15 = .ok (.ifCond .ge 9, 3) := by decide +kernel
theorem dX5_at_18 : decode cX5_at 18 = .ok (.aload_n 0, 1) := by decide +kernel
theorem dX5_at_19 : decode cX5_at 19 = .ok (.iconst 1, 1) := by decide +kernel
theorem dX5_at_20 : decode cX5_at 20 = .ok (.invokevirtual 87, 3) := by decide +kernel
theorem dX5_at_23 : decode cX5_at 23 = .ok (.ireturn, 1) := by decide +kernel
theorem dX5_at_24 : decode cX5_at 24 = .ok (.iload_n 2, 1) := by decide +kernel
theorem dX5_at_25 : decode cX5_at 25 = .ok (.i2l, 1) := by decide +kernel
theorem dX5_at_26 : decode cX5_at 26 = .ok (.lconst 0, 1) := by decide +kernel
theorem dX5_at_27 : decode cX5_at 27 = .ok (.aload_n 0, 1) := by decide +kernel
theorem dX5_at_28 : decode cX5_at 28 = .ok (.getfield 13, 3) := by decide +kernel
theorem dX5_at_31 : decode cX5_at 31 = .ok (.iload_n 1, 1) := by decide +kernel
theorem dX5_at_32 : decode cX5_at 32 = .ok (.iaload, 1) := by decide +kernel
theorem dX5_at_33 : decode cX5_at 33 = .ok (.iconst 1, 1) := by decide +kernel
theorem dX5_at_34 : decode cX5_at 34 = .ok (.isub, 1) := by decide +kernel
theorem dX5_at_35 : decode cX5_at 35 = .ok (.i2l, 1) := by decide +kernel
theorem dX5_at_36 : decode cX5_at 36 = .ok (.invokestatic 77, 3) := by decide +kernel
theorem dX5_at_39 : decode cX5_at 39 = .ok (.ifCond .eq 21, 3) := by decide +kernel
theorem dX5_at_42 : decode cX5_at 42 = .ok (.aload_n 0, 1) := by decide +kernel
theorem dX5_at_43 : decode cX5_at 43 = .ok (.aload_n 0, 1) := by decide +kernel
theorem dX5_at_44 : decode cX5_at 44 = .ok (.getfield 7, 3) := by decide +kernel
theorem dX5_at_47 : decode cX5_at 47 = .ok (.bipush 40, 2) := by decide +kernel
theorem dX5_at_49 : decode cX5_at 49 = .ok (.iload_n 1, 1) := by decide +kernel
theorem dX5_at_50 : decode cX5_at 50 = .ok (.imul, 1) := by decide +kernel
theorem dX5_at_51 : decode cX5_at 51 = .ok (.iload_n 2, 1) := by decide +kernel
theorem dX5_at_52 : decode cX5_at 52 = .ok (.iadd, 1) := by decide +kernel
theorem dX5_at_53 : decode cX5_at 53 = .ok (.iaload, 1) := by decide +kernel
theorem dX5_at_54 : decode cX5_at 54 = .ok (.invokevirtual 91, 3) := by decide +kernel
theorem dX5_at_57 : decode cX5_at 57 = .ok (.goto 8, 3) := by decide +kernel
theorem dX5_at_60 : decode cX5_at 60 = .ok (.aload_n 0, 1) := by decide +kernel
theorem dX5_at_61 : decode cX5_at 61 = .ok (.iconst 2, 1) := by decide +kernel
theorem dX5_at_62 : decode cX5_at 62 = .ok (.invokevirtual 87, 3) := by decide +kernel
theorem dX5_at_65 : decode cX5_at 65 = .ok (.ireturn, 1) := by decide +kernel
theorem dX5_tear_0 : decode cX5_tear 0 = .ok (.iload_n 1, 1) := by decide +kernel
theorem dX5_tear_1 : decode cX5_tear 1 = .ok (.invokestatic 83, 3) := by decide +kernel
theorem dX5_tear_4 : decode cX5_tear 4 = .ok (.ifCond .ne 5, 3) := by decide +kernel
theorem dX5_tear_7 : decode cX5_tear 7 = .ok (.iconst (-1), 1) := by decide +kernel
theorem dX5_tear_8 : decode cX5_tear 8 = .ok (.ireturn, 1) := by decide +kernel
theorem dX5_tear_9 : decode cX5_tear 9 = .ok (.aload_n 0, 1) := by decide +kernel
theorem dX5_tear_10 : decode cX5_tear 10 = .ok (.getfield 13, 3) := by decide +kernel
theorem dX5_tear_13 : decode cX5_tear 13 = .ok (.iload_n 1, 1) := by decide +kernel
theorem dX5_tear_14 : decode cX5_tear 14 = .ok (.iaload, 1) := by decide +kernel
theorem dX5_tear_15 : decode cX5_tear 15 = .ok (.ifCond .ge 9, 3) := by decide +kernel
theorem dX5_tear_18 : decode cX5_tear 18 = .ok (.aload_n 0, 1) := by decide +kernel
theorem dX5_tear_19 : decode cX5_tear 19 = .ok (.iconst 1, 1) := by decide +kernel
theorem dX5_tear_20 : decode cX5_tear 20 = .ok (.invokevirtual 87, 3) := by decide +kernel
theorem dX5_tear_23 : decode cX5_tear 23 = .ok (.ireturn, 1) := by decide +kernel
theorem dX5_tear_24 : decode cX5_tear 24 = .ok (.aload_n 0, 1) := by decide +kernel
theorem dX5_tear_25 : decode cX5_tear 25 = .ok (.getfield 13, 3) := by decide +kernel
theorem dX5_tear_28 : decode cX5_tear 28 = .ok (.iload_n 1, 1) := by decide +kernel
theorem dX5_tear_29 : decode cX5_tear 29 = .ok (.iconst (-1), 1) := by decide +kernel
theorem dX5_tear_30 : decode cX5_tear 30 = .ok (.iastore, 1) := by decide +kernel
theorem dX5_tear_31 : decode cX5_tear 31 = .ok (.iconst 1, 1) := by decide +kernel
theorem dX5_tear_32 : decode cX5_tear 32 = .ok (.ireturn, 1) := by decide +kernel
theorem dX5_copy_0 : decode cX5_copy 0 = .ok (.iload_n 1, 1) := by decide +kernel
theorem dX5_copy_1 : decode cX5_copy 1 = .ok (.invokestatic 83, 3) := by decide +kernel
theorem dX5_copy_4 : decode cX5_copy 4 = .ok (.ifCond .eq 10, 3) := by decide +kernel
theorem dX5_copy_7 : decode cX5_copy 7 = .ok (.iload_n 3, 1) := by decide +kernel
theorem dX5_copy_8 : decode cX5_copy 8 = .ok (.invokestatic 83, 3) := by decide +kernel
theorem dX5_copy_11 : decode cX5_copy 11 = .ok (.ifCond .ne 5, 3) := by decide +kernel
theorem dX5_copy_14 : decode cX5_copy 14 = .ok (.iconst (-1), 1) := by decide +kernel
theorem dX5_copy_15 : decode cX5_copy 15 = .ok (.ireturn, 1) := by decide +kernel
theorem dX5_copy_16 : decode cX5_copy 16 = .ok (.iload 5, 2) := by decide +kernel
theorem dX5_copy_18 : decode cX5_copy 18 = .ok (.ifCond .ge 9, 3) := by decide +kernel
theorem dX5_copy_21 : decode cX5_copy 21 = .ok (.aload_n 0, 1) := by decide +kernel
theorem dX5_copy_22 : decode cX5_copy 22 = .ok (.iconst 5, 1) := by decide +kernel
theorem dX5_copy_23 : decode cX5_copy 23 = .ok (.invokevirtual 87, 3) := by decide +kernel
theorem dX5_copy_26 : decode cX5_copy 26 = .ok (.ireturn, 1) := by decide +kernel
theorem dX5_copy_27 : decode cX5_copy 27 = .ok (.aload_n 0, 1) := by decide +kernel
theorem dX5_copy_28 : decode cX5_copy 28 = .ok (.getfield 13, 3) := by decide +kernel
theorem dX5_copy_31 : decode cX5_copy 31 = .ok (.iload_n 1, 1) := by decide +kernel
theorem dX5_copy_32 : decode cX5_copy 32 = .ok (.iaload, 1) := by decide +kernel
theorem dX5_copy_33 : decode cX5_copy 33 = .ok (.ifCond .lt 12, 3) := by decide +kernel
theorem dX5_copy_36 : decode cX5_copy 36 = .ok (.aload_n 0, 1) := by decide +kernel
theorem dX5_copy_37 : decode cX5_copy 37 = .ok (.getfield 13, 3) := by decide +kernel
theorem dX5_copy_40 : decode cX5_copy 40 = .ok (.iload_n 3, 1) := by decide +kernel
theorem dX5_copy_41 : decode cX5_copy 41 = .ok (.iaload, 1) := by decide +kernel
theorem dX5_copy_42 : decode cX5_copy 42 = .ok (.ifCond .ge 9, 3) := by decide +kernel
theorem dX5_copy_45 : decode cX5_copy 45 = .ok (.aload_n 0, 1) := by decide +kernel
theorem dX5_copy_46 : decode cX5_copy 46 = .ok (.iconst 1, 1) := by decide +kernel
theorem dX5_copy_47 : decode cX5_copy 47 = .ok (.invokevirtual 87, 3) := by decide +kernel
theorem dX5_copy_50 : decode cX5_copy 50 = .ok (.ireturn, 1) := by decide +kernel
theorem dX5_copy_51 : decode cX5_copy 51 = .ok (.iload_n 2, 1) := by decide +kernel
theorem dX5_copy_52 : decode cX5_copy 52 = .ok (.ifCond .lt 43, 3) := by decide +kernel
theorem dX5_copy_55 : decode cX5_copy 55 = .ok (.iload 4, 2) := by decide +kernel
theorem dX5_copy_57 : decode cX5_copy 57 = .ok (.ifCond .lt 38, 3) := by decide +kernel
theorem dX5_copy_60 : decode cX5_copy 60 = .ok (.iload_n 2, 1) := by decide +kernel
theorem dX5_copy_61 : decode cX5_copy 61 = .ok (.i2l, 1) := by decide +kernel
theorem dX5_copy_62 : decode cX5_copy 62 = .ok (.iload 5, 2) := by decide +kernel
theorem dX5_copy_64 : decode cX5_copy 64 = .ok (.i2l, 1) := by decide +kernel
theorem dX5_copy_65 : decode cX5_copy 65 = .ok (.ladd, 1) := by decide +kernel
theorem dX5_copy_66 : decode cX5_copy 66 = .ok (.aload_n 0, 1) := by decide +kernel
theorem dX5_copy_67 : decode cX5_copy 67 = .ok (.getfield 13, 3) := by decide +kernel
theorem dX5_copy_70 : decode cX5_copy 70 = .ok (.iload_n 1, 1) := by decide +kernel
theorem dX5_copy_71 : decode cX5_copy 71 = .ok (.iaload, 1) := by decide +kernel
theorem dX5_copy_72 : decode cX5_copy 72 = .ok (.i2l, 1) := by decide +kernel
theorem dX5_copy_73 : decode cX5_copy 73 = .ok (.lcmp, 1) := by decide +kernel
theorem dX5_copy_74 : decode cX5_copy 74 = .ok (.ifCond .gt 21, 3) := by decide +kernel
theorem dX5_copy_77 : decode cX5_copy 77 = .ok (.iload 4, 2) := by decide +kernel
theorem dX5_copy_79 : decode cX5_copy 79 = .ok (.i2l, 1) := by decide +kernel
theorem dX5_copy_80 : decode cX5_copy 80 = .ok (.iload 5, 2) := by decide +kernel
theorem dX5_copy_82 : decode cX5_copy 82 = .ok (.i2l, 1) := by decide +kernel
theorem dX5_copy_83 : decode cX5_copy 83 = .ok (.ladd, 1) := by decide +kernel
theorem dX5_copy_84 : decode cX5_copy 84 = .ok (.aload_n 0, 1) := by decide +kernel
theorem dX5_copy_85 : decode cX5_copy 85 = .ok (.getfield 13, 3) := by decide +kernel
theorem dX5_copy_88 : decode cX5_copy 88 = .ok (.iload_n 3, 1) := by decide +kernel
theorem dX5_copy_89 : decode cX5_copy 89 = .ok (.iaload, 1) := by decide +kernel
theorem dX5_copy_90 : decode cX5_copy 90 = .ok (.i2l, 1) := by decide +kernel
theorem dX5_copy_91 : decode cX5_copy 91 = .ok (.lcmp, 1) := by decide +kernel
theorem dX5_copy_92 : decode cX5_copy 92 = .ok (.ifCond .le 9, 3) := by decide +kernel
theorem dX5_copy_95 : decode cX5_copy 95 = .ok (.aload_n 0, 1) := by decide +kernel
theorem dX5_copy_96 : decode cX5_copy 96 = .ok (.iconst 2, 1) := by decide +kernel
theorem dX5_copy_97 : decode cX5_copy 97 = .ok (.invokevirtual 87, 3) := by decide +kernel
theorem dX5_copy_100 : decode cX5_copy 100 = .ok (.ireturn, 1) := by decide +kernel
theorem dX5_copy_101 : decode cX5_copy 101 = .ok (.iconst 0, 1) := by decide +kernel
theorem dX5_copy_102 : decode cX5_copy 102 = .ok (.istore 6, 2) := by decide +kernel
theorem dX5_copy_104 : decode cX5_copy 104 = .ok (.iload 6, 2) := by decide +kernel
theorem dX5_copy_106 : decode cX5_copy 106 = .ok (.iload 5, 2) := by decide +kernel
theorem dX5_copy_108 : decode cX5_copy 108 = .ok (.if_icmp .ge 58, 3) := by decide +kernel
theorem dX5_copy_111 : decode cX5_copy 111 = .ok (.iload 4, 2) := by decide +kernel
theorem dX5_copy_113 : decode cX5_copy 113 = .ok (.iload_n 2, 1) := by decide +kernel
theorem dX5_copy_114 : decode cX5_copy 114 = .ok (.if_icmp .le 13, 3) := by decide +kernel
theorem dX5_copy_117 : decode cX5_copy 117 = .ok (.iload 5, 2) := by decide +kernel
theorem dX5_copy_119 : decode cX5_copy 119 = .ok (.iconst 1, 1) := by decide +kernel
theorem dX5_copy_120 : decode cX5_copy 120 = .ok (.isub, 1) := by decide +kernel
theorem dX5_copy_121 : decode cX5_copy 121 = .ok (.iload 6, 2) := by decide +kernel
theorem dX5_copy_123 : decode cX5_copy 123 = .ok (.isub, 1) := by decide +kernel
theorem dX5_copy_124 : decode cX5_copy 124 = .ok (.goto 5, 3) := by decide +kernel
theorem dX5_copy_127 : decode cX5_copy 127 = .ok (.iload 6, 2) := by decide +kernel
theorem dX5_copy_129 : decode cX5_copy 129 = .ok (.istore 7, 2) := by decide +kernel
theorem dX5_copy_131 : decode cX5_copy 131 = .ok (.aload_n 0, 1) := by decide +kernel
theorem dX5_copy_132 : decode cX5_copy 132 = .ok (.getfield 7, 3) := by decide +kernel
theorem dX5_copy_135 : decode cX5_copy 135 = .ok (.bipush 40, 2) := by decide +kernel
theorem dX5_copy_137 : decode cX5_copy 137 = .ok (.iload_n 3, 1) := by decide +kernel
theorem dX5_copy_138 : decode cX5_copy 138 = .ok (.imul, 1) := by decide +kernel
theorem dX5_copy_139 : decode cX5_copy 139 = .ok (.iload 4, 2) := by decide +kernel
theorem dX5_copy_141 : decode cX5_copy 141 = .ok (.iadd, 1) := by decide +kernel
theorem dX5_copy_142 : decode cX5_copy 142 = .ok (.iload 7, 2) := by decide +kernel
theorem dX5_copy_144 : decode cX5_copy 144 = .ok (.iadd, 1) := by decide +kernel
theorem dX5_copy_145 : decode cX5_copy 145 = .ok (.aload_n 0, 1) := by decide +kernel
theorem dX5_copy_146 : decode cX5_copy 146 = .ok (.getfield 7, 3) := by decide +kernel
theorem dX5_copy_149 : decode cX5_copy 149 = .ok (.bipush 40, 2) := by decide +kernel
theorem dX5_copy_151 : decode cX5_copy 151 = .ok (.iload_n 1, 1) := by decide +kernel
theorem dX5_copy_152 : decode cX5_copy 152 = .ok (.imul, 1) := by decide +kernel
theorem dX5_copy_153 : decode cX5_copy 153 = .ok (.iload_n 2, 1) := by decide +kernel
theorem dX5_copy_154 : decode cX5_copy 154 = .ok (.iadd, 1) := by decide +kernel
theorem dX5_copy_155 : decode cX5_copy 155 = .ok (.iload 7, 2) := by decide +kernel
theorem dX5_copy_157 : decode cX5_copy 157 = .ok (.iadd, 1) := by decide +kernel
theorem dX5_copy_158 : decode cX5_copy 158 = .ok (.iaload, 1) := by decide +kernel
theorem dX5_copy_159 : decode cX5_copy 159 = .ok (.iastore, 1) := by decide +kernel
theorem dX5_copy_160 : decode cX5_copy 160 = .ok (.iinc 6 1, 3) := by decide +kernel
theorem dX5_copy_163 : decode cX5_copy 163 = .ok (.goto (-59), 3) := by decide +kernel
theorem dX5_copy_166 : decode cX5_copy 166 = .ok (.iconst 1, 1) := by decide +kernel
theorem dX5_copy_167 : decode cX5_copy 167 = .ok (.ireturn, 1) := by decide +kernel
theorem dX5_mean_0 : decode cX5_mean 0 = .ok (.iload_n 1, 1) := by decide +kernel
theorem dX5_mean_1 : decode cX5_mean 1 = .ok (.invokestatic 83, 3) := by decide +kernel
theorem dX5_mean_4 : decode cX5_mean 4 = .ok (.ifCond .ne 5, 3) := by decide +kernel
theorem dX5_mean_7 : decode cX5_mean 7 = .ok (.iconst (-1), 1) := by decide +kernel
theorem dX5_mean_8 : decode cX5_mean 8 = .ok (.ireturn, 1) := by decide +kernel
theorem dX5_mean_9 : decode cX5_mean 9 = .ok (.aload_n 0, 1) := by decide +kernel
theorem dX5_mean_10 : decode cX5_mean 10 = .ok (.getfield 13, 3) := by decide +kernel
theorem dX5_mean_13 : decode cX5_mean 13 = .ok (.iload_n 1, 1) := by decide +kernel
theorem dX5_mean_14 : decode cX5_mean 14 = .ok (.iaload, 1) := by decide +kernel
theorem dX5_mean_15 : decode cX5_mean 15 = .ok (.ifCond .ge 9, 3) := by decide +kernel
theorem dX5_mean_18 : decode cX5_mean 18 = .ok (.aload_n 0, 1) := by decide +kernel
theorem dX5_mean_19 : decode cX5_mean 19 = .ok (.iconst 1, 1) := by decide +kernel
theorem dX5_mean_20 : decode cX5_mean 20 = .ok (.invokevirtual 87, 3) := by decide +kernel
theorem dX5_mean_23 : decode cX5_mean 23 = .ok (.ireturn, 1) := by decide +kernel
theorem dX5_mean_24 : decode cX5_mean 24 = .ok (.aload_n 0, 1) := by decide +kernel
theorem dX5_mean_25 : decode cX5_mean 25 = .ok (.getfield 13, 3) := by decide +kernel
theorem dX5_mean_28 : decode cX5_mean 28 = .ok (.iload_n 1, 1) := by decide +kernel
theorem dX5_mean_29 : decode cX5_mean 29 = .ok (.iaload, 1) := by decide +kernel
theorem dX5_mean_30 : decode cX5_mean 30 = .ok (.ifCond .ne 9, 3) := by decide +kernel
theorem dX5_mean_33 : decode cX5_mean 33 = .ok (.aload_n 0, 1) := by decide +kernel
theorem dX5_mean_34 : decode cX5_mean 34 = .ok (.iconst 4, 1) := by decide +kernel
theorem dX5_mean_35 : decode cX5_mean 35 = .ok (.invokevirtual 87, 3) := by decide +kernel
theorem dX5_mean_38 : decode cX5_mean 38 = .ok (.ireturn, 1) := by decide +kernel
theorem dX5_mean_39 : decode cX5_mean 39 = .ok (.lconst 0, 1) := by decide +kernel
theorem dX5_mean_40 : decode cX5_mean 40 = .ok (.lstore_n 2, 1) := by decide +kernel
theorem dX5_mean_41 : decode cX5_mean 41 = .ok (.iconst 0, 1) := by decide +kernel
theorem dX5_mean_42 : decode cX5_mean 42 = .ok (.istore 4, 2) := by decide +kernel
theorem dX5_mean_44 : decode cX5_mean 44 = .ok (.iload 4, 2) := by decide +kernel
theorem dX5_mean_46 : decode cX5_mean 46 = .ok (.aload_n 0, 1) := by decide +kernel
theorem dX5_mean_47 : decode cX5_mean 47 = .ok (.getfield 13, 3) := by decide +kernel
theorem dX5_mean_50 : decode cX5_mean 50 = .ok (.iload_n 1, 1) := by decide +kernel
theorem dX5_mean_51 : decode cX5_mean 51 = .ok (.iaload, 1) := by decide +kernel
theorem dX5_mean_52 : decode cX5_mean 52 = .ok (.if_icmp .ge 25, 3) := by decide +kernel
theorem dX5_mean_55 : decode cX5_mean 55 = .ok (.lload_n 2, 1) := by decide +kernel
theorem dX5_mean_56 : decode cX5_mean 56 = .ok (.aload_n 0, 1) := by decide +kernel
theorem dX5_mean_57 : decode cX5_mean 57 = .ok (.getfield 7, 3) := by decide +kernel
theorem dX5_mean_60 : decode cX5_mean 60 = .ok (.bipush 40, 2) := by decide +kernel
theorem dX5_mean_62 : decode cX5_mean 62 = .ok (.iload_n 1, 1) := by decide +kernel
theorem dX5_mean_63 : decode cX5_mean 63 = .ok (.imul, 1) := by decide +kernel
theorem dX5_mean_64 : decode cX5_mean 64 = .ok (.iload 4, 2) := by decide +kernel
theorem dX5_mean_66 : decode cX5_mean 66 = .ok (.iadd, 1) := by decide +kernel
theorem dX5_mean_67 : decode cX5_mean 67 = .ok (.iaload, 1) := by decide +kernel
theorem dX5_mean_68 : decode cX5_mean 68 = .ok (.i2l, 1) := by decide +kernel
theorem dX5_mean_69 : decode cX5_mean 69 = .ok (.ladd, 1) := by decide +kernel
theorem dX5_mean_70 : decode cX5_mean 70 = .ok (.lstore_n 2, 1) := by decide +kernel
theorem dX5_mean_71 : decode cX5_mean 71 = .ok (.iinc 4 1, 3) := by decide +kernel
theorem dX5_mean_74 : decode cX5_mean 74 = .ok (.goto (-30), 3) := by decide +kernel
theorem dX5_mean_77 : decode cX5_mean 77 = .ok (.aload_n 0, 1) := by decide +kernel
theorem dX5_mean_78 : decode cX5_mean 78 = .ok (.lload_n 2, 1) := by decide +kernel
theorem dX5_mean_79 : decode cX5_mean 79 = .ok (.aload_n 0, 1) := by decide +kernel
theorem dX5_mean_80 : decode cX5_mean 80 = .ok (.getfield 13, 3) := by decide +kernel
theorem dX5_mean_83 : decode cX5_mean 83 = .ok (.iload_n 1, 1) := by decide +kernel
theorem dX5_mean_84 : decode cX5_mean 84 = .ok (.iaload, 1) := by decide +kernel
theorem dX5_mean_85 : decode cX5_mean 85 = .ok (.i2l, 1) := by decide +kernel
theorem dX5_mean_86 : decode cX5_mean 86 = .ok (.ldiv, 1) := by decide +kernel
theorem dX5_mean_87 : decode cX5_mean 87 = .ok (.l2i, 1) := by decide +kernel
theorem dX5_mean_88 : decode cX5_mean 88 = .ok (.invokevirtual 91, 3) := by decide +kernel
theorem dX5_mean_91 : decode cX5_mean 91 = .ok (.ireturn, 1) := by decide +kernel
theorem dX5_text_0 : decode cX5_text 0 = .ok (.iload_n 1, 1) := by decide +kernel
theorem dX5_text_1 : decode cX5_text 1 = .ok (.invokestatic 94, 3) := by decide +kernel
theorem dX5_text_4 : decode cX5_text 4 = .ok (.ifCond .eq 9, 3) := by decide +kernel
theorem dX5_text_7 : decode cX5_text 7 = .ok (.iload_n 2, 1) := by decide +kernel
theorem dX5_text_8 : decode cX5_text 8 = .ok (.bipush 60, 2) := by decide +kernel
theorem dX5_text_10 : decode cX5_text 10 = .ok (.if_icmp .le 5, 3) := by decide +kernel
theorem dX5_text_13 : decode cX5_text 13 = .ok (.iconst (-1), 1) := by decide +kernel
theorem dX5_text_14 : decode cX5_text 14 = .ok (.ireturn, 1) := by decide +kernel
theorem dX5_text_15 : decode cX5_text 15 = .ok (.iload_n 2, 1) := by decide +kernel
theorem dX5_text_16 : decode cX5_text 16 = .ok (.ifCond .ge 9, 3) := by decide +kernel
theorem dX5_text_19 : decode cX5_text 19 = .ok (.aload_n 0, 1) := by decide +kernel
theorem dX5_text_20 : decode cX5_text 20 = .ok (.iconst 5, 1) := by decide +kernel
theorem dX5_text_21 : decode cX5_text 21 = .ok (.invokevirtual 87, 3) := by decide +kernel
theorem dX5_text_24 : decode cX5_text 24 = .ok (.ireturn, 1) := by decide +kernel
theorem dX5_text_25 : decode cX5_text 25 = .ok (.aload_n 0, 1) := by decide +kernel
theorem dX5_text_26 : decode cX5_text 26 = .ok (.getfield 19, 3) := by decide +kernel
theorem dX5_text_29 : decode cX5_text 29 = .ok (.iload_n 1, 1) := by decide +kernel
theorem dX5_text_30 : decode cX5_text 30 = .ok (.iload_n 2, 1) := by decide +kernel
theorem dX5_text_31 : decode cX5_text 31 = .ok (.iastore, 1) := by decide +kernel
theorem dX5_text_32 : decode cX5_text 32 = .ok (.iconst 0, 1) := by decide +kernel
theorem dX5_text_33 : decode cX5_text 33 = .ok (.istore_n 3, 1) := by decide +kernel
theorem dX5_text_34 : decode cX5_text 34 = .ok (.iload_n 3, 1) := by decide +kernel
theorem dX5_text_35 : decode cX5_text 35 = .ok (.bipush 60, 2) := by decide +kernel
theorem dX5_text_37 : decode cX5_text 37 = .ok (.if_icmp .ge 22, 3) := by decide +kernel
theorem dX5_text_40 : decode cX5_text 40 = .ok (.aload_n 0, 1) := by decide +kernel
theorem dX5_text_41 : decode cX5_text 41 = .ok (.getfield 16, 3) := by decide +kernel
theorem dX5_text_44 : decode cX5_text 44 = .ok (.bipush 60, 2) := by decide +kernel
theorem dX5_text_46 : decode cX5_text 46 = .ok (.iload_n 1, 1) := by decide +kernel
theorem dX5_text_47 : decode cX5_text 47 = .ok (.imul, 1) := by decide +kernel
theorem dX5_text_48 : decode cX5_text 48 = .ok (.iload_n 3, 1) := by decide +kernel
theorem dX5_text_49 : decode cX5_text 49 = .ok (.iadd, 1) := by decide +kernel
theorem dX5_text_50 : decode cX5_text 50 = .ok (.bipush 32, 2) := by decide +kernel
theorem dX5_text_52 : decode cX5_text 52 = .ok (.iastore, 1) := by decide +kernel
theorem dX5_text_53 : decode cX5_text 53 = .ok (.iinc 3 1, 3) := by decide +kernel
theorem dX5_text_56 : decode cX5_text 56 = .ok (.goto (-22), 3) := by decide +kernel
theorem dX5_text_59 : decode cX5_text 59 = .ok (.iload_n 2, 1) := by decide +kernel
theorem dX5_text_60 : decode cX5_text 60 = .ok (.ireturn, 1) := by decide +kernel
theorem dX5_put_0 : decode cX5_put 0 = .ok (.iload_n 1, 1) := by decide +kernel
theorem dX5_put_1 : decode cX5_put 1 = .ok (.invokestatic 94, 3) := by decide +kernel
theorem dX5_put_4 : decode cX5_put 4 = .ok (.ifCond .ne 5, 3) := by decide +kernel
theorem dX5_put_7 : decode cX5_put 7 = .ok (.iconst (-1), 1) := by decide +kernel
theorem dX5_put_8 : decode cX5_put 8 = .ok (.ireturn, 1) := by decide +kernel
theorem dX5_put_9 : decode cX5_put 9 = .ok (.aload_n 0, 1) := by decide +kernel
theorem dX5_put_10 : decode cX5_put 10 = .ok (.getfield 19, 3) := by decide +kernel
theorem dX5_put_13 : decode cX5_put 13 = .ok (.iload_n 1, 1) := by decide +kernel
theorem dX5_put_14 : decode cX5_put 14 = .ok (.iaload, 1) := by decide +kernel
theorem dX5_put_15 : decode cX5_put 15 = .ok (.ifCond .ge 9, 3) := by decide +kernel
theorem dX5_put_18 : decode cX5_put 18 = .ok (.aload_n 0, 1) := by decide +kernel
theorem dX5_put_19 : decode cX5_put 19 = .ok (.iconst 1, 1) := by decide +kernel
theorem dX5_put_20 : decode cX5_put 20 = .ok (.invokevirtual 87, 3) := by decide +kernel
theorem dX5_put_23 : decode cX5_put 23 = .ok (.ireturn, 1) := by decide +kernel
theorem dX5_put_24 : decode cX5_put 24 = .ok (.iload_n 2, 1) := by decide +kernel
theorem dX5_put_25 : decode cX5_put 25 = .ok (.i2l, 1) := by decide +kernel
theorem dX5_put_26 : decode cX5_put 26 = .ok (.lconst 0, 1) := by decide +kernel
theorem dX5_put_27 : decode cX5_put 27 = .ok (.aload_n 0, 1) := by decide +kernel
theorem dX5_put_28 : decode cX5_put 28 = .ok (.getfield 19, 3) := by decide +kernel
theorem dX5_put_31 : decode cX5_put 31 = .ok (.iload_n 1, 1) := by decide +kernel
theorem dX5_put_32 : decode cX5_put 32 = .ok (.iaload, 1) := by decide +kernel
theorem dX5_put_33 : decode cX5_put 33 = .ok (.iconst 1, 1) := by decide +kernel
theorem dX5_put_34 : decode cX5_put 34 = .ok (.isub, 1) := by decide +kernel
theorem dX5_put_35 : decode cX5_put 35 = .ok (.i2l, 1) := by decide +kernel
theorem dX5_put_36 : decode cX5_put 36 = .ok (.invokestatic 77, 3) := by decide +kernel
theorem dX5_put_39 : decode cX5_put 39 = .ok (.ifCond .ne 9, 3) := by decide +kernel
theorem dX5_put_42 : decode cX5_put 42 = .ok (.aload_n 0, 1) := by decide +kernel
theorem dX5_put_43 : decode cX5_put 43 = .ok (.iconst 2, 1) := by decide +kernel
theorem dX5_put_44 : decode cX5_put 44 = .ok (.invokevirtual 87, 3) := by decide +kernel
theorem dX5_put_47 : decode cX5_put 47 = .ok (.ireturn, 1) := by decide +kernel
theorem dX5_put_48 : decode cX5_put 48 = .ok (.aload_n 0, 1) := by decide +kernel
theorem dX5_put_49 : decode cX5_put 49 = .ok (.getfield 16, 3) := by decide +kernel
theorem dX5_put_52 : decode cX5_put 52 = .ok (.bipush 60, 2) := by decide +kernel
theorem dX5_put_54 : decode cX5_put 54 = .ok (.iload_n 1, 1) := by decide +kernel
theorem dX5_put_55 : decode cX5_put 55 = .ok (.imul, 1) := by decide +kernel
theorem dX5_put_56 : decode cX5_put 56 = .ok (.iload_n 2, 1) := by decide +kernel
theorem dX5_put_57 : decode cX5_put 57 = .ok (.iadd, 1) := by decide +kernel
theorem dX5_put_58 : decode cX5_put 58 = .ok (.iaload, 1) := by decide +kernel
theorem dX5_put_59 : decode cX5_put 59 = .ok (.istore 4, 2) := by decide +kernel
theorem dX5_put_61 : decode cX5_put 61 = .ok (.aload_n 0, 1) := by decide +kernel
theorem dX5_put_62 : decode cX5_put 62 = .ok (.getfield 16, 3) := by decide +kernel
theorem dX5_put_65 : decode cX5_put 65 = .ok (.bipush 60, 2) := by decide +kernel
theorem dX5_put_67 : decode cX5_put 67 = .ok (.iload_n 1, 1) := by decide +kernel
theorem dX5_put_68 : decode cX5_put 68 = .ok (.imul, 1) := by decide +kernel
theorem dX5_put_69 : decode cX5_put 69 = .ok (.iload_n 2, 1) := by decide +kernel
theorem dX5_put_70 : decode cX5_put 70 = .ok (.iadd, 1) := by decide +kernel
theorem dX5_put_71 : decode cX5_put 71 = .ok (.iload_n 3, 1) := by decide +kernel
theorem dX5_put_72 : decode cX5_put 72 = .ok (.i2b, 1) := by decide +kernel
theorem dX5_put_73 : decode cX5_put 73 = .ok (.iastore, 1) := by decide +kernel
theorem dX5_put_74 : decode cX5_put 74 = .ok (.iload 4, 2) := by decide +kernel
theorem dX5_put_76 : decode cX5_put 76 = .ok (.sipush 1000, 3) := by decide +kernel
theorem dX5_put_79 : decode cX5_put 79 = .ok (.iadd, 1) := by decide +kernel
theorem dX5_put_80 : decode cX5_put 80 = .ok (.ireturn, 1) := by decide +kernel
theorem dX5_copies_0 : decode cX5_copies 0 = .ok (.iconst 0, 1) := by decide +kernel
theorem dX5_copies_1 : decode cX5_copies 1 = .ok (.istore 5, 2) := by decide +kernel
theorem dX5_copies_3 : decode cX5_copies 3 = .ok (.iload 5, 2) := by decide +kernel
theorem dX5_copies_5 : decode cX5_copies 5 = .ok (.iload 4, 2) := by decide +kernel
theorem dX5_copies_7 : decode cX5_copies 7 = .ok (.if_icmp .ge 21, 3) := by decide +kernel
theorem dX5_copies_10 : decode cX5_copies 10 = .ok (.aload_n 2, 1) := by decide +kernel
theorem dX5_copies_11 : decode cX5_copies 11 = .ok (.iload_n 3, 1) := by decide +kernel
theorem dX5_copies_12 : decode cX5_copies 12 = .ok (.iload 5, 2) := by decide +kernel
theorem dX5_copies_14 : decode cX5_copies 14 = .ok (.iadd, 1) := by decide +kernel
theorem dX5_copies_15 : decode cX5_copies 15 = .ok (.aload_n 0, 1) := by decide +kernel
theorem dX5_copies_16 : decode cX5_copies 16 = .ok (.iload_n 1, 1) := by decide +kernel
theorem dX5_copies_17 : decode cX5_copies 17 = .ok (.iload 5, 2) := by decide +kernel
theorem dX5_copies_19 : decode cX5_copies 19 = .ok (.iadd, 1) := by decide +kernel
theorem dX5_copies_20 : decode cX5_copies 20 = .ok (.iaload, 1) := by decide +kernel
theorem dX5_copies_21 : decode cX5_copies 21 = .ok (.iastore, 1) := by decide +kernel
theorem dX5_copies_22 : decode cX5_copies 22 = .ok (.iinc 5 1, 3) := by decide +kernel
theorem dX5_copies_25 : decode cX5_copies 25 = .ok (.goto (-22), 3) := by decide +kernel
theorem dX5_copies_28 : decode cX5_copies 28 = .ok (.return_, 1) := by decide +kernel
theorem dX5_begins_0 : decode cX5_begins 0 = .ok (.aload_n 0, 1) := by decide +kernel
theorem dX5_begins_1 : decode cX5_begins 1 = .ok (.getfield 35, 3) := by decide +kernel
theorem dX5_begins_4 : decode cX5_begins 4 = .ok (.iconst 0, 1) := by decide +kernel
theorem dX5_begins_5 : decode cX5_begins 5 = .ok (.iconst 0, 1) := by decide +kernel
theorem dX5_begins_6 : decode cX5_begins 6 = .ok (.iastore, 1) := by decide +kernel
theorem dX5_begins_7 : decode cX5_begins 7 = .ok (.aload_n 0, 1) := by decide +kernel
theorem dX5_begins_8 : decode cX5_begins 8 = .ok (.getfield 35, 3) := by decide +kernel
theorem dX5_begins_11 : decode cX5_begins 11 = .ok (.iconst 1, 1) := by decide +kernel
theorem dX5_begins_12 : decode cX5_begins 12 = .ok (.iconst 0, 1) := by decide +kernel
theorem dX5_begins_13 : decode cX5_begins 13 = .ok (.iastore, 1) := by decide +kernel
theorem dX5_begins_14 : decode cX5_begins 14 = .ok (.aload_n 0, 1) := by decide +kernel
theorem dX5_begins_15 : decode cX5_begins 15 = .ok (.getfield 35, 3) := by decide +kernel
theorem dX5_begins_18 : decode cX5_begins 18 = .ok (.iconst 2, 1) := by decide +kernel
theorem dX5_begins_19 : decode cX5_begins 19 = .ok (.iconst 1, 1) := by decide +kernel
theorem dX5_begins_20 : decode cX5_begins 20 = .ok (.aload_n 0, 1) := by decide +kernel
theorem dX5_begins_21 : decode cX5_begins 21 = .ok (.getfield 97, 3) := by decide +kernel
theorem dX5_begins_24 : decode cX5_begins 24 = .ok (.ishl, 1) := by decide +kernel
theorem dX5_begins_25 : decode cX5_begins 25 = .ok (.iconst 1, 1) := by decide +kernel
theorem dX5_begins_26 : decode cX5_begins 26 = .ok (.isub, 1) := by decide +kernel
theorem dX5_begins_27 : decode cX5_begins 27 = .ok (.iastore, 1) := by decide +kernel
theorem dX5_begins_28 : decode cX5_begins 28 = .ok (.aload_n 0, 1) := by decide +kernel
theorem dX5_begins_29 : decode cX5_begins 29 = .ok (.iconst 0, 1) := by decide +kernel
theorem dX5_begins_30 : decode cX5_begins 30 = .ok (.putfield 100, 3) := by decide +kernel
theorem dX5_begins_33 : decode cX5_begins 33 = .ok (.iconst 0, 1) := by decide +kernel
theorem dX5_begins_34 : decode cX5_begins 34 = .ok (.istore_n 1, 1) := by decide +kernel
theorem dX5_begins_35 : decode cX5_begins 35 = .ok (.iload_n 1, 1) := by decide +kernel
theorem dX5_begins_36 : decode cX5_begins 36 = .ok (.iconst 3, 1) := by decide +kernel
theorem dX5_begins_37 : decode cX5_begins 37 = .ok (.if_icmp .ge 20, 3) := by decide +kernel
theorem dX5_begins_40 : decode cX5_begins 40 = .ok (.aload_n 0, 1) := by decide +kernel
theorem dX5_begins_41 : decode cX5_begins 41 = .ok (.getfield 44, 3) := by decide +kernel
theorem dX5_begins_44 : decode cX5_begins 44 = .ok (.sipush 370, 3) := by decide +kernel
theorem dX5_begins_47 : decode cX5_begins 47 = .ok (.iload_n 1, 1) := by decide +kernel
theorem dX5_begins_48 : decode cX5_begins 48 = .ok (.imul, 1) := by decide +kernel
theorem dX5_begins_49 : decode cX5_begins 49 = .ok (.iconst (-1), 1) := by decide +kernel
theorem dX5_begins_50 : decode cX5_begins 50 = .ok (.iastore, 1) := by decide +kernel
theorem dX5_begins_51 : decode cX5_begins 51 = .ok (.iinc 1 1, 3) := by decide +kernel
theorem dX5_begins_54 : decode cX5_begins 54 = .ok (.goto (-19), 3) := by decide +kernel
theorem dX5_begins_57 : decode cX5_begins 57 = .ok (.return_, 1) := by decide +kernel
theorem dX5_here_0 : decode cX5_here 0 = .ok (.aload_n 0, 1) := by decide +kernel
theorem dX5_here_1 : decode cX5_here 1 = .ok (.getfield 103, 3) := by decide +kernel
theorem dX5_here_4 : decode cX5_here 4 = .ok (.aload_n 0, 1) := by decide +kernel
theorem dX5_here_5 : decode cX5_here 5 = .ok (.getfield 106, 3) := by decide +kernel
theorem dX5_here_8 : decode cX5_here 8 = .ok (.if_icmp .ge 23, 3) := by decide +kernel
theorem dX5_here_11 : decode cX5_here 11 = .ok (.aload_n 0, 1) := by decide +kernel
theorem dX5_here_12 : decode cX5_here 12 = .ok (.getfield 16, 3) := by decide +kernel
theorem dX5_here_15 : decode cX5_here 15 = .ok (.bipush 60, 2) := by decide +kernel
theorem dX5_here_17 : decode cX5_here 17 = .ok (.aload_n 0, 1) := by decide +kernel
theorem dX5_here_18 : decode cX5_here 18 = .ok (.getfield 109, 3) := by decide +kernel
theorem dX5_here_21 : decode cX5_here 21 = .ok (.imul, 1) := by decide +kernel
theorem dX5_here_22 : decode cX5_here 22 = .ok (.aload_n 0, 1) := by decide +kernel
theorem dX5_here_23 : decode cX5_here 23 = .ok (.getfield 103, 3) := by decide +kernel
theorem dX5_here_26 : decode cX5_here 26 = .ok (.iadd, 1) := by decide +kernel
theorem dX5_here_27 : decode cX5_here 27 = .ok (.iaload, 1) := by decide +kernel
theorem dX5_here_28 : decode cX5_here 28 = .ok (.goto 4, 3) := by decide +kernel
theorem dX5_here_31 : decode cX5_here 31 = .ok (.iconst (-1), 1) := by decide +kernel
theorem dX5_here_32 : decode cX5_here 32 = .ok (.ireturn, 1) := by decide +kernel
theorem dX5_kindOf_0 : decode cX5_kindOf 0 = .ok (.iload_n 0, 1) := by decide +kernel
theorem dX5_kindOf_1 : decode cX5_kindOf 1 = .ok (.tableswitch 99 98 115 #[91, 89, 99, 99, 99, 95, 99, 93, 99, 99, 97, 99, 99, 99, 99, 99, 99, 87], 87) := by decide +kernel
theorem dX5_kindOf_88 : decode cX5_kindOf 88 = .ok (.iconst 0, 1) := by decide +kernel
theorem dX5_kindOf_89 : decode cX5_kindOf 89 = .ok (.ireturn, 1) := by decide +kernel
theorem dX5_kindOf_90 : decode cX5_kindOf 90 = .ok (.iconst 1, 1) := by decide +kernel
theorem dX5_kindOf_91 : decode cX5_kindOf 91 = .ok (.ireturn, 1) := by decide +kernel
theorem dX5_kindOf_92 : decode cX5_kindOf 92 = .ok (.iconst 2, 1) := by decide +kernel
theorem dX5_kindOf_93 : decode cX5_kindOf 93 = .ok (.ireturn, 1) := by decide +kernel
theorem dX5_kindOf_94 : decode cX5_kindOf 94 = .ok (.iconst 3, 1) := by decide +kernel
theorem dX5_kindOf_95 : decode cX5_kindOf 95 = .ok (.ireturn, 1) := by decide +kernel
theorem dX5_kindOf_96 : decode cX5_kindOf 96 = .ok (.iconst 4, 1) := by decide +kernel
theorem dX5_kindOf_97 : decode cX5_kindOf 97 = .ok (.ireturn, 1) := by decide +kernel
theorem dX5_kindOf_98 : decode cX5_kindOf 98 = .ok (.iconst 5, 1) := by decide +kernel
theorem dX5_kindOf_99 : decode cX5_kindOf 99 = .ok (.ireturn, 1) := by decide +kernel
theorem dX5_kindOf_100 : decode cX5_kindOf 100 = .ok (.bipush (-9), 2) := by decide +kernel
theorem dX5_kindOf_102 : decode cX5_kindOf 102 = .ok (.ireturn, 1) := by decide +kernel
theorem dX5_isFigure_0 : decode cX5_isFigure 0 = .ok (.aload_n 0, 1) := by decide +kernel
theorem dX5_isFigure_1 : decode cX5_isFigure 1 = .ok (.invokevirtual 112, 3) := by decide +kernel
theorem dX5_isFigure_4 : decode cX5_isFigure 4 = .ok (.i2l, 1) := by decide +kernel
theorem dX5_isFigure_5 : decode cX5_isFigure 5 = .ok (.ldc2_w 116, 3) := by decide +kernel
theorem dX5_isFigure_8 : decode cX5_isFigure 8 = .ok (.ldc2_w 118, 3) := by decide +kernel
theorem dX5_isFigure_11 : decode cX5_isFigure 11 = .ok (.invokestatic 77, 3) := by decide +kernel
theorem dX5_isFigure_14 : decode cX5_isFigure 14 = .ok (.ifCond .ne 5, 3) := by decide +kernel
theorem dX5_isFigure_17 : decode cX5_isFigure 17 = .ok (.iconst 0, 1) := by decide +kernel
theorem dX5_isFigure_18 : decode cX5_isFigure 18 = .ok (.ireturn, 1) := by decide +kernel
theorem dX5_isFigure_19 : decode cX5_isFigure 19 = .ok (.aload_n 0, 1) := by decide +kernel
theorem dX5_isFigure_20 : decode cX5_isFigure 20 = .ok (.aload_n 0, 1) := by decide +kernel
theorem dX5_isFigure_21 : decode cX5_isFigure 21 = .ok (.invokevirtual 112, 3) := by decide +kernel
theorem dX5_isFigure_24 : decode cX5_isFigure 24 = .ok (.bipush 48, 2) := by decide +kernel
theorem dX5_isFigure_26 : decode cX5_isFigure 26 = .ok (.isub, 1) := by decide +kernel
theorem dX5_isFigure_27 : decode cX5_isFigure 27 = .ok (.putfield 120, 3) := by decide +kernel
theorem dX5_isFigure_30 : decode cX5_isFigure 30 = .ok (.aload_n 0, 1) := by decide +kernel
theorem dX5_isFigure_31 : decode cX5_isFigure 31 = .ok (.dup, 1) := by decide +kernel
theorem dX5_isFigure_32 : decode cX5_isFigure 32 = .ok (.getfield 103, 3) := by decide +kernel
theorem dX5_isFigure_35 : decode cX5_isFigure 35 = .ok (.iconst 1, 1) := by decide +kernel
theorem dX5_isFigure_36 : decode cX5_isFigure 36 = .ok (.iadd, 1) := by decide +kernel
theorem dX5_isFigure_37 : decode cX5_isFigure 37 = .ok (.putfield 103, 3) := by decide +kernel
theorem dX5_isFigure_40 : decode cX5_isFigure 40 = .ok (.iconst 1, 1) := by decide +kernel
theorem dX5_isFigure_41 : decode cX5_isFigure 41 = .ok (.ireturn, 1) := by decide +kernel
theorem dX5_areFigures_0 : decode cX5_areFigures 0 = .ok (.aload_n 0, 1) := by decide +kernel
theorem dX5_areFigures_1 : decode cX5_areFigures 1 = .ok (.getfield 103, 3) := by decide +kernel
theorem dX5_areFigures_4 : decode cX5_areFigures 4 = .ok (.istore_n 3, 1) := by decide +kernel
theorem dX5_areFigures_5 : decode cX5_areFigures 5 = .ok (.aload_n 0, 1) := by decide +kernel
theorem dX5_areFigures_6 : decode cX5_areFigures 6 = .ok (.invokevirtual 123, 3) := by decide +kernel
theorem dX5_areFigures_9 : decode cX5_areFigures 9 = .ok (.ifCond .ne 5, 3) := by decide +kernel
theorem dX5_areFigures_12 : decode cX5_areFigures 12 = .ok (.iconst 0, 1) := by decide +kernel
theorem dX5_areFigures_13 : decode cX5_areFigures 13 = .ok (.ireturn, 1) := by decide +kernel
theorem dX5_areFigures_14 : decode cX5_areFigures 14 = .ok (.aload_n 0, 1) := by decide +kernel
theorem dX5_areFigures_15 : decode cX5_areFigures 15 = .ok (.getfield 120, 3) := by decide +kernel
theorem dX5_areFigures_18 : decode cX5_areFigures 18 = .ok (.istore 4, 2) := by decide +kernel
theorem dX5_areFigures_20 : decode cX5_areFigures 20 = .ok (.aload_n 0, 1) := by decide +kernel
theorem dX5_areFigures_21 : decode cX5_areFigures 21 = .ok (.invokevirtual 123, 3) := by decide +kernel
theorem dX5_areFigures_24 : decode cX5_areFigures 24 = .ok (.ifCond .ne 5, 3) := by decide +kernel
theorem dX5_areFigures_27 : decode cX5_areFigures 27 = .ok (.iconst 0, 1) := by decide +kernel
theorem dX5_areFigures_28 : decode cX5_areFigures 28 = .ok (.ireturn, 1) := by decide +kernel
theorem dX5_areFigures_29 : decode cX5_areFigures 29 = .ok (.aload_n 0, 1) := by decide +kernel
theorem dX5_areFigures_30 : decode cX5_areFigures 30 = .ok (.dup, 1) := by decide +kernel
theorem dX5_areFigures_31 : decode cX5_areFigures 31 = .ok (.getfield 120, 3) := by decide +kernel
theorem dX5_areFigures_34 : decode cX5_areFigures 34 = .ok (.bipush 10, 2) := by decide +kernel
theorem dX5_areFigures_36 : decode cX5_areFigures 36 = .ok (.iload 4, 2) := by decide +kernel
theorem dX5_areFigures_38 : decode cX5_areFigures 38 = .ok (.imul, 1) := by decide +kernel
theorem dX5_areFigures_39 : decode cX5_areFigures 39 = .ok (.iadd, 1) := by decide +kernel
theorem dX5_areFigures_40 : decode cX5_areFigures 40 = .ok (.putfield 120, 3) := by decide +kernel
theorem dX5_areFigures_43 : decode cX5_areFigures 43 = .ok (.aload_n 0, 1) := by decide +kernel
theorem dX5_areFigures_44 : decode cX5_areFigures 44 = .ok (.aload_n 0, 1) := by decide +kernel
theorem dX5_areFigures_45 : decode cX5_areFigures 45 = .ok (.getfield 120, 3) := by decide +kernel
theorem dX5_areFigures_48 : decode cX5_areFigures 48 = .ok (.i2l, 1) := by decide +kernel
theorem dX5_areFigures_49 : decode cX5_areFigures 49 = .ok (.iload_n 1, 1) := by decide +kernel
theorem dX5_areFigures_50 : decode cX5_areFigures 50 = .ok (.i2l, 1) := by decide +kernel
theorem dX5_areFigures_51 : decode cX5_areFigures 51 = .ok (.iload_n 2, 1) := by decide +kernel
theorem dX5_areFigures_52 : decode cX5_areFigures 52 = .ok (.i2l, 1) := by decide +kernel
theorem dX5_areFigures_53 : decode cX5_areFigures 53 = .ok (.invokestatic 77, 3) := by decide +kernel
theorem dX5_areFigures_56 : decode cX5_areFigures 56 = .ok (.ifCond .eq 10, 3) := by decide +kernel
theorem dX5_areFigures_59 : decode cX5_areFigures 59 = .ok (.aload_n 0, 1) := by decide +kernel
theorem dX5_areFigures_60 : decode cX5_areFigures 60 = .ok (.getfield 103, 3) := by decide +kernel
theorem dX5_areFigures_63 : decode cX5_areFigures 63 = .ok (.goto 4, 3) := by decide +kernel
theorem dX5_areFigures_66 : decode cX5_areFigures 66 = .ok (.iload_n 3, 1) := by decide +kernel
theorem dX5_areFigures_67 : decode cX5_areFigures 67 = .ok (.putfield 103, 3) := by decide +kernel
theorem dX5_areFigures_70 : decode cX5_areFigures 70 = .ok (.aload_n 0, 1) := by decide +kernel
theorem dX5_areFigures_71 : decode cX5_areFigures 71 = .ok (.getfield 120, 3) := by decide +kernel
theorem dX5_areFigures_74 : decode cX5_areFigures 74 = .ok (.i2l, 1) := by decide +kernel
theorem dX5_areFigures_75 : decode cX5_areFigures 75 = .ok (.iload_n 1, 1) := by decide +kernel
theorem dX5_areFigures_76 : decode cX5_areFigures 76 = .ok (.i2l, 1) := by decide +kernel
theorem dX5_areFigures_77 : decode cX5_areFigures 77 = .ok (.iload_n 2, 1) := by decide +kernel
theorem dX5_areFigures_78 : decode cX5_areFigures 78 = .ok (.i2l, 1) := by decide +kernel
theorem dX5_areFigures_79 : decode cX5_areFigures 79 = .ok (.invokestatic 77, 3) := by decide +kernel
theorem dX5_areFigures_82 : decode cX5_areFigures 82 = .ok (.ireturn, 1) := by decide +kernel
theorem dX5_skips_0 : decode cX5_skips 0 = .ok (.aload_n 0, 1) := by decide +kernel
theorem dX5_skips_1 : decode cX5_skips 1 = .ok (.invokevirtual 112, 3) := by decide +kernel
theorem dX5_skips_4 : decode cX5_skips 4 = .ok (.bipush 32, 2) := by decide +kernel
theorem dX5_skips_6 : decode cX5_skips 6 = .ok (.if_icmp .ne 16, 3) := by decide +kernel
theorem dX5_skips_9 : decode cX5_skips 9 = .ok (.aload_n 0, 1) := by decide +kernel
theorem dX5_skips_10 : decode cX5_skips 10 = .ok (.dup, 1) := by decide +kernel
theorem dX5_skips_11 : decode cX5_skips 11 = .ok (.getfield 103, 3) := by decide +kernel
theorem dX5_skips_14 : decode cX5_skips 14 = .ok (.iconst 1, 1) := by decide +kernel
theorem dX5_skips_15 : decode cX5_skips 15 = .ok (.iadd, 1) := by decide +kernel
theorem dX5_skips_16 : decode cX5_skips 16 = .ok (.putfield 103, 3) := by decide +kernel
theorem dX5_skips_19 : decode cX5_skips 19 = .ok (.goto (-19), 3) := by decide +kernel
theorem dX5_skips_22 : decode cX5_skips 22 = .ok (.return_, 1) := by decide +kernel
theorem dX5_readsHead_0 : decode cX5_readsHead 0 = .ok (.aload_n 0, 1) := by decide +kernel
theorem dX5_readsHead_1 : decode cX5_readsHead 1 = .ok (.invokevirtual 127, 3) := by decide +kernel
theorem dX5_readsHead_4 : decode cX5_readsHead 4 = .ok (.aload_n 0, 1) := by decide +kernel
theorem dX5_readsHead_5 : decode cX5_readsHead 5 = .ok (.invokevirtual 112, 3) := by decide +kernel
theorem dX5_readsHead_8 : decode cX5_readsHead 8 = .ok (.bipush 110, 2) := by decide +kernel
theorem dX5_readsHead_10 : decode cX5_readsHead 10 = .ok (.if_icmp .eq 5, 3) := by decide +kernel
theorem dX5_readsHead_13 : decode cX5_readsHead 13 = .ok (.iconst 0, 1) := by decide +kernel
theorem dX5_readsHead_14 : decode cX5_readsHead 14 = .ok (.ireturn, 1) := by decide +kernel
theorem dX5_readsHead_15 : decode cX5_readsHead 15 = .ok (.aload_n 0, 1) := by decide +kernel
theorem dX5_readsHead_16 : decode cX5_readsHead 16 = .ok (.dup, 1) := by decide +kernel
theorem dX5_readsHead_17 : decode cX5_readsHead 17 = .ok (.getfield 103, 3) := by decide +kernel
theorem dX5_readsHead_20 : decode cX5_readsHead 20 = .ok (.iconst 1, 1) := by decide +kernel
theorem dX5_readsHead_21 : decode cX5_readsHead 21 = .ok (.iadd, 1) := by decide +kernel
theorem dX5_readsHead_22 : decode cX5_readsHead 22 = .ok (.putfield 103, 3) := by decide +kernel
theorem dX5_readsHead_25 : decode cX5_readsHead 25 = .ok (.aload_n 0, 1) := by decide +kernel
theorem dX5_readsHead_26 : decode cX5_readsHead 26 = .ok (.iconst 5, 1) := by decide +kernel
theorem dX5_readsHead_27 : decode cX5_readsHead 27 = .ok (.bipush 20, 2) := by decide +kernel
theorem dX5_readsHead_29 : decode cX5_readsHead 29 = .ok (.invokevirtual 130, 3) := by decide +kernel
theorem dX5_readsHead_32 : decode cX5_readsHead 32 = .ok (.ifCond .ne 5, 3) := by decide +kernel
theorem dX5_readsHead_35 : decode cX5_readsHead 35 = .ok (.iconst 0, 1) := by decide +kernel
theorem dX5_readsHead_36 : decode cX5_readsHead 36 = .ok (.ireturn, 1) := by decide +kernel
theorem dX5_readsHead_37 : decode cX5_readsHead 37 = .ok (.aload_n 0, 1) := by decide +kernel
theorem dX5_readsHead_38 : decode cX5_readsHead 38 = .ok (.aload_n 0, 1) := by decide +kernel
theorem dX5_readsHead_39 : decode cX5_readsHead 39 = .ok (.getfield 120, 3) := by decide +kernel
theorem dX5_readsHead_42 : decode cX5_readsHead 42 = .ok (.putfield 134, 3) := by decide +kernel
theorem dX5_readsHead_45 : decode cX5_readsHead 45 = .ok (.aload_n 0, 1) := by decide +kernel
theorem dX5_readsHead_46 : decode cX5_readsHead 46 = .ok (.iconst 0, 1) := by decide +kernel
theorem dX5_readsHead_47 : decode cX5_readsHead 47 = .ok (.bipush 60, 2) := by decide +kernel
theorem dX5_readsHead_49 : decode cX5_readsHead 49 = .ok (.invokevirtual 130, 3) := by decide +kernel
theorem dX5_readsHead_52 : decode cX5_readsHead 52 = .ok (.ifCond .ne 5, 3) := by decide +kernel
theorem dX5_readsHead_55 : decode cX5_readsHead 55 = .ok (.iconst 0, 1) := by decide +kernel
theorem dX5_readsHead_56 : decode cX5_readsHead 56 = .ok (.ireturn, 1) := by decide +kernel
theorem dX5_readsHead_57 : decode cX5_readsHead 57 = .ok (.aload_n 0, 1) := by decide +kernel
theorem dX5_readsHead_58 : decode cX5_readsHead 58 = .ok (.aload_n 0, 1) := by decide +kernel
theorem dX5_readsHead_59 : decode cX5_readsHead 59 = .ok (.getfield 120, 3) := by decide +kernel
theorem dX5_readsHead_62 : decode cX5_readsHead 62 = .ok (.putfield 137, 3) := by decide +kernel
theorem dX5_readsHead_65 : decode cX5_readsHead 65 = .ok (.iconst 1, 1) := by decide +kernel
theorem dX5_readsHead_66 : decode cX5_readsHead 66 = .ok (.ireturn, 1) := by decide +kernel
theorem dX5_readsSleeper_0 : decode cX5_readsSleeper 0 = .ok (.aload_n 0, 1) := by decide +kernel
theorem dX5_readsSleeper_1 : decode cX5_readsSleeper 1 = .ok (.invokevirtual 112, 3) := by decide +kernel
theorem dX5_readsSleeper_4 : decode cX5_readsSleeper 4 = .ok (.invokestatic 140, 3) := by decide +kernel
theorem dX5_readsSleeper_7 : decode cX5_readsSleeper 7 = .ok (.istore_n 1, 1) := by decide +kernel
theorem dX5_readsSleeper_8 : decode cX5_readsSleeper 8 = .ok (.iload_n 1, 1) := by decide +kernel
theorem dX5_readsSleeper_9 : decode cX5_readsSleeper 9 = .ok (.bipush (-9), 2) := by decide +kernel
theorem dX5_readsSleeper_11 : decode cX5_readsSleeper 11 = .ok (.if_icmp .eq 12, 3) := by decide +kernel
theorem dX5_readsSleeper_14 : decode cX5_readsSleeper 14 = .ok (.aload_n 0, 1) := by decide +kernel
theorem dX5_readsSleeper_15 : decode cX5_readsSleeper 15 = .ok (.getfield 143, 3) := by decide +kernel
theorem dX5_readsSleeper_18 : decode cX5_readsSleeper 18 = .ok (.bipush 6, 2) := by decide +kernel
theorem dX5_readsSleeper_20 : decode cX5_readsSleeper 20 = .ok (.if_icmp .ne 5, 3) := by decide +kernel
theorem dX5_readsSleeper_23 : decode cX5_readsSleeper 23 = .ok (.iconst 0, 1) := by decide +kernel
theorem dX5_readsSleeper_24 : decode cX5_readsSleeper 24 = .ok (.ireturn, 1) := by decide +kernel
theorem dX5_readsSleeper_25 : decode cX5_readsSleeper 25 = .ok (.aload_n 0, 1) := by decide +kernel
theorem dX5_readsSleeper_26 : decode cX5_readsSleeper 26 = .ok (.dup, 1) := by decide +kernel
theorem dX5_readsSleeper_27 : decode cX5_readsSleeper 27 = .ok (.getfield 103, 3) := by decide +kernel
theorem dX5_readsSleeper_30 : decode cX5_readsSleeper 30 = .ok (.iconst 1, 1) := by decide +kernel
theorem dX5_readsSleeper_31 : decode cX5_readsSleeper 31 = .ok (.iadd, 1) := by decide +kernel
theorem dX5_readsSleeper_32 : decode cX5_readsSleeper 32 = .ok (.putfield 103, 3) := by decide +kernel
theorem dX5_readsSleeper_35 : decode cX5_readsSleeper 35 = .ok (.aload_n 0, 1) := by decide +kernel
theorem dX5_readsSleeper_36 : decode cX5_readsSleeper 36 = .ok (.iconst 0, 1) := by decide +kernel
theorem dX5_readsSleeper_37 : decode cX5_readsSleeper 37 = .ok (.aload_n 0, 1) := by decide +kernel
theorem dX5_readsSleeper_38 : decode cX5_readsSleeper 38 = .ok (.getfield 134, 3) := by decide +kernel
theorem dX5_readsSleeper_41 : decode cX5_readsSleeper 41 = .ok (.invokevirtual 130, 3) := by decide +kernel
theorem dX5_readsSleeper_44 : decode cX5_readsSleeper 44 = .ok (.ifCond .ne 5, 3) := by decide +kernel
theorem dX5_readsSleeper_47 : decode cX5_readsSleeper 47 = .ok (.iconst 0, 1) := by decide +kernel
theorem dX5_readsSleeper_48 : decode cX5_readsSleeper 48 = .ok (.ireturn, 1) := by decide +kernel
theorem dX5_readsSleeper_49 : decode cX5_readsSleeper 49 = .ok (.aload_n 0, 1) := by decide +kernel
theorem dX5_readsSleeper_50 : decode cX5_readsSleeper 50 = .ok (.getfield 47, 3) := by decide +kernel
theorem dX5_readsSleeper_53 : decode cX5_readsSleeper 53 = .ok (.aload_n 0, 1) := by decide +kernel
theorem dX5_readsSleeper_54 : decode cX5_readsSleeper 54 = .ok (.getfield 143, 3) := by decide +kernel
theorem dX5_readsSleeper_57 : decode cX5_readsSleeper 57 = .ok (.iload_n 1, 1) := by decide +kernel
theorem dX5_readsSleeper_58 : decode cX5_readsSleeper 58 = .ok (.iastore, 1) := by decide +kernel
theorem dX5_readsSleeper_59 : decode cX5_readsSleeper 59 = .ok (.aload_n 0, 1) := by decide +kernel
theorem dX5_readsSleeper_60 : decode cX5_readsSleeper 60 = .ok (.getfield 50, 3) := by decide +kernel
theorem dX5_readsSleeper_63 : decode cX5_readsSleeper 63 = .ok (.aload_n 0, 1) := by decide +kernel
theorem dX5_readsSleeper_64 : decode cX5_readsSleeper 64 = .ok (.getfield 143, 3) := by decide +kernel
theorem dX5_readsSleeper_67 : decode cX5_readsSleeper 67 = .ok (.aload_n 0, 1) := by decide +kernel
theorem dX5_readsSleeper_68 : decode cX5_readsSleeper 68 = .ok (.getfield 120, 3) := by decide +kernel
theorem dX5_readsSleeper_71 : decode cX5_readsSleeper 71 = .ok (.iastore, 1) := by decide +kernel
theorem dX5_readsSleeper_72 : decode cX5_readsSleeper 72 = .ok (.aload_n 0, 1) := by decide +kernel
theorem dX5_readsSleeper_73 : decode cX5_readsSleeper 73 = .ok (.invokevirtual 123, 3) := by decide +kernel
theorem dX5_readsSleeper_76 : decode cX5_readsSleeper 76 = .ok (.ifCond .ne 5, 3) := by decide +kernel
theorem dX5_readsSleeper_79 : decode cX5_readsSleeper 79 = .ok (.iconst 0, 1) := by decide +kernel
theorem dX5_readsSleeper_80 : decode cX5_readsSleeper 80 = .ok (.ireturn, 1) := by decide +kernel
theorem dX5_readsSleeper_81 : decode cX5_readsSleeper 81 = .ok (.aload_n 0, 1) := by decide +kernel
theorem dX5_readsSleeper_82 : decode cX5_readsSleeper 82 = .ok (.getfield 53, 3) := by decide +kernel
theorem dX5_readsSleeper_85 : decode cX5_readsSleeper 85 = .ok (.aload_n 0, 1) := by decide +kernel
theorem dX5_readsSleeper_86 : decode cX5_readsSleeper 86 = .ok (.getfield 143, 3) := by decide +kernel
theorem dX5_readsSleeper_89 : decode cX5_readsSleeper 89 = .ok (.aload_n 0, 1) := by decide +kernel
theorem dX5_readsSleeper_90 : decode cX5_readsSleeper 90 = .ok (.getfield 120, 3) := by decide +kernel
theorem dX5_readsSleeper_93 : decode cX5_readsSleeper 93 = .ok (.iastore, 1) := by decide +kernel
theorem dX5_readsSleeper_94 : decode cX5_readsSleeper 94 = .ok (.aload_n 0, 1) := by decide +kernel
theorem dX5_readsSleeper_95 : decode cX5_readsSleeper 95 = .ok (.dup, 1) := by decide +kernel
theorem dX5_readsSleeper_96 : decode cX5_readsSleeper 96 = .ok (.getfield 143, 3) := by decide +kernel
theorem dX5_readsSleeper_99 : decode cX5_readsSleeper 99 = .ok (.iconst 1, 1) := by decide +kernel
theorem dX5_readsSleeper_100 : decode cX5_readsSleeper 100 = .ok (.iadd, 1) := by decide +kernel
theorem dX5_readsSleeper_101 : decode cX5_readsSleeper 101 = .ok (.putfield 143, 3) := by decide +kernel
theorem dX5_readsSleeper_104 : decode cX5_readsSleeper 104 = .ok (.iconst 1, 1) := by decide +kernel
theorem dX5_readsSleeper_105 : decode cX5_readsSleeper 105 = .ok (.ireturn, 1) := by decide +kernel
theorem dX5_reads_0 : decode cX5_reads 0 = .ok (.aload_n 0, 1) := by decide +kernel
theorem dX5_reads_1 : decode cX5_reads 1 = .ok (.iload_n 1, 1) := by decide +kernel
theorem dX5_reads_2 : decode cX5_reads 2 = .ok (.putfield 109, 3) := by decide +kernel
theorem dX5_reads_5 : decode cX5_reads 5 = .ok (.aload_n 0, 1) := by decide +kernel
theorem dX5_reads_6 : decode cX5_reads 6 = .ok (.aload_n 0, 1) := by decide +kernel
theorem dX5_reads_7 : decode cX5_reads 7 = .ok (.getfield 19, 3) := by decide +kernel
theorem dX5_reads_10 : decode cX5_reads 10 = .ok (.iload_n 1, 1) := by decide +kernel
theorem dX5_reads_11 : decode cX5_reads 11 = .ok (.iaload, 1) := by decide +kernel
theorem dX5_reads_12 : decode cX5_reads 12 = .ok (.putfield 106, 3) := by decide +kernel
theorem dX5_reads_15 : decode cX5_reads 15 = .ok (.aload_n 0, 1) := by decide +kernel
theorem dX5_reads_16 : decode cX5_reads 16 = .ok (.iconst 0, 1) := by decide +kernel
theorem dX5_reads_17 : decode cX5_reads 17 = .ok (.putfield 103, 3) := by decide +kernel
theorem dX5_reads_20 : decode cX5_reads 20 = .ok (.aload_n 0, 1) := by decide +kernel
theorem dX5_reads_21 : decode cX5_reads 21 = .ok (.iconst 0, 1) := by decide +kernel
theorem dX5_reads_22 : decode cX5_reads 22 = .ok (.putfield 143, 3) := by decide +kernel
theorem dX5_reads_25 : decode cX5_reads 25 = .ok (.aload_n 0, 1) := by decide +kernel
theorem dX5_reads_26 : decode cX5_reads 26 = .ok (.invokevirtual 146, 3) := by decide +kernel
theorem dX5_reads_29 : decode cX5_reads 29 = .ok (.istore_n 2, 1) := by decide +kernel
theorem dX5_reads_30 : decode cX5_reads 30 = .ok (.iload_n 2, 1) := by decide +kernel
theorem dX5_reads_31 : decode cX5_reads 31 = .ok (.ifCond .eq 7, 3) := by decide +kernel
theorem dX5_reads_34 : decode cX5_reads 34 = .ok (.aload_n 0, 1) := by decide +kernel
theorem dX5_reads_35 : decode cX5_reads 35 = .ok (.invokevirtual 127, 3) := by decide +kernel
theorem dX5_reads_38 : decode cX5_reads 38 = .ok (.aload_n 0, 1) := by decide +kernel
theorem dX5_reads_39 : decode cX5_reads 39 = .ok (.getfield 103, 3) := by decide +kernel
theorem dX5_reads_42 : decode cX5_reads 42 = .ok (.aload_n 0, 1) := by decide +kernel
theorem dX5_reads_43 : decode cX5_reads 43 = .ok (.getfield 106, 3) := by decide +kernel
theorem dX5_reads_46 : decode cX5_reads 46 = .ok (.if_icmp .ge 23, 3) := by decide +kernel
theorem dX5_reads_49 : decode cX5_reads 49 = .ok (.iload_n 2, 1) := by decide +kernel
theorem dX5_reads_50 : decode cX5_reads 50 = .ok (.ifCond .eq 19, 3) := by decide +kernel
theorem dX5_reads_53 : decode cX5_reads 53 = .ok (.aload_n 0, 1) := by decide +kernel
theorem dX5_reads_54 : decode cX5_reads 54 = .ok (.invokevirtual 149, 3) := by decide +kernel
theorem dX5_reads_57 : decode cX5_reads 57 = .ok (.istore_n 2, 1) := by decide +kernel
theorem dX5_reads_58 : decode cX5_reads 58 = .ok (.iload_n 2, 1) := by decide +kernel
theorem dX5_reads_59 : decode cX5_reads 59 = .ok (.ifCond .eq (-21), 3) := by decide +kernel
theorem dX5_reads_62 : decode cX5_reads 62 = .ok (.aload_n 0, 1) := by decide +kernel
theorem dX5_reads_63 : decode cX5_reads 63 = .ok (.invokevirtual 127, 3) := by decide +kernel
theorem dX5_reads_66 : decode cX5_reads 66 = .ok (.goto (-28), 3) := by decide +kernel
theorem dX5_reads_69 : decode cX5_reads 69 = .ok (.iload_n 2, 1) := by decide +kernel
theorem dX5_reads_70 : decode cX5_reads 70 = .ok (.ifCond .eq 15, 3) := by decide +kernel
theorem dX5_reads_73 : decode cX5_reads 73 = .ok (.aload_n 0, 1) := by decide +kernel
theorem dX5_reads_74 : decode cX5_reads 74 = .ok (.getfield 143, 3) := by decide +kernel
theorem dX5_reads_77 : decode cX5_reads 77 = .ok (.ifCond .le 8, 3) := by decide +kernel
theorem dX5_reads_80 : decode cX5_reads 80 = .ok (.bipush (-9), 2) := by decide +kernel
theorem dX5_reads_82 : decode cX5_reads 82 = .ok (.goto 7, 3) := by decide +kernel
theorem dX5_reads_85 : decode cX5_reads 85 = .ok (.aload_n 0, 1) := by decide +kernel
theorem dX5_reads_86 : decode cX5_reads 86 = .ok (.getfield 103, 3) := by decide +kernel
theorem dX5_reads_89 : decode cX5_reads 89 = .ok (.ireturn, 1) := by decide +kernel
theorem dX5_fault_0 : decode cX5_fault 0 = .ok (.iload_n 1, 1) := by decide +kernel
theorem dX5_fault_1 : decode cX5_fault 1 = .ok (.invokestatic 94, 3) := by decide +kernel
theorem dX5_fault_4 : decode cX5_fault 4 = .ok (.ifCond .ne 5, 3) := by decide +kernel
theorem dX5_fault_7 : decode cX5_fault 7 = .ok (.iconst (-1), 1) := by decide +kernel
theorem dX5_fault_8 : decode cX5_fault 8 = .ok (.ireturn, 1) := by decide +kernel
theorem dX5_fault_9 : decode cX5_fault 9 = .ok (.aload_n 0, 1) := by decide +kernel
theorem dX5_fault_10 : decode cX5_fault 10 = .ok (.getfield 19, 3) := by decide +kernel
theorem dX5_fault_13 : decode cX5_fault 13 = .ok (.iload_n 1, 1) := by decide +kernel
theorem dX5_fault_14 : decode cX5_fault 14 = .ok (.iaload, 1) := by decide +kernel
theorem dX5_fault_15 : decode cX5_fault 15 = .ok (.ifCond .ge 11, 3) := by decide +kernel
theorem dX5_fault_18 : decode cX5_fault 18 = .ok (.aload_n 0, 1) := by decide +kernel
theorem dX5_fault_19 : decode cX5_fault 19 = .ok (.iconst 1, 1) := by decide +kernel
theorem dX5_fault_20 : decode cX5_fault 20 = .ok (.invokevirtual 87, 3) := by decide +kernel
theorem dX5_fault_23 : decode cX5_fault 23 = .ok (.goto 8, 3) := by decide +kernel
theorem dX5_fault_26 : decode cX5_fault 26 = .ok (.aload_n 0, 1) := by decide +kernel
theorem dX5_fault_27 : decode cX5_fault 27 = .ok (.iload_n 1, 1) := by decide +kernel
theorem dX5_fault_28 : decode cX5_fault 28 = .ok (.invokevirtual 152, 3) := by decide +kernel
theorem dX5_fault_31 : decode cX5_fault 31 = .ok (.ireturn, 1) := by decide +kernel
theorem dX5_line_0 : decode cX5_line 0 = .ok (.iload_n 1, 1) := by decide +kernel
theorem dX5_line_1 : decode cX5_line 1 = .ok (.invokestatic 94, 3) := by decide +kernel
theorem dX5_line_4 : decode cX5_line 4 = .ok (.ifCond .ne 5, 3) := by decide +kernel
theorem dX5_line_7 : decode cX5_line 7 = .ok (.iconst (-1), 1) := by decide +kernel
theorem dX5_line_8 : decode cX5_line 8 = .ok (.ireturn, 1) := by decide +kernel
theorem dX5_line_9 : decode cX5_line 9 = .ok (.aload_n 0, 1) := by decide +kernel
theorem dX5_line_10 : decode cX5_line 10 = .ok (.getfield 19, 3) := by decide +kernel
theorem dX5_line_13 : decode cX5_line 13 = .ok (.iload_n 1, 1) := by decide +kernel
theorem dX5_line_14 : decode cX5_line 14 = .ok (.iaload, 1) := by decide +kernel
theorem dX5_line_15 : decode cX5_line 15 = .ok (.ifCond .ge 9, 3) := by decide +kernel
theorem dX5_line_18 : decode cX5_line 18 = .ok (.aload_n 0, 1) := by decide +kernel
theorem dX5_line_19 : decode cX5_line 19 = .ok (.iconst 1, 1) := by decide +kernel
theorem dX5_line_20 : decode cX5_line 20 = .ok (.invokevirtual 87, 3) := by decide +kernel
theorem dX5_line_23 : decode cX5_line 23 = .ok (.ireturn, 1) := by decide +kernel
theorem dX5_line_24 : decode cX5_line 24 = .ok (.aload_n 0, 1) := by decide +kernel
theorem dX5_line_25 : decode cX5_line 25 = .ok (.iload_n 1, 1) := by decide +kernel
theorem dX5_line_26 : decode cX5_line 26 = .ok (.invokevirtual 152, 3) := by decide +kernel
theorem dX5_line_29 : decode cX5_line 29 = .ok (.bipush (-9), 2) := by decide +kernel
theorem dX5_line_31 : decode cX5_line 31 = .ok (.if_icmp .eq 6, 3) := by decide +kernel
theorem dX5_line_34 : decode cX5_line 34 = .ok (.bipush (-4), 2) := by decide +kernel
theorem dX5_line_36 : decode cX5_line 36 = .ok (.ireturn, 1) := by decide +kernel
theorem dX5_line_37 : decode cX5_line 37 = .ok (.aload_n 0, 1) := by decide +kernel
theorem dX5_line_38 : decode cX5_line 38 = .ok (.aload_n 0, 1) := by decide +kernel
theorem dX5_line_39 : decode cX5_line 39 = .ok (.getfield 143, 3) := by decide +kernel
theorem dX5_line_42 : decode cX5_line 42 = .ok (.putfield 97, 3) := by decide +kernel
theorem dX5_line_45 : decode cX5_line 45 = .ok (.aload_n 0, 1) := by decide +kernel
theorem dX5_line_46 : decode cX5_line 46 = .ok (.aload_n 0, 1) := by decide +kernel
theorem dX5_line_47 : decode cX5_line 47 = .ok (.getfield 134, 3) := by decide +kernel
theorem dX5_line_50 : decode cX5_line 50 = .ok (.putfield 155, 3) := by decide +kernel
theorem dX5_line_53 : decode cX5_line 53 = .ok (.aload_n 0, 1) := by decide +kernel
theorem dX5_line_54 : decode cX5_line 54 = .ok (.aload_n 0, 1) := by decide +kernel
theorem dX5_line_55 : decode cX5_line 55 = .ok (.getfield 137, 3) := by decide +kernel
theorem dX5_line_58 : decode cX5_line 58 = .ok (.putfield 158, 3) := by decide +kernel
theorem dX5_line_61 : decode cX5_line 61 = .ok (.iconst 0, 1) := by decide +kernel
theorem dX5_line_62 : decode cX5_line 62 = .ok (.istore_n 2, 1) := by decide +kernel
theorem dX5_line_63 : decode cX5_line 63 = .ok (.iload_n 2, 1) := by decide +kernel
theorem dX5_line_64 : decode cX5_line 64 = .ok (.bipush 6, 2) := by decide +kernel
theorem dX5_line_66 : decode cX5_line 66 = .ok (.if_icmp .ge 47, 3) := by decide +kernel
theorem dX5_line_69 : decode cX5_line 69 = .ok (.aload_n 0, 1) := by decide +kernel
theorem dX5_line_70 : decode cX5_line 70 = .ok (.getfield 29, 3) := by decide +kernel
theorem dX5_line_73 : decode cX5_line 73 = .ok (.iload_n 2, 1) := by decide +kernel
theorem dX5_line_74 : decode cX5_line 74 = .ok (.aload_n 0, 1) := by decide +kernel
theorem dX5_line_75 : decode cX5_line 75 = .ok (.getfield 47, 3) := by decide +kernel
theorem dX5_line_78 : decode cX5_line 78 = .ok (.iload_n 2, 1) := by decide +kernel
theorem dX5_line_79 : decode cX5_line 79 = .ok (.iaload, 1) := by decide +kernel
theorem dX5_line_80 : decode cX5_line 80 = .ok (.iastore, 1) := by decide +kernel
theorem dX5_line_81 : decode cX5_line 81 = .ok (.aload_n 0, 1) := by decide +kernel
theorem dX5_line_82 : decode cX5_line 82 = .ok (.getfield 32, 3) := by decide +kernel
theorem dX5_line_85 : decode cX5_line 85 = .ok (.iload_n 2, 1) := by decide +kernel
theorem dX5_line_86 : decode cX5_line 86 = .ok (.aload_n 0, 1) := by decide +kernel
theorem dX5_line_87 : decode cX5_line 87 = .ok (.getfield 50, 3) := by decide +kernel
theorem dX5_line_90 : decode cX5_line 90 = .ok (.iload_n 2, 1) := by decide +kernel
theorem dX5_line_91 : decode cX5_line 91 = .ok (.iaload, 1) := by decide +kernel
theorem dX5_line_92 : decode cX5_line 92 = .ok (.iastore, 1) := by decide +kernel
theorem dX5_line_93 : decode cX5_line 93 = .ok (.aload_n 0, 1) := by decide +kernel
theorem dX5_line_94 : decode cX5_line 94 = .ok (.getfield 35, 3) := by decide +kernel
theorem dX5_line_97 : decode cX5_line 97 = .ok (.iconst 3, 1) := by decide +kernel
theorem dX5_line_98 : decode cX5_line 98 = .ok (.iload_n 2, 1) := by decide +kernel
theorem dX5_line_99 : decode cX5_line 99 = .ok (.iadd, 1) := by decide +kernel
theorem dX5_line_100 : decode cX5_line 100 = .ok (.aload_n 0, 1) := by decide +kernel
theorem dX5_line_101 : decode cX5_line 101 = .ok (.getfield 53, 3) := by decide +kernel
theorem dX5_line_104 : decode cX5_line 104 = .ok (.iload_n 2, 1) := by decide +kernel
theorem dX5_line_105 : decode cX5_line 105 = .ok (.iaload, 1) := by decide +kernel
theorem dX5_line_106 : decode cX5_line 106 = .ok (.iastore, 1) := by decide +kernel
theorem dX5_line_107 : decode cX5_line 107 = .ok (.iinc 2 1, 3) := by decide +kernel
theorem dX5_line_110 : decode cX5_line 110 = .ok (.goto (-47), 3) := by decide +kernel
theorem dX5_line_113 : decode cX5_line 113 = .ok (.aload_n 0, 1) := by decide +kernel
theorem dX5_line_114 : decode cX5_line 114 = .ok (.invokevirtual 65, 3) := by decide +kernel
theorem dX5_line_117 : decode cX5_line 117 = .ok (.aload_n 0, 1) := by decide +kernel
theorem dX5_line_118 : decode cX5_line 118 = .ok (.getfield 97, 3) := by decide +kernel
theorem dX5_line_121 : decode cX5_line 121 = .ok (.ireturn, 1) := by decide +kernel
theorem dX5_isOne_0 : decode cX5_isOne 0 = .ok (.iload_n 1, 1) := by decide +kernel
theorem dX5_isOne_1 : decode cX5_isOne 1 = .ok (.i2l, 1) := by decide +kernel
theorem dX5_isOne_2 : decode cX5_isOne 2 = .ok (.lconst 0, 1) := by decide +kernel
theorem dX5_isOne_3 : decode cX5_isOne 3 = .ok (.aload_n 0, 1) := by decide +kernel
theorem dX5_isOne_4 : decode cX5_isOne 4 = .ok (.getfield 97, 3) := by decide +kernel
theorem dX5_isOne_7 : decode cX5_isOne 7 = .ok (.iconst 1, 1) := by decide +kernel
theorem dX5_isOne_8 : decode cX5_isOne 8 = .ok (.isub, 1) := by decide +kernel
theorem dX5_isOne_9 : decode cX5_isOne 9 = .ok (.i2l, 1) := by decide +kernel
theorem dX5_isOne_10 : decode cX5_isOne 10 = .ok (.invokestatic 77, 3) := by decide +kernel
theorem dX5_isOne_13 : decode cX5_isOne 13 = .ok (.ireturn, 1) := by decide +kernel
theorem dX5_dreamsBy_0 : decode cX5_dreamsBy 0 = .ok (.iload_n 2, 1) := by decide +kernel
theorem dX5_dreamsBy_1 : decode cX5_dreamsBy 1 = .ok (.iload_n 1, 1) := by decide +kernel
theorem dX5_dreamsBy_2 : decode cX5_dreamsBy 2 = .ok (.iadd, 1) := by decide +kernel
theorem dX5_dreamsBy_3 : decode cX5_dreamsBy 3 = .ok (.bipush 6, 2) := by decide +kernel
theorem dX5_dreamsBy_5 : decode cX5_dreamsBy 5 = .ok (.irem, 1) := by decide +kernel
theorem dX5_dreamsBy_6 : decode cX5_dreamsBy 6 = .ok (.istore_n 3, 1) := by decide +kernel
theorem dX5_dreamsBy_7 : decode cX5_dreamsBy 7 = .ok (.iload_n 2, 1) := by decide +kernel
theorem dX5_dreamsBy_8 : decode cX5_dreamsBy 8 = .ok (.iload_n 1, 1) := by decide +kernel
theorem dX5_dreamsBy_9 : decode cX5_dreamsBy 9 = .ok (.iadd, 1) := by decide +kernel
theorem dX5_dreamsBy_10 : decode cX5_dreamsBy 10 = .ok (.iconst 5, 1) := by decide +kernel
theorem dX5_dreamsBy_11 : decode cX5_dreamsBy 11 = .ok (.irem, 1) := by decide +kernel
theorem dX5_dreamsBy_12 : decode cX5_dreamsBy 12 = .ok (.ifCond .ne 7, 3) := by decide +kernel
theorem dX5_dreamsBy_15 : decode cX5_dreamsBy 15 = .ok (.iconst 1, 1) := by decide +kernel
theorem dX5_dreamsBy_16 : decode cX5_dreamsBy 16 = .ok (.goto 4, 3) := by decide +kernel
theorem dX5_dreamsBy_19 : decode cX5_dreamsBy 19 = .ok (.iconst 0, 1) := by decide +kernel
theorem dX5_dreamsBy_20 : decode cX5_dreamsBy 20 = .ok (.istore 4, 2) := by decide +kernel
theorem dX5_dreamsBy_22 : decode cX5_dreamsBy 22 = .ok (.iload_n 0, 1) := by decide +kernel
theorem dX5_dreamsBy_23 : decode cX5_dreamsBy 23 = .ok (.tableswitch 116 1 5 #[33, 44, 60, 77, 94], 33) := by decide +kernel
theorem dX5_dreamsBy_56 : decode cX5_dreamsBy 56 = .ok (.iload_n 3, 1) := by decide +kernel
theorem dX5_dreamsBy_57 : decode cX5_dreamsBy 57 = .ok (.iconst 4, 1) := by decide +kernel
theorem dX5_dreamsBy_58 : decode cX5_dreamsBy 58 = .ok (.if_icmp .ge 7, 3) := by decide +kernel
theorem dX5_dreamsBy_61 : decode cX5_dreamsBy 61 = .ok (.iconst 1, 1) := by decide +kernel
theorem dX5_dreamsBy_62 : decode cX5_dreamsBy 62 = .ok (.goto 4, 3) := by decide +kernel
theorem dX5_dreamsBy_65 : decode cX5_dreamsBy 65 = .ok (.iconst 0, 1) := by decide +kernel
theorem dX5_dreamsBy_66 : decode cX5_dreamsBy 66 = .ok (.ireturn, 1) := by decide +kernel
theorem dX5_dreamsBy_67 : decode cX5_dreamsBy 67 = .ok (.iload_n 3, 1) := by decide +kernel
theorem dX5_dreamsBy_68 : decode cX5_dreamsBy 68 = .ok (.iconst 2, 1) := by decide +kernel
theorem dX5_dreamsBy_69 : decode cX5_dreamsBy 69 = .ok (.if_icmp .lt 8, 3) := by decide +kernel
theorem dX5_dreamsBy_72 : decode cX5_dreamsBy 72 = .ok (.iload 4, 2) := by decide +kernel
theorem dX5_dreamsBy_74 : decode cX5_dreamsBy 74 = .ok (.ifCond .eq 7, 3) := by decide +kernel
theorem dX5_dreamsBy_77 : decode cX5_dreamsBy 77 = .ok (.iconst 1, 1) := by decide +kernel
theorem dX5_dreamsBy_78 : decode cX5_dreamsBy 78 = .ok (.goto 4, 3) := by decide +kernel
theorem dX5_dreamsBy_81 : decode cX5_dreamsBy 81 = .ok (.iconst 0, 1) := by decide +kernel
theorem dX5_dreamsBy_82 : decode cX5_dreamsBy 82 = .ok (.ireturn, 1) := by decide +kernel
theorem dX5_dreamsBy_83 : decode cX5_dreamsBy 83 = .ok (.iload_n 3, 1) := by decide +kernel
theorem dX5_dreamsBy_84 : decode cX5_dreamsBy 84 = .ok (.iconst 2, 1) := by decide +kernel
theorem dX5_dreamsBy_85 : decode cX5_dreamsBy 85 = .ok (.if_icmp .ge 13, 3) := by decide +kernel
theorem dX5_dreamsBy_88 : decode cX5_dreamsBy 88 = .ok (.iload_n 2, 1) := by decide +kernel
theorem dX5_dreamsBy_89 : decode cX5_dreamsBy 89 = .ok (.bipush 19, 2) := by decide +kernel
theorem dX5_dreamsBy_91 : decode cX5_dreamsBy 91 = .ok (.if_icmp .le 7, 3) := by decide +kernel
theorem dX5_dreamsBy_94 : decode cX5_dreamsBy 94 = .ok (.iconst 1, 1) := by decide +kernel
theorem dX5_dreamsBy_95 : decode cX5_dreamsBy 95 = .ok (.goto 4, 3) := by decide +kernel
theorem dX5_dreamsBy_98 : decode cX5_dreamsBy 98 = .ok (.iconst 0, 1) := by decide +kernel
theorem dX5_dreamsBy_99 : decode cX5_dreamsBy 99 = .ok (.ireturn, 1) := by decide +kernel
theorem dX5_dreamsBy_100 : decode cX5_dreamsBy 100 = .ok (.iload_n 3, 1) := by decide +kernel
theorem dX5_dreamsBy_101 : decode cX5_dreamsBy 101 = .ok (.iconst 4, 1) := by decide +kernel
theorem dX5_dreamsBy_102 : decode cX5_dreamsBy 102 = .ok (.if_icmp .lt 9, 3) := by decide +kernel
theorem dX5_dreamsBy_105 : decode cX5_dreamsBy 105 = .ok (.iload_n 2, 1) := by decide +kernel
theorem dX5_dreamsBy_106 : decode cX5_dreamsBy 106 = .ok (.bipush 29, 2) := by decide +kernel
theorem dX5_dreamsBy_108 : decode cX5_dreamsBy 108 = .ok (.if_icmp .le 7, 3) := by decide +kernel
theorem dX5_dreamsBy_111 : decode cX5_dreamsBy 111 = .ok (.iconst 1, 1) := by decide +kernel
theorem dX5_dreamsBy_112 : decode cX5_dreamsBy 112 = .ok (.goto 4, 3) := by decide +kernel
theorem dX5_dreamsBy_115 : decode cX5_dreamsBy 115 = .ok (.iconst 0, 1) := by decide +kernel
theorem dX5_dreamsBy_116 : decode cX5_dreamsBy 116 = .ok (.ireturn, 1) := by decide +kernel
theorem dX5_dreamsBy_117 : decode cX5_dreamsBy 117 = .ok (.iload_n 3, 1) := by decide +kernel
theorem dX5_dreamsBy_118 : decode cX5_dreamsBy 118 = .ok (.iconst 2, 1) := by decide +kernel
theorem dX5_dreamsBy_119 : decode cX5_dreamsBy 119 = .ok (.if_icmp .lt 8, 3) := by decide +kernel
theorem dX5_dreamsBy_122 : decode cX5_dreamsBy 122 = .ok (.iload 4, 2) := by decide +kernel
theorem dX5_dreamsBy_124 : decode cX5_dreamsBy 124 = .ok (.ifCond .eq 13, 3) := by decide +kernel
theorem dX5_dreamsBy_127 : decode cX5_dreamsBy 127 = .ok (.iload_n 1, 1) := by decide +kernel
theorem dX5_dreamsBy_128 : decode cX5_dreamsBy 128 = .ok (.iconst 2, 1) := by decide +kernel
theorem dX5_dreamsBy_129 : decode cX5_dreamsBy 129 = .ok (.irem, 1) := by decide +kernel
theorem dX5_dreamsBy_130 : decode cX5_dreamsBy 130 = .ok (.ifCond .ne 7, 3) := by decide +kernel
theorem dX5_dreamsBy_133 : decode cX5_dreamsBy 133 = .ok (.iconst 1, 1) := by decide +kernel
theorem dX5_dreamsBy_134 : decode cX5_dreamsBy 134 = .ok (.goto 4, 3) := by decide +kernel
theorem dX5_dreamsBy_137 : decode cX5_dreamsBy 137 = .ok (.iconst 0, 1) := by decide +kernel
theorem dX5_dreamsBy_138 : decode cX5_dreamsBy 138 = .ok (.ireturn, 1) := by decide +kernel
theorem dX5_dreamsBy_139 : decode cX5_dreamsBy 139 = .ok (.iload_n 3, 1) := by decide +kernel
theorem dX5_dreamsBy_140 : decode cX5_dreamsBy 140 = .ok (.iconst 2, 1) := by decide +kernel
theorem dX5_dreamsBy_141 : decode cX5_dreamsBy 141 = .ok (.if_icmp .ge 7, 3) := by decide +kernel
theorem dX5_dreamsBy_144 : decode cX5_dreamsBy 144 = .ok (.iconst 1, 1) := by decide +kernel
theorem dX5_dreamsBy_145 : decode cX5_dreamsBy 145 = .ok (.goto 4, 3) := by decide +kernel
theorem dX5_dreamsBy_148 : decode cX5_dreamsBy 148 = .ok (.iconst 0, 1) := by decide +kernel
theorem dX5_dreamsBy_149 : decode cX5_dreamsBy 149 = .ok (.ireturn, 1) := by decide +kernel
theorem dX5_dreamsOn_0 : decode cX5_dreamsOn 0 = .ok (.aload_n 0, 1) := by decide +kernel
theorem dX5_dreamsOn_1 : decode cX5_dreamsOn 1 = .ok (.getfield 29, 3) := by decide +kernel
theorem dX5_dreamsOn_4 : decode cX5_dreamsOn 4 = .ok (.iload_n 2, 1) := by decide +kernel
theorem dX5_dreamsOn_5 : decode cX5_dreamsOn 5 = .ok (.iaload, 1) := by decide +kernel
theorem dX5_dreamsOn_6 : decode cX5_dreamsOn 6 = .ok (.aload_n 1, 1) := by decide +kernel
theorem dX5_dreamsOn_7 : decode cX5_dreamsOn 7 = .ok (.iconst 3, 1) := by decide +kernel
theorem dX5_dreamsOn_8 : decode cX5_dreamsOn 8 = .ok (.iload_n 2, 1) := by decide +kernel
theorem dX5_dreamsOn_9 : decode cX5_dreamsOn 9 = .ok (.iadd, 1) := by decide +kernel
theorem dX5_dreamsOn_10 : decode cX5_dreamsOn 10 = .ok (.iaload, 1) := by decide +kernel
theorem dX5_dreamsOn_11 : decode cX5_dreamsOn 11 = .ok (.iload_n 3, 1) := by decide +kernel
theorem dX5_dreamsOn_12 : decode cX5_dreamsOn 12 = .ok (.invokestatic 161, 3) := by decide +kernel
theorem dX5_dreamsOn_15 : decode cX5_dreamsOn 15 = .ok (.ireturn, 1) := by decide +kernel
theorem dX5_standsOn_0 : decode cX5_standsOn 0 = .ok (.aload_n 1, 1) := by decide +kernel
theorem dX5_standsOn_1 : decode cX5_standsOn 1 = .ok (.iconst 1, 1) := by decide +kernel
theorem dX5_standsOn_2 : decode cX5_standsOn 2 = .ok (.iaload, 1) := by decide +kernel
theorem dX5_standsOn_3 : decode cX5_standsOn 3 = .ok (.aload_n 0, 1) := by decide +kernel
theorem dX5_standsOn_4 : decode cX5_standsOn 4 = .ok (.getfield 155, 3) := by decide +kernel
theorem dX5_standsOn_7 : decode cX5_standsOn 7 = .ok (.if_icmp .ne 7, 3) := by decide +kernel
theorem dX5_standsOn_10 : decode cX5_standsOn 10 = .ok (.iconst 1, 1) := by decide +kernel
theorem dX5_standsOn_11 : decode cX5_standsOn 11 = .ok (.goto 4, 3) := by decide +kernel
theorem dX5_standsOn_14 : decode cX5_standsOn 14 = .ok (.iconst 0, 1) := by decide +kernel
theorem dX5_standsOn_15 : decode cX5_standsOn 15 = .ok (.istore_n 2, 1) := by decide +kernel
theorem dX5_standsOn_16 : decode cX5_standsOn 16 = .ok (.iconst 0, 1) := by decide +kernel
theorem dX5_standsOn_17 : decode cX5_standsOn 17 = .ok (.istore_n 3, 1) := by decide +kernel
theorem dX5_standsOn_18 : decode cX5_standsOn 18 = .ok (.iload_n 3, 1) := by decide +kernel
theorem dX5_standsOn_19 : decode cX5_standsOn 19 = .ok (.aload_n 0, 1) := by decide +kernel
theorem dX5_standsOn_20 : decode cX5_standsOn 20 = .ok (.getfield 97, 3) := by decide +kernel
theorem dX5_standsOn_23 : decode cX5_standsOn 23 = .ok (.if_icmp .ge 53, 3) := by decide +kernel
theorem dX5_standsOn_26 : decode cX5_standsOn 26 = .ok (.iload_n 2, 1) := by decide +kernel
theorem dX5_standsOn_27 : decode cX5_standsOn 27 = .ok (.ifCond .ne 37, 3) := by decide +kernel
theorem dX5_standsOn_30 : decode cX5_standsOn 30 = .ok (.aload_n 1, 1) := by decide +kernel
theorem dX5_standsOn_31 : decode cX5_standsOn 31 = .ok (.iconst 2, 1) := by decide +kernel
theorem dX5_standsOn_32 : decode cX5_standsOn 32 = .ok (.iaload, 1) := by decide +kernel
theorem dX5_standsOn_33 : decode cX5_standsOn 33 = .ok (.iload_n 3, 1) := by decide +kernel
theorem dX5_standsOn_34 : decode cX5_standsOn 34 = .ok (.invokestatic 165, 3) := by decide +kernel
theorem dX5_standsOn_37 : decode cX5_standsOn 37 = .ok (.ifCond .eq 31, 3) := by decide +kernel
theorem dX5_standsOn_40 : decode cX5_standsOn 40 = .ok (.aload_n 0, 1) := by decide +kernel
theorem dX5_standsOn_41 : decode cX5_standsOn 41 = .ok (.getfield 32, 3) := by decide +kernel
theorem dX5_standsOn_44 : decode cX5_standsOn 44 = .ok (.iload_n 3, 1) := by decide +kernel
theorem dX5_standsOn_45 : decode cX5_standsOn 45 = .ok (.iaload, 1) := by decide +kernel
theorem dX5_standsOn_46 : decode cX5_standsOn 46 = .ok (.aload_n 1, 1) := by decide +kernel
theorem dX5_standsOn_47 : decode cX5_standsOn 47 = .ok (.iconst 1, 1) := by decide +kernel
theorem dX5_standsOn_48 : decode cX5_standsOn 48 = .ok (.iaload, 1) := by decide +kernel
theorem dX5_standsOn_49 : decode cX5_standsOn 49 = .ok (.if_icmp .ne 19, 3) := by decide +kernel
theorem dX5_standsOn_52 : decode cX5_standsOn 52 = .ok (.aload_n 0, 1) := by decide +kernel
theorem dX5_standsOn_53 : decode cX5_standsOn 53 = .ok (.aload_n 1, 1) := by decide +kernel
theorem dX5_standsOn_54 : decode cX5_standsOn 54 = .ok (.iload_n 3, 1) := by decide +kernel
theorem dX5_standsOn_55 : decode cX5_standsOn 55 = .ok (.aload_n 1, 1) := by decide +kernel
theorem dX5_standsOn_56 : decode cX5_standsOn 56 = .ok (.iconst 0, 1) := by decide +kernel
theorem dX5_standsOn_57 : decode cX5_standsOn 57 = .ok (.iaload, 1) := by decide +kernel
theorem dX5_standsOn_58 : decode cX5_standsOn 58 = .ok (.invokevirtual 168, 3) := by decide +kernel
theorem dX5_standsOn_61 : decode cX5_standsOn 61 = .ok (.ifCond .eq 7, 3) := by decide +kernel
theorem dX5_standsOn_64 : decode cX5_standsOn 64 = .ok (.iconst 1, 1) := by decide +kernel
theorem dX5_standsOn_65 : decode cX5_standsOn 65 = .ok (.goto 4, 3) := by decide +kernel
theorem dX5_standsOn_68 : decode cX5_standsOn 68 = .ok (.iconst 0, 1) := by decide +kernel
theorem dX5_standsOn_69 : decode cX5_standsOn 69 = .ok (.istore_n 2, 1) := by decide +kernel
theorem dX5_standsOn_70 : decode cX5_standsOn 70 = .ok (.iinc 3 1, 3) := by decide +kernel
theorem dX5_standsOn_73 : decode cX5_standsOn 73 = .ok (.goto (-55), 3) := by decide +kernel
theorem dX5_standsOn_76 : decode cX5_standsOn 76 = .ok (.iload_n 2, 1) := by decide +kernel
theorem dX5_standsOn_77 : decode cX5_standsOn 77 = .ok (.ireturn, 1) := by decide +kernel
theorem dX5_goes_0 : decode cX5_goes 0 = .ok (.aload_n 0, 1) := by decide +kernel
theorem dX5_goes_1 : decode cX5_goes 1 = .ok (.aload_n 1, 1) := by decide +kernel
theorem dX5_goes_2 : decode cX5_goes 2 = .ok (.invokevirtual 172, 3) := by decide +kernel
theorem dX5_goes_5 : decode cX5_goes 5 = .ok (.istore_n 2, 1) := by decide +kernel
theorem dX5_goes_6 : decode cX5_goes 6 = .ok (.aload_n 1, 1) := by decide +kernel
theorem dX5_goes_7 : decode cX5_goes 7 = .ok (.iconst 1, 1) := by decide +kernel
theorem dX5_goes_8 : decode cX5_goes 8 = .ok (.dup2, 1) := by decide +kernel
theorem dX5_goes_9 : decode cX5_goes 9 = .ok (.iaload, 1) := by decide +kernel
theorem dX5_goes_10 : decode cX5_goes 10 = .ok (.iload_n 2, 1) := by decide +kernel
theorem dX5_goes_11 : decode cX5_goes 11 = .ok (.ifCond .eq 7, 3) := by decide +kernel
theorem dX5_goes_14 : decode cX5_goes 14 = .ok (.iconst 0, 1) := by decide +kernel
theorem dX5_goes_15 : decode cX5_goes 15 = .ok (.goto 4, 3) := by decide +kernel
theorem dX5_goes_18 : decode cX5_goes 18 = .ok (.iconst 1, 1) := by decide +kernel
theorem dX5_goes_19 : decode cX5_goes 19 = .ok (.iadd, 1) := by decide +kernel
theorem dX5_goes_20 : decode cX5_goes 20 = .ok (.iastore, 1) := by decide +kernel
theorem dX5_goes_21 : decode cX5_goes 21 = .ok (.aload_n 1, 1) := by decide +kernel
theorem dX5_goes_22 : decode cX5_goes 22 = .ok (.iconst 0, 1) := by decide +kernel
theorem dX5_goes_23 : decode cX5_goes 23 = .ok (.dup2, 1) := by decide +kernel
theorem dX5_goes_24 : decode cX5_goes 24 = .ok (.iaload, 1) := by decide +kernel
theorem dX5_goes_25 : decode cX5_goes 25 = .ok (.iconst 1, 1) := by decide +kernel
theorem dX5_goes_26 : decode cX5_goes 26 = .ok (.iadd, 1) := by decide +kernel
theorem dX5_goes_27 : decode cX5_goes 27 = .ok (.iastore, 1) := by decide +kernel
theorem dX5_goes_28 : decode cX5_goes 28 = .ok (.iload_n 2, 1) := by decide +kernel
theorem dX5_goes_29 : decode cX5_goes 29 = .ok (.ireturn, 1) := by decide +kernel
theorem dX5_isDreaming_0 : decode cX5_isDreaming 0 = .ok (.aload_n 0, 1) := by decide +kernel
theorem dX5_isDreaming_1 : decode cX5_isDreaming 1 = .ok (.getfield 35, 3) := by decide +kernel
theorem dX5_isDreaming_4 : decode cX5_isDreaming 4 = .ok (.iconst 2, 1) := by decide +kernel
theorem dX5_isDreaming_5 : decode cX5_isDreaming 5 = .ok (.iaload, 1) := by decide +kernel
theorem dX5_isDreaming_6 : decode cX5_isDreaming 6 = .ok (.iload_n 1, 1) := by decide +kernel
theorem dX5_isDreaming_7 : decode cX5_isDreaming 7 = .ok (.invokestatic 165, 3) := by decide +kernel
theorem dX5_isDreaming_10 : decode cX5_isDreaming 10 = .ok (.ifCond .eq 25, 3) := by decide +kernel
theorem dX5_isDreaming_13 : decode cX5_isDreaming 13 = .ok (.aload_n 0, 1) := by decide +kernel
theorem dX5_isDreaming_14 : decode cX5_isDreaming 14 = .ok (.aload_n 0, 1) := by decide +kernel
theorem dX5_isDreaming_15 : decode cX5_isDreaming 15 = .ok (.getfield 35, 3) := by decide +kernel
theorem dX5_isDreaming_18 : decode cX5_isDreaming 18 = .ok (.iload_n 1, 1) := by decide +kernel
theorem dX5_isDreaming_19 : decode cX5_isDreaming 19 = .ok (.aload_n 0, 1) := by decide +kernel
theorem dX5_isDreaming_20 : decode cX5_isDreaming 20 = .ok (.getfield 35, 3) := by decide +kernel
theorem dX5_isDreaming_23 : decode cX5_isDreaming 23 = .ok (.iconst 0, 1) := by decide +kernel
theorem dX5_isDreaming_24 : decode cX5_isDreaming 24 = .ok (.iaload, 1) := by decide +kernel
theorem dX5_isDreaming_25 : decode cX5_isDreaming 25 = .ok (.invokevirtual 168, 3) := by decide +kernel
theorem dX5_isDreaming_28 : decode cX5_isDreaming 28 = .ok (.ifCond .eq 7, 3) := by decide +kernel
theorem dX5_isDreaming_31 : decode cX5_isDreaming 31 = .ok (.iconst 1, 1) := by decide +kernel
theorem dX5_isDreaming_32 : decode cX5_isDreaming 32 = .ok (.goto 4, 3) := by decide +kernel
theorem dX5_isDreaming_35 : decode cX5_isDreaming 35 = .ok (.iconst 0, 1) := by decide +kernel
theorem dX5_isDreaming_36 : decode cX5_isDreaming 36 = .ok (.ireturn, 1) := by decide +kernel
theorem dX5_sleeper_0 : decode cX5_sleeper 0 = .ok (.aload_n 0, 1) := by decide +kernel
theorem dX5_sleeper_1 : decode cX5_sleeper 1 = .ok (.iload_n 1, 1) := by decide +kernel
theorem dX5_sleeper_2 : decode cX5_sleeper 2 = .ok (.invokevirtual 176, 3) := by decide +kernel
theorem dX5_sleeper_5 : decode cX5_sleeper 5 = .ok (.ifCond .eq 15, 3) := by decide +kernel
theorem dX5_sleeper_8 : decode cX5_sleeper 8 = .ok (.iload_n 2, 1) := by decide +kernel
theorem dX5_sleeper_9 : decode cX5_sleeper 9 = .ok (.i2l, 1) := by decide +kernel
theorem dX5_sleeper_10 : decode cX5_sleeper 10 = .ok (.lconst 0, 1) := by decide +kernel
theorem dX5_sleeper_11 : decode cX5_sleeper 11 = .ok (.ldc2_w 179, 3) := by decide +kernel
theorem dX5_sleeper_14 : decode cX5_sleeper 14 = .ok (.invokestatic 77, 3) := by decide +kernel
theorem dX5_sleeper_17 : decode cX5_sleeper 17 = .ok (.ifCond .ne 5, 3) := by decide +kernel
theorem dX5_sleeper_20 : decode cX5_sleeper 20 = .ok (.iconst (-1), 1) := by decide +kernel
theorem dX5_sleeper_21 : decode cX5_sleeper 21 = .ok (.ireturn, 1) := by decide +kernel
theorem dX5_sleeper_22 : decode cX5_sleeper 22 = .ok (.iload_n 2, 1) := by decide +kernel
theorem dX5_sleeper_23 : decode cX5_sleeper 23 = .ok (.tableswitch 79 0 3 #[29, 40, 51, 64], 29) := by decide +kernel
theorem dX5_sleeper_52 : decode cX5_sleeper 52 = .ok (.aload_n 0, 1) := by decide +kernel
theorem dX5_sleeper_53 : decode cX5_sleeper 53 = .ok (.aload_n 0, 1) := by decide +kernel
theorem dX5_sleeper_54 : decode cX5_sleeper 54 = .ok (.getfield 29, 3) := by decide +kernel
theorem dX5_sleeper_57 : decode cX5_sleeper 57 = .ok (.iload_n 1, 1) := by decide +kernel
theorem dX5_sleeper_58 : decode cX5_sleeper 58 = .ok (.iaload, 1) := by decide +kernel
theorem dX5_sleeper_59 : decode cX5_sleeper 59 = .ok (.invokevirtual 91, 3) := by decide +kernel
theorem dX5_sleeper_62 : decode cX5_sleeper 62 = .ok (.ireturn, 1) := by decide +kernel
theorem dX5_sleeper_63 : decode cX5_sleeper 63 = .ok (.aload_n 0, 1) := by decide +kernel
theorem dX5_sleeper_64 : decode cX5_sleeper 64 = .ok (.aload_n 0, 1) := by decide +kernel
theorem dX5_sleeper_65 : decode cX5_sleeper 65 = .ok (.getfield 32, 3) := by decide +kernel
theorem dX5_sleeper_68 : decode cX5_sleeper 68 = .ok (.iload_n 1, 1) := by decide +kernel
theorem dX5_sleeper_69 : decode cX5_sleeper 69 = .ok (.iaload, 1) := by decide +kernel
theorem dX5_sleeper_70 : decode cX5_sleeper 70 = .ok (.invokevirtual 91, 3) := by decide +kernel
theorem dX5_sleeper_73 : decode cX5_sleeper 73 = .ok (.ireturn, 1) := by decide +kernel
theorem dX5_sleeper_74 : decode cX5_sleeper 74 = .ok (.aload_n 0, 1) := by decide +kernel
theorem dX5_sleeper_75 : decode cX5_sleeper 75 = .ok (.aload_n 0, 1) := by decide +kernel
theorem dX5_sleeper_76 : decode cX5_sleeper 76 = .ok (.getfield 35, 3) := by decide +kernel
theorem dX5_sleeper_79 : decode cX5_sleeper 79 = .ok (.iconst 3, 1) := by decide +kernel
theorem dX5_sleeper_80 : decode cX5_sleeper 80 = .ok (.iload_n 1, 1) := by decide +kernel
theorem dX5_sleeper_81 : decode cX5_sleeper 81 = .ok (.iadd, 1) := by decide +kernel
theorem dX5_sleeper_82 : decode cX5_sleeper 82 = .ok (.iaload, 1) := by decide +kernel
theorem dX5_sleeper_83 : decode cX5_sleeper 83 = .ok (.invokevirtual 91, 3) := by decide +kernel
theorem dX5_sleeper_86 : decode cX5_sleeper 86 = .ok (.ireturn, 1) := by decide +kernel
theorem dX5_sleeper_87 : decode cX5_sleeper 87 = .ok (.aload_n 0, 1) := by decide +kernel
theorem dX5_sleeper_88 : decode cX5_sleeper 88 = .ok (.aload_n 0, 1) := by decide +kernel
theorem dX5_sleeper_89 : decode cX5_sleeper 89 = .ok (.getfield 35, 3) := by decide +kernel
theorem dX5_sleeper_92 : decode cX5_sleeper 92 = .ok (.iconst 2, 1) := by decide +kernel
theorem dX5_sleeper_93 : decode cX5_sleeper 93 = .ok (.iaload, 1) := by decide +kernel
theorem dX5_sleeper_94 : decode cX5_sleeper 94 = .ok (.iload_n 1, 1) := by decide +kernel
theorem dX5_sleeper_95 : decode cX5_sleeper 95 = .ok (.ishr, 1) := by decide +kernel
theorem dX5_sleeper_96 : decode cX5_sleeper 96 = .ok (.iconst 1, 1) := by decide +kernel
theorem dX5_sleeper_97 : decode cX5_sleeper 97 = .ok (.iand, 1) := by decide +kernel
theorem dX5_sleeper_98 : decode cX5_sleeper 98 = .ok (.invokevirtual 91, 3) := by decide +kernel
theorem dX5_sleeper_101 : decode cX5_sleeper 101 = .ok (.ireturn, 1) := by decide +kernel
theorem dX5_sleeper_102 : decode cX5_sleeper 102 = .ok (.aload_n 0, 1) := by decide +kernel
theorem dX5_sleeper_103 : decode cX5_sleeper 103 = .ok (.aload_n 0, 1) := by decide +kernel
theorem dX5_sleeper_104 : decode cX5_sleeper 104 = .ok (.iload_n 1, 1) := by decide +kernel
theorem dX5_sleeper_105 : decode cX5_sleeper 105 = .ok (.invokevirtual 181, 3) := by decide +kernel
theorem dX5_sleeper_108 : decode cX5_sleeper 108 = .ok (.ifCond .eq 7, 3) := by decide +kernel
theorem dX5_sleeper_111 : decode cX5_sleeper 111 = .ok (.iconst 1, 1) := by decide +kernel
theorem dX5_sleeper_112 : decode cX5_sleeper 112 = .ok (.goto 4, 3) := by decide +kernel
theorem dX5_sleeper_115 : decode cX5_sleeper 115 = .ok (.iconst 0, 1) := by decide +kernel
theorem dX5_sleeper_116 : decode cX5_sleeper 116 = .ok (.invokevirtual 91, 3) := by decide +kernel
theorem dX5_sleeper_119 : decode cX5_sleeper 119 = .ok (.ireturn, 1) := by decide +kernel
theorem dX5_isOf_0 : decode cX5_isOf 0 = .ok (.iload_n 0, 1) := by decide +kernel
theorem dX5_isOf_1 : decode cX5_isOf 1 = .ok (.iload_n 1, 1) := by decide +kernel
theorem dX5_isOf_2 : decode cX5_isOf 2 = .ok (.if_icmp .eq 23, 3) := by decide +kernel
theorem dX5_isOf_5 : decode cX5_isOf 5 = .ok (.iload_n 0, 1) := by decide +kernel
theorem dX5_isOf_6 : decode cX5_isOf 6 = .ok (.iconst 4, 1) := by decide +kernel
theorem dX5_isOf_7 : decode cX5_isOf 7 = .ok (.if_icmp .ne 8, 3) := by decide +kernel
theorem dX5_isOf_10 : decode cX5_isOf 10 = .ok (.iload_n 1, 1) := by decide +kernel
theorem dX5_isOf_11 : decode cX5_isOf 11 = .ok (.iconst 1, 1) := by decide +kernel
theorem dX5_isOf_12 : decode cX5_isOf 12 = .ok (.if_icmp .eq 13, 3) := by decide +kernel
theorem dX5_isOf_15 : decode cX5_isOf 15 = .ok (.iload_n 0, 1) := by decide +kernel
theorem dX5_isOf_16 : decode cX5_isOf 16 = .ok (.iconst 5, 1) := by decide +kernel
theorem dX5_isOf_17 : decode cX5_isOf 17 = .ok (.if_icmp .ne 12, 3) := by decide +kernel
theorem dX5_isOf_20 : decode cX5_isOf 20 = .ok (.iload_n 1, 1) := by decide +kernel
theorem dX5_isOf_21 : decode cX5_isOf 21 = .ok (.iconst 2, 1) := by decide +kernel
theorem dX5_isOf_22 : decode cX5_isOf 22 = .ok (.if_icmp .ne 7, 3) := by decide +kernel
theorem dX5_isOf_25 : decode cX5_isOf 25 = .ok (.iconst 1, 1) := by decide +kernel
theorem dX5_isOf_26 : decode cX5_isOf 26 = .ok (.goto 4, 3) := by decide +kernel
theorem dX5_isOf_29 : decode cX5_isOf 29 = .ok (.iconst 0, 1) := by decide +kernel
theorem dX5_isOf_30 : decode cX5_isOf 30 = .ok (.ireturn, 1) := by decide +kernel
theorem dX5_often_0 : decode cX5_often 0 = .ok (.iconst 0, 1) := by decide +kernel
theorem dX5_often_1 : decode cX5_often 1 = .ok (.istore_n 2, 1) := by decide +kernel
theorem dX5_often_2 : decode cX5_often 2 = .ok (.iconst 0, 1) := by decide +kernel
theorem dX5_often_3 : decode cX5_often 3 = .ok (.istore_n 3, 1) := by decide +kernel
theorem dX5_often_4 : decode cX5_often 4 = .ok (.iload_n 3, 1) := by decide +kernel
theorem dX5_often_5 : decode cX5_often 5 = .ok (.bipush 60, 2) := by decide +kernel
theorem dX5_often_7 : decode cX5_often 7 = .ok (.if_icmp .ge 26, 3) := by decide +kernel
theorem dX5_often_10 : decode cX5_often 10 = .ok (.iload_n 2, 1) := by decide +kernel
theorem dX5_often_11 : decode cX5_often 11 = .ok (.iload_n 0, 1) := by decide +kernel
theorem dX5_often_12 : decode cX5_often 12 = .ok (.iload_n 1, 1) := by decide +kernel
theorem dX5_often_13 : decode cX5_often 13 = .ok (.iload_n 3, 1) := by decide +kernel
theorem dX5_often_14 : decode cX5_often 14 = .ok (.invokestatic 161, 3) := by decide +kernel
theorem dX5_often_17 : decode cX5_often 17 = .ok (.ifCond .eq 7, 3) := by decide +kernel
theorem dX5_often_20 : decode cX5_often 20 = .ok (.iconst 1, 1) := by decide +kernel
theorem dX5_often_21 : decode cX5_often 21 = .ok (.goto 4, 3) := by decide +kernel
theorem dX5_often_24 : decode cX5_often 24 = .ok (.iconst 0, 1) := by decide +kernel
theorem dX5_often_25 : decode cX5_often 25 = .ok (.iadd, 1) := by decide +kernel
theorem dX5_often_26 : decode cX5_often 26 = .ok (.istore_n 2, 1) := by decide +kernel
theorem dX5_often_27 : decode cX5_often 27 = .ok (.iinc 3 1, 3) := by decide +kernel
theorem dX5_often_30 : decode cX5_often 30 = .ok (.goto (-26), 3) := by decide +kernel
theorem dX5_often_33 : decode cX5_often 33 = .ok (.iload_n 2, 1) := by decide +kernel
theorem dX5_often_34 : decode cX5_often 34 = .ok (.ireturn, 1) := by decide +kernel
theorem dX5_firstOf_0 : decode cX5_firstOf 0 = .ok (.iconst 0, 1) := by decide +kernel
theorem dX5_firstOf_1 : decode cX5_firstOf 1 = .ok (.istore 4, 2) := by decide +kernel
theorem dX5_firstOf_3 : decode cX5_firstOf 3 = .ok (.iload_n 1, 1) := by decide +kernel
theorem dX5_firstOf_4 : decode cX5_firstOf 4 = .ok (.iload_n 2, 1) := by decide +kernel
theorem dX5_firstOf_5 : decode cX5_firstOf 5 = .ok (.iload 4, 2) := by decide +kernel
theorem dX5_firstOf_7 : decode cX5_firstOf 7 = .ok (.invokestatic 161, 3) := by decide +kernel
theorem dX5_firstOf_10 : decode cX5_firstOf 10 = .ok (.ifCond .eq 17, 3) := by decide +kernel
theorem dX5_firstOf_13 : decode cX5_firstOf 13 = .ok (.iload_n 3, 1) := by decide +kernel
theorem dX5_firstOf_14 : decode cX5_firstOf 14 = .ok (.ifCond .eq 19, 3) := by decide +kernel
theorem dX5_firstOf_17 : decode cX5_firstOf 17 = .ok (.iconst 1, 1) := by decide +kernel
theorem dX5_firstOf_18 : decode cX5_firstOf 18 = .ok (.iload_n 2, 1) := by decide +kernel
theorem dX5_firstOf_19 : decode cX5_firstOf 19 = .ok (.iload 4, 2) := by decide +kernel
theorem dX5_firstOf_21 : decode cX5_firstOf 21 = .ok (.invokestatic 161, 3) := by decide +kernel
theorem dX5_firstOf_24 : decode cX5_firstOf 24 = .ok (.ifCond .eq 9, 3) := by decide +kernel
theorem dX5_firstOf_27 : decode cX5_firstOf 27 = .ok (.iinc 4 1, 3) := by decide +kernel
theorem dX5_firstOf_30 : decode cX5_firstOf 30 = .ok (.goto (-27), 3) := by decide +kernel
theorem dX5_firstOf_33 : decode cX5_firstOf 33 = .ok (.iload 4, 2) := by decide +kernel
theorem dX5_firstOf_35 : decode cX5_firstOf 35 = .ok (.ireturn, 1) := by decide +kernel
theorem dX5_mark_0 : decode cX5_mark 0 = .ok (.aload_n 0, 1) := by decide +kernel
theorem dX5_mark_1 : decode cX5_mark 1 = .ok (.iload_n 1, 1) := by decide +kernel
theorem dX5_mark_2 : decode cX5_mark 2 = .ok (.invokevirtual 176, 3) := by decide +kernel
theorem dX5_mark_5 : decode cX5_mark 5 = .ok (.ifCond .eq 15, 3) := by decide +kernel
theorem dX5_mark_8 : decode cX5_mark 8 = .ok (.iload_n 2, 1) := by decide +kernel
theorem dX5_mark_9 : decode cX5_mark 9 = .ok (.i2l, 1) := by decide +kernel
theorem dX5_mark_10 : decode cX5_mark 10 = .ok (.lconst 1, 1) := by decide +kernel
theorem dX5_mark_11 : decode cX5_mark 11 = .ok (.ldc2_w 75, 3) := by decide +kernel
theorem dX5_mark_14 : decode cX5_mark 14 = .ok (.invokestatic 77, 3) := by decide +kernel
theorem dX5_mark_17 : decode cX5_mark 17 = .ok (.ifCond .ne 5, 3) := by decide +kernel
theorem dX5_mark_20 : decode cX5_mark 20 = .ok (.iconst (-1), 1) := by decide +kernel
theorem dX5_mark_21 : decode cX5_mark 21 = .ok (.ireturn, 1) := by decide +kernel
theorem dX5_mark_22 : decode cX5_mark 22 = .ok (.aload_n 0, 1) := by decide +kernel
theorem dX5_mark_23 : decode cX5_mark 23 = .ok (.getfield 29, 3) := by decide +kernel
theorem dX5_mark_26 : decode cX5_mark 26 = .ok (.iload_n 1, 1) := by decide +kernel
theorem dX5_mark_27 : decode cX5_mark 27 = .ok (.iaload, 1) := by decide +kernel
theorem dX5_mark_28 : decode cX5_mark 28 = .ok (.iload_n 2, 1) := by decide +kernel
theorem dX5_mark_29 : decode cX5_mark 29 = .ok (.invokestatic 184, 3) := by decide +kernel
theorem dX5_mark_32 : decode cX5_mark 32 = .ok (.ifCond .ne 9, 3) := by decide +kernel
theorem dX5_mark_35 : decode cX5_mark 35 = .ok (.aload_n 0, 1) := by decide +kernel
theorem dX5_mark_36 : decode cX5_mark 36 = .ok (.iconst 3, 1) := by decide +kernel
theorem dX5_mark_37 : decode cX5_mark 37 = .ok (.invokevirtual 87, 3) := by decide +kernel
theorem dX5_mark_40 : decode cX5_mark 40 = .ok (.ireturn, 1) := by decide +kernel
theorem dX5_mark_41 : decode cX5_mark 41 = .ok (.aload_n 0, 1) := by decide +kernel
theorem dX5_mark_42 : decode cX5_mark 42 = .ok (.getfield 35, 3) := by decide +kernel
theorem dX5_mark_45 : decode cX5_mark 45 = .ok (.iconst 3, 1) := by decide +kernel
theorem dX5_mark_46 : decode cX5_mark 46 = .ok (.iload_n 1, 1) := by decide +kernel
theorem dX5_mark_47 : decode cX5_mark 47 = .ok (.iadd, 1) := by decide +kernel
theorem dX5_mark_48 : decode cX5_mark 48 = .ok (.iaload, 1) := by decide +kernel
theorem dX5_mark_49 : decode cX5_mark 49 = .ok (.istore_n 3, 1) := by decide +kernel
theorem dX5_mark_50 : decode cX5_mark 50 = .ok (.iload_n 2, 1) := by decide +kernel
theorem dX5_mark_51 : decode cX5_mark 51 = .ok (.tableswitch 76 1 4 #[29, 40, 60, 68], 29) := by decide +kernel
theorem dX5_mark_80 : decode cX5_mark 80 = .ok (.aload_n 0, 1) := by decide +kernel
theorem dX5_mark_81 : decode cX5_mark 81 = .ok (.getfield 29, 3) := by decide +kernel
theorem dX5_mark_84 : decode cX5_mark 84 = .ok (.iload_n 1, 1) := by decide +kernel
theorem dX5_mark_85 : decode cX5_mark 85 = .ok (.iaload, 1) := by decide +kernel
theorem dX5_mark_86 : decode cX5_mark 86 = .ok (.iload_n 3, 1) := by decide +kernel
theorem dX5_mark_87 : decode cX5_mark 87 = .ok (.invokestatic 187, 3) := by decide +kernel
theorem dX5_mark_90 : decode cX5_mark 90 = .ok (.ireturn, 1) := by decide +kernel
theorem dX5_mark_91 : decode cX5_mark 91 = .ok (.bipush 100, 2) := by decide +kernel
theorem dX5_mark_93 : decode cX5_mark 93 = .ok (.aload_n 0, 1) := by decide +kernel
theorem dX5_mark_94 : decode cX5_mark 94 = .ok (.getfield 29, 3) := by decide +kernel
theorem dX5_mark_97 : decode cX5_mark 97 = .ok (.iload_n 1, 1) := by decide +kernel
theorem dX5_mark_98 : decode cX5_mark 98 = .ok (.iaload, 1) := by decide +kernel
theorem dX5_mark_99 : decode cX5_mark 99 = .ok (.iload_n 3, 1) := by decide +kernel
theorem dX5_mark_100 : decode cX5_mark 100 = .ok (.invokestatic 187, 3) := by decide +kernel
theorem dX5_mark_103 : decode cX5_mark 103 = .ok (.iadd, 1) := by decide +kernel
theorem dX5_mark_104 : decode cX5_mark 104 = .ok (.iconst 0, 1) := by decide +kernel
theorem dX5_mark_105 : decode cX5_mark 105 = .ok (.iload_n 3, 1) := by decide +kernel
theorem dX5_mark_106 : decode cX5_mark 106 = .ok (.invokestatic 187, 3) := by decide +kernel
theorem dX5_mark_109 : decode cX5_mark 109 = .ok (.isub, 1) := by decide +kernel
theorem dX5_mark_110 : decode cX5_mark 110 = .ok (.ireturn, 1) := by decide +kernel
theorem dX5_mark_111 : decode cX5_mark 111 = .ok (.aload_n 0, 1) := by decide +kernel
theorem dX5_mark_112 : decode cX5_mark 112 = .ok (.iconst 3, 1) := by decide +kernel
theorem dX5_mark_113 : decode cX5_mark 113 = .ok (.iload_n 3, 1) := by decide +kernel
theorem dX5_mark_114 : decode cX5_mark 114 = .ok (.iconst 0, 1) := by decide +kernel
theorem dX5_mark_115 : decode cX5_mark 115 = .ok (.invokevirtual 191, 3) := by decide +kernel
theorem dX5_mark_118 : decode cX5_mark 118 = .ok (.ireturn, 1) := by decide +kernel
theorem dX5_mark_119 : decode cX5_mark 119 = .ok (.aload_n 0, 1) := by decide +kernel
theorem dX5_mark_120 : decode cX5_mark 120 = .ok (.iconst 4, 1) := by decide +kernel
theorem dX5_mark_121 : decode cX5_mark 121 = .ok (.iload_n 3, 1) := by decide +kernel
theorem dX5_mark_122 : decode cX5_mark 122 = .ok (.iconst 1, 1) := by decide +kernel
theorem dX5_mark_123 : decode cX5_mark 123 = .ok (.invokevirtual 191, 3) := by decide +kernel
theorem dX5_mark_126 : decode cX5_mark 126 = .ok (.ireturn, 1) := by decide +kernel
theorem dX5_mark_127 : decode cX5_mark 127 = .ok (.iconst 2, 1) := by decide +kernel
theorem dX5_mark_128 : decode cX5_mark 128 = .ok (.iload_n 3, 1) := by decide +kernel
theorem dX5_mark_129 : decode cX5_mark 129 = .ok (.invokestatic 187, 3) := by decide +kernel
theorem dX5_mark_132 : decode cX5_mark 132 = .ok (.iconst 5, 1) := by decide +kernel
theorem dX5_mark_133 : decode cX5_mark 133 = .ok (.iload_n 3, 1) := by decide +kernel
theorem dX5_mark_134 : decode cX5_mark 134 = .ok (.invokestatic 187, 3) := by decide +kernel
theorem dX5_mark_137 : decode cX5_mark 137 = .ok (.isub, 1) := by decide +kernel
theorem dX5_mark_138 : decode cX5_mark 138 = .ok (.ireturn, 1) := by decide +kernel
theorem dX5_dreams_0 : decode cX5_dreams 0 = .ok (.aload_n 0, 1) := by decide +kernel
theorem dX5_dreams_1 : decode cX5_dreams 1 = .ok (.iload_n 1, 1) := by decide +kernel
theorem dX5_dreams_2 : decode cX5_dreams 2 = .ok (.invokevirtual 176, 3) := by decide +kernel
theorem dX5_dreams_5 : decode cX5_dreams 5 = .ok (.ifCond .eq 15, 3) := by decide +kernel
theorem dX5_dreams_8 : decode cX5_dreams 8 = .ok (.iload_n 2, 1) := by decide +kernel
theorem dX5_dreams_9 : decode cX5_dreams 9 = .ok (.i2l, 1) := by decide +kernel
theorem dX5_dreams_10 : decode cX5_dreams 10 = .ok (.lconst 0, 1) := by decide +kernel
theorem dX5_dreams_11 : decode cX5_dreams 11 = .ok (.ldc2_w 195, 3) := by decide +kernel
theorem dX5_dreams_14 : decode cX5_dreams 14 = .ok (.invokestatic 77, 3) := by decide +kernel
theorem dX5_dreams_17 : decode cX5_dreams 17 = .ok (.ifCond .ne 5, 3) := by decide +kernel
theorem dX5_dreams_20 : decode cX5_dreams 20 = .ok (.iconst (-1), 1) := by decide +kernel
theorem dX5_dreams_21 : decode cX5_dreams 21 = .ok (.ireturn, 1) := by decide +kernel
theorem dX5_dreams_22 : decode cX5_dreams 22 = .ok (.aload_n 0, 1) := by decide +kernel
theorem dX5_dreams_23 : decode cX5_dreams 23 = .ok (.aload_n 0, 1) := by decide +kernel
theorem dX5_dreams_24 : decode cX5_dreams 24 = .ok (.getfield 35, 3) := by decide +kernel
theorem dX5_dreams_27 : decode cX5_dreams 27 = .ok (.iload_n 1, 1) := by decide +kernel
theorem dX5_dreams_28 : decode cX5_dreams 28 = .ok (.iload_n 2, 1) := by decide +kernel
theorem dX5_dreams_29 : decode cX5_dreams 29 = .ok (.invokevirtual 168, 3) := by decide +kernel
theorem dX5_dreams_32 : decode cX5_dreams 32 = .ok (.ifCond .eq 7, 3) := by decide +kernel
theorem dX5_dreams_35 : decode cX5_dreams 35 = .ok (.iconst 1, 1) := by decide +kernel
theorem dX5_dreams_36 : decode cX5_dreams 36 = .ok (.goto 4, 3) := by decide +kernel
theorem dX5_dreams_39 : decode cX5_dreams 39 = .ok (.iconst 0, 1) := by decide +kernel
theorem dX5_dreams_40 : decode cX5_dreams 40 = .ok (.ireturn, 1) := by decide +kernel
theorem dX5_refuses_0 : decode cX5_refuses 0 = .ok (.aload_n 0, 1) := by decide +kernel
theorem dX5_refuses_1 : decode cX5_refuses 1 = .ok (.getfield 97, 3) := by decide +kernel
theorem dX5_refuses_4 : decode cX5_refuses 4 = .ok (.ifCond .ne 8, 3) := by decide +kernel
theorem dX5_refuses_7 : decode cX5_refuses 7 = .ok (.bipush (-4), 2) := by decide +kernel
theorem dX5_refuses_9 : decode cX5_refuses 9 = .ok (.goto 20, 3) := by decide +kernel
theorem dX5_refuses_12 : decode cX5_refuses 12 = .ok (.aload_n 0, 1) := by decide +kernel
theorem dX5_refuses_13 : decode cX5_refuses 13 = .ok (.getfield 100, 3) := by decide +kernel
theorem dX5_refuses_16 : decode cX5_refuses 16 = .ok (.iload_n 1, 1) := by decide +kernel
theorem dX5_refuses_17 : decode cX5_refuses 17 = .ok (.iadd, 1) := by decide +kernel
theorem dX5_refuses_18 : decode cX5_refuses 18 = .ok (.bipush 40, 2) := by decide +kernel
theorem dX5_refuses_20 : decode cX5_refuses 20 = .ok (.if_icmp .le 8, 3) := by decide +kernel
theorem dX5_refuses_23 : decode cX5_refuses 23 = .ok (.bipush (-2), 2) := by decide +kernel
theorem dX5_refuses_25 : decode cX5_refuses 25 = .ok (.goto 4, 3) := by decide +kernel
theorem dX5_refuses_28 : decode cX5_refuses 28 = .ok (.iconst 0, 1) := by decide +kernel
theorem dX5_refuses_29 : decode cX5_refuses 29 = .ok (.ireturn, 1) := by decide +kernel
theorem dX5_remember_0 : decode cX5_remember 0 = .ok (.aload_n 0, 1) := by decide +kernel
theorem dX5_remember_1 : decode cX5_remember 1 = .ok (.getfield 35, 3) := by decide +kernel
theorem dX5_remember_4 : decode cX5_remember 4 = .ok (.iconst 0, 1) := by decide +kernel
theorem dX5_remember_5 : decode cX5_remember 5 = .ok (.aload_n 0, 1) := by decide +kernel
theorem dX5_remember_6 : decode cX5_remember 6 = .ok (.getfield 41, 3) := by decide +kernel
theorem dX5_remember_9 : decode cX5_remember 9 = .ok (.bipush 9, 2) := by decide +kernel
theorem dX5_remember_11 : decode cX5_remember 11 = .ok (.aload_n 0, 1) := by decide +kernel
theorem dX5_remember_12 : decode cX5_remember 12 = .ok (.getfield 100, 3) := by decide +kernel
theorem dX5_remember_15 : decode cX5_remember 15 = .ok (.imul, 1) := by decide +kernel
theorem dX5_remember_16 : decode cX5_remember 16 = .ok (.bipush 9, 2) := by decide +kernel
theorem dX5_remember_18 : decode cX5_remember 18 = .ok (.invokestatic 197, 3) := by decide +kernel
theorem dX5_remember_21 : decode cX5_remember 21 = .ok (.aload_n 0, 1) := by decide +kernel
theorem dX5_remember_22 : decode cX5_remember 22 = .ok (.dup, 1) := by decide +kernel
theorem dX5_remember_23 : decode cX5_remember 23 = .ok (.getfield 100, 3) := by decide +kernel
theorem dX5_remember_26 : decode cX5_remember 26 = .ok (.iconst 1, 1) := by decide +kernel
theorem dX5_remember_27 : decode cX5_remember 27 = .ok (.iadd, 1) := by decide +kernel
theorem dX5_remember_28 : decode cX5_remember 28 = .ok (.putfield 100, 3) := by decide +kernel
theorem dX5_remember_31 : decode cX5_remember 31 = .ok (.return_, 1) := by decide +kernel
theorem dX5_minute_0 : decode cX5_minute 0 = .ok (.aload_n 0, 1) := by decide +kernel
theorem dX5_minute_1 : decode cX5_minute 1 = .ok (.getfield 97, 3) := by decide +kernel
theorem dX5_minute_4 : decode cX5_minute 4 = .ok (.ifCond .eq 14, 3) := by decide +kernel
theorem dX5_minute_7 : decode cX5_minute 7 = .ok (.aload_n 0, 1) := by decide +kernel
theorem dX5_minute_8 : decode cX5_minute 8 = .ok (.getfield 35, 3) := by decide +kernel
theorem dX5_minute_11 : decode cX5_minute 11 = .ok (.iconst 0, 1) := by decide +kernel
theorem dX5_minute_12 : decode cX5_minute 12 = .ok (.iaload, 1) := by decide +kernel
theorem dX5_minute_13 : decode cX5_minute 13 = .ok (.bipush 99, 2) := by decide +kernel
theorem dX5_minute_15 : decode cX5_minute 15 = .ok (.if_icmp .ne 6, 3) := by decide +kernel
theorem dX5_minute_18 : decode cX5_minute 18 = .ok (.bipush (-4), 2) := by decide +kernel
theorem dX5_minute_20 : decode cX5_minute 20 = .ok (.ireturn, 1) := by decide +kernel
theorem dX5_minute_21 : decode cX5_minute 21 = .ok (.aload_n 0, 1) := by decide +kernel
theorem dX5_minute_22 : decode cX5_minute 22 = .ok (.getfield 100, 3) := by decide +kernel
theorem dX5_minute_25 : decode cX5_minute 25 = .ok (.bipush 40, 2) := by decide +kernel
theorem dX5_minute_27 : decode cX5_minute 27 = .ok (.if_icmp .ne 6, 3) := by decide +kernel
theorem dX5_minute_30 : decode cX5_minute 30 = .ok (.bipush (-2), 2) := by decide +kernel
theorem dX5_minute_32 : decode cX5_minute 32 = .ok (.ireturn, 1) := by decide +kernel
theorem dX5_minute_33 : decode cX5_minute 33 = .ok (.aload_n 0, 1) := by decide +kernel
theorem dX5_minute_34 : decode cX5_minute 34 = .ok (.invokevirtual 201, 3) := by decide +kernel
theorem dX5_minute_37 : decode cX5_minute 37 = .ok (.aload_n 0, 1) := by decide +kernel
theorem dX5_minute_38 : decode cX5_minute 38 = .ok (.aload_n 0, 1) := by decide +kernel
theorem dX5_minute_39 : decode cX5_minute 39 = .ok (.getfield 35, 3) := by decide +kernel
theorem dX5_minute_42 : decode cX5_minute 42 = .ok (.invokevirtual 204, 3) := by decide +kernel
theorem dX5_minute_45 : decode cX5_minute 45 = .ok (.istore_n 1, 1) := by decide +kernel
theorem dX5_minute_46 : decode cX5_minute 46 = .ok (.aload_n 0, 1) := by decide +kernel
theorem dX5_minute_47 : decode cX5_minute 47 = .ok (.getfield 35, 3) := by decide +kernel
theorem dX5_minute_50 : decode cX5_minute 50 = .ok (.iconst 1, 1) := by decide +kernel
theorem dX5_minute_51 : decode cX5_minute 51 = .ok (.iaload, 1) := by decide +kernel
theorem dX5_minute_52 : decode cX5_minute 52 = .ok (.ireturn, 1) := by decide +kernel
theorem dX5_feed_0 : decode cX5_feed 0 = .ok (.aload_n 0, 1) := by decide +kernel
theorem dX5_feed_1 : decode cX5_feed 1 = .ok (.iload_n 1, 1) := by decide +kernel
theorem dX5_feed_2 : decode cX5_feed 2 = .ok (.invokevirtual 176, 3) := by decide +kernel
theorem dX5_feed_5 : decode cX5_feed 5 = .ok (.ifCond .eq 15, 3) := by decide +kernel
theorem dX5_feed_8 : decode cX5_feed 8 = .ok (.iload_n 2, 1) := by decide +kernel
theorem dX5_feed_9 : decode cX5_feed 9 = .ok (.i2l, 1) := by decide +kernel
theorem dX5_feed_10 : decode cX5_feed 10 = .ok (.lconst 0, 1) := by decide +kernel
theorem dX5_feed_11 : decode cX5_feed 11 = .ok (.ldc2_w 207, 3) := by decide +kernel
theorem dX5_feed_14 : decode cX5_feed 14 = .ok (.invokestatic 77, 3) := by decide +kernel
theorem dX5_feed_17 : decode cX5_feed 17 = .ok (.ifCond .ne 5, 3) := by decide +kernel
theorem dX5_feed_20 : decode cX5_feed 20 = .ok (.iconst (-1), 1) := by decide +kernel
theorem dX5_feed_21 : decode cX5_feed 21 = .ok (.ireturn, 1) := by decide +kernel
theorem dX5_feed_22 : decode cX5_feed 22 = .ok (.aload_n 0, 1) := by decide +kernel
theorem dX5_feed_23 : decode cX5_feed 23 = .ok (.getfield 100, 3) := by decide +kernel
theorem dX5_feed_26 : decode cX5_feed 26 = .ok (.bipush 40, 2) := by decide +kernel
theorem dX5_feed_28 : decode cX5_feed 28 = .ok (.if_icmp .ne 6, 3) := by decide +kernel
theorem dX5_feed_31 : decode cX5_feed 31 = .ok (.bipush (-2), 2) := by decide +kernel
theorem dX5_feed_33 : decode cX5_feed 33 = .ok (.ireturn, 1) := by decide +kernel
theorem dX5_feed_34 : decode cX5_feed 34 = .ok (.aload_n 0, 1) := by decide +kernel
theorem dX5_feed_35 : decode cX5_feed 35 = .ok (.invokevirtual 201, 3) := by decide +kernel
theorem dX5_feed_38 : decode cX5_feed 38 = .ok (.aload_n 0, 1) := by decide +kernel
theorem dX5_feed_39 : decode cX5_feed 39 = .ok (.getfield 35, 3) := by decide +kernel
theorem dX5_feed_42 : decode cX5_feed 42 = .ok (.iconst 3, 1) := by decide +kernel
theorem dX5_feed_43 : decode cX5_feed 43 = .ok (.iload_n 1, 1) := by decide +kernel
theorem dX5_feed_44 : decode cX5_feed 44 = .ok (.iadd, 1) := by decide +kernel
theorem dX5_feed_45 : decode cX5_feed 45 = .ok (.iaload, 1) := by decide +kernel
theorem dX5_feed_46 : decode cX5_feed 46 = .ok (.istore_n 3, 1) := by decide +kernel
theorem dX5_feed_47 : decode cX5_feed 47 = .ok (.aload_n 0, 1) := by decide +kernel
theorem dX5_feed_48 : decode cX5_feed 48 = .ok (.getfield 35, 3) := by decide +kernel
theorem dX5_feed_51 : decode cX5_feed 51 = .ok (.iconst 3, 1) := by decide +kernel
theorem dX5_feed_52 : decode cX5_feed 52 = .ok (.iload_n 1, 1) := by decide +kernel
theorem dX5_feed_53 : decode cX5_feed 53 = .ok (.iadd, 1) := by decide +kernel
theorem dX5_feed_54 : decode cX5_feed 54 = .ok (.iload_n 2, 1) := by decide +kernel
theorem dX5_feed_55 : decode cX5_feed 55 = .ok (.iastore, 1) := by decide +kernel
theorem dX5_feed_56 : decode cX5_feed 56 = .ok (.iload_n 3, 1) := by decide +kernel
theorem dX5_feed_57 : decode cX5_feed 57 = .ok (.ireturn, 1) := by decide +kernel
theorem dX5_wake_0 : decode cX5_wake 0 = .ok (.aload_n 0, 1) := by decide +kernel
theorem dX5_wake_1 : decode cX5_wake 1 = .ok (.iload_n 1, 1) := by decide +kernel
theorem dX5_wake_2 : decode cX5_wake 2 = .ok (.invokevirtual 176, 3) := by decide +kernel
theorem dX5_wake_5 : decode cX5_wake 5 = .ok (.ifCond .ne 5, 3) := by decide +kernel
theorem dX5_wake_8 : decode cX5_wake 8 = .ok (.iconst (-1), 1) := by decide +kernel
theorem dX5_wake_9 : decode cX5_wake 9 = .ok (.ireturn, 1) := by decide +kernel
theorem dX5_wake_10 : decode cX5_wake 10 = .ok (.aload_n 0, 1) := by decide +kernel
theorem dX5_wake_11 : decode cX5_wake 11 = .ok (.getfield 35, 3) := by decide +kernel
theorem dX5_wake_14 : decode cX5_wake 14 = .ok (.iconst 2, 1) := by decide +kernel
theorem dX5_wake_15 : decode cX5_wake 15 = .ok (.iaload, 1) := by decide +kernel
theorem dX5_wake_16 : decode cX5_wake 16 = .ok (.iload_n 1, 1) := by decide +kernel
theorem dX5_wake_17 : decode cX5_wake 17 = .ok (.invokestatic 165, 3) := by decide +kernel
theorem dX5_wake_20 : decode cX5_wake 20 = .ok (.ifCond .ne 6, 3) := by decide +kernel
theorem dX5_wake_23 : decode cX5_wake 23 = .ok (.bipush (-4), 2) := by decide +kernel
theorem dX5_wake_25 : decode cX5_wake 25 = .ok (.ireturn, 1) := by decide +kernel
theorem dX5_wake_26 : decode cX5_wake 26 = .ok (.aload_n 0, 1) := by decide +kernel
theorem dX5_wake_27 : decode cX5_wake 27 = .ok (.getfield 100, 3) := by decide +kernel
theorem dX5_wake_30 : decode cX5_wake 30 = .ok (.bipush 40, 2) := by decide +kernel
theorem dX5_wake_32 : decode cX5_wake 32 = .ok (.if_icmp .ne 6, 3) := by decide +kernel
theorem dX5_wake_35 : decode cX5_wake 35 = .ok (.bipush (-2), 2) := by decide +kernel
theorem dX5_wake_37 : decode cX5_wake 37 = .ok (.ireturn, 1) := by decide +kernel
theorem dX5_wake_38 : decode cX5_wake 38 = .ok (.aload_n 0, 1) := by decide +kernel
theorem dX5_wake_39 : decode cX5_wake 39 = .ok (.invokevirtual 201, 3) := by decide +kernel
theorem dX5_wake_42 : decode cX5_wake 42 = .ok (.aload_n 0, 1) := by decide +kernel
theorem dX5_wake_43 : decode cX5_wake 43 = .ok (.iload_n 1, 1) := by decide +kernel
theorem dX5_wake_44 : decode cX5_wake 44 = .ok (.invokevirtual 181, 3) := by decide +kernel
theorem dX5_wake_47 : decode cX5_wake 47 = .ok (.istore_n 2, 1) := by decide +kernel
theorem dX5_wake_48 : decode cX5_wake 48 = .ok (.aload_n 0, 1) := by decide +kernel
theorem dX5_wake_49 : decode cX5_wake 49 = .ok (.getfield 35, 3) := by decide +kernel
theorem dX5_wake_52 : decode cX5_wake 52 = .ok (.iconst 2, 1) := by decide +kernel
theorem dX5_wake_53 : decode cX5_wake 53 = .ok (.dup2, 1) := by decide +kernel
theorem dX5_wake_54 : decode cX5_wake 54 = .ok (.iaload, 1) := by decide +kernel
theorem dX5_wake_55 : decode cX5_wake 55 = .ok (.iconst 1, 1) := by decide +kernel
theorem dX5_wake_56 : decode cX5_wake 56 = .ok (.iload_n 1, 1) := by decide +kernel
theorem dX5_wake_57 : decode cX5_wake 57 = .ok (.ishl, 1) := by decide +kernel
theorem dX5_wake_58 : decode cX5_wake 58 = .ok (.ixor, 1) := by decide +kernel
theorem dX5_wake_59 : decode cX5_wake 59 = .ok (.iastore, 1) := by decide +kernel
theorem dX5_wake_60 : decode cX5_wake 60 = .ok (.iload_n 2, 1) := by decide +kernel
theorem dX5_wake_61 : decode cX5_wake 61 = .ok (.ifCond .eq 7, 3) := by decide +kernel
theorem dX5_wake_64 : decode cX5_wake 64 = .ok (.iconst 1, 1) := by decide +kernel
theorem dX5_wake_65 : decode cX5_wake 65 = .ok (.goto 4, 3) := by decide +kernel
theorem dX5_wake_68 : decode cX5_wake 68 = .ok (.iconst 0, 1) := by decide +kernel
theorem dX5_wake_69 : decode cX5_wake 69 = .ok (.ireturn, 1) := by decide +kernel
theorem dX5_lull_0 : decode cX5_lull 0 = .ok (.aload_n 0, 1) := by decide +kernel
theorem dX5_lull_1 : decode cX5_lull 1 = .ok (.iload_n 1, 1) := by decide +kernel
theorem dX5_lull_2 : decode cX5_lull 2 = .ok (.invokevirtual 176, 3) := by decide +kernel
theorem dX5_lull_5 : decode cX5_lull 5 = .ok (.ifCond .ne 5, 3) := by decide +kernel
theorem dX5_lull_8 : decode cX5_lull 8 = .ok (.iconst (-1), 1) := by decide +kernel
theorem dX5_lull_9 : decode cX5_lull 9 = .ok (.ireturn, 1) := by decide +kernel
theorem dX5_lull_10 : decode cX5_lull 10 = .ok (.aload_n 0, 1) := by decide +kernel
theorem dX5_lull_11 : decode cX5_lull 11 = .ok (.getfield 35, 3) := by decide +kernel
theorem dX5_lull_14 : decode cX5_lull 14 = .ok (.iconst 2, 1) := by decide +kernel
theorem dX5_lull_15 : decode cX5_lull 15 = .ok (.iaload, 1) := by decide +kernel
theorem dX5_lull_16 : decode cX5_lull 16 = .ok (.iload_n 1, 1) := by decide +kernel
theorem dX5_lull_17 : decode cX5_lull 17 = .ok (.invokestatic 165, 3) := by decide +kernel
theorem dX5_lull_20 : decode cX5_lull 20 = .ok (.ifCond .eq 6, 3) := by decide +kernel
theorem dX5_lull_23 : decode cX5_lull 23 = .ok (.bipush (-4), 2) := by decide +kernel
theorem dX5_lull_25 : decode cX5_lull 25 = .ok (.ireturn, 1) := by decide +kernel
theorem dX5_lull_26 : decode cX5_lull 26 = .ok (.aload_n 0, 1) := by decide +kernel
theorem dX5_lull_27 : decode cX5_lull 27 = .ok (.getfield 100, 3) := by decide +kernel
theorem dX5_lull_30 : decode cX5_lull 30 = .ok (.bipush 40, 2) := by decide +kernel
theorem dX5_lull_32 : decode cX5_lull 32 = .ok (.if_icmp .ne 6, 3) := by decide +kernel
theorem dX5_lull_35 : decode cX5_lull 35 = .ok (.bipush (-2), 2) := by decide +kernel
theorem dX5_lull_37 : decode cX5_lull 37 = .ok (.ireturn, 1) := by decide +kernel
theorem dX5_lull_38 : decode cX5_lull 38 = .ok (.aload_n 0, 1) := by decide +kernel
theorem dX5_lull_39 : decode cX5_lull 39 = .ok (.invokevirtual 201, 3) := by decide +kernel
theorem dX5_lull_42 : decode cX5_lull 42 = .ok (.aload_n 0, 1) := by decide +kernel
theorem dX5_lull_43 : decode cX5_lull 43 = .ok (.getfield 35, 3) := by decide +kernel
theorem dX5_lull_46 : decode cX5_lull 46 = .ok (.iconst 2, 1) := by decide +kernel
theorem dX5_lull_47 : decode cX5_lull 47 = .ok (.dup2, 1) := by decide +kernel
theorem dX5_lull_48 : decode cX5_lull 48 = .ok (.iaload, 1) := by decide +kernel
theorem dX5_lull_49 : decode cX5_lull 49 = .ok (.iconst 1, 1) := by decide +kernel
theorem dX5_lull_50 : decode cX5_lull 50 = .ok (.iload_n 1, 1) := by decide +kernel
theorem dX5_lull_51 : decode cX5_lull 51 = .ok (.ishl, 1) := by decide +kernel
theorem dX5_lull_52 : decode cX5_lull 52 = .ok (.ixor, 1) := by decide +kernel
theorem dX5_lull_53 : decode cX5_lull 53 = .ok (.iastore, 1) := by decide +kernel
theorem dX5_lull_54 : decode cX5_lull 54 = .ok (.aload_n 0, 1) := by decide +kernel
theorem dX5_lull_55 : decode cX5_lull 55 = .ok (.iload_n 1, 1) := by decide +kernel
theorem dX5_lull_56 : decode cX5_lull 56 = .ok (.invokevirtual 181, 3) := by decide +kernel
theorem dX5_lull_59 : decode cX5_lull 59 = .ok (.ifCond .eq 7, 3) := by decide +kernel
theorem dX5_lull_62 : decode cX5_lull 62 = .ok (.iconst 1, 1) := by decide +kernel
theorem dX5_lull_63 : decode cX5_lull 63 = .ok (.goto 4, 3) := by decide +kernel
theorem dX5_lull_66 : decode cX5_lull 66 = .ok (.iconst 0, 1) := by decide +kernel
theorem dX5_lull_67 : decode cX5_lull 67 = .ok (.ireturn, 1) := by decide +kernel
theorem dX5_undo_0 : decode cX5_undo 0 = .ok (.iload_n 1, 1) := by decide +kernel
theorem dX5_undo_1 : decode cX5_undo 1 = .ok (.i2l, 1) := by decide +kernel
theorem dX5_undo_2 : decode cX5_undo 2 = .ok (.lconst 0, 1) := by decide +kernel
theorem dX5_undo_3 : decode cX5_undo 3 = .ok (.aload_n 0, 1) := by decide +kernel
theorem dX5_undo_4 : decode cX5_undo 4 = .ok (.getfield 100, 3) := by decide +kernel
theorem dX5_undo_7 : decode cX5_undo 7 = .ok (.i2l, 1) := by decide +kernel
theorem dX5_undo_8 : decode cX5_undo 8 = .ok (.invokestatic 77, 3) := by decide +kernel
theorem dX5_undo_11 : decode cX5_undo 11 = .ok (.ifCond .ne 5, 3) := by decide +kernel
theorem dX5_undo_14 : decode cX5_undo 14 = .ok (.iconst (-1), 1) := by decide +kernel
theorem dX5_undo_15 : decode cX5_undo 15 = .ok (.ireturn, 1) := by decide +kernel
theorem dX5_undo_16 : decode cX5_undo 16 = .ok (.aload_n 0, 1) := by decide +kernel
theorem dX5_undo_17 : decode cX5_undo 17 = .ok (.getfield 100, 3) := by decide +kernel
theorem dX5_undo_20 : decode cX5_undo 20 = .ok (.iload_n 1, 1) := by decide +kernel
theorem dX5_undo_21 : decode cX5_undo 21 = .ok (.isub, 1) := by decide +kernel
theorem dX5_undo_22 : decode cX5_undo 22 = .ok (.istore_n 2, 1) := by decide +kernel
theorem dX5_undo_23 : decode cX5_undo 23 = .ok (.iload_n 2, 1) := by decide +kernel
theorem dX5_undo_24 : decode cX5_undo 24 = .ok (.ifCond .le 21, 3) := by decide +kernel
theorem dX5_undo_27 : decode cX5_undo 27 = .ok (.aload_n 0, 1) := by decide +kernel
theorem dX5_undo_28 : decode cX5_undo 28 = .ok (.getfield 41, 3) := by decide +kernel
theorem dX5_undo_31 : decode cX5_undo 31 = .ok (.bipush 9, 2) := by decide +kernel
theorem dX5_undo_33 : decode cX5_undo 33 = .ok (.iload_n 1, 1) := by decide +kernel
theorem dX5_undo_34 : decode cX5_undo 34 = .ok (.imul, 1) := by decide +kernel
theorem dX5_undo_35 : decode cX5_undo 35 = .ok (.aload_n 0, 1) := by decide +kernel
theorem dX5_undo_36 : decode cX5_undo 36 = .ok (.getfield 35, 3) := by decide +kernel
theorem dX5_undo_39 : decode cX5_undo 39 = .ok (.iconst 0, 1) := by decide +kernel
theorem dX5_undo_40 : decode cX5_undo 40 = .ok (.bipush 9, 2) := by decide +kernel
theorem dX5_undo_42 : decode cX5_undo 42 = .ok (.invokestatic 197, 3) := by decide +kernel
theorem dX5_undo_45 : decode cX5_undo 45 = .ok (.aload_n 0, 1) := by decide +kernel
theorem dX5_undo_46 : decode cX5_undo 46 = .ok (.iload_n 1, 1) := by decide +kernel
theorem dX5_undo_47 : decode cX5_undo 47 = .ok (.putfield 100, 3) := by decide +kernel
theorem dX5_undo_50 : decode cX5_undo 50 = .ok (.iload_n 2, 1) := by decide +kernel
theorem dX5_undo_51 : decode cX5_undo 51 = .ok (.ireturn, 1) := by decide +kernel
theorem dX5_keep_0 : decode cX5_keep 0 = .ok (.iload_n 1, 1) := by decide +kernel
theorem dX5_keep_1 : decode cX5_keep 1 = .ok (.i2l, 1) := by decide +kernel
theorem dX5_keep_2 : decode cX5_keep 2 = .ok (.lconst 0, 1) := by decide +kernel
theorem dX5_keep_3 : decode cX5_keep 3 = .ok (.ldc2_w 209, 3) := by decide +kernel
theorem dX5_keep_6 : decode cX5_keep 6 = .ok (.invokestatic 77, 3) := by decide +kernel
theorem dX5_keep_9 : decode cX5_keep 9 = .ok (.ifCond .ne 5, 3) := by decide +kernel
theorem dX5_keep_12 : decode cX5_keep 12 = .ok (.iconst (-1), 1) := by decide +kernel
theorem dX5_keep_13 : decode cX5_keep 13 = .ok (.ireturn, 1) := by decide +kernel
theorem dX5_keep_14 : decode cX5_keep 14 = .ok (.aload_n 0, 1) := by decide +kernel
theorem dX5_keep_15 : decode cX5_keep 15 = .ok (.getfield 97, 3) := by decide +kernel
theorem dX5_keep_18 : decode cX5_keep 18 = .ok (.ifCond .ne 6, 3) := by decide +kernel
theorem dX5_keep_21 : decode cX5_keep 21 = .ok (.bipush (-4), 2) := by decide +kernel
theorem dX5_keep_23 : decode cX5_keep 23 = .ok (.ireturn, 1) := by decide +kernel
theorem dX5_keep_24 : decode cX5_keep 24 = .ok (.aload_n 0, 1) := by decide +kernel
theorem dX5_keep_25 : decode cX5_keep 25 = .ok (.getfield 44, 3) := by decide +kernel
theorem dX5_keep_28 : decode cX5_keep 28 = .ok (.sipush 370, 3) := by decide +kernel
theorem dX5_keep_31 : decode cX5_keep 31 = .ok (.iload_n 1, 1) := by decide +kernel
theorem dX5_keep_32 : decode cX5_keep 32 = .ok (.imul, 1) := by decide +kernel
theorem dX5_keep_33 : decode cX5_keep 33 = .ok (.aload_n 0, 1) := by decide +kernel
theorem dX5_keep_34 : decode cX5_keep 34 = .ok (.getfield 100, 3) := by decide +kernel
theorem dX5_keep_37 : decode cX5_keep 37 = .ok (.iastore, 1) := by decide +kernel
theorem dX5_keep_38 : decode cX5_keep 38 = .ok (.aload_n 0, 1) := by decide +kernel
theorem dX5_keep_39 : decode cX5_keep 39 = .ok (.getfield 35, 3) := by decide +kernel
theorem dX5_keep_42 : decode cX5_keep 42 = .ok (.iconst 0, 1) := by decide +kernel
theorem dX5_keep_43 : decode cX5_keep 43 = .ok (.aload_n 0, 1) := by decide +kernel
theorem dX5_keep_44 : decode cX5_keep 44 = .ok (.getfield 44, 3) := by decide +kernel
theorem dX5_keep_47 : decode cX5_keep 47 = .ok (.sipush 370, 3) := by decide +kernel
theorem dX5_keep_50 : decode cX5_keep 50 = .ok (.iload_n 1, 1) := by decide +kernel
theorem dX5_keep_51 : decode cX5_keep 51 = .ok (.imul, 1) := by decide +kernel
theorem dX5_keep_52 : decode cX5_keep 52 = .ok (.iconst 1, 1) := by decide +kernel
theorem dX5_keep_53 : decode cX5_keep 53 = .ok (.iadd, 1) := by decide +kernel
theorem dX5_keep_54 : decode cX5_keep 54 = .ok (.bipush 9, 2) := by decide +kernel
theorem dX5_keep_56 : decode cX5_keep 56 = .ok (.invokestatic 197, 3) := by decide +kernel
theorem dX5_keep_59 : decode cX5_keep 59 = .ok (.aload_n 0, 1) := by decide +kernel
theorem dX5_keep_60 : decode cX5_keep 60 = .ok (.getfield 41, 3) := by decide +kernel
theorem dX5_keep_63 : decode cX5_keep 63 = .ok (.iconst 0, 1) := by decide +kernel
theorem dX5_keep_64 : decode cX5_keep 64 = .ok (.aload_n 0, 1) := by decide +kernel
theorem dX5_keep_65 : decode cX5_keep 65 = .ok (.getfield 44, 3) := by decide +kernel
theorem dX5_keep_68 : decode cX5_keep 68 = .ok (.sipush 370, 3) := by decide +kernel
theorem dX5_keep_71 : decode cX5_keep 71 = .ok (.iload_n 1, 1) := by decide +kernel
theorem dX5_keep_72 : decode cX5_keep 72 = .ok (.imul, 1) := by decide +kernel
theorem dX5_keep_73 : decode cX5_keep 73 = .ok (.iconst 1, 1) := by decide +kernel
theorem dX5_keep_74 : decode cX5_keep 74 = .ok (.iadd, 1) := by decide +kernel
theorem dX5_keep_75 : decode cX5_keep 75 = .ok (.bipush 9, 2) := by decide +kernel
theorem dX5_keep_77 : decode cX5_keep 77 = .ok (.iadd, 1) := by decide +kernel
theorem dX5_keep_78 : decode cX5_keep 78 = .ok (.sipush 360, 3) := by decide +kernel
theorem dX5_keep_81 : decode cX5_keep 81 = .ok (.invokestatic 197, 3) := by decide +kernel
theorem dX5_keep_84 : decode cX5_keep 84 = .ok (.aload_n 0, 1) := by decide +kernel
theorem dX5_keep_85 : decode cX5_keep 85 = .ok (.getfield 100, 3) := by decide +kernel
theorem dX5_keep_88 : decode cX5_keep 88 = .ok (.ireturn, 1) := by decide +kernel
theorem dX5_on_0 : decode cX5_on 0 = .ok (.iload_n 1, 1) := by decide +kernel
theorem dX5_on_1 : decode cX5_on 1 = .ok (.i2l, 1) := by decide +kernel
theorem dX5_on_2 : decode cX5_on 2 = .ok (.lconst 0, 1) := by decide +kernel
theorem dX5_on_3 : decode cX5_on 3 = .ok (.ldc2_w 209, 3) := by decide +kernel
theorem dX5_on_6 : decode cX5_on 6 = .ok (.invokestatic 77, 3) := by decide +kernel
theorem dX5_on_9 : decode cX5_on 9 = .ok (.ifCond .ne 5, 3) := by decide +kernel
theorem dX5_on_12 : decode cX5_on 12 = .ok (.iconst (-1), 1) := by decide +kernel
theorem dX5_on_13 : decode cX5_on 13 = .ok (.ireturn, 1) := by decide +kernel
theorem dX5_on_14 : decode cX5_on 14 = .ok (.aload_n 0, 1) := by decide +kernel
theorem dX5_on_15 : decode cX5_on 15 = .ok (.getfield 44, 3) := by decide +kernel
theorem dX5_on_18 : decode cX5_on 18 = .ok (.sipush 370, 3) := by decide +kernel
theorem dX5_on_21 : decode cX5_on 21 = .ok (.iload_n 1, 1) := by decide +kernel
theorem dX5_on_22 : decode cX5_on 22 = .ok (.imul, 1) := by decide +kernel
theorem dX5_on_23 : decode cX5_on 23 = .ok (.iaload, 1) := by decide +kernel
theorem dX5_on_24 : decode cX5_on 24 = .ok (.ifCond .ge 9, 3) := by decide +kernel
theorem dX5_on_27 : decode cX5_on 27 = .ok (.aload_n 0, 1) := by decide +kernel
theorem dX5_on_28 : decode cX5_on 28 = .ok (.iconst 1, 1) := by decide +kernel
theorem dX5_on_29 : decode cX5_on 29 = .ok (.invokevirtual 87, 3) := by decide +kernel
theorem dX5_on_32 : decode cX5_on 32 = .ok (.ireturn, 1) := by decide +kernel
theorem dX5_on_33 : decode cX5_on 33 = .ok (.aload_n 0, 1) := by decide +kernel
theorem dX5_on_34 : decode cX5_on 34 = .ok (.aload_n 0, 1) := by decide +kernel
theorem dX5_on_35 : decode cX5_on 35 = .ok (.getfield 44, 3) := by decide +kernel
theorem dX5_on_38 : decode cX5_on 38 = .ok (.sipush 370, 3) := by decide +kernel
theorem dX5_on_41 : decode cX5_on 41 = .ok (.iload_n 1, 1) := by decide +kernel
theorem dX5_on_42 : decode cX5_on 42 = .ok (.imul, 1) := by decide +kernel
theorem dX5_on_43 : decode cX5_on 43 = .ok (.iaload, 1) := by decide +kernel
theorem dX5_on_44 : decode cX5_on 44 = .ok (.putfield 100, 3) := by decide +kernel
theorem dX5_on_47 : decode cX5_on 47 = .ok (.aload_n 0, 1) := by decide +kernel
theorem dX5_on_48 : decode cX5_on 48 = .ok (.getfield 44, 3) := by decide +kernel
theorem dX5_on_51 : decode cX5_on 51 = .ok (.sipush 370, 3) := by decide +kernel
theorem dX5_on_54 : decode cX5_on 54 = .ok (.iload_n 1, 1) := by decide +kernel
theorem dX5_on_55 : decode cX5_on 55 = .ok (.imul, 1) := by decide +kernel
theorem dX5_on_56 : decode cX5_on 56 = .ok (.iconst 1, 1) := by decide +kernel
theorem dX5_on_57 : decode cX5_on 57 = .ok (.iadd, 1) := by decide +kernel
theorem dX5_on_58 : decode cX5_on 58 = .ok (.aload_n 0, 1) := by decide +kernel
theorem dX5_on_59 : decode cX5_on 59 = .ok (.getfield 35, 3) := by decide +kernel
theorem dX5_on_62 : decode cX5_on 62 = .ok (.iconst 0, 1) := by decide +kernel
theorem dX5_on_63 : decode cX5_on 63 = .ok (.bipush 9, 2) := by decide +kernel
theorem dX5_on_65 : decode cX5_on 65 = .ok (.invokestatic 197, 3) := by decide +kernel
theorem dX5_on_68 : decode cX5_on 68 = .ok (.aload_n 0, 1) := by decide +kernel
theorem dX5_on_69 : decode cX5_on 69 = .ok (.getfield 44, 3) := by decide +kernel
theorem dX5_on_72 : decode cX5_on 72 = .ok (.sipush 370, 3) := by decide +kernel
theorem dX5_on_75 : decode cX5_on 75 = .ok (.iload_n 1, 1) := by decide +kernel
theorem dX5_on_76 : decode cX5_on 76 = .ok (.imul, 1) := by decide +kernel
theorem dX5_on_77 : decode cX5_on 77 = .ok (.iconst 1, 1) := by decide +kernel
theorem dX5_on_78 : decode cX5_on 78 = .ok (.iadd, 1) := by decide +kernel
theorem dX5_on_79 : decode cX5_on 79 = .ok (.bipush 9, 2) := by decide +kernel
theorem dX5_on_81 : decode cX5_on 81 = .ok (.iadd, 1) := by decide +kernel
theorem dX5_on_82 : decode cX5_on 82 = .ok (.aload_n 0, 1) := by decide +kernel
theorem dX5_on_83 : decode cX5_on 83 = .ok (.getfield 41, 3) := by decide +kernel
theorem dX5_on_86 : decode cX5_on 86 = .ok (.iconst 0, 1) := by decide +kernel
theorem dX5_on_87 : decode cX5_on 87 = .ok (.sipush 360, 3) := by decide +kernel
theorem dX5_on_90 : decode cX5_on 90 = .ok (.invokestatic 197, 3) := by decide +kernel
theorem dX5_on_93 : decode cX5_on 93 = .ok (.aload_n 0, 1) := by decide +kernel
theorem dX5_on_94 : decode cX5_on 94 = .ok (.getfield 100, 3) := by decide +kernel
theorem dX5_on_97 : decode cX5_on 97 = .ok (.ireturn, 1) := by decide +kernel
theorem dX5_layAside_0 : decode cX5_layAside 0 = .ok (.aload_n 0, 1) := by decide +kernel
theorem dX5_layAside_1 : decode cX5_layAside 1 = .ok (.getfield 35, 3) := by decide +kernel
theorem dX5_layAside_4 : decode cX5_layAside 4 = .ok (.iconst 0, 1) := by decide +kernel
theorem dX5_layAside_5 : decode cX5_layAside 5 = .ok (.aload_n 0, 1) := by decide +kernel
theorem dX5_layAside_6 : decode cX5_layAside 6 = .ok (.getfield 38, 3) := by decide +kernel
theorem dX5_layAside_9 : decode cX5_layAside 9 = .ok (.iconst 0, 1) := by decide +kernel
theorem dX5_layAside_10 : decode cX5_layAside 10 = .ok (.bipush 9, 2) := by decide +kernel
theorem dX5_layAside_12 : decode cX5_layAside 12 = .ok (.invokestatic 197, 3) := by decide +kernel
theorem dX5_layAside_15 : decode cX5_layAside 15 = .ok (.return_, 1) := by decide +kernel
theorem dX5_placeBehind_0 : decode cX5_placeBehind 0 = .ok (.iconst 0, 1) := by decide +kernel
theorem dX5_placeBehind_1 : decode cX5_placeBehind 1 = .ok (.istore_n 2, 1) := by decide +kernel
theorem dX5_placeBehind_2 : decode cX5_placeBehind 2 = .ok (.iload_n 2, 1) := by decide +kernel
theorem dX5_placeBehind_3 : decode cX5_placeBehind 3 = .ok (.iload_n 1, 1) := by decide +kernel
theorem dX5_placeBehind_4 : decode cX5_placeBehind 4 = .ok (.if_icmp .ge 18, 3) := by decide +kernel
theorem dX5_placeBehind_7 : decode cX5_placeBehind 7 = .ok (.aload_n 0, 1) := by decide +kernel
theorem dX5_placeBehind_8 : decode cX5_placeBehind 8 = .ok (.aload_n 0, 1) := by decide +kernel
theorem dX5_placeBehind_9 : decode cX5_placeBehind 9 = .ok (.getfield 38, 3) := by decide +kernel
theorem dX5_placeBehind_12 : decode cX5_placeBehind 12 = .ok (.invokevirtual 204, 3) := by decide +kernel
theorem dX5_placeBehind_15 : decode cX5_placeBehind 15 = .ok (.istore_n 3, 1) := by decide +kernel
theorem dX5_placeBehind_16 : decode cX5_placeBehind 16 = .ok (.iinc 2 1, 3) := by decide +kernel
theorem dX5_placeBehind_19 : decode cX5_placeBehind 19 = .ok (.goto (-17), 3) := by decide +kernel
theorem dX5_placeBehind_22 : decode cX5_placeBehind 22 = .ok (.aload_n 0, 1) := by decide +kernel
theorem dX5_placeBehind_23 : decode cX5_placeBehind 23 = .ok (.getfield 38, 3) := by decide +kernel
theorem dX5_placeBehind_26 : decode cX5_placeBehind 26 = .ok (.iconst 1, 1) := by decide +kernel
theorem dX5_placeBehind_27 : decode cX5_placeBehind 27 = .ok (.iaload, 1) := by decide +kernel
theorem dX5_placeBehind_28 : decode cX5_placeBehind 28 = .ok (.ireturn, 1) := by decide +kernel
