theorem dX6_walkForward_17 : decode cX6_walkForward 17 = .ok (.aload_n 0, 1) := by decide +kernel
theorem dX6_walkForward_18 : decode cX6_walkForward 18 = .ok (.getfield 34, 3) := by decide +kernel
theorem dX6_walkForward_21 : decode cX6_walkForward 21 = .ok (.invokevirtual 75, 3) := by decide +kernel
theorem dX6_walkForward_24 : decode cX6_walkForward 24 = .ok (.istore_n 1, 1) := by decide +kernel
theorem dX6_walkForward_25 : decode cX6_walkForward 25 = .ok (.iconst 0, 1) := by decide +kernel
theorem dX6_walkForward_26 : decode cX6_walkForward 26 = .ok (.istore_n 2, 1) := by decide +kernel
theorem dX6_walkForward_27 : decode cX6_walkForward 27 = .ok (.iload_n 2, 1) := by decide +kernel
theorem dX6_walkForward_28 : decode cX6_walkForward 28 = .ok (.iload_n 1, 1) := by decide +kernel
theorem dX6_walkForward_29 : decode cX6_walkForward 29 = .ok (.if_icmp .gt 80, 3) := by decide +kernel
theorem dX6_walkForward_32 : decode cX6_walkForward 32 = .ok (.iload_n 2, 1) := by decide +kernel
theorem dX6_walkForward_33 : decode cX6_walkForward 33 = .ok (.invokestatic 103, 3) := by decide +kernel
theorem dX6_walkForward_36 : decode cX6_walkForward 36 = .ok (.istore_n 3, 1) := by decide +kernel
theorem dX6_walkForward_37 : decode cX6_walkForward 37 = .ok (.aload_n 0, 1) := by decide +kernel
theorem dX6_walkForward_38 : decode cX6_walkForward 38 = .ok (.getfield 31, 3) := by decide +kernel
theorem dX6_walkForward_41 : decode cX6_walkForward 41 = .ok (.iload_n 2, 1) := by decide +kernel
theorem dX6_walkForward_42 : decode cX6_walkForward 42 = .ok (.laload, 1) := by decide +kernel
theorem dX6_walkForward_43 : decode cX6_walkForward 43 = .ok (.lconst 0, 1) := by decide +kernel
theorem dX6_walkForward_44 : decode cX6_walkForward 44 = .ok (.lcmp, 1) := by decide +kernel
theorem dX6_walkForward_45 : decode cX6_walkForward 45 = .ok (.ifCond .eq 58, 3) := by decide +kernel
theorem dX6_walkForward_48 : decode cX6_walkForward 48 = .ok (.iload_n 3, 1) := by decide +kernel
theorem dX6_walkForward_49 : decode cX6_walkForward 49 = .ok (.aload_n 0, 1) := by decide +kernel
theorem dX6_walkForward_50 : decode cX6_walkForward 50 = .ok (.getfield 34, 3) := by decide +kernel
theorem dX6_walkForward_53 : decode cX6_walkForward 53 = .ok (.getfield 65, 3) := by decide +kernel
theorem dX6_walkForward_56 : decode cX6_walkForward 56 = .ok (.if_icmp .ge 47, 3) := by decide +kernel
theorem dX6_walkForward_59 : decode cX6_walkForward 59 = .ok (.aload_n 0, 1) := by decide +kernel
theorem dX6_walkForward_60 : decode cX6_walkForward 60 = .ok (.getfield 34, 3) := by decide +kernel
theorem dX6_walkForward_63 : decode cX6_walkForward 63 = .ok (.iload_n 2, 1) := by decide +kernel
theorem dX6_walkForward_64 : decode cX6_walkForward 64 = .ok (.aload_n 0, 1) := by decide +kernel
theorem dX6_walkForward_65 : decode cX6_walkForward 65 = .ok (.getfield 34, 3) := by decide +kernel
theorem dX6_walkForward_68 : decode cX6_walkForward 68 = .ok (.getfield 109, 3) := by decide +kernel
theorem dX6_walkForward_71 : decode cX6_walkForward 71 = .ok (.iload_n 3, 1) := by decide +kernel
theorem dX6_walkForward_72 : decode cX6_walkForward 72 = .ok (.iaload, 1) := by decide +kernel
theorem dX6_walkForward_73 : decode cX6_walkForward 73 = .ok (.aload_n 0, 1) := by decide +kernel
theorem dX6_walkForward_74 : decode cX6_walkForward 74 = .ok (.getfield 25, 3) := by decide +kernel
theorem dX6_walkForward_77 : decode cX6_walkForward 77 = .ok (.iload_n 3, 1) := by decide +kernel
theorem dX6_walkForward_78 : decode cX6_walkForward 78 = .ok (.iaload, 1) := by decide +kernel
theorem dX6_walkForward_79 : decode cX6_walkForward 79 = .ok (.invokevirtual 112, 3) := by decide +kernel
theorem dX6_walkForward_82 : decode cX6_walkForward 82 = .ok (.istore 4, 2) := by decide +kernel
theorem dX6_walkForward_84 : decode cX6_walkForward 84 = .ok (.aload_n 0, 1) := by decide +kernel
theorem dX6_walkForward_85 : decode cX6_walkForward 85 = .ok (.iload_n 2, 1) := by decide +kernel
theorem dX6_walkForward_86 : decode cX6_walkForward 86 = .ok (.iload 4, 2) := by decide +kernel
theorem dX6_walkForward_88 : decode cX6_walkForward 88 = .ok (.aload_n 0, 1) := by decide +kernel
theorem dX6_walkForward_89 : decode cX6_walkForward 89 = .ok (.getfield 22, 3) := by decide +kernel
theorem dX6_walkForward_92 : decode cX6_walkForward 92 = .ok (.iload_n 3, 1) := by decide +kernel
theorem dX6_walkForward_93 : decode cX6_walkForward 93 = .ok (.iaload, 1) := by decide +kernel
theorem dX6_walkForward_94 : decode cX6_walkForward 94 = .ok (.iand, 1) := by decide +kernel
theorem dX6_walkForward_95 : decode cX6_walkForward 95 = .ok (.iload 4, 2) := by decide +kernel
theorem dX6_walkForward_97 : decode cX6_walkForward 97 = .ok (.invokestatic 103, 3) := by decide +kernel
theorem dX6_walkForward_100 : decode cX6_walkForward 100 = .ok (.invokevirtual 116, 3) := by decide +kernel
theorem dX6_walkForward_103 : decode cX6_walkForward 103 = .ok (.iinc 2 1, 3) := by decide +kernel
theorem dX6_walkForward_106 : decode cX6_walkForward 106 = .ok (.goto (-79), 3) := by decide +kernel
theorem dX6_walkForward_109 : decode cX6_walkForward 109 = .ok (.return_, 1) := by decide +kernel
theorem dX6_spread_0 : decode cX6_spread 0 = .ok (.iload_n 3, 1) := by decide +kernel
theorem dX6_spread_1 : decode cX6_spread 1 = .ok (.ifCond .ne 4, 3) := by decide +kernel
theorem dX6_spread_4 : decode cX6_spread 4 = .ok (.return_, 1) := by decide +kernel
theorem dX6_spread_5 : decode cX6_spread 5 = .ok (.aload_n 0, 1) := by decide +kernel
theorem dX6_spread_6 : decode cX6_spread 6 = .ok (.getfield 31, 3) := by decide +kernel
theorem dX6_spread_9 : decode cX6_spread 9 = .ok (.iload_n 1, 1) := by decide +kernel
theorem dX6_spread_10 : decode cX6_spread 10 = .ok (.laload, 1) := by decide +kernel
theorem dX6_spread_11 : decode cX6_spread 11 = .ok (.iload_n 3, 1) := by decide +kernel
theorem dX6_spread_12 : decode cX6_spread 12 = .ok (.i2l, 1) := by decide +kernel
theorem dX6_spread_13 : decode cX6_spread 13 = .ok (.ldiv, 1) := by decide +kernel
theorem dX6_spread_14 : decode cX6_spread 14 = .ok (.lstore 4, 2) := by decide +kernel
theorem dX6_spread_16 : decode cX6_spread 16 = .ok (.iconst 0, 1) := by decide +kernel
theorem dX6_spread_17 : decode cX6_spread 17 = .ok (.istore 6, 2) := by decide +kernel
theorem dX6_spread_19 : decode cX6_spread 19 = .ok (.iload 6, 2) := by decide +kernel
theorem dX6_spread_21 : decode cX6_spread 21 = .ok (.aload_n 0, 1) := by decide +kernel
theorem dX6_spread_22 : decode cX6_spread 22 = .ok (.getfield 34, 3) := by decide +kernel
theorem dX6_spread_25 : decode cX6_spread 25 = .ok (.getfield 79, 3) := by decide +kernel
theorem dX6_spread_28 : decode cX6_spread 28 = .ok (.if_icmp .ge 34, 3) := by decide +kernel
theorem dX6_spread_31 : decode cX6_spread 31 = .ok (.iload_n 2, 1) := by decide +kernel
theorem dX6_spread_32 : decode cX6_spread 32 = .ok (.iload 6, 2) := by decide +kernel
theorem dX6_spread_34 : decode cX6_spread 34 = .ok (.invokestatic 120, 3) := by decide +kernel
theorem dX6_spread_37 : decode cX6_spread 37 = .ok (.ifCond .eq 19, 3) := by decide +kernel
theorem dX6_spread_40 : decode cX6_spread 40 = .ok (.aload_n 0, 1) := by decide +kernel
theorem dX6_spread_41 : decode cX6_spread 41 = .ok (.getfield 31, 3) := by decide +kernel
theorem dX6_spread_44 : decode cX6_spread 44 = .ok (.iload_n 1, 1) := by decide +kernel
theorem dX6_spread_45 : decode cX6_spread 45 = .ok (.iconst 1, 1) := by decide +kernel
theorem dX6_spread_46 : decode cX6_spread 46 = .ok (.iload 6, 2) := by decide +kernel
theorem dX6_spread_48 : decode cX6_spread 48 = .ok (.ishl, 1) := by decide +kernel
theorem dX6_spread_49 : decode cX6_spread 49 = .ok (.ior, 1) := by decide +kernel
theorem dX6_spread_50 : decode cX6_spread 50 = .ok (.dup2, 1) := by decide +kernel
theorem dX6_spread_51 : decode cX6_spread 51 = .ok (.laload, 1) := by decide +kernel
theorem dX6_spread_52 : decode cX6_spread 52 = .ok (.lload 4, 2) := by decide +kernel
theorem dX6_spread_54 : decode cX6_spread 54 = .ok (.ladd, 1) := by decide +kernel
theorem dX6_spread_55 : decode cX6_spread 55 = .ok (.lastore, 1) := by decide +kernel
theorem dX6_spread_56 : decode cX6_spread 56 = .ok (.iinc 6 1, 3) := by decide +kernel
theorem dX6_spread_59 : decode cX6_spread 59 = .ok (.goto (-40), 3) := by decide +kernel
theorem dX6_spread_62 : decode cX6_spread 62 = .ok (.return_, 1) := by decide +kernel
theorem dX6_weightAtLast_0 : decode cX6_weightAtLast 0 = .ok (.lconst 0, 1) := by decide +kernel
theorem dX6_weightAtLast_1 : decode cX6_weightAtLast 1 = .ok (.lstore_n 1, 1) := by decide +kernel
theorem dX6_weightAtLast_2 : decode cX6_weightAtLast 2 = .ok (.aload_n 0, 1) := by decide +kernel
theorem dX6_weightAtLast_3 : decode cX6_weightAtLast 3 = .ok (.getfield 34, 3) := by decide +kernel
theorem dX6_weightAtLast_6 : decode cX6_weightAtLast 6 = .ok (.invokevirtual 75, 3) := by decide +kernel
theorem dX6_weightAtLast_9 : decode cX6_weightAtLast 9 = .ok (.istore_n 3, 1) := by decide +kernel
theorem dX6_weightAtLast_10 : decode cX6_weightAtLast 10 = .ok (.iconst 0, 1) := by decide +kernel
theorem dX6_weightAtLast_11 : decode cX6_weightAtLast 11 = .ok (.istore 4, 2) := by decide +kernel
theorem dX6_weightAtLast_13 : decode cX6_weightAtLast 13 = .ok (.iload 4, 2) := by decide +kernel
theorem dX6_weightAtLast_15 : decode cX6_weightAtLast 15 = .ok (.iload_n 3, 1) := by decide +kernel
theorem dX6_weightAtLast_16 : decode cX6_weightAtLast 16 = .ok (.if_icmp .gt 38, 3) := by decide +kernel
theorem dX6_weightAtLast_19 : decode cX6_weightAtLast 19 = .ok (.lload_n 1, 1) := by decide +kernel
theorem dX6_weightAtLast_20 : decode cX6_weightAtLast 20 = .ok (.iload 4, 2) := by decide +kernel
theorem dX6_weightAtLast_22 : decode cX6_weightAtLast 22 = .ok (.invokestatic 103, 3) := by decide +kernel
theorem dX6_weightAtLast_25 : decode cX6_weightAtLast 25 = .ok (.aload_n 0, 1) := by decide +kernel
theorem dX6_weightAtLast_26 : decode cX6_weightAtLast 26 = .ok (.getfield 34, 3) := by decide +kernel
theorem dX6_weightAtLast_29 : decode cX6_weightAtLast 29 = .ok (.getfield 65, 3) := by decide +kernel
theorem dX6_weightAtLast_32 : decode cX6_weightAtLast 32 = .ok (.if_icmp .ne 13, 3) := by decide +kernel
theorem dX6_weightAtLast_35 : decode cX6_weightAtLast 35 = .ok (.aload_n 0, 1) := by decide +kernel
theorem dX6_weightAtLast_36 : decode cX6_weightAtLast 36 = .ok (.getfield 31, 3) := by decide +kernel
theorem dX6_weightAtLast_39 : decode cX6_weightAtLast 39 = .ok (.iload 4, 2) := by decide +kernel
theorem dX6_weightAtLast_41 : decode cX6_weightAtLast 41 = .ok (.laload, 1) := by decide +kernel
theorem dX6_weightAtLast_42 : decode cX6_weightAtLast 42 = .ok (.goto 4, 3) := by decide +kernel
theorem dX6_weightAtLast_45 : decode cX6_weightAtLast 45 = .ok (.lconst 0, 1) := by decide +kernel
theorem dX6_weightAtLast_46 : decode cX6_weightAtLast 46 = .ok (.ladd, 1) := by decide +kernel
theorem dX6_weightAtLast_47 : decode cX6_weightAtLast 47 = .ok (.lstore_n 1, 1) := by decide +kernel
theorem dX6_weightAtLast_48 : decode cX6_weightAtLast 48 = .ok (.iinc 4 1, 3) := by decide +kernel
theorem dX6_weightAtLast_51 : decode cX6_weightAtLast 51 = .ok (.goto (-38), 3) := by decide +kernel
theorem dX6_weightAtLast_54 : decode cX6_weightAtLast 54 = .ok (.lload_n 1, 1) := by decide +kernel
theorem dX6_weightAtLast_55 : decode cX6_weightAtLast 55 = .ok (.lreturn, 1) := by decide +kernel
theorem dX6_walkBackward_0 : decode cX6_walkBackward 0 = .ok (.aload_n 0, 1) := by decide +kernel
theorem dX6_walkBackward_1 : decode cX6_walkBackward 1 = .ok (.getfield 34, 3) := by decide +kernel
theorem dX6_walkBackward_4 : decode cX6_walkBackward 4 = .ok (.invokevirtual 75, 3) := by decide +kernel
theorem dX6_walkBackward_7 : decode cX6_walkBackward 7 = .ok (.istore_n 2, 1) := by decide +kernel
theorem dX6_walkBackward_8 : decode cX6_walkBackward 8 = .ok (.iload_n 2, 1) := by decide +kernel
theorem dX6_walkBackward_9 : decode cX6_walkBackward 9 = .ok (.ifCond .lt 105, 3) := by decide +kernel
theorem dX6_walkBackward_12 : decode cX6_walkBackward 12 = .ok (.iload_n 2, 1) := by decide +kernel
theorem dX6_walkBackward_13 : decode cX6_walkBackward 13 = .ok (.invokestatic 103, 3) := by decide +kernel
theorem dX6_walkBackward_16 : decode cX6_walkBackward 16 = .ok (.istore_n 3, 1) := by decide +kernel
theorem dX6_walkBackward_17 : decode cX6_walkBackward 17 = .ok (.aload_n 0, 1) := by decide +kernel
theorem dX6_walkBackward_18 : decode cX6_walkBackward 18 = .ok (.getfield 31, 3) := by decide +kernel
theorem dX6_walkBackward_21 : decode cX6_walkBackward 21 = .ok (.iload_n 2, 1) := by decide +kernel
theorem dX6_walkBackward_22 : decode cX6_walkBackward 22 = .ok (.laload, 1) := by decide +kernel
theorem dX6_walkBackward_23 : decode cX6_walkBackward 23 = .ok (.lconst 0, 1) := by decide +kernel
theorem dX6_walkBackward_24 : decode cX6_walkBackward 24 = .ok (.lcmp, 1) := by decide +kernel
theorem dX6_walkBackward_25 : decode cX6_walkBackward 25 = .ok (.ifCond .eq 83, 3) := by decide +kernel
theorem dX6_walkBackward_28 : decode cX6_walkBackward 28 = .ok (.iload_n 3, 1) := by decide +kernel
theorem dX6_walkBackward_29 : decode cX6_walkBackward 29 = .ok (.aload_n 0, 1) := by decide +kernel
theorem dX6_walkBackward_30 : decode cX6_walkBackward 30 = .ok (.getfield 34, 3) := by decide +kernel
theorem dX6_walkBackward_33 : decode cX6_walkBackward 33 = .ok (.getfield 65, 3) := by decide +kernel
theorem dX6_walkBackward_36 : decode cX6_walkBackward 36 = .ok (.if_icmp .ge 72, 3) := by decide +kernel
theorem dX6_walkBackward_39 : decode cX6_walkBackward 39 = .ok (.aload_n 0, 1) := by decide +kernel
theorem dX6_walkBackward_40 : decode cX6_walkBackward 40 = .ok (.getfield 34, 3) := by decide +kernel
theorem dX6_walkBackward_43 : decode cX6_walkBackward 43 = .ok (.iload_n 2, 1) := by decide +kernel
theorem dX6_walkBackward_44 : decode cX6_walkBackward 44 = .ok (.aload_n 0, 1) := by decide +kernel
theorem dX6_walkBackward_45 : decode cX6_walkBackward 45 = .ok (.getfield 34, 3) := by decide +kernel
theorem dX6_walkBackward_48 : decode cX6_walkBackward 48 = .ok (.getfield 109, 3) := by decide +kernel
theorem dX6_walkBackward_51 : decode cX6_walkBackward 51 = .ok (.iload_n 3, 1) := by decide +kernel
theorem dX6_walkBackward_52 : decode cX6_walkBackward 52 = .ok (.iaload, 1) := by decide +kernel
theorem dX6_walkBackward_53 : decode cX6_walkBackward 53 = .ok (.aload_n 0, 1) := by decide +kernel
theorem dX6_walkBackward_54 : decode cX6_walkBackward 54 = .ok (.getfield 25, 3) := by decide +kernel
theorem dX6_walkBackward_57 : decode cX6_walkBackward 57 = .ok (.iload_n 3, 1) := by decide +kernel
theorem dX6_walkBackward_58 : decode cX6_walkBackward 58 = .ok (.iaload, 1) := by decide +kernel
theorem dX6_walkBackward_59 : decode cX6_walkBackward 59 = .ok (.invokevirtual 112, 3) := by decide +kernel
theorem dX6_walkBackward_62 : decode cX6_walkBackward 62 = .ok (.istore 4, 2) := by decide +kernel
theorem dX6_walkBackward_64 : decode cX6_walkBackward 64 = .ok (.aload_n 0, 1) := by decide +kernel
theorem dX6_walkBackward_65 : decode cX6_walkBackward 65 = .ok (.iload_n 2, 1) := by decide +kernel
theorem dX6_walkBackward_66 : decode cX6_walkBackward 66 = .ok (.iload 4, 2) := by decide +kernel
theorem dX6_walkBackward_68 : decode cX6_walkBackward 68 = .ok (.aload_n 0, 1) := by decide +kernel
theorem dX6_walkBackward_69 : decode cX6_walkBackward 69 = .ok (.getfield 22, 3) := by decide +kernel
theorem dX6_walkBackward_72 : decode cX6_walkBackward 72 = .ok (.iload_n 3, 1) := by decide +kernel
theorem dX6_walkBackward_73 : decode cX6_walkBackward 73 = .ok (.iaload, 1) := by decide +kernel
theorem dX6_walkBackward_74 : decode cX6_walkBackward 74 = .ok (.iand, 1) := by decide +kernel
theorem dX6_walkBackward_75 : decode cX6_walkBackward 75 = .ok (.invokevirtual 124, 3) := by decide +kernel
theorem dX6_walkBackward_78 : decode cX6_walkBackward 78 = .ok (.istore 5, 2) := by decide +kernel
theorem dX6_walkBackward_80 : decode cX6_walkBackward 80 = .ok (.aload_n 0, 1) := by decide +kernel
theorem dX6_walkBackward_81 : decode cX6_walkBackward 81 = .ok (.getfield 28, 3) := by decide +kernel
theorem dX6_walkBackward_84 : decode cX6_walkBackward 84 = .ok (.iload_n 1, 1) := by decide +kernel
theorem dX6_walkBackward_85 : decode cX6_walkBackward 85 = .ok (.bipush 8, 2) := by decide +kernel
theorem dX6_walkBackward_87 : decode cX6_walkBackward 87 = .ok (.imul, 1) := by decide +kernel
theorem dX6_walkBackward_88 : decode cX6_walkBackward 88 = .ok (.iload_n 3, 1) := by decide +kernel
theorem dX6_walkBackward_89 : decode cX6_walkBackward 89 = .ok (.iadd, 1) := by decide +kernel
theorem dX6_walkBackward_90 : decode cX6_walkBackward 90 = .ok (.dup2, 1) := by decide +kernel
theorem dX6_walkBackward_91 : decode cX6_walkBackward 91 = .ok (.iaload, 1) := by decide +kernel
theorem dX6_walkBackward_92 : decode cX6_walkBackward 92 = .ok (.iload 5, 2) := by decide +kernel
theorem dX6_walkBackward_94 : decode cX6_walkBackward 94 = .ok (.ior, 1) := by decide +kernel
theorem dX6_walkBackward_95 : decode cX6_walkBackward 95 = .ok (.iastore, 1) := by decide +kernel
theorem dX6_walkBackward_96 : decode cX6_walkBackward 96 = .ok (.iload 5, 2) := by decide +kernel
theorem dX6_walkBackward_98 : decode cX6_walkBackward 98 = .ok (.ifCond .ne 10, 3) := by decide +kernel
theorem dX6_walkBackward_101 : decode cX6_walkBackward 101 = .ok (.aload_n 0, 1) := by decide +kernel
theorem dX6_walkBackward_102 : decode cX6_walkBackward 102 = .ok (.getfield 31, 3) := by decide +kernel
theorem dX6_walkBackward_105 : decode cX6_walkBackward 105 = .ok (.iload_n 2, 1) := by decide +kernel
theorem dX6_walkBackward_106 : decode cX6_walkBackward 106 = .ok (.lconst 0, 1) := by decide +kernel
theorem dX6_walkBackward_107 : decode cX6_walkBackward 107 = .ok (.lastore, 1) := by decide +kernel
theorem dX6_walkBackward_108 : decode cX6_walkBackward 108 = .ok (.iinc 2 (-1), 3) := by decide +kernel
theorem dX6_walkBackward_111 : decode cX6_walkBackward 111 = .ok (.goto (-103), 3) := by decide +kernel
theorem dX6_walkBackward_114 : decode cX6_walkBackward 114 = .ok (.return_, 1) := by decide +kernel
theorem dX6_waysOn_0 : decode cX6_waysOn 0 = .ok (.iconst 0, 1) := by decide +kernel
theorem dX6_waysOn_1 : decode cX6_waysOn 1 = .ok (.istore_n 3, 1) := by decide +kernel
theorem dX6_waysOn_2 : decode cX6_waysOn 2 = .ok (.iconst 0, 1) := by decide +kernel
theorem dX6_waysOn_3 : decode cX6_waysOn 3 = .ok (.istore 4, 2) := by decide +kernel
theorem dX6_waysOn_5 : decode cX6_waysOn 5 = .ok (.iload 4, 2) := by decide +kernel
theorem dX6_waysOn_7 : decode cX6_waysOn 7 = .ok (.aload_n 0, 1) := by decide +kernel
theorem dX6_waysOn_8 : decode cX6_waysOn 8 = .ok (.getfield 34, 3) := by decide +kernel
theorem dX6_waysOn_11 : decode cX6_waysOn 11 = .ok (.getfield 79, 3) := by decide +kernel
theorem dX6_waysOn_14 : decode cX6_waysOn 14 = .ok (.if_icmp .ge 41, 3) := by decide +kernel
theorem dX6_waysOn_17 : decode cX6_waysOn 17 = .ok (.iload_n 2, 1) := by decide +kernel
theorem dX6_waysOn_18 : decode cX6_waysOn 18 = .ok (.iload 4, 2) := by decide +kernel
theorem dX6_waysOn_20 : decode cX6_waysOn 20 = .ok (.invokestatic 120, 3) := by decide +kernel
theorem dX6_waysOn_23 : decode cX6_waysOn 23 = .ok (.ifCond .eq 26, 3) := by decide +kernel
theorem dX6_waysOn_26 : decode cX6_waysOn 26 = .ok (.aload_n 0, 1) := by decide +kernel
theorem dX6_waysOn_27 : decode cX6_waysOn 27 = .ok (.getfield 31, 3) := by decide +kernel
theorem dX6_waysOn_30 : decode cX6_waysOn 30 = .ok (.iload_n 1, 1) := by decide +kernel
theorem dX6_waysOn_31 : decode cX6_waysOn 31 = .ok (.iconst 1, 1) := by decide +kernel
theorem dX6_waysOn_32 : decode cX6_waysOn 32 = .ok (.iload 4, 2) := by decide +kernel
theorem dX6_waysOn_34 : decode cX6_waysOn 34 = .ok (.ishl, 1) := by decide +kernel
theorem dX6_waysOn_35 : decode cX6_waysOn 35 = .ok (.ior, 1) := by decide +kernel
theorem dX6_waysOn_36 : decode cX6_waysOn 36 = .ok (.laload, 1) := by decide +kernel
theorem dX6_waysOn_37 : decode cX6_waysOn 37 = .ok (.lconst 0, 1) := by decide +kernel
theorem dX6_waysOn_38 : decode cX6_waysOn 38 = .ok (.lcmp, 1) := by decide +kernel
theorem dX6_waysOn_39 : decode cX6_waysOn 39 = .ok (.ifCond .eq 10, 3) := by decide +kernel
theorem dX6_waysOn_42 : decode cX6_waysOn 42 = .ok (.iload_n 3, 1) := by decide +kernel
theorem dX6_waysOn_43 : decode cX6_waysOn 43 = .ok (.iconst 1, 1) := by decide +kernel
theorem dX6_waysOn_44 : decode cX6_waysOn 44 = .ok (.iload 4, 2) := by decide +kernel
theorem dX6_waysOn_46 : decode cX6_waysOn 46 = .ok (.ishl, 1) := by decide +kernel
theorem dX6_waysOn_47 : decode cX6_waysOn 47 = .ok (.ior, 1) := by decide +kernel
theorem dX6_waysOn_48 : decode cX6_waysOn 48 = .ok (.istore_n 3, 1) := by decide +kernel
theorem dX6_waysOn_49 : decode cX6_waysOn 49 = .ok (.iinc 4 1, 3) := by decide +kernel
theorem dX6_waysOn_52 : decode cX6_waysOn 52 = .ok (.goto (-47), 3) := by decide +kernel
theorem dX6_waysOn_55 : decode cX6_waysOn 55 = .ok (.iload_n 3, 1) := by decide +kernel
theorem dX6_waysOn_56 : decode cX6_waysOn 56 = .ok (.ireturn, 1) := by decide +kernel
theorem dX6_heaviest_0 : decode cX6_heaviest 0 = .ok (.iconst (-1), 1) := by decide +kernel
theorem dX6_heaviest_1 : decode cX6_heaviest 1 = .ok (.istore_n 1, 1) := by decide +kernel
theorem dX6_heaviest_2 : decode cX6_heaviest 2 = .ok (.lconst 0, 1) := by decide +kernel
theorem dX6_heaviest_3 : decode cX6_heaviest 3 = .ok (.lstore_n 2, 1) := by decide +kernel
theorem dX6_heaviest_4 : decode cX6_heaviest 4 = .ok (.iconst 0, 1) := by decide +kernel
theorem dX6_heaviest_5 : decode cX6_heaviest 5 = .ok (.istore 4, 2) := by decide +kernel
theorem dX6_heaviest_7 : decode cX6_heaviest 7 = .ok (.iload 4, 2) := by decide +kernel
theorem dX6_heaviest_9 : decode cX6_heaviest 9 = .ok (.aload_n 0, 1) := by decide +kernel
theorem dX6_heaviest_10 : decode cX6_heaviest 10 = .ok (.getfield 34, 3) := by decide +kernel
theorem dX6_heaviest_13 : decode cX6_heaviest 13 = .ok (.getfield 65, 3) := by decide +kernel
theorem dX6_heaviest_16 : decode cX6_heaviest 16 = .ok (.if_icmp .ge 32, 3) := by decide +kernel
theorem dX6_heaviest_19 : decode cX6_heaviest 19 = .ok (.aload_n 0, 1) := by decide +kernel
theorem dX6_heaviest_20 : decode cX6_heaviest 20 = .ok (.getfield 9, 3) := by decide +kernel
theorem dX6_heaviest_23 : decode cX6_heaviest 23 = .ok (.iload 4, 2) := by decide +kernel
theorem dX6_heaviest_25 : decode cX6_heaviest 25 = .ok (.laload, 1) := by decide +kernel
theorem dX6_heaviest_26 : decode cX6_heaviest 26 = .ok (.lload_n 2, 1) := by decide +kernel
theorem dX6_heaviest_27 : decode cX6_heaviest 27 = .ok (.lcmp, 1) := by decide +kernel
theorem dX6_heaviest_28 : decode cX6_heaviest 28 = .ok (.ifCond .le 14, 3) := by decide +kernel
theorem dX6_heaviest_31 : decode cX6_heaviest 31 = .ok (.aload_n 0, 1) := by decide +kernel
theorem dX6_heaviest_32 : decode cX6_heaviest 32 = .ok (.getfield 9, 3) := by decide +kernel
theorem dX6_heaviest_35 : decode cX6_heaviest 35 = .ok (.iload 4, 2) := by decide +kernel
theorem dX6_heaviest_37 : decode cX6_heaviest 37 = .ok (.laload, 1) := by decide +kernel
theorem dX6_heaviest_38 : decode cX6_heaviest 38 = .ok (.lstore_n 2, 1) := by decide +kernel
theorem dX6_heaviest_39 : decode cX6_heaviest 39 = .ok (.iload 4, 2) := by decide +kernel
theorem dX6_heaviest_41 : decode cX6_heaviest 41 = .ok (.istore_n 1, 1) := by decide +kernel
theorem dX6_heaviest_42 : decode cX6_heaviest 42 = .ok (.iinc 4 1, 3) := by decide +kernel
theorem dX6_heaviest_45 : decode cX6_heaviest 45 = .ok (.goto (-38), 3) := by decide +kernel
theorem dX6_heaviest_48 : decode cX6_heaviest 48 = .ok (.iload_n 1, 1) := by decide +kernel
theorem dX6_heaviest_49 : decode cX6_heaviest 49 = .ok (.ireturn, 1) := by decide +kernel
theorem dX6_whomToAsk_0 : decode cX6_whomToAsk 0 = .ok (.iconst (-1), 1) := by decide +kernel
theorem dX6_whomToAsk_1 : decode cX6_whomToAsk 1 = .ok (.istore_n 1, 1) := by decide +kernel
theorem dX6_whomToAsk_2 : decode cX6_whomToAsk 2 = .ok (.bipush 9, 2) := by decide +kernel
theorem dX6_whomToAsk_4 : decode cX6_whomToAsk 4 = .ok (.istore_n 2, 1) := by decide +kernel
theorem dX6_whomToAsk_5 : decode cX6_whomToAsk 5 = .ok (.iconst 0, 1) := by decide +kernel
theorem dX6_whomToAsk_6 : decode cX6_whomToAsk 6 = .ok (.istore_n 3, 1) := by decide +kernel
theorem dX6_whomToAsk_7 : decode cX6_whomToAsk 7 = .ok (.iload_n 3, 1) := by decide +kernel
theorem dX6_whomToAsk_8 : decode cX6_whomToAsk 8 = .ok (.aload_n 0, 1) := by decide +kernel
theorem dX6_whomToAsk_9 : decode cX6_whomToAsk 9 = .ok (.getfield 34, 3) := by decide +kernel
theorem dX6_whomToAsk_12 : decode cX6_whomToAsk 12 = .ok (.getfield 65, 3) := by decide +kernel
theorem dX6_whomToAsk_15 : decode cX6_whomToAsk 15 = .ok (.if_icmp .ge 42, 3) := by decide +kernel
theorem dX6_whomToAsk_18 : decode cX6_whomToAsk 18 = .ok (.aload_n 0, 1) := by decide +kernel
theorem dX6_whomToAsk_19 : decode cX6_whomToAsk 19 = .ok (.getfield 55, 3) := by decide +kernel
theorem dX6_whomToAsk_22 : decode cX6_whomToAsk 22 = .ok (.ifCond .eq 35, 3) := by decide +kernel
theorem dX6_whomToAsk_25 : decode cX6_whomToAsk 25 = .ok (.aload_n 0, 1) := by decide +kernel
theorem dX6_whomToAsk_26 : decode cX6_whomToAsk 26 = .ok (.iload_n 3, 1) := by decide +kernel
theorem dX6_whomToAsk_27 : decode cX6_whomToAsk 27 = .ok (.invokevirtual 128, 3) := by decide +kernel
theorem dX6_whomToAsk_30 : decode cX6_whomToAsk 30 = .ok (.istore 4, 2) := by decide +kernel
theorem dX6_whomToAsk_32 : decode cX6_whomToAsk 32 = .ok (.aload_n 0, 1) := by decide +kernel
theorem dX6_whomToAsk_33 : decode cX6_whomToAsk 33 = .ok (.iload_n 3, 1) := by decide +kernel
theorem dX6_whomToAsk_34 : decode cX6_whomToAsk 34 = .ok (.invokevirtual 131, 3) := by decide +kernel
theorem dX6_whomToAsk_37 : decode cX6_whomToAsk 37 = .ok (.ifCond .ne 14, 3) := by decide +kernel
theorem dX6_whomToAsk_40 : decode cX6_whomToAsk 40 = .ok (.iload 4, 2) := by decide +kernel
theorem dX6_whomToAsk_42 : decode cX6_whomToAsk 42 = .ok (.iload_n 2, 1) := by decide +kernel
theorem dX6_whomToAsk_43 : decode cX6_whomToAsk 43 = .ok (.if_icmp .ge 8, 3) := by decide +kernel
theorem dX6_whomToAsk_46 : decode cX6_whomToAsk 46 = .ok (.iload 4, 2) := by decide +kernel
theorem dX6_whomToAsk_48 : decode cX6_whomToAsk 48 = .ok (.istore_n 2, 1) := by decide +kernel
theorem dX6_whomToAsk_49 : decode cX6_whomToAsk 49 = .ok (.iload_n 3, 1) := by decide +kernel
theorem dX6_whomToAsk_50 : decode cX6_whomToAsk 50 = .ok (.istore_n 1, 1) := by decide +kernel
theorem dX6_whomToAsk_51 : decode cX6_whomToAsk 51 = .ok (.iinc 3 1, 3) := by decide +kernel
theorem dX6_whomToAsk_54 : decode cX6_whomToAsk 54 = .ok (.goto (-47), 3) := by decide +kernel
theorem dX6_whomToAsk_57 : decode cX6_whomToAsk 57 = .ok (.iload_n 1, 1) := by decide +kernel
theorem dX6_whomToAsk_58 : decode cX6_whomToAsk 58 = .ok (.ireturn, 1) := by decide +kernel
theorem dX6_wasSeen_0 : decode cX6_wasSeen 0 = .ok (.iconst 0, 1) := by decide +kernel
theorem dX6_wasSeen_1 : decode cX6_wasSeen 1 = .ok (.istore_n 2, 1) := by decide +kernel
theorem dX6_wasSeen_2 : decode cX6_wasSeen 2 = .ok (.iload_n 2, 1) := by decide +kernel
theorem dX6_wasSeen_3 : decode cX6_wasSeen 3 = .ok (.aload_n 0, 1) := by decide +kernel
theorem dX6_wasSeen_4 : decode cX6_wasSeen 4 = .ok (.getfield 38, 3) := by decide +kernel
theorem dX6_wasSeen_7 : decode cX6_wasSeen 7 = .ok (.if_icmp .ge 21, 3) := by decide +kernel
theorem dX6_wasSeen_10 : decode cX6_wasSeen 10 = .ok (.aload_n 0, 1) := by decide +kernel
theorem dX6_wasSeen_11 : decode cX6_wasSeen 11 = .ok (.getfield 15, 3) := by decide +kernel
theorem dX6_wasSeen_14 : decode cX6_wasSeen 14 = .ok (.iload_n 2, 1) := by decide +kernel
theorem dX6_wasSeen_15 : decode cX6_wasSeen 15 = .ok (.iaload, 1) := by decide +kernel
theorem dX6_wasSeen_16 : decode cX6_wasSeen 16 = .ok (.iload_n 1, 1) := by decide +kernel
theorem dX6_wasSeen_17 : decode cX6_wasSeen 17 = .ok (.if_icmp .ne 5, 3) := by decide +kernel
theorem dX6_wasSeen_20 : decode cX6_wasSeen 20 = .ok (.iconst 1, 1) := by decide +kernel
theorem dX6_wasSeen_21 : decode cX6_wasSeen 21 = .ok (.ireturn, 1) := by decide +kernel
theorem dX6_wasSeen_22 : decode cX6_wasSeen 22 = .ok (.iinc 2 1, 3) := by decide +kernel
theorem dX6_wasSeen_25 : decode cX6_wasSeen 25 = .ok (.goto (-23), 3) := by decide +kernel
theorem dX6_wasSeen_28 : decode cX6_wasSeen 28 = .ok (.iconst 0, 1) := by decide +kernel
theorem dX6_wasSeen_29 : decode cX6_wasSeen 29 = .ok (.ireturn, 1) := by decide +kernel
theorem dX6_worstCase_0 : decode cX6_worstCase 0 = .ok (.iconst 0, 1) := by decide +kernel
theorem dX6_worstCase_1 : decode cX6_worstCase 1 = .ok (.istore_n 2, 1) := by decide +kernel
theorem dX6_worstCase_2 : decode cX6_worstCase 2 = .ok (.iconst 0, 1) := by decide +kernel
theorem dX6_worstCase_3 : decode cX6_worstCase 3 = .ok (.istore_n 3, 1) := by decide +kernel
theorem dX6_worstCase_4 : decode cX6_worstCase 4 = .ok (.iload_n 3, 1) := by decide +kernel
theorem dX6_worstCase_5 : decode cX6_worstCase 5 = .ok (.aload_n 0, 1) := by decide +kernel
theorem dX6_worstCase_6 : decode cX6_worstCase 6 = .ok (.getfield 34, 3) := by decide +kernel
theorem dX6_worstCase_9 : decode cX6_worstCase 9 = .ok (.getfield 79, 3) := by decide +kernel
theorem dX6_worstCase_12 : decode cX6_worstCase 12 = .ok (.if_icmp .ge 69, 3) := by decide +kernel
theorem dX6_worstCase_15 : decode cX6_worstCase 15 = .ok (.iconst 0, 1) := by decide +kernel
theorem dX6_worstCase_16 : decode cX6_worstCase 16 = .ok (.istore 4, 2) := by decide +kernel
theorem dX6_worstCase_18 : decode cX6_worstCase 18 = .ok (.iconst 0, 1) := by decide +kernel
theorem dX6_worstCase_19 : decode cX6_worstCase 19 = .ok (.istore 5, 2) := by decide +kernel
theorem dX6_worstCase_21 : decode cX6_worstCase 21 = .ok (.iload 5, 2) := by decide +kernel
theorem dX6_worstCase_23 : decode cX6_worstCase 23 = .ok (.aload_n 0, 1) := by decide +kernel
theorem dX6_worstCase_24 : decode cX6_worstCase 24 = .ok (.getfield 34, 3) := by decide +kernel
theorem dX6_worstCase_27 : decode cX6_worstCase 27 = .ok (.getfield 65, 3) := by decide +kernel
theorem dX6_worstCase_30 : decode cX6_worstCase 30 = .ok (.if_icmp .ge 38, 3) := by decide +kernel
theorem dX6_worstCase_33 : decode cX6_worstCase 33 = .ok (.iload 4, 2) := by decide +kernel
theorem dX6_worstCase_35 : decode cX6_worstCase 35 = .ok (.aload_n 0, 1) := by decide +kernel
theorem dX6_worstCase_36 : decode cX6_worstCase 36 = .ok (.getfield 28, 3) := by decide +kernel
theorem dX6_worstCase_39 : decode cX6_worstCase 39 = .ok (.iload 5, 2) := by decide +kernel
theorem dX6_worstCase_41 : decode cX6_worstCase 41 = .ok (.bipush 8, 2) := by decide +kernel
theorem dX6_worstCase_43 : decode cX6_worstCase 43 = .ok (.imul, 1) := by decide +kernel
theorem dX6_worstCase_44 : decode cX6_worstCase 44 = .ok (.iload_n 1, 1) := by decide +kernel
theorem dX6_worstCase_45 : decode cX6_worstCase 45 = .ok (.iadd, 1) := by decide +kernel
theorem dX6_worstCase_46 : decode cX6_worstCase 46 = .ok (.iaload, 1) := by decide +kernel
theorem dX6_worstCase_47 : decode cX6_worstCase 47 = .ok (.iload_n 3, 1) := by decide +kernel
theorem dX6_worstCase_48 : decode cX6_worstCase 48 = .ok (.invokestatic 120, 3) := by decide +kernel
theorem dX6_worstCase_51 : decode cX6_worstCase 51 = .ok (.ifCond .eq 7, 3) := by decide +kernel
theorem dX6_worstCase_54 : decode cX6_worstCase 54 = .ok (.iconst 1, 1) := by decide +kernel
theorem dX6_worstCase_55 : decode cX6_worstCase 55 = .ok (.goto 4, 3) := by decide +kernel
theorem dX6_worstCase_58 : decode cX6_worstCase 58 = .ok (.iconst 0, 1) := by decide +kernel
theorem dX6_worstCase_59 : decode cX6_worstCase 59 = .ok (.iadd, 1) := by decide +kernel
theorem dX6_worstCase_60 : decode cX6_worstCase 60 = .ok (.istore 4, 2) := by decide +kernel
theorem dX6_worstCase_62 : decode cX6_worstCase 62 = .ok (.iinc 5 1, 3) := by decide +kernel
theorem dX6_worstCase_65 : decode cX6_worstCase 65 = .ok (.goto (-44), 3) := by decide +kernel
theorem dX6_worstCase_68 : decode cX6_worstCase 68 = .ok (.iload_n 2, 1) := by decide +kernel
theorem dX6_worstCase_69 : decode cX6_worstCase 69 = .ok (.iload 4, 2) := by decide +kernel
theorem dX6_worstCase_71 : decode cX6_worstCase 71 = .ok (.invokestatic 135, 3) := by decide +kernel
theorem dX6_worstCase_74 : decode cX6_worstCase 74 = .ok (.istore_n 2, 1) := by decide +kernel
theorem dX6_worstCase_75 : decode cX6_worstCase 75 = .ok (.iinc 3 1, 3) := by decide +kernel
theorem dX6_worstCase_78 : decode cX6_worstCase 78 = .ok (.goto (-74), 3) := by decide +kernel
theorem dX6_worstCase_81 : decode cX6_worstCase 81 = .ok (.iload_n 2, 1) := by decide +kernel
theorem dX6_worstCase_82 : decode cX6_worstCase 82 = .ok (.ireturn, 1) := by decide +kernel
theorem dX7_init_0 : decode cX7_init 0 = .ok (.aload_n 0, 1) := by decide +kernel
theorem dX7_init_1 : decode cX7_init 1 = .ok (.invokespecial 3, 3) := by decide +kernel
theorem dX7_init_4 : decode cX7_init 4 = .ok (.aload_n 0, 1) := by decide +kernel
theorem dX7_init_5 : decode cX7_init 5 = .ok (.new 9, 3) := by decide +kernel
theorem dX7_init_8 : decode cX7_init 8 = .ok (.dup, 1) := by decide +kernel
theorem dX7_init_9 : decode cX7_init 9 = .ok (.invokespecial 11, 3) := by decide +kernel
theorem dX7_init_12 : decode cX7_init 12 = .ok (.putfield 12, 3) := by decide +kernel
theorem dX7_init_15 : decode cX7_init 15 = .ok (.aload_n 0, 1) := by decide +kernel
theorem dX7_init_16 : decode cX7_init 16 = .ok (.new 16, 3) := by decide +kernel
theorem dX7_init_19 : decode cX7_init 19 = .ok (.dup, 1) := by decide +kernel
theorem dX7_init_20 : decode cX7_init 20 = .ok (.aload_n 0, 1) := by decide +kernel
theorem dX7_init_21 : decode cX7_init 21 = .ok (.getfield 12, 3) := by decide +kernel
theorem dX7_init_24 : decode cX7_init 24 = .ok (.invokespecial 18, 3) := by decide +kernel
theorem dX7_init_27 : decode cX7_init 27 = .ok (.putfield 21, 3) := by decide +kernel
theorem dX7_init_30 : decode cX7_init 30 = .ok (.aload_n 0, 1) := by decide +kernel
theorem dX7_init_31 : decode cX7_init 31 = .ok (.new 25, 3) := by decide +kernel
theorem dX7_init_34 : decode cX7_init 34 = .ok (.dup, 1) := by decide +kernel
theorem dX7_init_35 : decode cX7_init 35 = .ok (.aload_n 0, 1) := by decide +kernel
theorem dX7_init_36 : decode cX7_init 36 = .ok (.getfield 12, 3) := by decide +kernel
theorem dX7_init_39 : decode cX7_init 39 = .ok (.invokespecial 27, 3) := by decide +kernel
theorem dX7_init_42 : decode cX7_init 42 = .ok (.putfield 28, 3) := by decide +kernel
theorem dX7_init_45 : decode cX7_init 45 = .ok (.aload_n 0, 1) := by decide +kernel
theorem dX7_init_46 : decode cX7_init 46 = .ok (.new 32, 3) := by decide +kernel
theorem dX7_init_49 : decode cX7_init 49 = .ok (.dup, 1) := by decide +kernel
theorem dX7_init_50 : decode cX7_init 50 = .ok (.aload_n 0, 1) := by decide +kernel
theorem dX7_init_51 : decode cX7_init 51 = .ok (.getfield 12, 3) := by decide +kernel
theorem dX7_init_54 : decode cX7_init 54 = .ok (.invokespecial 34, 3) := by decide +kernel
theorem dX7_init_57 : decode cX7_init 57 = .ok (.putfield 35, 3) := by decide +kernel
theorem dX7_init_60 : decode cX7_init 60 = .ok (.aload_n 0, 1) := by decide +kernel
theorem dX7_init_61 : decode cX7_init 61 = .ok (.new 39, 3) := by decide +kernel
theorem dX7_init_64 : decode cX7_init 64 = .ok (.dup, 1) := by decide +kernel
theorem dX7_init_65 : decode cX7_init 65 = .ok (.aload_n 0, 1) := by decide +kernel
theorem dX7_init_66 : decode cX7_init 66 = .ok (.getfield 12, 3) := by decide +kernel
theorem dX7_init_69 : decode cX7_init 69 = .ok (.invokespecial 41, 3) := by decide +kernel
theorem dX7_init_72 : decode cX7_init 72 = .ok (.putfield 42, 3) := by decide +kernel
theorem dX7_init_75 : decode cX7_init 75 = .ok (.aload_n 0, 1) := by decide +kernel
theorem dX7_init_76 : decode cX7_init 76 = .ok (.new 46, 3) := by decide +kernel
theorem dX7_init_79 : decode cX7_init 79 = .ok (.dup, 1) := by decide +kernel
theorem dX7_init_80 : decode cX7_init 80 = .ok (.aload_n 0, 1) := by decide +kernel
theorem dX7_init_81 : decode cX7_init 81 = .ok (.getfield 12, 3) := by decide +kernel
theorem dX7_init_84 : decode cX7_init 84 = .ok (.invokespecial 48, 3) := by decide +kernel
theorem dX7_init_87 : decode cX7_init 87 = .ok (.putfield 49, 3) := by decide +kernel
theorem dX7_init_90 : decode cX7_init 90 = .ok (.aload_n 0, 1) := by decide +kernel
theorem dX7_init_91 : decode cX7_init 91 = .ok (.iconst 4, 1) := by decide +kernel
theorem dX7_init_92 : decode cX7_init 92 = .ok (.anewarray 53, 3) := by decide +kernel
theorem dX7_init_95 : decode cX7_init 95 = .ok (.putfield 55, 3) := by decide +kernel
theorem dX7_init_98 : decode cX7_init 98 = .ok (.iconst 0, 1) := by decide +kernel
theorem dX7_init_99 : decode cX7_init 99 = .ok (.istore_n 1, 1) := by decide +kernel
theorem dX7_init_100 : decode cX7_init 100 = .ok (.iload_n 1, 1) := by decide +kernel
theorem dX7_init_101 : decode cX7_init 101 = .ok (.iconst 4, 1) := by decide +kernel
theorem dX7_init_102 : decode cX7_init 102 = .ok (.if_icmp .ge 22, 3) := by decide +kernel
theorem dX7_init_105 : decode cX7_init 105 = .ok (.aload_n 0, 1) := by decide +kernel
theorem dX7_init_106 : decode cX7_init 106 = .ok (.getfield 55, 3) := by decide +kernel
theorem dX7_init_109 : decode cX7_init 109 = .ok (.iload_n 1, 1) := by decide +kernel
theorem dX7_init_110 : decode cX7_init 110 = .ok (.new 53, 3) := by decide +kernel
theorem dX7_init_113 : decode cX7_init 113 = .ok (.dup, 1) := by decide +kernel
theorem dX7_init_114 : decode cX7_init 114 = .ok (.invokespecial 59, 3) := by decide +kernel
theorem dX7_init_117 : decode cX7_init 117 = .ok (.aastore, 1) := by decide +kernel
theorem dX7_init_118 : decode cX7_init 118 = .ok (.iinc 1 1, 3) := by decide +kernel
theorem dX7_init_121 : decode cX7_init 121 = .ok (.goto (-21), 3) := by decide +kernel
theorem dX7_init_124 : decode cX7_init 124 = .ok (.aload_n 0, 1) := by decide +kernel
theorem dX7_init_125 : decode cX7_init 125 = .ok (.iconst 0, 1) := by decide +kernel
theorem dX7_init_126 : decode cX7_init 126 = .ok (.putfield 60, 3) := by decide +kernel
theorem dX7_init_129 : decode cX7_init 129 = .ok (.return_, 1) := by decide +kernel
theorem dX7_type_0 : decode cX7_type 0 = .ok (.iload_n 1, 1) := by decide +kernel
theorem dX7_type_1 : decode cX7_type 1 = .ok (.invokestatic 64, 3) := by decide +kernel
theorem dX7_type_4 : decode cX7_type 4 = .ok (.ifCond .ne 14, 3) := by decide +kernel
theorem dX7_type_7 : decode cX7_type 7 = .ok (.iload_n 2, 1) := by decide +kernel
theorem dX7_type_8 : decode cX7_type 8 = .ok (.ifCond .lt 10, 3) := by decide +kernel
theorem dX7_type_11 : decode cX7_type 11 = .ok (.iload_n 2, 1) := by decide +kernel
theorem dX7_type_12 : decode cX7_type 12 = .ok (.sipush 255, 3) := by decide +kernel
theorem dX7_type_15 : decode cX7_type 15 = .ok (.if_icmp .le 6, 3) := by decide +kernel
theorem dX7_type_18 : decode cX7_type 18 = .ok (.bipush (-2), 2) := by decide +kernel
theorem dX7_type_20 : decode cX7_type 20 = .ok (.ireturn, 1) := by decide +kernel
theorem dX7_type_21 : decode cX7_type 21 = .ok (.aload_n 0, 1) := by decide +kernel
theorem dX7_type_22 : decode cX7_type 22 = .ok (.getfield 12, 3) := by decide +kernel
theorem dX7_type_25 : decode cX7_type 25 = .ok (.getfield 68, 3) := by decide +kernel
theorem dX7_type_28 : decode cX7_type 28 = .ok (.iload_n 1, 1) := by decide +kernel
theorem dX7_type_29 : decode cX7_type 29 = .ok (.iaload, 1) := by decide +kernel
theorem dX7_type_30 : decode cX7_type 30 = .ok (.bipush 20, 2) := by decide +kernel
theorem dX7_type_32 : decode cX7_type 32 = .ok (.if_icmp .lt 6, 3) := by decide +kernel
theorem dX7_type_35 : decode cX7_type 35 = .ok (.bipush (-4), 2) := by decide +kernel
theorem dX7_type_37 : decode cX7_type 37 = .ok (.ireturn, 1) := by decide +kernel
theorem dX7_type_38 : decode cX7_type 38 = .ok (.aload_n 0, 1) := by decide +kernel
theorem dX7_type_39 : decode cX7_type 39 = .ok (.getfield 12, 3) := by decide +kernel
theorem dX7_type_42 : decode cX7_type 42 = .ok (.iload_n 1, 1) := by decide +kernel
theorem dX7_type_43 : decode cX7_type 43 = .ok (.iload_n 2, 1) := by decide +kernel
theorem dX7_type_44 : decode cX7_type 44 = .ok (.invokevirtual 72, 3) := by decide +kernel
theorem dX7_type_47 : decode cX7_type 47 = .ok (.aload_n 0, 1) := by decide +kernel
theorem dX7_type_48 : decode cX7_type 48 = .ok (.invokevirtual 76, 3) := by decide +kernel
theorem dX7_type_51 : decode cX7_type 51 = .ok (.aload_n 0, 1) := by decide +kernel
theorem dX7_type_52 : decode cX7_type 52 = .ok (.getfield 12, 3) := by decide +kernel
theorem dX7_type_55 : decode cX7_type 55 = .ok (.getfield 68, 3) := by decide +kernel
theorem dX7_type_58 : decode cX7_type 58 = .ok (.iload_n 1, 1) := by decide +kernel
theorem dX7_type_59 : decode cX7_type 59 = .ok (.iaload, 1) := by decide +kernel
theorem dX7_type_60 : decode cX7_type 60 = .ok (.ireturn, 1) := by decide +kernel
theorem dX7_wipe_0 : decode cX7_wipe 0 = .ok (.iload_n 1, 1) := by decide +kernel
theorem dX7_wipe_1 : decode cX7_wipe 1 = .ok (.invokestatic 64, 3) := by decide +kernel
theorem dX7_wipe_4 : decode cX7_wipe 4 = .ok (.ifCond .eq 6, 3) := by decide +kernel
theorem dX7_wipe_7 : decode cX7_wipe 7 = .ok (.bipush (-2), 2) := by decide +kernel
theorem dX7_wipe_9 : decode cX7_wipe 9 = .ok (.ireturn, 1) := by decide +kernel
theorem dX7_wipe_10 : decode cX7_wipe 10 = .ok (.aload_n 0, 1) := by decide +kernel
theorem dX7_wipe_11 : decode cX7_wipe 11 = .ok (.getfield 12, 3) := by decide +kernel
theorem dX7_wipe_14 : decode cX7_wipe 14 = .ok (.getfield 68, 3) := by decide +kernel
theorem dX7_wipe_17 : decode cX7_wipe 17 = .ok (.iload_n 1, 1) := by decide +kernel
theorem dX7_wipe_18 : decode cX7_wipe 18 = .ok (.iaload, 1) := by decide +kernel
theorem dX7_wipe_19 : decode cX7_wipe 19 = .ok (.istore_n 2, 1) := by decide +kernel
theorem dX7_wipe_20 : decode cX7_wipe 20 = .ok (.aload_n 0, 1) := by decide +kernel
theorem dX7_wipe_21 : decode cX7_wipe 21 = .ok (.getfield 12, 3) := by decide +kernel
theorem dX7_wipe_24 : decode cX7_wipe 24 = .ok (.iload_n 1, 1) := by decide +kernel
theorem dX7_wipe_25 : decode cX7_wipe 25 = .ok (.invokevirtual 79, 3) := by decide +kernel
theorem dX7_wipe_28 : decode cX7_wipe 28 = .ok (.aload_n 0, 1) := by decide +kernel
theorem dX7_wipe_29 : decode cX7_wipe 29 = .ok (.invokevirtual 76, 3) := by decide +kernel
theorem dX7_wipe_32 : decode cX7_wipe 32 = .ok (.iload_n 2, 1) := by decide +kernel
theorem dX7_wipe_33 : decode cX7_wipe 33 = .ok (.ireturn, 1) := by decide +kernel
theorem dX7_fault_0 : decode cX7_fault 0 = .ok (.iload_n 1, 1) := by decide +kernel
theorem dX7_fault_1 : decode cX7_fault 1 = .ok (.invokestatic 64, 3) := by decide +kernel
theorem dX7_fault_4 : decode cX7_fault 4 = .ok (.ifCond .eq 8, 3) := by decide +kernel
theorem dX7_fault_7 : decode cX7_fault 7 = .ok (.bipush (-2), 2) := by decide +kernel
theorem dX7_fault_9 : decode cX7_fault 9 = .ok (.goto 12, 3) := by decide +kernel
theorem dX7_fault_12 : decode cX7_fault 12 = .ok (.aload_n 0, 1) := by decide +kernel
theorem dX7_fault_13 : decode cX7_fault 13 = .ok (.getfield 12, 3) := by decide +kernel
theorem dX7_fault_16 : decode cX7_fault 16 = .ok (.getfield 83, 3) := by decide +kernel
theorem dX7_fault_19 : decode cX7_fault 19 = .ok (.iload_n 1, 1) := by decide +kernel
theorem dX7_fault_20 : decode cX7_fault 20 = .ok (.iaload, 1) := by decide +kernel
theorem dX7_fault_21 : decode cX7_fault 21 = .ok (.ireturn, 1) := by decide +kernel
theorem dX7_seat_0 : decode cX7_seat 0 = .ok (.aload_n 0, 1) := by decide +kernel
theorem dX7_seat_1 : decode cX7_seat 1 = .ok (.iload_n 1, 1) := by decide +kernel
theorem dX7_seat_2 : decode cX7_seat 2 = .ok (.invokevirtual 86, 3) := by decide +kernel
theorem dX7_seat_5 : decode cX7_seat 5 = .ok (.ifCond .eq 6, 3) := by decide +kernel
theorem dX7_seat_8 : decode cX7_seat 8 = .ok (.bipush (-2), 2) := by decide +kernel
theorem dX7_seat_10 : decode cX7_seat 10 = .ok (.ireturn, 1) := by decide +kernel
theorem dX7_seat_11 : decode cX7_seat 11 = .ok (.iload_n 2, 1) := by decide +kernel
theorem dX7_seat_12 : decode cX7_seat 12 = .ok (.tableswitch 57 0 2 #[28, 38, 48], 28) := by decide +kernel
theorem dX7_seat_40 : decode cX7_seat 40 = .ok (.aload_n 0, 1) := by decide +kernel
theorem dX7_seat_41 : decode cX7_seat 41 = .ok (.getfield 12, 3) := by decide +kernel
theorem dX7_seat_44 : decode cX7_seat 44 = .ok (.getfield 89, 3) := by decide +kernel
theorem dX7_seat_47 : decode cX7_seat 47 = .ok (.iload_n 1, 1) := by decide +kernel
theorem dX7_seat_48 : decode cX7_seat 48 = .ok (.iaload, 1) := by decide +kernel
theorem dX7_seat_49 : decode cX7_seat 49 = .ok (.ireturn, 1) := by decide +kernel
theorem dX7_seat_50 : decode cX7_seat 50 = .ok (.aload_n 0, 1) := by decide +kernel
theorem dX7_seat_51 : decode cX7_seat 51 = .ok (.getfield 12, 3) := by decide +kernel
theorem dX7_seat_54 : decode cX7_seat 54 = .ok (.getfield 92, 3) := by decide +kernel
theorem dX7_seat_57 : decode cX7_seat 57 = .ok (.iload_n 1, 1) := by decide +kernel
theorem dX7_seat_58 : decode cX7_seat 58 = .ok (.iaload, 1) := by decide +kernel
theorem dX7_seat_59 : decode cX7_seat 59 = .ok (.ireturn, 1) := by decide +kernel
theorem dX7_seat_60 : decode cX7_seat 60 = .ok (.aload_n 0, 1) := by decide +kernel
theorem dX7_seat_61 : decode cX7_seat 61 = .ok (.getfield 12, 3) := by decide +kernel
theorem dX7_seat_64 : decode cX7_seat 64 = .ok (.iload_n 1, 1) := by decide +kernel
theorem dX7_seat_65 : decode cX7_seat 65 = .ok (.invokevirtual 95, 3) := by decide +kernel
theorem dX7_seat_68 : decode cX7_seat 68 = .ok (.ireturn, 1) := by decide +kernel
theorem dX7_seat_69 : decode cX7_seat 69 = .ok (.bipush (-2), 2) := by decide +kernel
theorem dX7_seat_71 : decode cX7_seat 71 = .ok (.ireturn, 1) := by decide +kernel
theorem dX7_person_0 : decode cX7_person 0 = .ok (.aload_n 0, 1) := by decide +kernel
theorem dX7_person_1 : decode cX7_person 1 = .ok (.iload_n 1, 1) := by decide +kernel
theorem dX7_person_2 : decode cX7_person 2 = .ok (.invokevirtual 99, 3) := by decide +kernel
theorem dX7_person_5 : decode cX7_person 5 = .ok (.ifCond .ne 10, 3) := by decide +kernel
theorem dX7_person_8 : decode cX7_person 8 = .ok (.iload_n 2, 1) := by decide +kernel
theorem dX7_person_9 : decode cX7_person 9 = .ok (.invokestatic 102, 3) := by decide +kernel
theorem dX7_person_12 : decode cX7_person 12 = .ok (.ifCond .eq 6, 3) := by decide +kernel
theorem dX7_person_15 : decode cX7_person 15 = .ok (.bipush (-2), 2) := by decide +kernel
theorem dX7_person_17 : decode cX7_person 17 = .ok (.ireturn, 1) := by decide +kernel
theorem dX7_person_18 : decode cX7_person 18 = .ok (.iload_n 2, 1) := by decide +kernel
theorem dX7_person_19 : decode cX7_person 19 = .ok (.ifCond .ne 15, 3) := by decide +kernel
theorem dX7_person_22 : decode cX7_person 22 = .ok (.aload_n 0, 1) := by decide +kernel
theorem dX7_person_23 : decode cX7_person 23 = .ok (.getfield 12, 3) := by decide +kernel
theorem dX7_person_26 : decode cX7_person 26 = .ok (.getfield 105, 3) := by decide +kernel
theorem dX7_person_29 : decode cX7_person 29 = .ok (.iload_n 1, 1) := by decide +kernel
theorem dX7_person_30 : decode cX7_person 30 = .ok (.iaload, 1) := by decide +kernel
theorem dX7_person_31 : decode cX7_person 31 = .ok (.goto 12, 3) := by decide +kernel
theorem dX7_person_34 : decode cX7_person 34 = .ok (.aload_n 0, 1) := by decide +kernel
theorem dX7_person_35 : decode cX7_person 35 = .ok (.getfield 12, 3) := by decide +kernel
theorem dX7_person_38 : decode cX7_person 38 = .ok (.getfield 108, 3) := by decide +kernel
theorem dX7_person_41 : decode cX7_person 41 = .ok (.iload_n 1, 1) := by decide +kernel
theorem dX7_person_42 : decode cX7_person 42 = .ok (.iaload, 1) := by decide +kernel
theorem dX7_person_43 : decode cX7_person 43 = .ok (.ireturn, 1) := by decide +kernel
theorem dX7_likely_0 : decode cX7_likely 0 = .ok (.aload_n 0, 1) := by decide +kernel
theorem dX7_likely_1 : decode cX7_likely 1 = .ok (.iload_n 1, 1) := by decide +kernel
theorem dX7_likely_2 : decode cX7_likely 2 = .ok (.invokevirtual 99, 3) := by decide +kernel
theorem dX7_likely_5 : decode cX7_likely 5 = .ok (.ifCond .ne 18, 3) := by decide +kernel
theorem dX7_likely_8 : decode cX7_likely 8 = .ok (.aload_n 0, 1) := by decide +kernel
theorem dX7_likely_9 : decode cX7_likely 9 = .ok (.iload_n 2, 1) := by decide +kernel
theorem dX7_likely_10 : decode cX7_likely 10 = .ok (.invokevirtual 86, 3) := by decide +kernel
theorem dX7_likely_13 : decode cX7_likely 13 = .ok (.ifCond .ne 10, 3) := by decide +kernel
theorem dX7_likely_16 : decode cX7_likely 16 = .ok (.iload_n 3, 1) := by decide +kernel
theorem dX7_likely_17 : decode cX7_likely 17 = .ok (.invokestatic 102, 3) := by decide +kernel
theorem dX7_likely_20 : decode cX7_likely 20 = .ok (.ifCond .eq 9, 3) := by decide +kernel
theorem dX7_likely_23 : decode cX7_likely 23 = .ok (.bipush (-2), 2) := by decide +kernel
theorem dX7_likely_25 : decode cX7_likely 25 = .ok (.invokestatic 111, 3) := by decide +kernel
theorem dX7_likely_28 : decode cX7_likely 28 = .ok (.lreturn, 1) := by decide +kernel
theorem dX7_likely_29 : decode cX7_likely 29 = .ok (.aload_n 0, 1) := by decide +kernel
theorem dX7_likely_30 : decode cX7_likely 30 = .ok (.getfield 21, 3) := by decide +kernel
theorem dX7_likely_33 : decode cX7_likely 33 = .ok (.invokevirtual 115, 3) := by decide +kernel
theorem dX7_likely_36 : decode cX7_likely 36 = .ok (.aload_n 0, 1) := by decide +kernel
theorem dX7_likely_37 : decode cX7_likely 37 = .ok (.getfield 21, 3) := by decide +kernel
theorem dX7_likely_40 : decode cX7_likely 40 = .ok (.getfield 118, 3) := by decide +kernel
theorem dX7_likely_43 : decode cX7_likely 43 = .ok (.iload_n 1, 1) := by decide +kernel
theorem dX7_likely_44 : decode cX7_likely 44 = .ok (.bipush 8, 2) := by decide +kernel
theorem dX7_likely_46 : decode cX7_likely 46 = .ok (.imul, 1) := by decide +kernel
theorem dX7_likely_47 : decode cX7_likely 47 = .ok (.iload_n 2, 1) := by decide +kernel
theorem dX7_likely_48 : decode cX7_likely 48 = .ok (.iadd, 1) := by decide +kernel
theorem dX7_likely_49 : decode cX7_likely 49 = .ok (.laload, 1) := by decide +kernel
theorem dX7_likely_50 : decode cX7_likely 50 = .ok (.ldc2_w 122, 3) := by decide +kernel
theorem dX7_likely_53 : decode cX7_likely 53 = .ok (.iload_n 3, 1) := by decide +kernel
theorem dX7_likely_54 : decode cX7_likely 54 = .ok (.invokestatic 124, 3) := by decide +kernel
theorem dX7_likely_57 : decode cX7_likely 57 = .ok (.lreturn, 1) := by decide +kernel
theorem dX7_taken_0 : decode cX7_taken 0 = .ok (.iload_n 1, 1) := by decide +kernel
theorem dX7_taken_1 : decode cX7_taken 1 = .ok (.ifCond .lt 35, 3) := by decide +kernel
theorem dX7_taken_4 : decode cX7_taken 4 = .ok (.iload_n 1, 1) := by decide +kernel
theorem dX7_taken_5 : decode cX7_taken 5 = .ok (.aload_n 0, 1) := by decide +kernel
theorem dX7_taken_6 : decode cX7_taken 6 = .ok (.getfield 12, 3) := by decide +kernel
theorem dX7_taken_9 : decode cX7_taken 9 = .ok (.getfield 128, 3) := by decide +kernel
theorem dX7_taken_12 : decode cX7_taken 12 = .ok (.if_icmp .gt 24, 3) := by decide +kernel
theorem dX7_taken_15 : decode cX7_taken 15 = .ok (.iload_n 2, 1) := by decide +kernel
theorem dX7_taken_16 : decode cX7_taken 16 = .ok (.aload_n 0, 1) := by decide +kernel
theorem dX7_taken_17 : decode cX7_taken 17 = .ok (.getfield 12, 3) := by decide +kernel
theorem dX7_taken_20 : decode cX7_taken 20 = .ok (.invokevirtual 131, 3) := by decide +kernel
theorem dX7_taken_23 : decode cX7_taken 23 = .ok (.iconst (-1), 1) := by decide +kernel
theorem dX7_taken_24 : decode cX7_taken 24 = .ok (.ixor, 1) := by decide +kernel
theorem dX7_taken_25 : decode cX7_taken 25 = .ok (.iand, 1) := by decide +kernel
theorem dX7_taken_26 : decode cX7_taken 26 = .ok (.ifCond .ne 10, 3) := by decide +kernel
theorem dX7_taken_29 : decode cX7_taken 29 = .ok (.iload_n 3, 1) := by decide +kernel
theorem dX7_taken_30 : decode cX7_taken 30 = .ok (.invokestatic 102, 3) := by decide +kernel
theorem dX7_taken_33 : decode cX7_taken 33 = .ok (.ifCond .eq 9, 3) := by decide +kernel
theorem dX7_taken_36 : decode cX7_taken 36 = .ok (.bipush (-2), 2) := by decide +kernel
theorem dX7_taken_38 : decode cX7_taken 38 = .ok (.invokestatic 111, 3) := by decide +kernel
theorem dX7_taken_41 : decode cX7_taken 41 = .ok (.lreturn, 1) := by decide +kernel
theorem dX7_taken_42 : decode cX7_taken 42 = .ok (.aload_n 0, 1) := by decide +kernel
theorem dX7_taken_43 : decode cX7_taken 43 = .ok (.getfield 21, 3) := by decide +kernel
theorem dX7_taken_46 : decode cX7_taken 46 = .ok (.invokevirtual 115, 3) := by decide +kernel
theorem dX7_taken_49 : decode cX7_taken 49 = .ok (.iload_n 2, 1) := by decide +kernel
theorem dX7_taken_50 : decode cX7_taken 50 = .ok (.invokestatic 135, 3) := by decide +kernel
theorem dX7_taken_53 : decode cX7_taken 53 = .ok (.iload_n 1, 1) := by decide +kernel
theorem dX7_taken_54 : decode cX7_taken 54 = .ok (.if_icmp .ne 15, 3) := by decide +kernel
theorem dX7_taken_57 : decode cX7_taken 57 = .ok (.aload_n 0, 1) := by decide +kernel
theorem dX7_taken_58 : decode cX7_taken 58 = .ok (.getfield 21, 3) := by decide +kernel
theorem dX7_taken_61 : decode cX7_taken 61 = .ok (.getfield 140, 3) := by decide +kernel
theorem dX7_taken_64 : decode cX7_taken 64 = .ok (.iload_n 2, 1) := by decide +kernel
theorem dX7_taken_65 : decode cX7_taken 65 = .ok (.laload, 1) := by decide +kernel
theorem dX7_taken_66 : decode cX7_taken 66 = .ok (.goto 4, 3) := by decide +kernel
theorem dX7_taken_69 : decode cX7_taken 69 = .ok (.lconst 0, 1) := by decide +kernel
theorem dX7_taken_70 : decode cX7_taken 70 = .ok (.lstore 4, 2) := by decide +kernel
theorem dX7_taken_72 : decode cX7_taken 72 = .ok (.lload 4, 2) := by decide +kernel
theorem dX7_taken_74 : decode cX7_taken 74 = .ok (.ldc2_w 122, 3) := by decide +kernel
theorem dX7_taken_77 : decode cX7_taken 77 = .ok (.iload_n 3, 1) := by decide +kernel
theorem dX7_taken_78 : decode cX7_taken 78 = .ok (.invokestatic 124, 3) := by decide +kernel
theorem dX7_taken_81 : decode cX7_taken 81 = .ok (.lreturn, 1) := by decide +kernel
theorem dX7_wrong_0 : decode cX7_wrong 0 = .ok (.iload_n 1, 1) := by decide +kernel
theorem dX7_wrong_1 : decode cX7_wrong 1 = .ok (.iconst (-1), 1) := by decide +kernel
theorem dX7_wrong_2 : decode cX7_wrong 2 = .ok (.if_icmp .lt 21, 3) := by decide +kernel
theorem dX7_wrong_5 : decode cX7_wrong 5 = .ok (.iload_n 1, 1) := by decide +kernel
theorem dX7_wrong_6 : decode cX7_wrong 6 = .ok (.aload_n 0, 1) := by decide +kernel
theorem dX7_wrong_7 : decode cX7_wrong 7 = .ok (.getfield 12, 3) := by decide +kernel
theorem dX7_wrong_10 : decode cX7_wrong 10 = .ok (.getfield 128, 3) := by decide +kernel
theorem dX7_wrong_13 : decode cX7_wrong 13 = .ok (.if_icmp .gt 10, 3) := by decide +kernel
theorem dX7_wrong_16 : decode cX7_wrong 16 = .ok (.iload_n 2, 1) := by decide +kernel
theorem dX7_wrong_17 : decode cX7_wrong 17 = .ok (.invokestatic 102, 3) := by decide +kernel
theorem dX7_wrong_20 : decode cX7_wrong 20 = .ok (.ifCond .eq 9, 3) := by decide +kernel
theorem dX7_wrong_23 : decode cX7_wrong 23 = .ok (.bipush (-2), 2) := by decide +kernel
theorem dX7_wrong_25 : decode cX7_wrong 25 = .ok (.invokestatic 111, 3) := by decide +kernel
theorem dX7_wrong_28 : decode cX7_wrong 28 = .ok (.lreturn, 1) := by decide +kernel
theorem dX7_wrong_29 : decode cX7_wrong 29 = .ok (.aload_n 0, 1) := by decide +kernel
theorem dX7_wrong_30 : decode cX7_wrong 30 = .ok (.getfield 21, 3) := by decide +kernel
theorem dX7_wrong_33 : decode cX7_wrong 33 = .ok (.invokevirtual 115, 3) := by decide +kernel
theorem dX7_wrong_36 : decode cX7_wrong 36 = .ok (.iload_n 1, 1) := by decide +kernel
theorem dX7_wrong_37 : decode cX7_wrong 37 = .ok (.iconst (-1), 1) := by decide +kernel
theorem dX7_wrong_38 : decode cX7_wrong 38 = .ok (.if_icmp .ne 13, 3) := by decide +kernel
theorem dX7_wrong_41 : decode cX7_wrong 41 = .ok (.aload_n 0, 1) := by decide +kernel
theorem dX7_wrong_42 : decode cX7_wrong 42 = .ok (.getfield 21, 3) := by decide +kernel
theorem dX7_wrong_45 : decode cX7_wrong 45 = .ok (.getfield 143, 3) := by decide +kernel
theorem dX7_wrong_48 : decode cX7_wrong 48 = .ok (.goto 12, 3) := by decide +kernel
theorem dX7_wrong_51 : decode cX7_wrong 51 = .ok (.aload_n 0, 1) := by decide +kernel
theorem dX7_wrong_52 : decode cX7_wrong 52 = .ok (.getfield 21, 3) := by decide +kernel
theorem dX7_wrong_55 : decode cX7_wrong 55 = .ok (.getfield 147, 3) := by decide +kernel
theorem dX7_wrong_58 : decode cX7_wrong 58 = .ok (.iload_n 1, 1) := by decide +kernel
theorem dX7_wrong_59 : decode cX7_wrong 59 = .ok (.laload, 1) := by decide +kernel
theorem dX7_wrong_60 : decode cX7_wrong 60 = .ok (.ldc2_w 122, 3) := by decide +kernel
theorem dX7_wrong_63 : decode cX7_wrong 63 = .ok (.iload_n 2, 1) := by decide +kernel
theorem dX7_wrong_64 : decode cX7_wrong 64 = .ok (.invokestatic 124, 3) := by decide +kernel
theorem dX7_wrong_67 : decode cX7_wrong 67 = .ok (.lreturn, 1) := by decide +kernel
theorem dX7_left_0 : decode cX7_left 0 = .ok (.aload_n 0, 1) := by decide +kernel
theorem dX7_left_1 : decode cX7_left 1 = .ok (.iload_n 1, 1) := by decide +kernel
theorem dX7_left_2 : decode cX7_left 2 = .ok (.invokevirtual 86, 3) := by decide +kernel
theorem dX7_left_5 : decode cX7_left 5 = .ok (.ifCond .ne 10, 3) := by decide +kernel
theorem dX7_left_8 : decode cX7_left 8 = .ok (.iload_n 2, 1) := by decide +kernel
theorem dX7_left_9 : decode cX7_left 9 = .ok (.invokestatic 102, 3) := by decide +kernel
theorem dX7_left_12 : decode cX7_left 12 = .ok (.ifCond .eq 9, 3) := by decide +kernel
theorem dX7_left_15 : decode cX7_left 15 = .ok (.bipush (-2), 2) := by decide +kernel
theorem dX7_left_17 : decode cX7_left 17 = .ok (.invokestatic 111, 3) := by decide +kernel
theorem dX7_left_20 : decode cX7_left 20 = .ok (.lreturn, 1) := by decide +kernel
theorem dX7_left_21 : decode cX7_left 21 = .ok (.aload_n 0, 1) := by decide +kernel
theorem dX7_left_22 : decode cX7_left 22 = .ok (.getfield 21, 3) := by decide +kernel
theorem dX7_left_25 : decode cX7_left 25 = .ok (.invokevirtual 115, 3) := by decide +kernel
theorem dX7_left_28 : decode cX7_left 28 = .ok (.aload_n 0, 1) := by decide +kernel
theorem dX7_left_29 : decode cX7_left 29 = .ok (.getfield 21, 3) := by decide +kernel
theorem dX7_left_32 : decode cX7_left 32 = .ok (.getfield 150, 3) := by decide +kernel
theorem dX7_left_35 : decode cX7_left 35 = .ok (.iload_n 1, 1) := by decide +kernel
theorem dX7_left_36 : decode cX7_left 36 = .ok (.laload, 1) := by decide +kernel
theorem dX7_left_37 : decode cX7_left 37 = .ok (.ldc2_w 122, 3) := by decide +kernel
theorem dX7_left_40 : decode cX7_left 40 = .ok (.iload_n 2, 1) := by decide +kernel
theorem dX7_left_41 : decode cX7_left 41 = .ok (.invokestatic 124, 3) := by decide +kernel
theorem dX7_left_44 : decode cX7_left 44 = .ok (.lreturn, 1) := by decide +kernel
theorem dX7_looks_0 : decode cX7_looks 0 = .ok (.iload_n 1, 1) := by decide +kernel
theorem dX7_looks_1 : decode cX7_looks 1 = .ok (.invokestatic 102, 3) := by decide +kernel
theorem dX7_looks_4 : decode cX7_looks 4 = .ok (.ifCond .eq 9, 3) := by decide +kernel
theorem dX7_looks_7 : decode cX7_looks 7 = .ok (.bipush (-2), 2) := by decide +kernel
theorem dX7_looks_9 : decode cX7_looks 9 = .ok (.invokestatic 111, 3) := by decide +kernel
theorem dX7_looks_12 : decode cX7_looks 12 = .ok (.lreturn, 1) := by decide +kernel
theorem dX7_looks_13 : decode cX7_looks 13 = .ok (.aload_n 0, 1) := by decide +kernel
theorem dX7_looks_14 : decode cX7_looks 14 = .ok (.getfield 21, 3) := by decide +kernel
theorem dX7_looks_17 : decode cX7_looks 17 = .ok (.invokevirtual 115, 3) := by decide +kernel
theorem dX7_looks_20 : decode cX7_looks 20 = .ok (.aload_n 0, 1) := by decide +kernel
theorem dX7_looks_21 : decode cX7_looks 21 = .ok (.getfield 21, 3) := by decide +kernel
theorem dX7_looks_24 : decode cX7_looks 24 = .ok (.getfield 153, 3) := by decide +kernel
theorem dX7_looks_27 : decode cX7_looks 27 = .ok (.ldc2_w 122, 3) := by decide +kernel
theorem dX7_looks_30 : decode cX7_looks 30 = .ok (.iload_n 1, 1) := by decide +kernel
theorem dX7_looks_31 : decode cX7_looks 31 = .ok (.invokestatic 124, 3) := by decide +kernel
theorem dX7_looks_34 : decode cX7_looks 34 = .ok (.lreturn, 1) := by decide +kernel
theorem dX7_judged_0 : decode cX7_judged 0 = .ok (.aload_n 0, 1) := by decide +kernel
theorem dX7_judged_1 : decode cX7_judged 1 = .ok (.iload_n 1, 1) := by decide +kernel
theorem dX7_judged_2 : decode cX7_judged 2 = .ok (.iconst 1, 1) := by decide +kernel
theorem dX7_judged_3 : decode cX7_judged 3 = .ok (.invokevirtual 156, 3) := by decide +kernel
theorem dX7_judged_6 : decode cX7_judged 6 = .ok (.istore_n 2, 1) := by decide +kernel
theorem dX7_judged_7 : decode cX7_judged 7 = .ok (.iload_n 2, 1) := by decide +kernel
theorem dX7_judged_8 : decode cX7_judged 8 = .ok (.ifCond .eq 7, 3) := by decide +kernel
theorem dX7_judged_11 : decode cX7_judged 11 = .ok (.iload_n 2, 1) := by decide +kernel
theorem dX7_judged_12 : decode cX7_judged 12 = .ok (.goto 19, 3) := by decide +kernel
theorem dX7_judged_15 : decode cX7_judged 15 = .ok (.aload_n 0, 1) := by decide +kernel
theorem dX7_judged_16 : decode cX7_judged 16 = .ok (.getfield 12, 3) := by decide +kernel
theorem dX7_judged_19 : decode cX7_judged 19 = .ok (.aload_n 0, 1) := by decide +kernel
theorem dX7_judged_20 : decode cX7_judged 20 = .ok (.getfield 55, 3) := by decide +kernel
theorem dX7_judged_23 : decode cX7_judged 23 = .ok (.iload_n 1, 1) := by decide +kernel
theorem dX7_judged_24 : decode cX7_judged 24 = .ok (.aaload, 1) := by decide +kernel
theorem dX7_judged_25 : decode cX7_judged 25 = .ok (.getfield 160, 3) := by decide +kernel
theorem dX7_judged_28 : decode cX7_judged 28 = .ok (.invokevirtual 163, 3) := by decide +kernel
theorem dX7_judged_31 : decode cX7_judged 31 = .ok (.ireturn, 1) := by decide +kernel
theorem dX7_sitting_0 : decode cX7_sitting 0 = .ok (.aload_n 0, 1) := by decide +kernel
theorem dX7_sitting_1 : decode cX7_sitting 1 = .ok (.iload_n 1, 1) := by decide +kernel
theorem dX7_sitting_2 : decode cX7_sitting 2 = .ok (.iload_n 2, 1) := by decide +kernel
theorem dX7_sitting_3 : decode cX7_sitting 3 = .ok (.invokestatic 102, 3) := by decide +kernel
theorem dX7_sitting_6 : decode cX7_sitting 6 = .ok (.ifCond .ne 7, 3) := by decide +kernel
theorem dX7_sitting_9 : decode cX7_sitting 9 = .ok (.iconst 1, 1) := by decide +kernel
theorem dX7_sitting_10 : decode cX7_sitting 10 = .ok (.goto 4, 3) := by decide +kernel
theorem dX7_sitting_13 : decode cX7_sitting 13 = .ok (.iconst 0, 1) := by decide +kernel
theorem dX7_sitting_14 : decode cX7_sitting 14 = .ok (.invokevirtual 156, 3) := by decide +kernel
theorem dX7_sitting_17 : decode cX7_sitting 17 = .ok (.istore_n 3, 1) := by decide +kernel
theorem dX7_sitting_18 : decode cX7_sitting 18 = .ok (.iload_n 3, 1) := by decide +kernel
theorem dX7_sitting_19 : decode cX7_sitting 19 = .ok (.ifCond .eq 10, 3) := by decide +kernel
theorem dX7_sitting_22 : decode cX7_sitting 22 = .ok (.iload_n 3, 1) := by decide +kernel
theorem dX7_sitting_23 : decode cX7_sitting 23 = .ok (.invokestatic 111, 3) := by decide +kernel
theorem dX7_sitting_26 : decode cX7_sitting 26 = .ok (.goto 26, 3) := by decide +kernel
theorem dX7_sitting_29 : decode cX7_sitting 29 = .ok (.aload_n 0, 1) := by decide +kernel
theorem dX7_sitting_30 : decode cX7_sitting 30 = .ok (.getfield 12, 3) := by decide +kernel
theorem dX7_sitting_33 : decode cX7_sitting 33 = .ok (.aload_n 0, 1) := by decide +kernel
theorem dX7_sitting_34 : decode cX7_sitting 34 = .ok (.getfield 55, 3) := by decide +kernel
theorem dX7_sitting_37 : decode cX7_sitting 37 = .ok (.iload_n 1, 1) := by decide +kernel
theorem dX7_sitting_38 : decode cX7_sitting 38 = .ok (.aaload, 1) := by decide +kernel
theorem dX7_sitting_39 : decode cX7_sitting 39 = .ok (.getfield 160, 3) := by decide +kernel
theorem dX7_sitting_42 : decode cX7_sitting 42 = .ok (.invokevirtual 167, 3) := by decide +kernel
theorem dX7_sitting_45 : decode cX7_sitting 45 = .ok (.ldc2_w 122, 3) := by decide +kernel
theorem dX7_sitting_48 : decode cX7_sitting 48 = .ok (.iload_n 2, 1) := by decide +kernel
theorem dX7_sitting_49 : decode cX7_sitting 49 = .ok (.invokestatic 124, 3) := by decide +kernel
theorem dX7_sitting_52 : decode cX7_sitting 52 = .ok (.lreturn, 1) := by decide +kernel
theorem dX7_order_0 : decode cX7_order 0 = .ok (.iload_n 1, 1) := by decide +kernel
theorem dX7_order_1 : decode cX7_order 1 = .ok (.ifCond .ge 6, 3) := by decide +kernel
theorem dX7_order_4 : decode cX7_order 4 = .ok (.bipush (-2), 2) := by decide +kernel
theorem dX7_order_6 : decode cX7_order 6 = .ok (.ireturn, 1) := by decide +kernel
theorem dX7_order_7 : decode cX7_order 7 = .ok (.aload_n 0, 1) := by decide +kernel
theorem dX7_order_8 : decode cX7_order 8 = .ok (.getfield 12, 3) := by decide +kernel
theorem dX7_order_11 : decode cX7_order 11 = .ok (.getfield 128, 3) := by decide +kernel
theorem dX7_order_14 : decode cX7_order 14 = .ok (.bipush 6, 2) := by decide +kernel
theorem dX7_order_16 : decode cX7_order 16 = .ok (.if_icmp .le 6, 3) := by decide +kernel
theorem dX7_order_19 : decode cX7_order 19 = .ok (.bipush (-4), 2) := by decide +kernel
theorem dX7_order_21 : decode cX7_order 21 = .ok (.ireturn, 1) := by decide +kernel
theorem dX7_order_22 : decode cX7_order 22 = .ok (.iload_n 1, 1) := by decide +kernel
theorem dX7_order_23 : decode cX7_order 23 = .ok (.aload_n 0, 1) := by decide +kernel
theorem dX7_order_24 : decode cX7_order 24 = .ok (.getfield 12, 3) := by decide +kernel
theorem dX7_order_27 : decode cX7_order 27 = .ok (.getfield 128, 3) := by decide +kernel
theorem dX7_order_30 : decode cX7_order 30 = .ok (.if_icmp .lt 6, 3) := by decide +kernel
theorem dX7_order_33 : decode cX7_order 33 = .ok (.bipush (-2), 2) := by decide +kernel
theorem dX7_order_35 : decode cX7_order 35 = .ok (.ireturn, 1) := by decide +kernel
theorem dX7_order_36 : decode cX7_order 36 = .ok (.aload_n 0, 1) := by decide +kernel
theorem dX7_order_37 : decode cX7_order 37 = .ok (.getfield 28, 3) := by decide +kernel
theorem dX7_order_40 : decode cX7_order 40 = .ok (.invokevirtual 171, 3) := by decide +kernel
theorem dX7_order_43 : decode cX7_order 43 = .ok (.aload_n 0, 1) := by decide +kernel
theorem dX7_order_44 : decode cX7_order 44 = .ok (.getfield 28, 3) := by decide +kernel
theorem dX7_order_47 : decode cX7_order 47 = .ok (.getfield 172, 3) := by decide +kernel
theorem dX7_order_50 : decode cX7_order 50 = .ok (.iload_n 1, 1) := by decide +kernel
theorem dX7_order_51 : decode cX7_order 51 = .ok (.iaload, 1) := by decide +kernel
theorem dX7_order_52 : decode cX7_order 52 = .ok (.ireturn, 1) := by decide +kernel
theorem dX7_best_0 : decode cX7_best 0 = .ok (.iload_n 1, 1) := by decide +kernel
theorem dX7_best_1 : decode cX7_best 1 = .ok (.invokestatic 102, 3) := by decide +kernel
theorem dX7_best_4 : decode cX7_best 4 = .ok (.ifCond .eq 9, 3) := by decide +kernel
theorem dX7_best_7 : decode cX7_best 7 = .ok (.bipush (-2), 2) := by decide +kernel
theorem dX7_best_9 : decode cX7_best 9 = .ok (.invokestatic 111, 3) := by decide +kernel
theorem dX7_best_12 : decode cX7_best 12 = .ok (.lreturn, 1) := by decide +kernel
theorem dX7_best_13 : decode cX7_best 13 = .ok (.aload_n 0, 1) := by decide +kernel
theorem dX7_best_14 : decode cX7_best 14 = .ok (.getfield 12, 3) := by decide +kernel
theorem dX7_best_17 : decode cX7_best 17 = .ok (.getfield 128, 3) := by decide +kernel
theorem dX7_best_20 : decode cX7_best 20 = .ok (.bipush 6, 2) := by decide +kernel
theorem dX7_best_22 : decode cX7_best 22 = .ok (.if_icmp .le 9, 3) := by decide +kernel
theorem dX7_best_25 : decode cX7_best 25 = .ok (.bipush (-4), 2) := by decide +kernel
theorem dX7_best_27 : decode cX7_best 27 = .ok (.invokestatic 111, 3) := by decide +kernel
theorem dX7_best_30 : decode cX7_best 30 = .ok (.lreturn, 1) := by decide +kernel
theorem dX7_best_31 : decode cX7_best 31 = .ok (.aload_n 0, 1) := by decide +kernel
theorem dX7_best_32 : decode cX7_best 32 = .ok (.getfield 28, 3) := by decide +kernel
theorem dX7_best_35 : decode cX7_best 35 = .ok (.invokevirtual 171, 3) := by decide +kernel
theorem dX7_best_38 : decode cX7_best 38 = .ok (.aload_n 0, 1) := by decide +kernel
theorem dX7_best_39 : decode cX7_best 39 = .ok (.getfield 28, 3) := by decide +kernel
theorem dX7_best_42 : decode cX7_best 42 = .ok (.getfield 175, 3) := by decide +kernel
theorem dX7_best_45 : decode cX7_best 45 = .ok (.ldc2_w 122, 3) := by decide +kernel
theorem dX7_best_48 : decode cX7_best 48 = .ok (.iload_n 1, 1) := by decide +kernel
theorem dX7_best_49 : decode cX7_best 49 = .ok (.invokestatic 124, 3) := by decide +kernel
theorem dX7_best_52 : decode cX7_best 52 = .ok (.lreturn, 1) := by decide +kernel
theorem dX7_back_0 : decode cX7_back 0 = .ok (.aload_n 0, 1) := by decide +kernel
theorem dX7_back_1 : decode cX7_back 1 = .ok (.iload_n 1, 1) := by decide +kernel
theorem dX7_back_2 : decode cX7_back 2 = .ok (.iload_n 2, 1) := by decide +kernel
theorem dX7_back_3 : decode cX7_back 3 = .ok (.ifCond .lt 12, 3) := by decide +kernel
theorem dX7_back_6 : decode cX7_back 6 = .ok (.iload_n 2, 1) := by decide +kernel
theorem dX7_back_7 : decode cX7_back 7 = .ok (.iconst 2, 1) := by decide +kernel
theorem dX7_back_8 : decode cX7_back 8 = .ok (.if_icmp .gt 7, 3) := by decide +kernel
theorem dX7_back_11 : decode cX7_back 11 = .ok (.iconst 1, 1) := by decide +kernel
theorem dX7_back_12 : decode cX7_back 12 = .ok (.goto 4, 3) := by decide +kernel
theorem dX7_back_15 : decode cX7_back 15 = .ok (.iconst 0, 1) := by decide +kernel
theorem dX7_back_16 : decode cX7_back 16 = .ok (.invokevirtual 156, 3) := by decide +kernel
theorem dX7_back_19 : decode cX7_back 19 = .ok (.istore_n 3, 1) := by decide +kernel
theorem dX7_back_20 : decode cX7_back 20 = .ok (.iload_n 3, 1) := by decide +kernel
theorem dX7_back_21 : decode cX7_back 21 = .ok (.ifCond .eq 5, 3) := by decide +kernel
theorem dX7_back_24 : decode cX7_back 24 = .ok (.iload_n 3, 1) := by decide +kernel
theorem dX7_back_25 : decode cX7_back 25 = .ok (.ireturn, 1) := by decide +kernel
theorem dX7_back_26 : decode cX7_back 26 = .ok (.aload_n 0, 1) := by decide +kernel
theorem dX7_back_27 : decode cX7_back 27 = .ok (.getfield 49, 3) := by decide +kernel
theorem dX7_back_30 : decode cX7_back 30 = .ok (.aload_n 0, 1) := by decide +kernel
theorem dX7_back_31 : decode cX7_back 31 = .ok (.getfield 55, 3) := by decide +kernel
theorem dX7_back_34 : decode cX7_back 34 = .ok (.iload_n 1, 1) := by decide +kernel
theorem dX7_back_35 : decode cX7_back 35 = .ok (.aaload, 1) := by decide +kernel
theorem dX7_back_36 : decode cX7_back 36 = .ok (.getfield 160, 3) := by decide +kernel
theorem dX7_back_39 : decode cX7_back 39 = .ok (.invokevirtual 178, 3) := by decide +kernel
theorem dX7_back_42 : decode cX7_back 42 = .ok (.ifCond .ne 6, 3) := by decide +kernel
theorem dX7_back_45 : decode cX7_back 45 = .ok (.bipush (-3), 2) := by decide +kernel
theorem dX7_back_47 : decode cX7_back 47 = .ok (.ireturn, 1) := by decide +kernel
theorem dX7_back_48 : decode cX7_back 48 = .ok (.iload_n 2, 1) := by decide +kernel
theorem dX7_back_49 : decode cX7_back 49 = .ok (.ifCond .ne 11, 3) := by decide +kernel
theorem dX7_back_52 : decode cX7_back 52 = .ok (.aload_n 0, 1) := by decide +kernel
theorem dX7_back_53 : decode cX7_back 53 = .ok (.getfield 49, 3) := by decide +kernel
theorem dX7_back_56 : decode cX7_back 56 = .ok (.getfield 182, 3) := by decide +kernel
theorem dX7_back_59 : decode cX7_back 59 = .ok (.ireturn, 1) := by decide +kernel
theorem dX7_back_60 : decode cX7_back 60 = .ok (.iload_n 2, 1) := by decide +kernel
theorem dX7_back_61 : decode cX7_back 61 = .ok (.iconst 1, 1) := by decide +kernel
theorem dX7_back_62 : decode cX7_back 62 = .ok (.if_icmp .ne 13, 3) := by decide +kernel
theorem dX7_back_65 : decode cX7_back 65 = .ok (.aload_n 0, 1) := by decide +kernel
theorem dX7_back_66 : decode cX7_back 66 = .ok (.getfield 49, 3) := by decide +kernel
theorem dX7_back_69 : decode cX7_back 69 = .ok (.getfield 185, 3) := by decide +kernel
theorem dX7_back_72 : decode cX7_back 72 = .ok (.goto 10, 3) := by decide +kernel
theorem dX7_back_75 : decode cX7_back 75 = .ok (.aload_n 0, 1) := by decide +kernel
theorem dX7_back_76 : decode cX7_back 76 = .ok (.getfield 49, 3) := by decide +kernel
theorem dX7_back_79 : decode cX7_back 79 = .ok (.invokevirtual 188, 3) := by decide +kernel
theorem dX7_back_82 : decode cX7_back 82 = .ok (.ireturn, 1) := by decide +kernel
theorem dX7_seen_0 : decode cX7_seen 0 = .ok (.aload_n 0, 1) := by decide +kernel
theorem dX7_seen_1 : decode cX7_seen 1 = .ok (.getfield 35, 3) := by decide +kernel
theorem dX7_seen_4 : decode cX7_seen 4 = .ok (.iload_n 1, 1) := by decide +kernel
theorem dX7_seen_5 : decode cX7_seen 5 = .ok (.iload_n 2, 1) := by decide +kernel
theorem dX7_seen_6 : decode cX7_seen 6 = .ok (.invokevirtual 191, 3) := by decide +kernel
theorem dX7_seen_9 : decode cX7_seen 9 = .ok (.ifCond .ne 6, 3) := by decide +kernel
theorem dX7_seen_12 : decode cX7_seen 12 = .ok (.bipush (-2), 2) := by decide +kernel
theorem dX7_seen_14 : decode cX7_seen 14 = .ok (.ireturn, 1) := by decide +kernel
theorem dX7_seen_15 : decode cX7_seen 15 = .ok (.aload_n 0, 1) := by decide +kernel
theorem dX7_seen_16 : decode cX7_seen 16 = .ok (.getfield 35, 3) := by decide +kernel
theorem dX7_seen_19 : decode cX7_seen 19 = .ok (.getfield 195, 3) := by decide +kernel
theorem dX7_seen_22 : decode cX7_seen 22 = .ok (.bipush 8, 2) := by decide +kernel
theorem dX7_seen_24 : decode cX7_seen 24 = .ok (.if_icmp .lt 6, 3) := by decide +kernel
theorem dX7_seen_27 : decode cX7_seen 27 = .ok (.bipush (-4), 2) := by decide +kernel
theorem dX7_seen_29 : decode cX7_seen 29 = .ok (.ireturn, 1) := by decide +kernel
theorem dX7_seen_30 : decode cX7_seen 30 = .ok (.aload_n 0, 1) := by decide +kernel
theorem dX7_seen_31 : decode cX7_seen 31 = .ok (.getfield 35, 3) := by decide +kernel
theorem dX7_seen_34 : decode cX7_seen 34 = .ok (.iload_n 1, 1) := by decide +kernel
theorem dX7_seen_35 : decode cX7_seen 35 = .ok (.iload_n 2, 1) := by decide +kernel
theorem dX7_seen_36 : decode cX7_seen 36 = .ok (.invokevirtual 198, 3) := by decide +kernel
theorem dX7_seen_39 : decode cX7_seen 39 = .ok (.aload_n 0, 1) := by decide +kernel
theorem dX7_seen_40 : decode cX7_seen 40 = .ok (.getfield 35, 3) := by decide +kernel
theorem dX7_seen_43 : decode cX7_seen 43 = .ok (.getfield 195, 3) := by decide +kernel
theorem dX7_seen_46 : decode cX7_seen 46 = .ok (.ireturn, 1) := by decide +kernel
theorem dX7_read_0 : decode cX7_read 0 = .ok (.aload_n 0, 1) := by decide +kernel
theorem dX7_read_1 : decode cX7_read 1 = .ok (.iload_n 1, 1) := by decide +kernel
theorem dX7_read_2 : decode cX7_read 2 = .ok (.iconst 1, 1) := by decide +kernel
theorem dX7_read_3 : decode cX7_read 3 = .ok (.invokevirtual 201, 3) := by decide +kernel
theorem dX7_read_6 : decode cX7_read 6 = .ok (.istore_n 2, 1) := by decide +kernel
theorem dX7_read_7 : decode cX7_read 7 = .ok (.iload_n 2, 1) := by decide +kernel
theorem dX7_read_8 : decode cX7_read 8 = .ok (.ifCond .eq 5, 3) := by decide +kernel
theorem dX7_read_11 : decode cX7_read 11 = .ok (.iload_n 2, 1) := by decide +kernel
theorem dX7_read_12 : decode cX7_read 12 = .ok (.ireturn, 1) := by decide +kernel
theorem dX7_read_13 : decode cX7_read 13 = .ok (.aload_n 0, 1) := by decide +kernel
theorem dX7_read_14 : decode cX7_read 14 = .ok (.getfield 55, 3) := by decide +kernel
theorem dX7_read_17 : decode cX7_read 17 = .ok (.iload_n 1, 1) := by decide +kernel
theorem dX7_read_18 : decode cX7_read 18 = .ok (.aaload, 1) := by decide +kernel
theorem dX7_read_19 : decode cX7_read 19 = .ok (.getfield 160, 3) := by decide +kernel
theorem dX7_read_22 : decode cX7_read 22 = .ok (.astore_n 3, 1) := by decide +kernel
theorem dX7_read_23 : decode cX7_read 23 = .ok (.iconst 0, 1) := by decide +kernel
theorem dX7_read_24 : decode cX7_read 24 = .ok (.istore 4, 2) := by decide +kernel
theorem dX7_read_26 : decode cX7_read 26 = .ok (.iconst 0, 1) := by decide +kernel
theorem dX7_read_27 : decode cX7_read 27 = .ok (.istore 5, 2) := by decide +kernel
theorem dX7_read_29 : decode cX7_read 29 = .ok (.iload 5, 2) := by decide +kernel
theorem dX7_read_31 : decode cX7_read 31 = .ok (.iconst 1, 1) := by decide +kernel
theorem dX7_read_32 : decode cX7_read 32 = .ok (.iadd, 1) := by decide +kernel
theorem dX7_read_33 : decode cX7_read 33 = .ok (.aload_n 0, 1) := by decide +kernel
theorem dX7_read_34 : decode cX7_read 34 = .ok (.getfield 55, 3) := by decide +kernel
theorem dX7_read_37 : decode cX7_read 37 = .ok (.iload_n 1, 1) := by decide +kernel
theorem dX7_read_38 : decode cX7_read 38 = .ok (.aaload, 1) := by decide +kernel
theorem dX7_read_39 : decode cX7_read 39 = .ok (.getfield 204, 3) := by decide +kernel
theorem dX7_read_42 : decode cX7_read 42 = .ok (.if_icmp .ge 64, 3) := by decide +kernel
theorem dX7_read_45 : decode cX7_read 45 = .ok (.aload_n 0, 1) := by decide +kernel
theorem dX7_read_46 : decode cX7_read 46 = .ok (.getfield 35, 3) := by decide +kernel
theorem dX7_read_49 : decode cX7_read 49 = .ok (.getfield 195, 3) := by decide +kernel
theorem dX7_read_52 : decode cX7_read 52 = .ok (.bipush 8, 2) := by decide +kernel
theorem dX7_read_54 : decode cX7_read 54 = .ok (.if_icmp .ge 52, 3) := by decide +kernel
theorem dX7_read_57 : decode cX7_read 57 = .ok (.aload_n 0, 1) := by decide +kernel
theorem dX7_read_58 : decode cX7_read 58 = .ok (.getfield 35, 3) := by decide +kernel
theorem dX7_read_61 : decode cX7_read 61 = .ok (.aload_n 3, 1) := by decide +kernel
theorem dX7_read_62 : decode cX7_read 62 = .ok (.iload 5, 2) := by decide +kernel
theorem dX7_read_64 : decode cX7_read 64 = .ok (.iaload, 1) := by decide +kernel
theorem dX7_read_65 : decode cX7_read 65 = .ok (.aload_n 3, 1) := by decide +kernel
theorem dX7_read_66 : decode cX7_read 66 = .ok (.iload 5, 2) := by decide +kernel
theorem dX7_read_68 : decode cX7_read 68 = .ok (.iconst 1, 1) := by decide +kernel
theorem dX7_read_69 : decode cX7_read 69 = .ok (.iadd, 1) := by decide +kernel
theorem dX7_read_70 : decode cX7_read 70 = .ok (.iaload, 1) := by decide +kernel
theorem dX7_read_71 : decode cX7_read 71 = .ok (.invokevirtual 191, 3) := by decide +kernel
theorem dX7_read_74 : decode cX7_read 74 = .ok (.ifCond .ne 6, 3) := by decide +kernel
theorem dX7_read_77 : decode cX7_read 77 = .ok (.goto 29, 3) := by decide +kernel
theorem dX7_read_80 : decode cX7_read 80 = .ok (.aload_n 0, 1) := by decide +kernel
theorem dX7_read_81 : decode cX7_read 81 = .ok (.getfield 35, 3) := by decide +kernel
theorem dX7_read_84 : decode cX7_read 84 = .ok (.aload_n 3, 1) := by decide +kernel
theorem dX7_read_85 : decode cX7_read 85 = .ok (.iload 5, 2) := by decide +kernel
theorem dX7_read_87 : decode cX7_read 87 = .ok (.iaload, 1) := by decide +kernel
theorem dX7_read_88 : decode cX7_read 88 = .ok (.aload_n 3, 1) := by decide +kernel
theorem dX7_read_89 : decode cX7_read 89 = .ok (.iload 5, 2) := by decide +kernel
theorem dX7_read_91 : decode cX7_read 91 = .ok (.iconst 1, 1) := by decide +kernel
theorem dX7_read_92 : decode cX7_read 92 = .ok (.iadd, 1) := by decide +kernel
theorem dX7_read_93 : decode cX7_read 93 = .ok (.iaload, 1) := by decide +kernel
theorem dX7_read_94 : decode cX7_read 94 = .ok (.invokevirtual 198, 3) := by decide +kernel
theorem dX7_read_97 : decode cX7_read 97 = .ok (.iinc 4 1, 3) := by decide +kernel
theorem dX7_read_100 : decode cX7_read 100 = .ok (.iinc 5 2, 3) := by decide +kernel
theorem dX7_read_103 : decode cX7_read 103 = .ok (.goto (-74), 3) := by decide +kernel
theorem dX7_read_106 : decode cX7_read 106 = .ok (.iload 4, 2) := by decide +kernel
theorem dX7_read_108 : decode cX7_read 108 = .ok (.ireturn, 1) := by decide +kernel
theorem dX7_forget_0 : decode cX7_forget 0 = .ok (.aload_n 0, 1) := by decide +kernel
theorem dX7_forget_1 : decode cX7_forget 1 = .ok (.getfield 35, 3) := by decide +kernel
theorem dX7_forget_4 : decode cX7_forget 4 = .ok (.getfield 195, 3) := by decide +kernel
theorem dX7_forget_7 : decode cX7_forget 7 = .ok (.istore_n 1, 1) := by decide +kernel
theorem dX7_forget_8 : decode cX7_forget 8 = .ok (.aload_n 0, 1) := by decide +kernel
theorem dX7_forget_9 : decode cX7_forget 9 = .ok (.getfield 35, 3) := by decide +kernel
theorem dX7_forget_12 : decode cX7_forget 12 = .ok (.invokevirtual 205, 3) := by decide +kernel
theorem dX7_forget_15 : decode cX7_forget 15 = .ok (.iload_n 1, 1) := by decide +kernel
theorem dX7_forget_16 : decode cX7_forget 16 = .ok (.ireturn, 1) := by decide +kernel
theorem dX7_losers_0 : decode cX7_losers 0 = .ok (.aload_n 0, 1) := by decide +kernel
theorem dX7_losers_1 : decode cX7_losers 1 = .ok (.getfield 35, 3) := by decide +kernel
theorem dX7_losers_4 : decode cX7_losers 4 = .ok (.invokevirtual 208, 3) := by decide +kernel
theorem dX7_losers_7 : decode cX7_losers 7 = .ok (.aload_n 0, 1) := by decide +kernel
theorem dX7_losers_8 : decode cX7_losers 8 = .ok (.getfield 35, 3) := by decide +kernel
theorem dX7_losers_11 : decode cX7_losers 11 = .ok (.getfield 209, 3) := by decide +kernel
theorem dX7_losers_14 : decode cX7_losers 14 = .ok (.ireturn, 1) := by decide +kernel
theorem dX7_share_0 : decode cX7_share 0 = .ok (.aload_n 0, 1) := by decide +kernel
theorem dX7_share_1 : decode cX7_share 1 = .ok (.iload_n 1, 1) := by decide +kernel
theorem dX7_share_2 : decode cX7_share 2 = .ok (.invokevirtual 99, 3) := by decide +kernel
theorem dX7_share_5 : decode cX7_share 5 = .ok (.ifCond .ne 22, 3) := by decide +kernel
theorem dX7_share_8 : decode cX7_share 8 = .ok (.iload_n 2, 1) := by decide +kernel
theorem dX7_share_9 : decode cX7_share 9 = .ok (.invokestatic 102, 3) := by decide +kernel
theorem dX7_share_12 : decode cX7_share 12 = .ok (.ifCond .ne 15, 3) := by decide +kernel
theorem dX7_share_15 : decode cX7_share 15 = .ok (.aload_n 0, 1) := by decide +kernel
theorem dX7_share_16 : decode cX7_share 16 = .ok (.getfield 12, 3) := by decide +kernel
theorem dX7_share_19 : decode cX7_share 19 = .ok (.getfield 108, 3) := by decide +kernel
theorem dX7_share_22 : decode cX7_share 22 = .ok (.iload_n 1, 1) := by decide +kernel
theorem dX7_share_23 : decode cX7_share 23 = .ok (.iaload, 1) := by decide +kernel
theorem dX7_share_24 : decode cX7_share 24 = .ok (.ifCond .eq 9, 3) := by decide +kernel
theorem dX7_share_27 : decode cX7_share 27 = .ok (.bipush (-2), 2) := by decide +kernel
theorem dX7_share_29 : decode cX7_share 29 = .ok (.invokestatic 111, 3) := by decide +kernel
theorem dX7_share_32 : decode cX7_share 32 = .ok (.lreturn, 1) := by decide +kernel
theorem dX7_share_33 : decode cX7_share 33 = .ok (.aload_n 0, 1) := by decide +kernel
theorem dX7_share_34 : decode cX7_share 34 = .ok (.getfield 35, 3) := by decide +kernel
theorem dX7_share_37 : decode cX7_share 37 = .ok (.invokevirtual 208, 3) := by decide +kernel
theorem dX7_share_40 : decode cX7_share 40 = .ok (.aload_n 0, 1) := by decide +kernel
theorem dX7_share_41 : decode cX7_share 41 = .ok (.getfield 35, 3) := by decide +kernel
theorem dX7_share_44 : decode cX7_share 44 = .ok (.getfield 212, 3) := by decide +kernel
theorem dX7_share_47 : decode cX7_share 47 = .ok (.lconst 0, 1) := by decide +kernel
theorem dX7_share_48 : decode cX7_share 48 = .ok (.lcmp, 1) := by decide +kernel
theorem dX7_share_49 : decode cX7_share 49 = .ok (.ifCond .ne 11, 3) := by decide +kernel
theorem dX7_share_52 : decode cX7_share 52 = .ok (.bipush (-3), 2) := by decide +kernel
theorem dX7_share_54 : decode cX7_share 54 = .ok (.invokestatic 111, 3) := by decide +kernel
theorem dX7_share_57 : decode cX7_share 57 = .ok (.goto 23, 3) := by decide +kernel
theorem dX7_share_60 : decode cX7_share 60 = .ok (.aload_n 0, 1) := by decide +kernel
theorem dX7_share_61 : decode cX7_share 61 = .ok (.getfield 35, 3) := by decide +kernel
theorem dX7_share_64 : decode cX7_share 64 = .ok (.getfield 215, 3) := by decide +kernel
theorem dX7_share_67 : decode cX7_share 67 = .ok (.iload_n 1, 1) := by decide +kernel
theorem dX7_share_68 : decode cX7_share 68 = .ok (.laload, 1) := by decide +kernel
theorem dX7_share_69 : decode cX7_share 69 = .ok (.aload_n 0, 1) := by decide +kernel
theorem dX7_share_70 : decode cX7_share 70 = .ok (.getfield 35, 3) := by decide +kernel
theorem dX7_share_73 : decode cX7_share 73 = .ok (.getfield 212, 3) := by decide +kernel
theorem dX7_share_76 : decode cX7_share 76 = .ok (.iload_n 2, 1) := by decide +kernel
theorem dX7_share_77 : decode cX7_share 77 = .ok (.invokestatic 124, 3) := by decide +kernel
theorem dX7_share_80 : decode cX7_share 80 = .ok (.lreturn, 1) := by decide +kernel
theorem dX7_likeliest_0 : decode cX7_likeliest 0 = .ok (.aload_n 0, 1) := by decide +kernel
theorem dX7_likeliest_1 : decode cX7_likeliest 1 = .ok (.getfield 35, 3) := by decide +kernel
theorem dX7_likeliest_4 : decode cX7_likeliest 4 = .ok (.invokevirtual 208, 3) := by decide +kernel
theorem dX7_likeliest_7 : decode cX7_likeliest 7 = .ok (.aload_n 0, 1) := by decide +kernel
theorem dX7_likeliest_8 : decode cX7_likeliest 8 = .ok (.getfield 35, 3) := by decide +kernel
theorem dX7_likeliest_11 : decode cX7_likeliest 11 = .ok (.invokevirtual 218, 3) := by decide +kernel
theorem dX7_likeliest_14 : decode cX7_likeliest 14 = .ok (.ireturn, 1) := by decide +kernel
theorem dX7_ask_0 : decode cX7_ask 0 = .ok (.iload_n 1, 1) := by decide +kernel
theorem dX7_ask_1 : decode cX7_ask 1 = .ok (.invokestatic 102, 3) := by decide +kernel
theorem dX7_ask_4 : decode cX7_ask 4 = .ok (.ifCond .eq 6, 3) := by decide +kernel
theorem dX7_ask_7 : decode cX7_ask 7 = .ok (.bipush (-2), 2) := by decide +kernel
theorem dX7_ask_9 : decode cX7_ask 9 = .ok (.ireturn, 1) := by decide +kernel
theorem dX7_ask_10 : decode cX7_ask 10 = .ok (.aload_n 0, 1) := by decide +kernel
theorem dX7_ask_11 : decode cX7_ask 11 = .ok (.getfield 35, 3) := by decide +kernel
theorem dX7_ask_14 : decode cX7_ask 14 = .ok (.invokevirtual 208, 3) := by decide +kernel
theorem dX7_ask_17 : decode cX7_ask 17 = .ok (.aload_n 0, 1) := by decide +kernel
theorem dX7_ask_18 : decode cX7_ask 18 = .ok (.getfield 35, 3) := by decide +kernel
theorem dX7_ask_21 : decode cX7_ask 21 = .ok (.invokevirtual 221, 3) := by decide +kernel
theorem dX7_ask_24 : decode cX7_ask 24 = .ok (.istore_n 2, 1) := by decide +kernel
theorem dX7_ask_25 : decode cX7_ask 25 = .ok (.iload_n 2, 1) := by decide +kernel
theorem dX7_ask_26 : decode cX7_ask 26 = .ok (.iconst (-1), 1) := by decide +kernel
theorem dX7_ask_27 : decode cX7_ask 27 = .ok (.if_icmp .ne 6, 3) := by decide +kernel
theorem dX7_ask_30 : decode cX7_ask 30 = .ok (.bipush (-3), 2) := by decide +kernel
theorem dX7_ask_32 : decode cX7_ask 32 = .ok (.ireturn, 1) := by decide +kernel
theorem dX7_ask_33 : decode cX7_ask 33 = .ok (.iload_n 1, 1) := by decide +kernel
theorem dX7_ask_34 : decode cX7_ask 34 = .ok (.ifCond .ne 7, 3) := by decide +kernel
theorem dX7_ask_37 : decode cX7_ask 37 = .ok (.iload_n 2, 1) := by decide +kernel
theorem dX7_ask_38 : decode cX7_ask 38 = .ok (.goto 11, 3) := by decide +kernel
theorem dX7_ask_41 : decode cX7_ask 41 = .ok (.aload_n 0, 1) := by decide +kernel
theorem dX7_ask_42 : decode cX7_ask 42 = .ok (.getfield 35, 3) := by decide +kernel
theorem dX7_ask_45 : decode cX7_ask 45 = .ok (.iload_n 2, 1) := by decide +kernel
theorem dX7_ask_46 : decode cX7_ask 46 = .ok (.invokevirtual 224, 3) := by decide +kernel
theorem dX7_ask_49 : decode cX7_ask 49 = .ok (.ireturn, 1) := by decide +kernel
theorem dX7_turned_0 : decode cX7_turned 0 = .ok (.iload_n 1, 1) := by decide +kernel
theorem dX7_turned_1 : decode cX7_turned 1 = .ok (.iconst 1, 1) := by decide +kernel
theorem dX7_turned_2 : decode cX7_turned 2 = .ok (.if_icmp .lt 25, 3) := by decide +kernel
theorem dX7_turned_5 : decode cX7_turned 5 = .ok (.iload_n 1, 1) := by decide +kernel
theorem dX7_turned_6 : decode cX7_turned 6 = .ok (.bipush 9, 2) := by decide +kernel
theorem dX7_turned_8 : decode cX7_turned 8 = .ok (.if_icmp .gt 19, 3) := by decide +kernel
theorem dX7_turned_11 : decode cX7_turned 11 = .ok (.iload_n 2, 1) := by decide +kernel
theorem dX7_turned_12 : decode cX7_turned 12 = .ok (.ifCond .lt 15, 3) := by decide +kernel
theorem dX7_turned_15 : decode cX7_turned 15 = .ok (.iload_n 2, 1) := by decide +kernel
theorem dX7_turned_16 : decode cX7_turned 16 = .ok (.iload_n 1, 1) := by decide +kernel
theorem dX7_turned_17 : decode cX7_turned 17 = .ok (.if_icmp .gt 10, 3) := by decide +kernel
theorem dX7_turned_20 : decode cX7_turned 20 = .ok (.iload_n 3, 1) := by decide +kernel
theorem dX7_turned_21 : decode cX7_turned 21 = .ok (.invokestatic 102, 3) := by decide +kernel
theorem dX7_turned_24 : decode cX7_turned 24 = .ok (.ifCond .eq 9, 3) := by decide +kernel
theorem dX7_turned_27 : decode cX7_turned 27 = .ok (.bipush (-2), 2) := by decide +kernel
theorem dX7_turned_29 : decode cX7_turned 29 = .ok (.invokestatic 111, 3) := by decide +kernel
theorem dX7_turned_32 : decode cX7_turned 32 = .ok (.lreturn, 1) := by decide +kernel
theorem dX7_turned_33 : decode cX7_turned 33 = .ok (.lconst 0, 1) := by decide +kernel
theorem dX7_turned_34 : decode cX7_turned 34 = .ok (.lstore 4, 2) := by decide +kernel
theorem dX7_turned_36 : decode cX7_turned 36 = .ok (.iload_n 2, 1) := by decide +kernel
theorem dX7_turned_37 : decode cX7_turned 37 = .ok (.iconst 1, 1) := by decide +kernel
theorem dX7_turned_38 : decode cX7_turned 38 = .ok (.iadd, 1) := by decide +kernel
theorem dX7_turned_39 : decode cX7_turned 39 = .ok (.istore 6, 2) := by decide +kernel
theorem dX7_turned_41 : decode cX7_turned 41 = .ok (.iload 6, 2) := by decide +kernel
theorem dX7_turned_43 : decode cX7_turned 43 = .ok (.iload_n 1, 1) := by decide +kernel
theorem dX7_turned_44 : decode cX7_turned 44 = .ok (.if_icmp .gt 24, 3) := by decide +kernel
theorem dX7_turned_47 : decode cX7_turned 47 = .ok (.lload 4, 2) := by decide +kernel
theorem dX7_turned_49 : decode cX7_turned 49 = .ok (.iload_n 2, 1) := by decide +kernel
theorem dX7_turned_50 : decode cX7_turned 50 = .ok (.i2l, 1) := by decide +kernel
theorem dX7_turned_51 : decode cX7_turned 51 = .ok (.ldc2_w 227, 3) := by decide +kernel
theorem dX7_turned_54 : decode cX7_turned 54 = .ok (.lmul, 1) := by decide +kernel
theorem dX7_turned_55 : decode cX7_turned 55 = .ok (.iload 6, 2) := by decide +kernel
theorem dX7_turned_57 : decode cX7_turned 57 = .ok (.i2l, 1) := by decide +kernel
theorem dX7_turned_58 : decode cX7_turned 58 = .ok (.ldiv, 1) := by decide +kernel
theorem dX7_turned_59 : decode cX7_turned 59 = .ok (.ladd, 1) := by decide +kernel
theorem dX7_turned_60 : decode cX7_turned 60 = .ok (.lstore 4, 2) := by decide +kernel
theorem dX7_turned_62 : decode cX7_turned 62 = .ok (.iinc 6 1, 3) := by decide +kernel
theorem dX7_turned_65 : decode cX7_turned 65 = .ok (.goto (-24), 3) := by decide +kernel
theorem dX7_turned_68 : decode cX7_turned 68 = .ok (.lload 4, 2) := by decide +kernel
theorem dX7_turned_70 : decode cX7_turned 70 = .ok (.ldc2_w 227, 3) := by decide +kernel
theorem dX7_turned_73 : decode cX7_turned 73 = .ok (.iload_n 3, 1) := by decide +kernel
theorem dX7_turned_74 : decode cX7_turned 74 = .ok (.invokestatic 124, 3) := by decide +kernel
theorem dX7_turned_77 : decode cX7_turned 77 = .ok (.lreturn, 1) := by decide +kernel
theorem dX7_evening_0 : decode cX7_evening 0 = .ok (.iload_n 2, 1) := by decide +kernel
theorem dX7_evening_1 : decode cX7_evening 1 = .ok (.iconst (-1), 1) := by decide +kernel
theorem dX7_evening_2 : decode cX7_evening 2 = .ok (.if_icmp .eq 14, 3) := by decide +kernel
theorem dX7_evening_5 : decode cX7_evening 5 = .ok (.aload_n 0, 1) := by decide +kernel
theorem dX7_evening_6 : decode cX7_evening 6 = .ok (.iload_n 2, 1) := by decide +kernel
theorem dX7_evening_7 : decode cX7_evening 7 = .ok (.invokevirtual 99, 3) := by decide +kernel
theorem dX7_evening_10 : decode cX7_evening 10 = .ok (.ifCond .eq 6, 3) := by decide +kernel
theorem dX7_evening_13 : decode cX7_evening 13 = .ok (.bipush (-2), 2) := by decide +kernel
theorem dX7_evening_15 : decode cX7_evening 15 = .ok (.ireturn, 1) := by decide +kernel
theorem dX7_evening_16 : decode cX7_evening 16 = .ok (.aload_n 0, 1) := by decide +kernel
theorem dX7_evening_17 : decode cX7_evening 17 = .ok (.getfield 42, 3) := by decide +kernel
theorem dX7_evening_20 : decode cX7_evening 20 = .ok (.iload_n 1, 1) := by decide +kernel
theorem dX7_evening_21 : decode cX7_evening 21 = .ok (.invokevirtual 229, 3) := by decide +kernel
theorem dX7_evening_24 : decode cX7_evening 24 = .ok (.iload_n 2, 1) := by decide +kernel
theorem dX7_evening_25 : decode cX7_evening 25 = .ok (.iconst (-1), 1) := by decide +kernel
theorem dX7_evening_26 : decode cX7_evening 26 = .ok (.if_icmp .ne 13, 3) := by decide +kernel
theorem dX7_evening_29 : decode cX7_evening 29 = .ok (.aload_n 0, 1) := by decide +kernel
theorem dX7_evening_30 : decode cX7_evening 30 = .ok (.getfield 42, 3) := by decide +kernel
theorem dX7_evening_33 : decode cX7_evening 33 = .ok (.getfield 232, 3) := by decide +kernel
theorem dX7_evening_36 : decode cX7_evening 36 = .ok (.goto 12, 3) := by decide +kernel
theorem dX7_evening_39 : decode cX7_evening 39 = .ok (.aload_n 0, 1) := by decide +kernel
theorem dX7_evening_40 : decode cX7_evening 40 = .ok (.getfield 42, 3) := by decide +kernel
theorem dX7_evening_43 : decode cX7_evening 43 = .ok (.getfield 234, 3) := by decide +kernel
theorem dX7_evening_46 : decode cX7_evening 46 = .ok (.iload_n 2, 1) := by decide +kernel
theorem dX7_evening_47 : decode cX7_evening 47 = .ok (.iaload, 1) := by decide +kernel
theorem dX7_evening_48 : decode cX7_evening 48 = .ok (.ireturn, 1) := by decide +kernel
theorem dX7_sheet_0 : decode cX7_sheet 0 = .ok (.iload_n 1, 1) := by decide +kernel
theorem dX7_sheet_1 : decode cX7_sheet 1 = .ok (.invokestatic 237, 3) := by decide +kernel
theorem dX7_sheet_4 : decode cX7_sheet 4 = .ok (.ifCond .ne 16, 3) := by decide +kernel
theorem dX7_sheet_7 : decode cX7_sheet 7 = .ok (.iload_n 2, 1) := by decide +kernel
theorem dX7_sheet_8 : decode cX7_sheet 8 = .ok (.invokestatic 240, 3) := by decide +kernel
theorem dX7_sheet_11 : decode cX7_sheet 11 = .ok (.ifCond .ne 9, 3) := by decide +kernel
theorem dX7_sheet_14 : decode cX7_sheet 14 = .ok (.iload_n 3, 1) := by decide +kernel
theorem dX7_sheet_15 : decode cX7_sheet 15 = .ok (.bipush 60, 2) := by decide +kernel
theorem dX7_sheet_17 : decode cX7_sheet 17 = .ok (.if_icmp .le 6, 3) := by decide +kernel
theorem dX7_sheet_20 : decode cX7_sheet 20 = .ok (.bipush (-2), 2) := by decide +kernel
theorem dX7_sheet_22 : decode cX7_sheet 22 = .ok (.ireturn, 1) := by decide +kernel
theorem dX7_sheet_23 : decode cX7_sheet 23 = .ok (.iload_n 3, 1) := by decide +kernel
theorem dX7_sheet_24 : decode cX7_sheet 24 = .ok (.ifCond .ge 9, 3) := by decide +kernel
theorem dX7_sheet_27 : decode cX7_sheet 27 = .ok (.aload_n 0, 1) := by decide +kernel
theorem dX7_sheet_28 : decode cX7_sheet 28 = .ok (.iconst 5, 1) := by decide +kernel
theorem dX7_sheet_29 : decode cX7_sheet 29 = .ok (.invokevirtual 243, 3) := by decide +kernel
theorem dX7_sheet_32 : decode cX7_sheet 32 = .ok (.ireturn, 1) := by decide +kernel
theorem dX7_sheet_33 : decode cX7_sheet 33 = .ok (.aload_n 0, 1) := by decide +kernel
theorem dX7_sheet_34 : decode cX7_sheet 34 = .ok (.getfield 55, 3) := by decide +kernel
theorem dX7_sheet_37 : decode cX7_sheet 37 = .ok (.iload_n 1, 1) := by decide +kernel
theorem dX7_sheet_38 : decode cX7_sheet 38 = .ok (.aaload, 1) := by decide +kernel
theorem dX7_sheet_39 : decode cX7_sheet 39 = .ok (.iload_n 2, 1) := by decide +kernel
theorem dX7_sheet_40 : decode cX7_sheet 40 = .ok (.iload_n 3, 1) := by decide +kernel
theorem dX7_sheet_41 : decode cX7_sheet 41 = .ok (.invokevirtual 246, 3) := by decide +kernel
theorem dX7_sheet_44 : decode cX7_sheet 44 = .ok (.iload_n 3, 1) := by decide +kernel
theorem dX7_sheet_45 : decode cX7_sheet 45 = .ok (.ireturn, 1) := by decide +kernel
theorem dX7_lose_0 : decode cX7_lose 0 = .ok (.aload_n 0, 1) := by decide +kernel
theorem dX7_lose_1 : decode cX7_lose 1 = .ok (.iload_n 1, 1) := by decide +kernel
theorem dX7_lose_2 : decode cX7_lose 2 = .ok (.iconst 1, 1) := by decide +kernel
theorem dX7_lose_3 : decode cX7_lose 3 = .ok (.invokevirtual 201, 3) := by decide +kernel
theorem dX7_lose_6 : decode cX7_lose 6 = .ok (.istore_n 2, 1) := by decide +kernel
theorem dX7_lose_7 : decode cX7_lose 7 = .ok (.iload_n 2, 1) := by decide +kernel
theorem dX7_lose_8 : decode cX7_lose 8 = .ok (.ifCond .eq 5, 3) := by decide +kernel
theorem dX7_lose_11 : decode cX7_lose 11 = .ok (.iload_n 2, 1) := by decide +kernel
theorem dX7_lose_12 : decode cX7_lose 12 = .ok (.ireturn, 1) := by decide +kernel
theorem dX7_lose_13 : decode cX7_lose 13 = .ok (.aload_n 0, 1) := by decide +kernel
theorem dX7_lose_14 : decode cX7_lose 14 = .ok (.getfield 55, 3) := by decide +kernel
theorem dX7_lose_17 : decode cX7_lose 17 = .ok (.iload_n 1, 1) := by decide +kernel
theorem dX7_lose_18 : decode cX7_lose 18 = .ok (.aaload, 1) := by decide +kernel
theorem dX7_lose_19 : decode cX7_lose 19 = .ok (.getfield 204, 3) := by decide +kernel
theorem dX7_lose_22 : decode cX7_lose 22 = .ok (.istore_n 3, 1) := by decide +kernel
theorem dX7_lose_23 : decode cX7_lose 23 = .ok (.aload_n 0, 1) := by decide +kernel
theorem dX7_lose_24 : decode cX7_lose 24 = .ok (.getfield 55, 3) := by decide +kernel
theorem dX7_lose_27 : decode cX7_lose 27 = .ok (.iload_n 1, 1) := by decide +kernel
theorem dX7_lose_28 : decode cX7_lose 28 = .ok (.aaload, 1) := by decide +kernel
theorem dX7_lose_29 : decode cX7_lose 29 = .ok (.iconst (-1), 1) := by decide +kernel
theorem dX7_lose_30 : decode cX7_lose 30 = .ok (.putfield 204, 3) := by decide +kernel
theorem dX7_lose_33 : decode cX7_lose 33 = .ok (.iload_n 3, 1) := by decide +kernel
theorem dX7_lose_34 : decode cX7_lose 34 = .ok (.ireturn, 1) := by decide +kernel
theorem dX7_lay_0 : decode cX7_lay 0 = .ok (.aload_n 0, 1) := by decide +kernel
theorem dX7_lay_1 : decode cX7_lay 1 = .ok (.iload_n 1, 1) := by decide +kernel
theorem dX7_lay_2 : decode cX7_lay 2 = .ok (.iload_n 2, 1) := by decide +kernel
theorem dX7_lay_3 : decode cX7_lay 3 = .ok (.iload_n 3, 1) := by decide +kernel
theorem dX7_lay_4 : decode cX7_lay 4 = .ok (.invokevirtual 249, 3) := by decide +kernel
theorem dX7_lay_7 : decode cX7_lay 7 = .ok (.istore 5, 2) := by decide +kernel
theorem dX7_lay_9 : decode cX7_lay 9 = .ok (.iload 5, 2) := by decide +kernel
theorem dX7_lay_11 : decode cX7_lay 11 = .ok (.ifCond .eq 6, 3) := by decide +kernel
theorem dX7_lay_14 : decode cX7_lay 14 = .ok (.iload 5, 2) := by decide +kernel
theorem dX7_lay_16 : decode cX7_lay 16 = .ok (.ireturn, 1) := by decide +kernel
theorem dX7_lay_17 : decode cX7_lay 17 = .ok (.aload_n 0, 1) := by decide +kernel
theorem dX7_lay_18 : decode cX7_lay 18 = .ok (.getfield 55, 3) := by decide +kernel
theorem dX7_lay_21 : decode cX7_lay 21 = .ok (.iload_n 1, 1) := by decide +kernel
theorem dX7_lay_22 : decode cX7_lay 22 = .ok (.aaload, 1) := by decide +kernel
theorem dX7_lay_23 : decode cX7_lay 23 = .ok (.iload_n 3, 1) := by decide +kernel
theorem dX7_lay_24 : decode cX7_lay 24 = .ok (.iload 4, 2) := by decide +kernel
theorem dX7_lay_26 : decode cX7_lay 26 = .ok (.invokevirtual 253, 3) := by decide +kernel
theorem dX7_lay_29 : decode cX7_lay 29 = .ok (.iconst 1, 1) := by decide +kernel
theorem dX7_lay_30 : decode cX7_lay 30 = .ok (.ireturn, 1) := by decide +kernel
theorem dX7_get_0 : decode cX7_get 0 = .ok (.aload_n 0, 1) := by decide +kernel
theorem dX7_get_1 : decode cX7_get 1 = .ok (.iload_n 1, 1) := by decide +kernel
theorem dX7_get_2 : decode cX7_get 2 = .ok (.iload_n 2, 1) := by decide +kernel
theorem dX7_get_3 : decode cX7_get 3 = .ok (.iload_n 3, 1) := by decide +kernel
theorem dX7_get_4 : decode cX7_get 4 = .ok (.invokevirtual 249, 3) := by decide +kernel
theorem dX7_get_7 : decode cX7_get 7 = .ok (.ifCond .eq 9, 3) := by decide +kernel
theorem dX7_get_10 : decode cX7_get 10 = .ok (.ldc_w 256, 3) := by decide +kernel
theorem dX7_get_13 : decode cX7_get 13 = .ok (.goto 14, 3) := by decide +kernel
theorem dX7_get_16 : decode cX7_get 16 = .ok (.aload_n 0, 1) := by decide +kernel
theorem dX7_get_17 : decode cX7_get 17 = .ok (.getfield 55, 3) := by decide +kernel
theorem dX7_get_20 : decode cX7_get 20 = .ok (.iload_n 1, 1) := by decide +kernel
theorem dX7_get_21 : decode cX7_get 21 = .ok (.aaload, 1) := by decide +kernel
theorem dX7_get_22 : decode cX7_get 22 = .ok (.getfield 160, 3) := by decide +kernel
theorem dX7_get_25 : decode cX7_get 25 = .ok (.iload_n 3, 1) := by decide +kernel
theorem dX7_get_26 : decode cX7_get 26 = .ok (.iaload, 1) := by decide +kernel
theorem dX7_get_27 : decode cX7_get 27 = .ok (.ireturn, 1) := by decide +kernel
theorem dX7_copy_0 : decode cX7_copy 0 = .ok (.iload_n 1, 1) := by decide +kernel
theorem dX7_copy_1 : decode cX7_copy 1 = .ok (.invokestatic 237, 3) := by decide +kernel
theorem dX7_copy_4 : decode cX7_copy 4 = .ok (.ifCond .ne 10, 3) := by decide +kernel
theorem dX7_copy_7 : decode cX7_copy 7 = .ok (.iload_n 3, 1) := by decide +kernel
theorem dX7_copy_8 : decode cX7_copy 8 = .ok (.invokestatic 237, 3) := by decide +kernel
theorem dX7_copy_11 : decode cX7_copy 11 = .ok (.ifCond .eq 6, 3) := by decide +kernel
theorem dX7_copy_14 : decode cX7_copy 14 = .ok (.bipush (-2), 2) := by decide +kernel
theorem dX7_copy_16 : decode cX7_copy 16 = .ok (.ireturn, 1) := by decide +kernel
theorem dX7_copy_17 : decode cX7_copy 17 = .ok (.aload_n 0, 1) := by decide +kernel
theorem dX7_copy_18 : decode cX7_copy 18 = .ok (.getfield 55, 3) := by decide +kernel
theorem dX7_copy_21 : decode cX7_copy 21 = .ok (.iload_n 1, 1) := by decide +kernel
theorem dX7_copy_22 : decode cX7_copy 22 = .ok (.aaload, 1) := by decide +kernel
theorem dX7_copy_23 : decode cX7_copy 23 = .ok (.astore 6, 2) := by decide +kernel
theorem dX7_copy_25 : decode cX7_copy 25 = .ok (.aload_n 0, 1) := by decide +kernel
theorem dX7_copy_26 : decode cX7_copy 26 = .ok (.getfield 55, 3) := by decide +kernel
theorem dX7_copy_29 : decode cX7_copy 29 = .ok (.iload_n 3, 1) := by decide +kernel
theorem dX7_copy_30 : decode cX7_copy 30 = .ok (.aaload, 1) := by decide +kernel
theorem dX7_copy_31 : decode cX7_copy 31 = .ok (.astore 7, 2) := by decide +kernel
theorem dX7_copy_33 : decode cX7_copy 33 = .ok (.aload 6, 2) := by decide +kernel
theorem dX7_copy_35 : decode cX7_copy 35 = .ok (.getfield 204, 3) := by decide +kernel
theorem dX7_copy_38 : decode cX7_copy 38 = .ok (.iconst (-1), 1) := by decide +kernel
theorem dX7_copy_39 : decode cX7_copy 39 = .ok (.if_icmp .eq 12, 3) := by decide +kernel
theorem dX7_copy_42 : decode cX7_copy 42 = .ok (.aload 7, 2) := by decide +kernel
theorem dX7_copy_44 : decode cX7_copy 44 = .ok (.getfield 204, 3) := by decide +kernel
theorem dX7_copy_47 : decode cX7_copy 47 = .ok (.iconst (-1), 1) := by decide +kernel
theorem dX7_copy_48 : decode cX7_copy 48 = .ok (.if_icmp .ne 9, 3) := by decide +kernel
theorem dX7_copy_51 : decode cX7_copy 51 = .ok (.aload_n 0, 1) := by decide +kernel
theorem dX7_copy_52 : decode cX7_copy 52 = .ok (.iconst 1, 1) := by decide +kernel
theorem dX7_copy_53 : decode cX7_copy 53 = .ok (.invokevirtual 243, 3) := by decide +kernel
theorem dX7_copy_56 : decode cX7_copy 56 = .ok (.ireturn, 1) := by decide +kernel
theorem dX7_copy_57 : decode cX7_copy 57 = .ok (.aload 6, 2) := by decide +kernel
theorem dX7_copy_59 : decode cX7_copy 59 = .ok (.getfield 257, 3) := by decide +kernel
theorem dX7_copy_62 : decode cX7_copy 62 = .ok (.aload 7, 2) := by decide +kernel
theorem dX7_copy_64 : decode cX7_copy 64 = .ok (.getfield 257, 3) := by decide +kernel
theorem dX7_copy_67 : decode cX7_copy 67 = .ok (.if_icmp .eq 9, 3) := by decide +kernel
theorem dX7_copy_70 : decode cX7_copy 70 = .ok (.aload_n 0, 1) := by decide +kernel
theorem dX7_copy_71 : decode cX7_copy 71 = .ok (.iconst 4, 1) := by decide +kernel
theorem dX7_copy_72 : decode cX7_copy 72 = .ok (.invokevirtual 243, 3) := by decide +kernel
theorem dX7_copy_75 : decode cX7_copy 75 = .ok (.ireturn, 1) := by decide +kernel
theorem dX7_copy_76 : decode cX7_copy 76 = .ok (.aload 6, 2) := by decide +kernel
theorem dX7_copy_78 : decode cX7_copy 78 = .ok (.iload_n 2, 1) := by decide +kernel
theorem dX7_copy_79 : decode cX7_copy 79 = .ok (.iload 5, 2) := by decide +kernel
theorem dX7_copy_81 : decode cX7_copy 81 = .ok (.invokevirtual 260, 3) := by decide +kernel
theorem dX7_copy_84 : decode cX7_copy 84 = .ok (.ifCond .eq 15, 3) := by decide +kernel
theorem dX7_copy_87 : decode cX7_copy 87 = .ok (.aload 7, 2) := by decide +kernel
theorem dX7_copy_89 : decode cX7_copy 89 = .ok (.iload 4, 2) := by decide +kernel
theorem dX7_copy_91 : decode cX7_copy 91 = .ok (.iload 5, 2) := by decide +kernel
theorem dX7_copy_93 : decode cX7_copy 93 = .ok (.invokevirtual 260, 3) := by decide +kernel
theorem dX7_copy_96 : decode cX7_copy 96 = .ok (.ifCond .ne 9, 3) := by decide +kernel
theorem dX7_copy_99 : decode cX7_copy 99 = .ok (.aload_n 0, 1) := by decide +kernel
theorem dX7_copy_100 : decode cX7_copy 100 = .ok (.iconst 2, 1) := by decide +kernel
theorem dX7_copy_101 : decode cX7_copy 101 = .ok (.invokevirtual 243, 3) := by decide +kernel
theorem dX7_copy_104 : decode cX7_copy 104 = .ok (.ireturn, 1) := by decide +kernel
theorem dX7_copy_105 : decode cX7_copy 105 = .ok (.aload 6, 2) := by decide +kernel
theorem dX7_copy_107 : decode cX7_copy 107 = .ok (.getfield 160, 3) := by decide +kernel
theorem dX7_copy_110 : decode cX7_copy 110 = .ok (.iload_n 2, 1) := by decide +kernel
theorem dX7_copy_111 : decode cX7_copy 111 = .ok (.aload 7, 2) := by decide +kernel
theorem dX7_copy_113 : decode cX7_copy 113 = .ok (.getfield 160, 3) := by decide +kernel
theorem dX7_copy_116 : decode cX7_copy 116 = .ok (.iload 4, 2) := by decide +kernel
theorem dX7_copy_118 : decode cX7_copy 118 = .ok (.iload 5, 2) := by decide +kernel
theorem dX7_copy_120 : decode cX7_copy 120 = .ok (.invokestatic 263, 3) := by decide +kernel
theorem dX7_copy_123 : decode cX7_copy 123 = .ok (.iconst 1, 1) := by decide +kernel
theorem dX7_copy_124 : decode cX7_copy 124 = .ok (.ireturn, 1) := by decide +kernel
theorem dX7_write_0 : decode cX7_write 0 = .ok (.aload_n 0, 1) := by decide +kernel
theorem dX7_write_1 : decode cX7_write 1 = .ok (.iload_n 2, 1) := by decide +kernel
theorem dX7_write_2 : decode cX7_write 2 = .ok (.iconst 1, 1) := by decide +kernel
theorem dX7_write_3 : decode cX7_write 3 = .ok (.invokevirtual 201, 3) := by decide +kernel
theorem dX7_write_6 : decode cX7_write 6 = .ok (.istore_n 3, 1) := by decide +kernel
theorem dX7_write_7 : decode cX7_write 7 = .ok (.iload_n 3, 1) := by decide +kernel
theorem dX7_write_8 : decode cX7_write 8 = .ok (.ifCond .eq 5, 3) := by decide +kernel
theorem dX7_write_11 : decode cX7_write 11 = .ok (.iload_n 3, 1) := by decide +kernel
theorem dX7_write_12 : decode cX7_write 12 = .ok (.ireturn, 1) := by decide +kernel
theorem dX7_write_13 : decode cX7_write 13 = .ok (.aload_n 0, 1) := by decide +kernel
theorem dX7_write_14 : decode cX7_write 14 = .ok (.getfield 42, 3) := by decide +kernel
theorem dX7_write_17 : decode cX7_write 17 = .ok (.iload_n 1, 1) := by decide +kernel
theorem dX7_write_18 : decode cX7_write 18 = .ok (.invokevirtual 229, 3) := by decide +kernel
theorem dX7_write_21 : decode cX7_write 21 = .ok (.aload_n 0, 1) := by decide +kernel
theorem dX7_write_22 : decode cX7_write 22 = .ok (.getfield 12, 3) := by decide +kernel
theorem dX7_write_25 : decode cX7_write 25 = .ok (.getfield 128, 3) := by decide +kernel
theorem dX7_write_28 : decode cX7_write 28 = .ok (.aload_n 0, 1) := by decide +kernel
theorem dX7_write_29 : decode cX7_write 29 = .ok (.getfield 55, 3) := by decide +kernel
theorem dX7_write_32 : decode cX7_write 32 = .ok (.iload_n 2, 1) := by decide +kernel
theorem dX7_write_33 : decode cX7_write 33 = .ok (.aaload, 1) := by decide +kernel
theorem dX7_write_34 : decode cX7_write 34 = .ok (.getfield 204, 3) := by decide +kernel
theorem dX7_write_37 : decode cX7_write 37 = .ok (.invokestatic 269, 3) := by decide +kernel
theorem dX7_write_40 : decode cX7_write 40 = .ok (.istore 4, 2) := by decide +kernel
theorem dX7_write_42 : decode cX7_write 42 = .ok (.iconst 0, 1) := by decide +kernel
theorem dX7_write_43 : decode cX7_write 43 = .ok (.istore 5, 2) := by decide +kernel
theorem dX7_write_45 : decode cX7_write 45 = .ok (.iload 5, 2) := by decide +kernel
theorem dX7_write_47 : decode cX7_write 47 = .ok (.iload 4, 2) := by decide +kernel
theorem dX7_write_49 : decode cX7_write 49 = .ok (.if_icmp .ge 30, 3) := by decide +kernel
theorem dX7_write_52 : decode cX7_write 52 = .ok (.aload_n 0, 1) := by decide +kernel
theorem dX7_write_53 : decode cX7_write 53 = .ok (.getfield 55, 3) := by decide +kernel
theorem dX7_write_56 : decode cX7_write 56 = .ok (.iload_n 2, 1) := by decide +kernel
theorem dX7_write_57 : decode cX7_write 57 = .ok (.aaload, 1) := by decide +kernel
theorem dX7_write_58 : decode cX7_write 58 = .ok (.iload 5, 2) := by decide +kernel
theorem dX7_write_60 : decode cX7_write 60 = .ok (.aload_n 0, 1) := by decide +kernel
theorem dX7_write_61 : decode cX7_write 61 = .ok (.getfield 42, 3) := by decide +kernel
theorem dX7_write_64 : decode cX7_write 64 = .ok (.getfield 234, 3) := by decide +kernel
theorem dX7_write_67 : decode cX7_write 67 = .ok (.iload 5, 2) := by decide +kernel
theorem dX7_write_69 : decode cX7_write 69 = .ok (.iaload, 1) := by decide +kernel
theorem dX7_write_70 : decode cX7_write 70 = .ok (.invokevirtual 253, 3) := by decide +kernel
theorem dX7_write_73 : decode cX7_write 73 = .ok (.iinc 5 1, 3) := by decide +kernel
theorem dX7_write_76 : decode cX7_write 76 = .ok (.goto (-31), 3) := by decide +kernel
theorem dX7_write_79 : decode cX7_write 79 = .ok (.iload 4, 2) := by decide +kernel
theorem dX7_write_81 : decode cX7_write 81 = .ok (.ireturn, 1) := by decide +kernel
theorem dX7_count_0 : decode cX7_count 0 = .ok (.iload_n 1, 1) := by decide +kernel
theorem dX7_count_1 : decode cX7_count 1 = .ok (.tableswitch 124 0 8 #[51, 59, 67, 75, 85, 95, 103, 111, 119], 51) := by decide +kernel
theorem dX7_count_52 : decode cX7_count 52 = .ok (.aload_n 0, 1) := by decide +kernel
theorem dX7_count_53 : decode cX7_count 53 = .ok (.getfield 12, 3) := by decide +kernel
theorem dX7_count_56 : decode cX7_count 56 = .ok (.getfield 275, 3) := by decide +kernel
theorem dX7_count_59 : decode cX7_count 59 = .ok (.ireturn, 1) := by decide +kernel
theorem dX7_count_60 : decode cX7_count 60 = .ok (.aload_n 0, 1) := by decide +kernel
theorem dX7_count_61 : decode cX7_count 61 = .ok (.getfield 12, 3) := by decide +kernel
theorem dX7_count_64 : decode cX7_count 64 = .ok (.getfield 278, 3) := by decide +kernel
theorem dX7_count_67 : decode cX7_count 67 = .ok (.ireturn, 1) := by decide +kernel
theorem dX7_count_68 : decode cX7_count 68 = .ok (.aload_n 0, 1) := by decide +kernel
theorem dX7_count_69 : decode cX7_count 69 = .ok (.getfield 12, 3) := by decide +kernel
theorem dX7_count_72 : decode cX7_count 72 = .ok (.getfield 128, 3) := by decide +kernel
theorem dX7_count_75 : decode cX7_count 75 = .ok (.ireturn, 1) := by decide +kernel
theorem dX7_count_76 : decode cX7_count 76 = .ok (.aload_n 0, 1) := by decide +kernel
theorem dX7_count_77 : decode cX7_count 77 = .ok (.getfield 12, 3) := by decide +kernel
theorem dX7_count_80 : decode cX7_count 80 = .ok (.getfield 68, 3) := by decide +kernel
theorem dX7_count_83 : decode cX7_count 83 = .ok (.iconst 0, 1) := by decide +kernel
theorem dX7_count_84 : decode cX7_count 84 = .ok (.iaload, 1) := by decide +kernel
theorem dX7_count_85 : decode cX7_count 85 = .ok (.ireturn, 1) := by decide +kernel
theorem dX7_count_86 : decode cX7_count 86 = .ok (.aload_n 0, 1) := by decide +kernel
theorem dX7_count_87 : decode cX7_count 87 = .ok (.getfield 12, 3) := by decide +kernel
theorem dX7_count_90 : decode cX7_count 90 = .ok (.getfield 68, 3) := by decide +kernel
theorem dX7_count_93 : decode cX7_count 93 = .ok (.iconst 1, 1) := by decide +kernel
theorem dX7_count_94 : decode cX7_count 94 = .ok (.iaload, 1) := by decide +kernel
theorem dX7_count_95 : decode cX7_count 95 = .ok (.ireturn, 1) := by decide +kernel
theorem dX7_count_96 : decode cX7_count 96 = .ok (.aload_n 0, 1) := by decide +kernel
theorem dX7_count_97 : decode cX7_count 97 = .ok (.getfield 35, 3) := by decide +kernel
theorem dX7_count_100 : decode cX7_count 100 = .ok (.getfield 195, 3) := by decide +kernel
theorem dX7_count_103 : decode cX7_count 103 = .ok (.ireturn, 1) := by decide +kernel
theorem dX7_count_104 : decode cX7_count 104 = .ok (.aload_n 0, 1) := by decide +kernel
theorem dX7_count_105 : decode cX7_count 105 = .ok (.getfield 12, 3) := by decide +kernel
theorem dX7_count_108 : decode cX7_count 108 = .ok (.invokevirtual 281, 3) := by decide +kernel
theorem dX7_count_111 : decode cX7_count 111 = .ok (.ireturn, 1) := by decide +kernel
theorem dX7_count_112 : decode cX7_count 112 = .ok (.aload_n 0, 1) := by decide +kernel
theorem dX7_count_113 : decode cX7_count 113 = .ok (.getfield 12, 3) := by decide +kernel
theorem dX7_count_116 : decode cX7_count 116 = .ok (.invokevirtual 284, 3) := by decide +kernel
theorem dX7_count_119 : decode cX7_count 119 = .ok (.ireturn, 1) := by decide +kernel
theorem dX7_count_120 : decode cX7_count 120 = .ok (.aload_n 0, 1) := by decide +kernel
theorem dX7_count_121 : decode cX7_count 121 = .ok (.getfield 60, 3) := by decide +kernel
theorem dX7_count_124 : decode cX7_count 124 = .ok (.ireturn, 1) := by decide +kernel
theorem dX7_count_125 : decode cX7_count 125 = .ok (.bipush (-2), 2) := by decide +kernel
theorem dX7_count_127 : decode cX7_count 127 = .ok (.ireturn, 1) := by decide +kernel
theorem dX7_digest_0 : decode cX7_digest 0 = .ok (.ldc2_w 287, 3) := by decide +kernel
theorem dX7_digest_3 : decode cX7_digest 3 = .ok (.lstore_n 1, 1) := by decide +kernel
theorem dX7_digest_4 : decode cX7_digest 4 = .ok (.iconst 0, 1) := by decide +kernel
theorem dX7_digest_5 : decode cX7_digest 5 = .ok (.istore_n 3, 1) := by decide +kernel
theorem dX7_digest_6 : decode cX7_digest 6 = .ok (.iload_n 3, 1) := by decide +kernel
theorem dX7_digest_7 : decode cX7_digest 7 = .ok (.bipush 7, 2) := by decide +kernel
theorem dX7_digest_9 : decode cX7_digest 9 = .ok (.if_icmp .gt 22, 3) := by decide +kernel
theorem dX7_digest_12 : decode cX7_digest 12 = .ok (.ldc2_w 289, 3) := by decide +kernel
theorem dX7_digest_15 : decode cX7_digest 15 = .ok (.lload_n 1, 1) := by decide +kernel
theorem dX7_digest_16 : decode cX7_digest 16 = .ok (.lmul, 1) := by decide +kernel
theorem dX7_digest_17 : decode cX7_digest 17 = .ok (.aload_n 0, 1) := by decide +kernel
theorem dX7_digest_18 : decode cX7_digest 18 = .ok (.iload_n 3, 1) := by decide +kernel
theorem dX7_digest_19 : decode cX7_digest 19 = .ok (.invokevirtual 291, 3) := by decide +kernel
theorem dX7_digest_22 : decode cX7_digest 22 = .ok (.i2l, 1) := by decide +kernel
theorem dX7_digest_23 : decode cX7_digest 23 = .ok (.ladd, 1) := by decide +kernel
theorem dX7_digest_24 : decode cX7_digest 24 = .ok (.lstore_n 1, 1) := by decide +kernel
theorem dX7_digest_25 : decode cX7_digest 25 = .ok (.iinc 3 1, 3) := by decide +kernel
theorem dX7_digest_28 : decode cX7_digest 28 = .ok (.goto (-22), 3) := by decide +kernel
theorem dX7_digest_31 : decode cX7_digest 31 = .ok (.ldc2_w 289, 3) := by decide +kernel
theorem dX7_digest_34 : decode cX7_digest 34 = .ok (.lload_n 1, 1) := by decide +kernel
theorem dX7_digest_35 : decode cX7_digest 35 = .ok (.lmul, 1) := by decide +kernel
theorem dX7_digest_36 : decode cX7_digest 36 = .ok (.aload_n 0, 1) := by decide +kernel
theorem dX7_digest_37 : decode cX7_digest 37 = .ok (.iconst 0, 1) := by decide +kernel
theorem dX7_digest_38 : decode cX7_digest 38 = .ok (.invokevirtual 294, 3) := by decide +kernel
theorem dX7_digest_41 : decode cX7_digest 41 = .ok (.i2l, 1) := by decide +kernel
theorem dX7_digest_42 : decode cX7_digest 42 = .ok (.ladd, 1) := by decide +kernel
theorem dX7_digest_43 : decode cX7_digest 43 = .ok (.lstore_n 1, 1) := by decide +kernel
theorem dX7_digest_44 : decode cX7_digest 44 = .ok (.ldc2_w 289, 3) := by decide +kernel
theorem dX7_digest_47 : decode cX7_digest 47 = .ok (.lload_n 1, 1) := by decide +kernel
theorem dX7_digest_48 : decode cX7_digest 48 = .ok (.lmul, 1) := by decide +kernel
theorem dX7_digest_49 : decode cX7_digest 49 = .ok (.aload_n 0, 1) := by decide +kernel
theorem dX7_digest_50 : decode cX7_digest 50 = .ok (.iconst 1, 1) := by decide +kernel
theorem dX7_digest_51 : decode cX7_digest 51 = .ok (.invokevirtual 294, 3) := by decide +kernel
theorem dX7_digest_54 : decode cX7_digest 54 = .ok (.i2l, 1) := by decide +kernel
theorem dX7_digest_55 : decode cX7_digest 55 = .ok (.ladd, 1) := by decide +kernel
theorem dX7_digest_56 : decode cX7_digest 56 = .ok (.lstore_n 1, 1) := by decide +kernel
theorem dX7_digest_57 : decode cX7_digest 57 = .ok (.aload_n 0, 1) := by decide +kernel
theorem dX7_digest_58 : decode cX7_digest 58 = .ok (.lload_n 1, 1) := by decide +kernel
theorem dX7_digest_59 : decode cX7_digest 59 = .ok (.invokevirtual 297, 3) := by decide +kernel
theorem dX7_digest_62 : decode cX7_digest 62 = .ok (.lstore_n 1, 1) := by decide +kernel
theorem dX7_digest_63 : decode cX7_digest 63 = .ok (.aload_n 0, 1) := by decide +kernel
theorem dX7_digest_64 : decode cX7_digest 64 = .ok (.lload_n 1, 1) := by decide +kernel
theorem dX7_digest_65 : decode cX7_digest 65 = .ok (.invokevirtual 301, 3) := by decide +kernel
theorem dX7_digest_68 : decode cX7_digest 68 = .ok (.lstore_n 1, 1) := by decide +kernel
theorem dX7_digest_69 : decode cX7_digest 69 = .ok (.lload_n 1, 1) := by decide +kernel
theorem dX7_digest_70 : decode cX7_digest 70 = .ok (.aload_n 0, 1) := by decide +kernel
theorem dX7_digest_71 : decode cX7_digest 71 = .ok (.iconst (-1), 1) := by decide +kernel
theorem dX7_digest_72 : decode cX7_digest 72 = .ok (.iconst 0, 1) := by decide +kernel
theorem dX7_digest_73 : decode cX7_digest 73 = .ok (.invokevirtual 304, 3) := by decide +kernel
theorem dX7_digest_76 : decode cX7_digest 76 = .ok (.aload_n 0, 1) := by decide +kernel
theorem dX7_digest_77 : decode cX7_digest 77 = .ok (.iconst (-1), 1) := by decide +kernel
theorem dX7_digest_78 : decode cX7_digest 78 = .ok (.iconst 1, 1) := by decide +kernel
theorem dX7_digest_79 : decode cX7_digest 79 = .ok (.invokevirtual 304, 3) := by decide +kernel
theorem dX7_digest_82 : decode cX7_digest 82 = .ok (.invokestatic 308, 3) := by decide +kernel
theorem dX7_digest_85 : decode cX7_digest 85 = .ok (.lstore_n 1, 1) := by decide +kernel
theorem dX7_digest_86 : decode cX7_digest 86 = .ok (.lload_n 1, 1) := by decide +kernel
theorem dX7_digest_87 : decode cX7_digest 87 = .ok (.aload_n 0, 1) := by decide +kernel
theorem dX7_digest_88 : decode cX7_digest 88 = .ok (.iconst 0, 1) := by decide +kernel
theorem dX7_digest_89 : decode cX7_digest 89 = .ok (.invokevirtual 312, 3) := by decide +kernel
theorem dX7_digest_92 : decode cX7_digest 92 = .ok (.aload_n 0, 1) := by decide +kernel
theorem dX7_digest_93 : decode cX7_digest 93 = .ok (.iconst 1, 1) := by decide +kernel
theorem dX7_digest_94 : decode cX7_digest 94 = .ok (.invokevirtual 312, 3) := by decide +kernel
theorem dX7_digest_97 : decode cX7_digest 97 = .ok (.invokestatic 308, 3) := by decide +kernel
theorem dX7_digest_100 : decode cX7_digest 100 = .ok (.lstore_n 1, 1) := by decide +kernel
theorem dX7_digest_101 : decode cX7_digest 101 = .ok (.iconst 1, 1) := by decide +kernel
theorem dX7_digest_102 : decode cX7_digest 102 = .ok (.aload_n 0, 1) := by decide +kernel
theorem dX7_digest_103 : decode cX7_digest 103 = .ok (.getfield 12, 3) := by decide +kernel
theorem dX7_digest_106 : decode cX7_digest 106 = .ok (.getfield 128, 3) := by decide +kernel
theorem dX7_digest_109 : decode cX7_digest 109 = .ok (.ishl, 1) := by decide +kernel
theorem dX7_digest_110 : decode cX7_digest 110 = .ok (.iconst 1, 1) := by decide +kernel
theorem dX7_digest_111 : decode cX7_digest 111 = .ok (.isub, 1) := by decide +kernel
theorem dX7_digest_112 : decode cX7_digest 112 = .ok (.istore_n 3, 1) := by decide +kernel
theorem dX7_digest_113 : decode cX7_digest 113 = .ok (.lload_n 1, 1) := by decide +kernel
theorem dX7_digest_114 : decode cX7_digest 114 = .ok (.aload_n 0, 1) := by decide +kernel
theorem dX7_digest_115 : decode cX7_digest 115 = .ok (.aload_n 0, 1) := by decide +kernel
theorem dX7_digest_116 : decode cX7_digest 116 = .ok (.getfield 12, 3) := by decide +kernel
theorem dX7_digest_119 : decode cX7_digest 119 = .ok (.getfield 128, 3) := by decide +kernel
theorem dX7_digest_122 : decode cX7_digest 122 = .ok (.iload_n 3, 1) := by decide +kernel
theorem dX7_digest_123 : decode cX7_digest 123 = .ok (.iconst 0, 1) := by decide +kernel
theorem dX7_digest_124 : decode cX7_digest 124 = .ok (.invokevirtual 315, 3) := by decide +kernel
theorem dX7_digest_127 : decode cX7_digest 127 = .ok (.aload_n 0, 1) := by decide +kernel
theorem dX7_digest_128 : decode cX7_digest 128 = .ok (.aload_n 0, 1) := by decide +kernel
theorem dX7_digest_129 : decode cX7_digest 129 = .ok (.getfield 12, 3) := by decide +kernel
theorem dX7_digest_132 : decode cX7_digest 132 = .ok (.getfield 128, 3) := by decide +kernel
theorem dX7_digest_135 : decode cX7_digest 135 = .ok (.iload_n 3, 1) := by decide +kernel
theorem dX7_digest_136 : decode cX7_digest 136 = .ok (.iconst 1, 1) := by decide +kernel
theorem dX7_digest_137 : decode cX7_digest 137 = .ok (.invokevirtual 315, 3) := by decide +kernel
theorem dX7_digest_140 : decode cX7_digest 140 = .ok (.invokestatic 308, 3) := by decide +kernel
theorem dX7_digest_143 : decode cX7_digest 143 = .ok (.lstore_n 1, 1) := by decide +kernel
theorem dX7_digest_144 : decode cX7_digest 144 = .ok (.lload_n 1, 1) := by decide +kernel
theorem dX7_digest_145 : decode cX7_digest 145 = .ok (.aload_n 0, 1) := by decide +kernel
theorem dX7_digest_146 : decode cX7_digest 146 = .ok (.iconst 0, 1) := by decide +kernel
theorem dX7_digest_147 : decode cX7_digest 147 = .ok (.invokevirtual 319, 3) := by decide +kernel
theorem dX7_digest_150 : decode cX7_digest 150 = .ok (.aload_n 0, 1) := by decide +kernel
theorem dX7_digest_151 : decode cX7_digest 151 = .ok (.iconst 1, 1) := by decide +kernel
theorem dX7_digest_152 : decode cX7_digest 152 = .ok (.invokevirtual 319, 3) := by decide +kernel
theorem dX7_digest_155 : decode cX7_digest 155 = .ok (.invokestatic 308, 3) := by decide +kernel
theorem dX7_digest_158 : decode cX7_digest 158 = .ok (.lstore_n 1, 1) := by decide +kernel
theorem dX7_digest_159 : decode cX7_digest 159 = .ok (.lload_n 1, 1) := by decide +kernel
theorem dX7_digest_160 : decode cX7_digest 160 = .ok (.aload_n 0, 1) := by decide +kernel
theorem dX7_digest_161 : decode cX7_digest 161 = .ok (.invokevirtual 321, 3) := by decide +kernel
theorem dX7_digest_164 : decode cX7_digest 164 = .ok (.i2l, 1) := by decide +kernel
theorem dX7_digest_165 : decode cX7_digest 165 = .ok (.aload_n 0, 1) := by decide +kernel
theorem dX7_digest_166 : decode cX7_digest 166 = .ok (.invokevirtual 324, 3) := by decide +kernel
theorem dX7_digest_169 : decode cX7_digest 169 = .ok (.i2l, 1) := by decide +kernel
theorem dX7_digest_170 : decode cX7_digest 170 = .ok (.invokestatic 308, 3) := by decide +kernel
theorem dX7_digest_173 : decode cX7_digest 173 = .ok (.lstore_n 1, 1) := by decide +kernel
theorem dX7_digest_174 : decode cX7_digest 174 = .ok (.lload_n 1, 1) := by decide +kernel
theorem dX7_digest_175 : decode cX7_digest 175 = .ok (.aload_n 0, 1) := by decide +kernel
theorem dX7_digest_176 : decode cX7_digest 176 = .ok (.iconst 0, 1) := by decide +kernel
theorem dX7_digest_177 : decode cX7_digest 177 = .ok (.invokevirtual 327, 3) := by decide +kernel
theorem dX7_digest_180 : decode cX7_digest 180 = .ok (.i2l, 1) := by decide +kernel
theorem dX7_digest_181 : decode cX7_digest 181 = .ok (.aload_n 0, 1) := by decide +kernel
theorem dX7_digest_182 : decode cX7_digest 182 = .ok (.iconst 1, 1) := by decide +kernel
theorem dX7_digest_183 : decode cX7_digest 183 = .ok (.invokevirtual 327, 3) := by decide +kernel
theorem dX7_digest_186 : decode cX7_digest 186 = .ok (.i2l, 1) := by decide +kernel
theorem dX7_digest_187 : decode cX7_digest 187 = .ok (.invokestatic 308, 3) := by decide +kernel
theorem dX7_digest_190 : decode cX7_digest 190 = .ok (.lstore_n 1, 1) := by decide +kernel
theorem dX7_digest_191 : decode cX7_digest 191 = .ok (.ldc2_w 289, 3) := by decide +kernel
theorem dX7_digest_194 : decode cX7_digest 194 = .ok (.lload_n 1, 1) := by decide +kernel
theorem dX7_digest_195 : decode cX7_digest 195 = .ok (.lmul, 1) := by decide +kernel
theorem dX7_digest_196 : decode cX7_digest 196 = .ok (.aload_n 0, 1) := by decide +kernel
theorem dX7_digest_197 : decode cX7_digest 197 = .ok (.bipush 7, 2) := by decide +kernel
theorem dX7_digest_199 : decode cX7_digest 199 = .ok (.iconst (-1), 1) := by decide +kernel
theorem dX7_digest_200 : decode cX7_digest 200 = .ok (.invokevirtual 330, 3) := by decide +kernel
theorem dX7_digest_203 : decode cX7_digest 203 = .ok (.i2l, 1) := by decide +kernel
theorem dX7_digest_204 : decode cX7_digest 204 = .ok (.ladd, 1) := by decide +kernel
theorem dX7_digest_205 : decode cX7_digest 205 = .ok (.lstore_n 1, 1) := by decide +kernel
theorem dX7_digest_206 : decode cX7_digest 206 = .ok (.lload_n 1, 1) := by decide +kernel
theorem dX7_digest_207 : decode cX7_digest 207 = .ok (.aload_n 0, 1) := by decide +kernel
theorem dX7_digest_208 : decode cX7_digest 208 = .ok (.iconst 5, 1) := by decide +kernel
theorem dX7_digest_209 : decode cX7_digest 209 = .ok (.iconst 2, 1) := by decide +kernel
theorem dX7_digest_210 : decode cX7_digest 210 = .ok (.iconst 0, 1) := by decide +kernel
theorem dX7_digest_211 : decode cX7_digest 211 = .ok (.invokevirtual 333, 3) := by decide +kernel
theorem dX7_digest_214 : decode cX7_digest 214 = .ok (.aload_n 0, 1) := by decide +kernel
theorem dX7_digest_215 : decode cX7_digest 215 = .ok (.iconst 5, 1) := by decide +kernel
theorem dX7_digest_216 : decode cX7_digest 216 = .ok (.iconst 2, 1) := by decide +kernel
theorem dX7_digest_217 : decode cX7_digest 217 = .ok (.iconst 1, 1) := by decide +kernel
theorem dX7_digest_218 : decode cX7_digest 218 = .ok (.invokevirtual 333, 3) := by decide +kernel
theorem dX7_digest_221 : decode cX7_digest 221 = .ok (.invokestatic 308, 3) := by decide +kernel
theorem dX7_digest_224 : decode cX7_digest 224 = .ok (.lreturn, 1) := by decide +kernel
theorem dX7_mixSeats_0 : decode cX7_mixSeats 0 = .ok (.lload_n 1, 1) := by decide +kernel
theorem dX7_mixSeats_1 : decode cX7_mixSeats 1 = .ok (.lstore_n 3, 1) := by decide +kernel
theorem dX7_mixSeats_2 : decode cX7_mixSeats 2 = .ok (.iconst 0, 1) := by decide +kernel
theorem dX7_mixSeats_3 : decode cX7_mixSeats 3 = .ok (.istore 5, 2) := by decide +kernel
theorem dX7_mixSeats_5 : decode cX7_mixSeats 5 = .ok (.iload 5, 2) := by decide +kernel
theorem dX7_mixSeats_7 : decode cX7_mixSeats 7 = .ok (.aload_n 0, 1) := by decide +kernel
theorem dX7_mixSeats_8 : decode cX7_mixSeats 8 = .ok (.getfield 12, 3) := by decide +kernel
theorem dX7_mixSeats_11 : decode cX7_mixSeats 11 = .ok (.getfield 275, 3) := by decide +kernel
theorem dX7_mixSeats_14 : decode cX7_mixSeats 14 = .ok (.if_icmp .ge 59, 3) := by decide +kernel
theorem dX7_mixSeats_17 : decode cX7_mixSeats 17 = .ok (.iconst 0, 1) := by decide +kernel
theorem dX7_mixSeats_18 : decode cX7_mixSeats 18 = .ok (.istore 6, 2) := by decide +kernel
theorem dX7_mixSeats_20 : decode cX7_mixSeats 20 = .ok (.iload 6, 2) := by decide +kernel
theorem dX7_mixSeats_22 : decode cX7_mixSeats 22 = .ok (.iconst 2, 1) := by decide +kernel
theorem dX7_mixSeats_23 : decode cX7_mixSeats 23 = .ok (.if_icmp .gt 25, 3) := by decide +kernel
theorem dX7_mixSeats_26 : decode cX7_mixSeats 26 = .ok (.ldc2_w 289, 3) := by decide +kernel
theorem dX7_mixSeats_29 : decode cX7_mixSeats 29 = .ok (.lload_n 3, 1) := by decide +kernel
theorem dX7_mixSeats_30 : decode cX7_mixSeats 30 = .ok (.lmul, 1) := by decide +kernel
theorem dX7_mixSeats_31 : decode cX7_mixSeats 31 = .ok (.aload_n 0, 1) := by decide +kernel
theorem dX7_mixSeats_32 : decode cX7_mixSeats 32 = .ok (.iload 5, 2) := by decide +kernel
theorem dX7_mixSeats_34 : decode cX7_mixSeats 34 = .ok (.iload 6, 2) := by decide +kernel
theorem dX7_mixSeats_36 : decode cX7_mixSeats 36 = .ok (.invokevirtual 336, 3) := by decide +kernel
theorem dX7_mixSeats_39 : decode cX7_mixSeats 39 = .ok (.i2l, 1) := by decide +kernel
theorem dX7_mixSeats_40 : decode cX7_mixSeats 40 = .ok (.ladd, 1) := by decide +kernel
theorem dX7_mixSeats_41 : decode cX7_mixSeats 41 = .ok (.lstore_n 3, 1) := by decide +kernel
theorem dX7_mixSeats_42 : decode cX7_mixSeats 42 = .ok (.iinc 6 1, 3) := by decide +kernel
theorem dX7_mixSeats_45 : decode cX7_mixSeats 45 = .ok (.goto (-25), 3) := by decide +kernel
theorem dX7_mixSeats_48 : decode cX7_mixSeats 48 = .ok (.lload_n 3, 1) := by decide +kernel
theorem dX7_mixSeats_49 : decode cX7_mixSeats 49 = .ok (.aload_n 0, 1) := by decide +kernel
theorem dX7_mixSeats_50 : decode cX7_mixSeats 50 = .ok (.iload 5, 2) := by decide +kernel
theorem dX7_mixSeats_52 : decode cX7_mixSeats 52 = .ok (.iconst 0, 1) := by decide +kernel
theorem dX7_mixSeats_53 : decode cX7_mixSeats 53 = .ok (.invokevirtual 339, 3) := by decide +kernel
theorem dX7_mixSeats_56 : decode cX7_mixSeats 56 = .ok (.aload_n 0, 1) := by decide +kernel
theorem dX7_mixSeats_57 : decode cX7_mixSeats 57 = .ok (.iload 5, 2) := by decide +kernel
theorem dX7_mixSeats_59 : decode cX7_mixSeats 59 = .ok (.iconst 1, 1) := by decide +kernel
theorem dX7_mixSeats_60 : decode cX7_mixSeats 60 = .ok (.invokevirtual 339, 3) := by decide +kernel
theorem dX7_mixSeats_63 : decode cX7_mixSeats 63 = .ok (.invokestatic 308, 3) := by decide +kernel
theorem dX7_mixSeats_66 : decode cX7_mixSeats 66 = .ok (.lstore_n 3, 1) := by decide +kernel
theorem dX7_mixSeats_67 : decode cX7_mixSeats 67 = .ok (.iinc 5 1, 3) := by decide +kernel
theorem dX7_mixSeats_70 : decode cX7_mixSeats 70 = .ok (.goto (-65), 3) := by decide +kernel
theorem dX7_mixSeats_73 : decode cX7_mixSeats 73 = .ok (.lload_n 3, 1) := by decide +kernel
theorem dX7_mixSeats_74 : decode cX7_mixSeats 74 = .ok (.lreturn, 1) := by decide +kernel
theorem dX7_mixPeople_0 : decode cX7_mixPeople 0 = .ok (.lload_n 1, 1) := by decide +kernel
theorem dX7_mixPeople_1 : decode cX7_mixPeople 1 = .ok (.lstore_n 3, 1) := by decide +kernel
theorem dX7_mixPeople_2 : decode cX7_mixPeople 2 = .ok (.iconst 0, 1) := by decide +kernel
theorem dX7_mixPeople_3 : decode cX7_mixPeople 3 = .ok (.istore 5, 2) := by decide +kernel
theorem dX7_mixPeople_5 : decode cX7_mixPeople 5 = .ok (.iload 5, 2) := by decide +kernel
theorem dX7_mixPeople_7 : decode cX7_mixPeople 7 = .ok (.aload_n 0, 1) := by decide +kernel
theorem dX7_mixPeople_8 : decode cX7_mixPeople 8 = .ok (.getfield 12, 3) := by decide +kernel
theorem dX7_mixPeople_11 : decode cX7_mixPeople 11 = .ok (.getfield 128, 3) := by decide +kernel
theorem dX7_mixPeople_14 : decode cX7_mixPeople 14 = .ok (.if_icmp .ge 57, 3) := by decide +kernel
theorem dX7_mixPeople_17 : decode cX7_mixPeople 17 = .ok (.aload_n 0, 1) := by decide +kernel
theorem dX7_mixPeople_18 : decode cX7_mixPeople 18 = .ok (.iload 5, 2) := by decide +kernel
theorem dX7_mixPeople_20 : decode cX7_mixPeople 20 = .ok (.iconst 0, 1) := by decide +kernel
theorem dX7_mixPeople_21 : decode cX7_mixPeople 21 = .ok (.invokevirtual 342, 3) := by decide +kernel
theorem dX7_mixPeople_24 : decode cX7_mixPeople 24 = .ok (.istore 6, 2) := by decide +kernel
theorem dX7_mixPeople_26 : decode cX7_mixPeople 26 = .ok (.lload_n 3, 1) := by decide +kernel
theorem dX7_mixPeople_27 : decode cX7_mixPeople 27 = .ok (.iload 6, 2) := by decide +kernel
theorem dX7_mixPeople_29 : decode cX7_mixPeople 29 = .ok (.i2l, 1) := by decide +kernel
theorem dX7_mixPeople_30 : decode cX7_mixPeople 30 = .ok (.aload_n 0, 1) := by decide +kernel
theorem dX7_mixPeople_31 : decode cX7_mixPeople 31 = .ok (.iload 5, 2) := by decide +kernel
theorem dX7_mixPeople_33 : decode cX7_mixPeople 33 = .ok (.iconst 1, 1) := by decide +kernel
theorem dX7_mixPeople_34 : decode cX7_mixPeople 34 = .ok (.invokevirtual 342, 3) := by decide +kernel
theorem dX7_mixPeople_37 : decode cX7_mixPeople 37 = .ok (.i2l, 1) := by decide +kernel
theorem dX7_mixPeople_38 : decode cX7_mixPeople 38 = .ok (.invokestatic 308, 3) := by decide +kernel
theorem dX7_mixPeople_41 : decode cX7_mixPeople 41 = .ok (.lstore_n 3, 1) := by decide +kernel
theorem dX7_mixPeople_42 : decode cX7_mixPeople 42 = .ok (.lload_n 3, 1) := by decide +kernel
theorem dX7_mixPeople_43 : decode cX7_mixPeople 43 = .ok (.aload_n 0, 1) := by decide +kernel
theorem dX7_mixPeople_44 : decode cX7_mixPeople 44 = .ok (.iload 5, 2) := by decide +kernel
theorem dX7_mixPeople_46 : decode cX7_mixPeople 46 = .ok (.iload 6, 2) := by decide +kernel
theorem dX7_mixPeople_48 : decode cX7_mixPeople 48 = .ok (.iconst 0, 1) := by decide +kernel
theorem dX7_mixPeople_49 : decode cX7_mixPeople 49 = .ok (.invokevirtual 345, 3) := by decide +kernel
theorem dX7_mixPeople_52 : decode cX7_mixPeople 52 = .ok (.aload_n 0, 1) := by decide +kernel
theorem dX7_mixPeople_53 : decode cX7_mixPeople 53 = .ok (.iload 5, 2) := by decide +kernel
theorem dX7_mixPeople_55 : decode cX7_mixPeople 55 = .ok (.iload 6, 2) := by decide +kernel
theorem dX7_mixPeople_57 : decode cX7_mixPeople 57 = .ok (.iconst 1, 1) := by decide +kernel
theorem dX7_mixPeople_58 : decode cX7_mixPeople 58 = .ok (.invokevirtual 345, 3) := by decide +kernel
theorem dX7_mixPeople_61 : decode cX7_mixPeople 61 = .ok (.invokestatic 308, 3) := by decide +kernel
theorem dX7_mixPeople_64 : decode cX7_mixPeople 64 = .ok (.lstore_n 3, 1) := by decide +kernel
theorem dX7_mixPeople_65 : decode cX7_mixPeople 65 = .ok (.iinc 5 1, 3) := by decide +kernel
theorem dX7_mixPeople_68 : decode cX7_mixPeople 68 = .ok (.goto (-63), 3) := by decide +kernel
theorem dX7_mixPeople_71 : decode cX7_mixPeople 71 = .ok (.lload_n 3, 1) := by decide +kernel
theorem dX7_mixPeople_72 : decode cX7_mixPeople 72 = .ok (.lreturn, 1) := by decide +kernel
theorem dX7_mix_0 : decode cX7_mix 0 = .ok (.ldc2_w 289, 3) := by decide +kernel
theorem dX7_mix_3 : decode cX7_mix 3 = .ok (.ldc2_w 289, 3) := by decide +kernel
theorem dX7_mix_6 : decode cX7_mix 6 = .ok (.lload_n 0, 1) := by decide +kernel
theorem dX7_mix_7 : decode cX7_mix 7 = .ok (.lmul, 1) := by decide +kernel
theorem dX7_mix_8 : decode cX7_mix 8 = .ok (.lload_n 2, 1) := by decide +kernel
theorem dX7_mix_9 : decode cX7_mix 9 = .ok (.ladd, 1) := by decide +kernel
theorem dX7_mix_10 : decode cX7_mix 10 = .ok (.lmul, 1) := by decide +kernel
theorem dX7_mix_11 : decode cX7_mix 11 = .ok (.lload 4, 2) := by decide +kernel
theorem dX7_mix_13 : decode cX7_mix 13 = .ok (.ladd, 1) := by decide +kernel
theorem dX7_mix_14 : decode cX7_mix 14 = .ok (.lreturn, 1) := by decide +kernel
theorem dX7_spoilAnswers_0 : decode cX7_spoilAnswers 0 = .ok (.aload_n 0, 1) := by decide +kernel
theorem dX7_spoilAnswers_1 : decode cX7_spoilAnswers 1 = .ok (.getfield 21, 3) := by decide +kernel
theorem dX7_spoilAnswers_4 : decode cX7_spoilAnswers 4 = .ok (.iconst 0, 1) := by decide +kernel
theorem dX7_spoilAnswers_5 : decode cX7_spoilAnswers 5 = .ok (.putfield 348, 3) := by decide +kernel
theorem dX7_spoilAnswers_8 : decode cX7_spoilAnswers 8 = .ok (.aload_n 0, 1) := by decide +kernel
theorem dX7_spoilAnswers_9 : decode cX7_spoilAnswers 9 = .ok (.getfield 28, 3) := by decide +kernel
theorem dX7_spoilAnswers_12 : decode cX7_spoilAnswers 12 = .ok (.iconst 0, 1) := by decide +kernel
theorem dX7_spoilAnswers_13 : decode cX7_spoilAnswers 13 = .ok (.putfield 352, 3) := by decide +kernel
theorem dX7_spoilAnswers_16 : decode cX7_spoilAnswers 16 = .ok (.aload_n 0, 1) := by decide +kernel
theorem dX7_spoilAnswers_17 : decode cX7_spoilAnswers 17 = .ok (.getfield 35, 3) := by decide +kernel
theorem dX7_spoilAnswers_20 : decode cX7_spoilAnswers 20 = .ok (.iconst 0, 1) := by decide +kernel
theorem dX7_spoilAnswers_21 : decode cX7_spoilAnswers 21 = .ok (.putfield 353, 3) := by decide +kernel
theorem dX7_spoilAnswers_24 : decode cX7_spoilAnswers 24 = .ok (.return_, 1) := by decide +kernel
theorem dX7_isNoText_0 : decode cX7_isNoText 0 = .ok (.iload_n 0, 1) := by decide +kernel
theorem dX7_isNoText_1 : decode cX7_isNoText 1 = .ok (.ifCond .lt 8, 3) := by decide +kernel
theorem dX7_isNoText_4 : decode cX7_isNoText 4 = .ok (.iload_n 0, 1) := by decide +kernel
theorem dX7_isNoText_5 : decode cX7_isNoText 5 = .ok (.iconst 1, 1) := by decide +kernel
theorem dX7_isNoText_6 : decode cX7_isNoText 6 = .ok (.if_icmp .le 7, 3) := by decide +kernel
theorem dX7_isNoText_9 : decode cX7_isNoText 9 = .ok (.iconst 1, 1) := by decide +kernel
theorem dX7_isNoText_10 : decode cX7_isNoText 10 = .ok (.goto 4, 3) := by decide +kernel
theorem dX7_isNoText_13 : decode cX7_isNoText 13 = .ok (.iconst 0, 1) := by decide +kernel
theorem dX7_isNoText_14 : decode cX7_isNoText 14 = .ok (.ireturn, 1) := by decide +kernel
theorem dX7_isNoSeat_0 : decode cX7_isNoSeat 0 = .ok (.iload_n 1, 1) := by decide +kernel
theorem dX7_isNoSeat_1 : decode cX7_isNoSeat 1 = .ok (.ifCond .lt 14, 3) := by decide +kernel
theorem dX7_isNoSeat_4 : decode cX7_isNoSeat 4 = .ok (.iload_n 1, 1) := by decide +kernel
theorem dX7_isNoSeat_5 : decode cX7_isNoSeat 5 = .ok (.aload_n 0, 1) := by decide +kernel
theorem dX7_isNoSeat_6 : decode cX7_isNoSeat 6 = .ok (.getfield 12, 3) := by decide +kernel
theorem dX7_isNoSeat_9 : decode cX7_isNoSeat 9 = .ok (.getfield 275, 3) := by decide +kernel
theorem dX7_isNoSeat_12 : decode cX7_isNoSeat 12 = .ok (.if_icmp .lt 7, 3) := by decide +kernel
theorem dX7_isNoSeat_15 : decode cX7_isNoSeat 15 = .ok (.iconst 1, 1) := by decide +kernel
theorem dX7_isNoSeat_16 : decode cX7_isNoSeat 16 = .ok (.goto 4, 3) := by decide +kernel
theorem dX7_isNoSeat_19 : decode cX7_isNoSeat 19 = .ok (.iconst 0, 1) := by decide +kernel
theorem dX7_isNoSeat_20 : decode cX7_isNoSeat 20 = .ok (.ireturn, 1) := by decide +kernel
theorem dX7_isNobody_0 : decode cX7_isNobody 0 = .ok (.iload_n 1, 1) := by decide +kernel
theorem dX7_isNobody_1 : decode cX7_isNobody 1 = .ok (.ifCond .lt 14, 3) := by decide +kernel
theorem dX7_isNobody_4 : decode cX7_isNobody 4 = .ok (.iload_n 1, 1) := by decide +kernel
theorem dX7_isNobody_5 : decode cX7_isNobody 5 = .ok (.aload_n 0, 1) := by decide +kernel
theorem dX7_isNobody_6 : decode cX7_isNobody 6 = .ok (.getfield 12, 3) := by decide +kernel
theorem dX7_isNobody_9 : decode cX7_isNobody 9 = .ok (.getfield 128, 3) := by decide +kernel
theorem dX7_isNobody_12 : decode cX7_isNobody 12 = .ok (.if_icmp .lt 7, 3) := by decide +kernel
theorem dX7_isNobody_15 : decode cX7_isNobody 15 = .ok (.iconst 1, 1) := by decide +kernel
theorem dX7_isNobody_16 : decode cX7_isNobody 16 = .ok (.goto 4, 3) := by decide +kernel
theorem dX7_isNobody_19 : decode cX7_isNobody 19 = .ok (.iconst 0, 1) := by decide +kernel
theorem dX7_isNobody_20 : decode cX7_isNobody 20 = .ok (.ireturn, 1) := by decide +kernel
theorem dX7_isNoPart_0 : decode cX7_isNoPart 0 = .ok (.iload_n 0, 1) := by decide +kernel
theorem dX7_isNoPart_1 : decode cX7_isNoPart 1 = .ok (.ifCond .lt 8, 3) := by decide +kernel
theorem dX7_isNoPart_4 : decode cX7_isNoPart 4 = .ok (.iload_n 0, 1) := by decide +kernel
theorem dX7_isNoPart_5 : decode cX7_isNoPart 5 = .ok (.iconst 1, 1) := by decide +kernel
theorem dX7_isNoPart_6 : decode cX7_isNoPart 6 = .ok (.if_icmp .le 7, 3) := by decide +kernel
theorem dX7_isNoPart_9 : decode cX7_isNoPart 9 = .ok (.iconst 1, 1) := by decide +kernel
theorem dX7_isNoPart_10 : decode cX7_isNoPart 10 = .ok (.goto 4, 3) := by decide +kernel
theorem dX7_isNoPart_13 : decode cX7_isNoPart 13 = .ok (.iconst 0, 1) := by decide +kernel
theorem dX7_isNoPart_14 : decode cX7_isNoPart 14 = .ok (.ireturn, 1) := by decide +kernel
theorem dX7_isNoSheet_0 : decode cX7_isNoSheet 0 = .ok (.iload_n 0, 1) := by decide +kernel
theorem dX7_isNoSheet_1 : decode cX7_isNoSheet 1 = .ok (.ifCond .lt 8, 3) := by decide +kernel
theorem dX7_isNoSheet_4 : decode cX7_isNoSheet 4 = .ok (.iload_n 0, 1) := by decide +kernel
theorem dX7_isNoSheet_5 : decode cX7_isNoSheet 5 = .ok (.iconst 4, 1) := by decide +kernel
theorem dX7_isNoSheet_6 : decode cX7_isNoSheet 6 = .ok (.if_icmp .lt 7, 3) := by decide +kernel
theorem dX7_isNoSheet_9 : decode cX7_isNoSheet 9 = .ok (.iconst 1, 1) := by decide +kernel
theorem dX7_isNoSheet_10 : decode cX7_isNoSheet 10 = .ok (.goto 4, 3) := by decide +kernel
theorem dX7_isNoSheet_13 : decode cX7_isNoSheet 13 = .ok (.iconst 0, 1) := by decide +kernel
theorem dX7_isNoSheet_14 : decode cX7_isNoSheet 14 = .ok (.ireturn, 1) := by decide +kernel
theorem dX7_isNoForm_0 : decode cX7_isNoForm 0 = .ok (.iload_n 0, 1) := by decide +kernel
theorem dX7_isNoForm_1 : decode cX7_isNoForm 1 = .ok (.ifCond .lt 8, 3) := by decide +kernel
theorem dX7_isNoForm_4 : decode cX7_isNoForm 4 = .ok (.iload_n 0, 1) := by decide +kernel
theorem dX7_isNoForm_5 : decode cX7_isNoForm 5 = .ok (.iconst 2, 1) := by decide +kernel
theorem dX7_isNoForm_6 : decode cX7_isNoForm 6 = .ok (.if_icmp .le 7, 3) := by decide +kernel
theorem dX7_isNoForm_9 : decode cX7_isNoForm 9 = .ok (.iconst 1, 1) := by decide +kernel
theorem dX7_isNoForm_10 : decode cX7_isNoForm 10 = .ok (.goto 4, 3) := by decide +kernel
theorem dX7_isNoForm_13 : decode cX7_isNoForm 13 = .ok (.iconst 0, 1) := by decide +kernel
theorem dX7_isNoForm_14 : decode cX7_isNoForm 14 = .ok (.ireturn, 1) := by decide +kernel
theorem dX7_find_0 : decode cX7_find 0 = .ok (.aload_n 0, 1) := by decide +kernel
theorem dX7_find_1 : decode cX7_find 1 = .ok (.iload_n 1, 1) := by decide +kernel
theorem dX7_find_2 : decode cX7_find 2 = .ok (.putfield 60, 3) := by decide +kernel
theorem dX7_find_5 : decode cX7_find 5 = .ok (.bipush (-10), 2) := by decide +kernel
theorem dX7_find_7 : decode cX7_find 7 = .ok (.iload_n 1, 1) := by decide +kernel
theorem dX7_find_8 : decode cX7_find 8 = .ok (.isub, 1) := by decide +kernel
theorem dX7_find_9 : decode cX7_find 9 = .ok (.ireturn, 1) := by decide +kernel
theorem dX7_refuseSheet_0 : decode cX7_refuseSheet 0 = .ok (.iload_n 1, 1) := by decide +kernel
theorem dX7_refuseSheet_1 : decode cX7_refuseSheet 1 = .ok (.invokestatic 237, 3) := by decide +kernel
theorem dX7_refuseSheet_4 : decode cX7_refuseSheet 4 = .ok (.ifCond .ne 7, 3) := by decide +kernel
theorem dX7_refuseSheet_7 : decode cX7_refuseSheet 7 = .ok (.iload_n 2, 1) := by decide +kernel
theorem dX7_refuseSheet_8 : decode cX7_refuseSheet 8 = .ok (.ifCond .ne 6, 3) := by decide +kernel
theorem dX7_refuseSheet_11 : decode cX7_refuseSheet 11 = .ok (.bipush (-2), 2) := by decide +kernel
theorem dX7_refuseSheet_13 : decode cX7_refuseSheet 13 = .ok (.ireturn, 1) := by decide +kernel
theorem dX7_refuseSheet_14 : decode cX7_refuseSheet 14 = .ok (.aload_n 0, 1) := by decide +kernel
theorem dX7_refuseSheet_15 : decode cX7_refuseSheet 15 = .ok (.getfield 55, 3) := by decide +kernel
theorem dX7_refuseSheet_18 : decode cX7_refuseSheet 18 = .ok (.iload_n 1, 1) := by decide +kernel
theorem dX7_refuseSheet_19 : decode cX7_refuseSheet 19 = .ok (.aaload, 1) := by decide +kernel
theorem dX7_refuseSheet_20 : decode cX7_refuseSheet 20 = .ok (.getfield 204, 3) := by decide +kernel
theorem dX7_refuseSheet_23 : decode cX7_refuseSheet 23 = .ok (.iconst (-1), 1) := by decide +kernel
theorem dX7_refuseSheet_24 : decode cX7_refuseSheet 24 = .ok (.if_icmp .ne 11, 3) := by decide +kernel
theorem dX7_refuseSheet_27 : decode cX7_refuseSheet 27 = .ok (.aload_n 0, 1) := by decide +kernel
theorem dX7_refuseSheet_28 : decode cX7_refuseSheet 28 = .ok (.iconst 1, 1) := by decide +kernel
theorem dX7_refuseSheet_29 : decode cX7_refuseSheet 29 = .ok (.invokevirtual 243, 3) := by decide +kernel
theorem dX7_refuseSheet_32 : decode cX7_refuseSheet 32 = .ok (.goto 4, 3) := by decide +kernel
theorem dX7_refuseSheet_35 : decode cX7_refuseSheet 35 = .ok (.iconst 0, 1) := by decide +kernel
theorem dX7_refuseSheet_36 : decode cX7_refuseSheet 36 = .ok (.ireturn, 1) := by decide +kernel
theorem dX7_refuseSitting_0 : decode cX7_refuseSitting 0 = .ok (.aload_n 0, 1) := by decide +kernel
theorem dX7_refuseSitting_1 : decode cX7_refuseSitting 1 = .ok (.iload_n 1, 1) := by decide +kernel
theorem dX7_refuseSitting_2 : decode cX7_refuseSitting 2 = .ok (.iload_n 2, 1) := by decide +kernel
theorem dX7_refuseSitting_3 : decode cX7_refuseSitting 3 = .ok (.invokevirtual 201, 3) := by decide +kernel
theorem dX7_refuseSitting_6 : decode cX7_refuseSitting 6 = .ok (.istore_n 3, 1) := by decide +kernel
theorem dX7_refuseSitting_7 : decode cX7_refuseSitting 7 = .ok (.iload_n 3, 1) := by decide +kernel
theorem dX7_refuseSitting_8 : decode cX7_refuseSitting 8 = .ok (.ifCond .eq 5, 3) := by decide +kernel
theorem dX7_refuseSitting_11 : decode cX7_refuseSitting 11 = .ok (.iload_n 3, 1) := by decide +kernel
theorem dX7_refuseSitting_12 : decode cX7_refuseSitting 12 = .ok (.ireturn, 1) := by decide +kernel
theorem dX7_refuseSitting_13 : decode cX7_refuseSitting 13 = .ok (.aload_n 0, 1) := by decide +kernel
theorem dX7_refuseSitting_14 : decode cX7_refuseSitting 14 = .ok (.getfield 55, 3) := by decide +kernel
theorem dX7_refuseSitting_17 : decode cX7_refuseSitting 17 = .ok (.iload_n 1, 1) := by decide +kernel
theorem dX7_refuseSitting_18 : decode cX7_refuseSitting 18 = .ok (.aaload, 1) := by decide +kernel
theorem dX7_refuseSitting_19 : decode cX7_refuseSitting 19 = .ok (.getfield 204, 3) := by decide +kernel
theorem dX7_refuseSitting_22 : decode cX7_refuseSitting 22 = .ok (.aload_n 0, 1) := by decide +kernel
theorem dX7_refuseSitting_23 : decode cX7_refuseSitting 23 = .ok (.getfield 12, 3) := by decide +kernel
theorem dX7_refuseSitting_26 : decode cX7_refuseSitting 26 = .ok (.getfield 128, 3) := by decide +kernel
theorem dX7_refuseSitting_29 : decode cX7_refuseSitting 29 = .ok (.if_icmp .ge 8, 3) := by decide +kernel
theorem dX7_refuseSitting_32 : decode cX7_refuseSitting 32 = .ok (.bipush (-3), 2) := by decide +kernel
theorem dX7_refuseSitting_34 : decode cX7_refuseSitting 34 = .ok (.goto 4, 3) := by decide +kernel
theorem dX7_refuseSitting_37 : decode cX7_refuseSitting 37 = .ok (.iconst 0, 1) := by decide +kernel
theorem dX7_refuseSitting_38 : decode cX7_refuseSitting 38 = .ok (.ireturn, 1) := by decide +kernel
theorem dX7_refuseItem_0 : decode cX7_refuseItem 0 = .ok (.aload_n 0, 1) := by decide +kernel
theorem dX7_refuseItem_1 : decode cX7_refuseItem 1 = .ok (.iload_n 1, 1) := by decide +kernel
theorem dX7_refuseItem_2 : decode cX7_refuseItem 2 = .ok (.iload_n 2, 1) := by decide +kernel
theorem dX7_refuseItem_3 : decode cX7_refuseItem 3 = .ok (.invokestatic 240, 3) := by decide +kernel
theorem dX7_refuseItem_6 : decode cX7_refuseItem 6 = .ok (.ifCond .ne 7, 3) := by decide +kernel
theorem dX7_refuseItem_9 : decode cX7_refuseItem 9 = .ok (.iconst 1, 1) := by decide +kernel
theorem dX7_refuseItem_10 : decode cX7_refuseItem 10 = .ok (.goto 4, 3) := by decide +kernel
theorem dX7_refuseItem_13 : decode cX7_refuseItem 13 = .ok (.iconst 0, 1) := by decide +kernel
theorem dX7_refuseItem_14 : decode cX7_refuseItem 14 = .ok (.invokevirtual 201, 3) := by decide +kernel
theorem dX7_refuseItem_17 : decode cX7_refuseItem 17 = .ok (.istore 4, 2) := by decide +kernel
theorem dX7_refuseItem_19 : decode cX7_refuseItem 19 = .ok (.iload 4, 2) := by decide +kernel
theorem dX7_refuseItem_21 : decode cX7_refuseItem 21 = .ok (.ifCond .eq 6, 3) := by decide +kernel
theorem dX7_refuseItem_24 : decode cX7_refuseItem 24 = .ok (.iload 4, 2) := by decide +kernel
theorem dX7_refuseItem_26 : decode cX7_refuseItem 26 = .ok (.ireturn, 1) := by decide +kernel
theorem dX7_refuseItem_27 : decode cX7_refuseItem 27 = .ok (.aload_n 0, 1) := by decide +kernel
theorem dX7_refuseItem_28 : decode cX7_refuseItem 28 = .ok (.getfield 55, 3) := by decide +kernel
theorem dX7_refuseItem_31 : decode cX7_refuseItem 31 = .ok (.iload_n 1, 1) := by decide +kernel
theorem dX7_refuseItem_32 : decode cX7_refuseItem 32 = .ok (.aaload, 1) := by decide +kernel
theorem dX7_refuseItem_33 : decode cX7_refuseItem 33 = .ok (.getfield 257, 3) := by decide +kernel
theorem dX7_refuseItem_36 : decode cX7_refuseItem 36 = .ok (.iload_n 2, 1) := by decide +kernel
theorem dX7_refuseItem_37 : decode cX7_refuseItem 37 = .ok (.if_icmp .eq 9, 3) := by decide +kernel
theorem dX7_refuseItem_40 : decode cX7_refuseItem 40 = .ok (.aload_n 0, 1) := by decide +kernel
theorem dX7_refuseItem_41 : decode cX7_refuseItem 41 = .ok (.iconst 3, 1) := by decide +kernel
theorem dX7_refuseItem_42 : decode cX7_refuseItem 42 = .ok (.invokevirtual 243, 3) := by decide +kernel
theorem dX7_refuseItem_45 : decode cX7_refuseItem 45 = .ok (.ireturn, 1) := by decide +kernel
theorem dX7_refuseItem_46 : decode cX7_refuseItem 46 = .ok (.aload_n 0, 1) := by decide +kernel
theorem dX7_refuseItem_47 : decode cX7_refuseItem 47 = .ok (.getfield 55, 3) := by decide +kernel
theorem dX7_refuseItem_50 : decode cX7_refuseItem 50 = .ok (.iload_n 1, 1) := by decide +kernel
theorem dX7_refuseItem_51 : decode cX7_refuseItem 51 = .ok (.aaload, 1) := by decide +kernel
theorem dX7_refuseItem_52 : decode cX7_refuseItem 52 = .ok (.iload_n 3, 1) := by decide +kernel
theorem dX7_refuseItem_53 : decode cX7_refuseItem 53 = .ok (.iconst 1, 1) := by decide +kernel
theorem dX7_refuseItem_54 : decode cX7_refuseItem 54 = .ok (.invokevirtual 260, 3) := by decide +kernel
theorem dX7_refuseItem_57 : decode cX7_refuseItem 57 = .ok (.ifCond .eq 7, 3) := by decide +kernel
theorem dX7_refuseItem_60 : decode cX7_refuseItem 60 = .ok (.iconst 0, 1) := by decide +kernel
theorem dX7_refuseItem_61 : decode cX7_refuseItem 61 = .ok (.goto 8, 3) := by decide +kernel
theorem dX7_refuseItem_64 : decode cX7_refuseItem 64 = .ok (.aload_n 0, 1) := by decide +kernel
theorem dX7_refuseItem_65 : decode cX7_refuseItem 65 = .ok (.iconst 2, 1) := by decide +kernel
theorem dX7_refuseItem_66 : decode cX7_refuseItem 66 = .ok (.invokevirtual 243, 3) := by decide +kernel
theorem dX7_refuseItem_69 : decode cX7_refuseItem 69 = .ok (.ireturn, 1) := by decide +kernel
theorem dX7_asLong_0 : decode cX7_asLong 0 = .ok (.ldc2_w 356, 3) := by decide +kernel
theorem dX7_asLong_3 : decode cX7_asLong 3 = .ok (.iload_n 0, 1) := by decide +kernel
theorem dX7_asLong_4 : decode cX7_asLong 4 = .ok (.i2l, 1) := by decide +kernel
theorem dX7_asLong_5 : decode cX7_asLong 5 = .ok (.lsub, 1) := by decide +kernel
theorem dX7_asLong_6 : decode cX7_asLong 6 = .ok (.lreturn, 1) := by decide +kernel
theorem dX7_part_0 : decode cX7_part 0 = .ok (.lload_n 0, 1) := by decide +kernel
theorem dX7_part_1 : decode cX7_part 1 = .ok (.lload_n 2, 1) := by decide +kernel
theorem dX7_part_2 : decode cX7_part 2 = .ok (.invokestatic 358, 3) := by decide +kernel
theorem dX7_part_5 : decode cX7_part 5 = .ok (.lstore 5, 2) := by decide +kernel
theorem dX7_part_7 : decode cX7_part 7 = .ok (.lload 5, 2) := by decide +kernel
theorem dX7_part_9 : decode cX7_part 9 = .ok (.lconst 0, 1) := by decide +kernel
theorem dX7_part_10 : decode cX7_part 10 = .ok (.lcmp, 1) := by decide +kernel
theorem dX7_part_11 : decode cX7_part 11 = .ok (.ifCond .ne 5, 3) := by decide +kernel
theorem dX7_part_14 : decode cX7_part 14 = .ok (.lconst 0, 1) := by decide +kernel
theorem dX7_part_15 : decode cX7_part 15 = .ok (.lreturn, 1) := by decide +kernel
theorem dX7_part_16 : decode cX7_part 16 = .ok (.iload 4, 2) := by decide +kernel
theorem dX7_part_18 : decode cX7_part 18 = .ok (.ifCond .ne 7, 3) := by decide +kernel
theorem dX7_part_21 : decode cX7_part 21 = .ok (.lload_n 0, 1) := by decide +kernel
theorem dX7_part_22 : decode cX7_part 22 = .ok (.goto 4, 3) := by decide +kernel
theorem dX7_part_25 : decode cX7_part 25 = .ok (.lload_n 2, 1) := by decide +kernel
theorem dX7_part_26 : decode cX7_part 26 = .ok (.lload 5, 2) := by decide +kernel
theorem dX7_part_28 : decode cX7_part 28 = .ok (.ldiv, 1) := by decide +kernel
theorem dX7_part_29 : decode cX7_part 29 = .ok (.lreturn, 1) := by decide +kernel
theorem dX7_commonDivisor_0 : decode cX7_commonDivisor 0 = .ok (.lload_n 0, 1) := by decide +kernel
theorem dX7_commonDivisor_1 : decode cX7_commonDivisor 1 = .ok (.lstore 4, 2) := by decide +kernel
theorem dX7_commonDivisor_3 : decode cX7_commonDivisor 3 = .ok (.lload_n 2, 1) := by decide +kernel
theorem dX7_commonDivisor_4 : decode cX7_commonDivisor 4 = .ok (.lstore 6, 2) := by decide +kernel
theorem dX7_commonDivisor_6 : decode cX7_commonDivisor 6 = .ok (.iconst 0, 1) := by decide +kernel
theorem dX7_commonDivisor_7 : decode cX7_commonDivisor 7 = .ok (.istore 8, 2) := by decide +kernel
theorem dX7_commonDivisor_9 : decode cX7_commonDivisor 9 = .ok (.iload 8, 2) := by decide +kernel
theorem dX7_commonDivisor_11 : decode cX7_commonDivisor 11 = .ok (.sipush 200, 3) := by decide +kernel
theorem dX7_commonDivisor_14 : decode cX7_commonDivisor 14 = .ok (.if_icmp .ge 31, 3) := by decide +kernel
theorem dX7_commonDivisor_17 : decode cX7_commonDivisor 17 = .ok (.lload 6, 2) := by decide +kernel
theorem dX7_commonDivisor_19 : decode cX7_commonDivisor 19 = .ok (.lconst 0, 1) := by decide +kernel
theorem dX7_commonDivisor_20 : decode cX7_commonDivisor 20 = .ok (.lcmp, 1) := by decide +kernel
theorem dX7_commonDivisor_21 : decode cX7_commonDivisor 21 = .ok (.ifCond .eq 24, 3) := by decide +kernel
theorem dX7_commonDivisor_24 : decode cX7_commonDivisor 24 = .ok (.lload 4, 2) := by decide +kernel
theorem dX7_commonDivisor_26 : decode cX7_commonDivisor 26 = .ok (.lload 6, 2) := by decide +kernel
theorem dX7_commonDivisor_28 : decode cX7_commonDivisor 28 = .ok (.lrem, 1) := by decide +kernel
theorem dX7_commonDivisor_29 : decode cX7_commonDivisor 29 = .ok (.lstore 9, 2) := by decide +kernel
theorem dX7_commonDivisor_31 : decode cX7_commonDivisor 31 = .ok (.lload 6, 2) := by decide +kernel
theorem dX7_commonDivisor_33 : decode cX7_commonDivisor 33 = .ok (.lstore 4, 2) := by decide +kernel
theorem dX7_commonDivisor_35 : decode cX7_commonDivisor 35 = .ok (.lload 9, 2) := by decide +kernel
theorem dX7_commonDivisor_37 : decode cX7_commonDivisor 37 = .ok (.lstore 6, 2) := by decide +kernel
theorem dX7_commonDivisor_39 : decode cX7_commonDivisor 39 = .ok (.iinc 8 1, 3) := by decide +kernel
theorem dX7_commonDivisor_42 : decode cX7_commonDivisor 42 = .ok (.goto (-33), 3) := by decide +kernel
theorem dX7_commonDivisor_45 : decode cX7_commonDivisor 45 = .ok (.lload 4, 2) := by decide +kernel
theorem dX7_commonDivisor_47 : decode cX7_commonDivisor 47 = .ok (.lreturn, 1) := by decide +kernel
theorem dX8_init_0 : decode cX8_init 0 = .ok (.aload_n 0, 1) := by decide +kernel
theorem dX8_init_1 : decode cX8_init 1 = .ok (.invokespecial 1, 3) := by decide +kernel
theorem dX8_init_4 : decode cX8_init 4 = .ok (.aload_n 0, 1) := by decide +kernel
theorem dX8_init_5 : decode cX8_init 5 = .ok (.iconst 4, 1) := by decide +kernel
theorem dX8_init_6 : decode cX8_init 6 = .ok (.newarray .int, 2) := by decide +kernel
theorem dX8_init_8 : decode cX8_init 8 = .ok (.putfield 7, 3) := by decide +kernel
theorem dX8_init_11 : decode cX8_init 11 = .ok (.aload_n 0, 1) := by decide +kernel
theorem dX8_init_12 : decode cX8_init 12 = .ok (.iconst 4, 1) := by decide +kernel
theorem dX8_init_13 : decode cX8_init 13 = .ok (.newarray .int, 2) := by decide +kernel
theorem dX8_init_15 : decode cX8_init 15 = .ok (.putfield 13, 3) := by decide +kernel
theorem dX8_init_18 : decode cX8_init 18 = .ok (.aload_n 0, 1) := by decide +kernel
theorem dX8_init_19 : decode cX8_init 19 = .ok (.sipush 240, 3) := by decide +kernel
theorem dX8_init_22 : decode cX8_init 22 = .ok (.newarray .int, 2) := by decide +kernel
theorem dX8_init_24 : decode cX8_init 24 = .ok (.putfield 16, 3) := by decide +kernel
theorem dX8_init_27 : decode cX8_init 27 = .ok (.aload_n 0, 1) := by decide +kernel
theorem dX8_init_28 : decode cX8_init 28 = .ok (.bipush 60, 2) := by decide +kernel
theorem dX8_init_30 : decode cX8_init 30 = .ok (.newarray .int, 2) := by decide +kernel
theorem dX8_init_32 : decode cX8_init 32 = .ok (.putfield 19, 3) := by decide +kernel
theorem dX8_init_35 : decode cX8_init 35 = .ok (.aload_n 0, 1) := by decide +kernel
theorem dX8_init_36 : decode cX8_init 36 = .ok (.bipush 40, 2) := by decide +kernel
theorem dX8_init_38 : decode cX8_init 38 = .ok (.newarray .int, 2) := by decide +kernel
theorem dX8_init_40 : decode cX8_init 40 = .ok (.putfield 22, 3) := by decide +kernel
theorem dX8_init_43 : decode cX8_init 43 = .ok (.aload_n 0, 1) := by decide +kernel
theorem dX8_init_44 : decode cX8_init 44 = .ok (.iconst 2, 1) := by decide +kernel
theorem dX8_init_45 : decode cX8_init 45 = .ok (.newarray .int, 2) := by decide +kernel
theorem dX8_init_47 : decode cX8_init 47 = .ok (.putfield 25, 3) := by decide +kernel
theorem dX8_init_50 : decode cX8_init 50 = .ok (.aload_n 0, 1) := by decide +kernel
theorem dX8_init_51 : decode cX8_init 51 = .ok (.bipush 8, 2) := by decide +kernel
theorem dX8_init_53 : decode cX8_init 53 = .ok (.newarray .int, 2) := by decide +kernel
theorem dX8_init_55 : decode cX8_init 55 = .ok (.putfield 28, 3) := by decide +kernel
theorem dX8_init_58 : decode cX8_init 58 = .ok (.aload_n 0, 1) := by decide +kernel
theorem dX8_init_59 : decode cX8_init 59 = .ok (.bipush 8, 2) := by decide +kernel
theorem dX8_init_61 : decode cX8_init 61 = .ok (.newarray .int, 2) := by decide +kernel
theorem dX8_init_63 : decode cX8_init 63 = .ok (.putfield 31, 3) := by decide +kernel
theorem dX8_init_66 : decode cX8_init 66 = .ok (.aload_n 0, 1) := by decide +kernel
theorem dX8_init_67 : decode cX8_init 67 = .ok (.bipush 8, 2) := by decide +kernel
theorem dX8_init_69 : decode cX8_init 69 = .ok (.newarray .int, 2) := by decide +kernel
theorem dX8_init_71 : decode cX8_init 71 = .ok (.putfield 34, 3) := by decide +kernel
theorem dX8_init_74 : decode cX8_init 74 = .ok (.aload_n 0, 1) := by decide +kernel
theorem dX8_init_75 : decode cX8_init 75 = .ok (.bipush 8, 2) := by decide +kernel
theorem dX8_init_77 : decode cX8_init 77 = .ok (.newarray .int, 2) := by decide +kernel
theorem dX8_init_79 : decode cX8_init 79 = .ok (.putfield 37, 3) := by decide +kernel
theorem dX8_init_82 : decode cX8_init 82 = .ok (.aload_n 0, 1) := by decide +kernel
theorem dX8_init_83 : decode cX8_init 83 = .ok (.sipush 256, 3) := by decide +kernel
theorem dX8_init_86 : decode cX8_init 86 = .ok (.newarray .long, 2) := by decide +kernel
theorem dX8_init_88 : decode cX8_init 88 = .ok (.putfield 40, 3) := by decide +kernel
theorem dX8_init_91 : decode cX8_init 91 = .ok (.aload_n 0, 1) := by decide +kernel
theorem dX8_init_92 : decode cX8_init 92 = .ok (.sipush 256, 3) := by decide +kernel
theorem dX8_init_95 : decode cX8_init 95 = .ok (.newarray .long, 2) := by decide +kernel
theorem dX8_init_97 : decode cX8_init 97 = .ok (.putfield 44, 3) := by decide +kernel
theorem dX8_init_100 : decode cX8_init 100 = .ok (.aload_n 0, 1) := by decide +kernel
theorem dX8_init_101 : decode cX8_init 101 = .ok (.iconst (-1), 1) := by decide +kernel
theorem dX8_init_102 : decode cX8_init 102 = .ok (.putfield 47, 3) := by decide +kernel
theorem dX8_init_105 : decode cX8_init 105 = .ok (.aload_n 0, 1) := by decide +kernel
theorem dX8_init_106 : decode cX8_init 106 = .ok (.iconst (-1), 1) := by decide +kernel
theorem dX8_init_107 : decode cX8_init 107 = .ok (.putfield 51, 3) := by decide +kernel
theorem dX8_init_110 : decode cX8_init 110 = .ok (.aload_n 0, 1) := by decide +kernel
theorem dX8_init_111 : decode cX8_init 111 = .ok (.bipush 8, 2) := by decide +kernel
theorem dX8_init_113 : decode cX8_init 113 = .ok (.newarray .int, 2) := by decide +kernel
theorem dX8_init_115 : decode cX8_init 115 = .ok (.putfield 54, 3) := by decide +kernel
theorem dX8_init_118 : decode cX8_init 118 = .ok (.aload_n 0, 1) := by decide +kernel
theorem dX8_init_119 : decode cX8_init 119 = .ok (.bipush 8, 2) := by decide +kernel
theorem dX8_init_121 : decode cX8_init 121 = .ok (.newarray .int, 2) := by decide +kernel
theorem dX8_init_123 : decode cX8_init 123 = .ok (.putfield 57, 3) := by decide +kernel
theorem dX8_init_126 : decode cX8_init 126 = .ok (.aload_n 0, 1) := by decide +kernel
theorem dX8_init_127 : decode cX8_init 127 = .ok (.bipush 8, 2) := by decide +kernel
theorem dX8_init_129 : decode cX8_init 129 = .ok (.newarray .int, 2) := by decide +kernel
theorem dX8_init_131 : decode cX8_init 131 = .ok (.putfield 60, 3) := by decide +kernel
theorem dX8_init_134 : decode cX8_init 134 = .ok (.aload_n 0, 1) := by decide +kernel
theorem dX8_init_135 : decode cX8_init 135 = .ok (.sipush 2304, 3) := by decide +kernel
theorem dX8_init_138 : decode cX8_init 138 = .ok (.newarray .long, 2) := by decide +kernel
theorem dX8_init_140 : decode cX8_init 140 = .ok (.putfield 63, 3) := by decide +kernel
theorem dX8_init_143 : decode cX8_init 143 = .ok (.aload_n 0, 1) := by decide +kernel
theorem dX8_init_144 : decode cX8_init 144 = .ok (.sipush 2304, 3) := by decide +kernel
theorem dX8_init_147 : decode cX8_init 147 = .ok (.newarray .long, 2) := by decide +kernel
theorem dX8_init_149 : decode cX8_init 149 = .ok (.putfield 66, 3) := by decide +kernel
theorem dX8_init_152 : decode cX8_init 152 = .ok (.aload_n 0, 1) := by decide +kernel
theorem dX8_init_153 : decode cX8_init 153 = .ok (.bipush 8, 2) := by decide +kernel
theorem dX8_init_155 : decode cX8_init 155 = .ok (.newarray .int, 2) := by decide +kernel
theorem dX8_init_157 : decode cX8_init 157 = .ok (.putfield 69, 3) := by decide +kernel
theorem dX8_init_160 : decode cX8_init 160 = .ok (.aload_n 0, 1) := by decide +kernel
theorem dX8_init_161 : decode cX8_init 161 = .ok (.bipush 8, 2) := by decide +kernel
theorem dX8_init_163 : decode cX8_init 163 = .ok (.newarray .int, 2) := by decide +kernel
theorem dX8_init_165 : decode cX8_init 165 = .ok (.putfield 72, 3) := by decide +kernel
theorem dX8_init_168 : decode cX8_init 168 = .ok (.aload_n 0, 1) := by decide +kernel
theorem dX8_init_169 : decode cX8_init 169 = .ok (.bipush 8, 2) := by decide +kernel
theorem dX8_init_171 : decode cX8_init 171 = .ok (.newarray .int, 2) := by decide +kernel
theorem dX8_init_173 : decode cX8_init 173 = .ok (.putfield 75, 3) := by decide +kernel
theorem dX8_init_176 : decode cX8_init 176 = .ok (.iconst 0, 1) := by decide +kernel
theorem dX8_init_177 : decode cX8_init 177 = .ok (.istore_n 1, 1) := by decide +kernel
theorem dX8_init_178 : decode cX8_init 178 = .ok (.iload_n 1, 1) := by decide +kernel
theorem dX8_init_179 : decode cX8_init 179 = .ok (.iconst 4, 1) := by decide +kernel
theorem dX8_init_180 : decode cX8_init 180 = .ok (.if_icmp .ge 16, 3) := by decide +kernel
theorem dX8_init_183 : decode cX8_init 183 = .ok (.aload_n 0, 1) := by decide +kernel
theorem dX8_init_184 : decode cX8_init 184 = .ok (.getfield 7, 3) := by decide +kernel
theorem dX8_init_187 : decode cX8_init 187 = .ok (.iload_n 1, 1) := by decide +kernel
theorem dX8_init_188 : decode cX8_init 188 = .ok (.iconst (-1), 1) := by decide +kernel
theorem dX8_init_189 : decode cX8_init 189 = .ok (.iastore, 1) := by decide +kernel
theorem dX8_init_190 : decode cX8_init 190 = .ok (.iinc 1 1, 3) := by decide +kernel
theorem dX8_init_193 : decode cX8_init 193 = .ok (.goto (-15), 3) := by decide +kernel
theorem dX8_init_196 : decode cX8_init 196 = .ok (.return_, 1) := by decide +kernel
theorem dX8_in_0 : decode cX8_in 0 = .ok (.lload_n 0, 1) := by decide +kernel
theorem dX8_in_1 : decode cX8_in 1 = .ok (.lload_n 2, 1) := by decide +kernel
theorem dX8_in_2 : decode cX8_in 2 = .ok (.lcmp, 1) := by decide +kernel
theorem dX8_in_3 : decode cX8_in 3 = .ok (.ifCond .lt 14, 3) := by decide +kernel
theorem dX8_in_6 : decode cX8_in 6 = .ok (.lload_n 0, 1) := by decide +kernel
theorem dX8_in_7 : decode cX8_in 7 = .ok (.lload 4, 2) := by decide +kernel
theorem dX8_in_9 : decode cX8_in 9 = .ok (.lcmp, 1) := by decide +kernel
theorem dX8_in_10 : decode cX8_in 10 = .ok (.ifCond .gt 7, 3) := by decide +kernel
theorem dX8_in_13 : decode cX8_in 13 = .ok (.iconst 1, 1) := by decide +kernel
theorem dX8_in_14 : decode cX8_in 14 = .ok (.goto 4, 3) := by decide +kernel
theorem dX8_in_17 : decode cX8_in 17 = .ok (.iconst 0, 1) := by decide +kernel
theorem dX8_in_18 : decode cX8_in 18 = .ok (.ireturn, 1) := by decide +kernel
theorem dX8_no_0 : decode cX8_no 0 = .ok (.ldc2_w 78, 3) := by decide +kernel
theorem dX8_no_3 : decode cX8_no 3 = .ok (.iload_n 0, 1) := by decide +kernel
theorem dX8_no_4 : decode cX8_no 4 = .ok (.i2l, 1) := by decide +kernel
theorem dX8_no_5 : decode cX8_no 5 = .ok (.lsub, 1) := by decide +kernel
theorem dX8_no_6 : decode cX8_no 6 = .ok (.lreturn, 1) := by decide +kernel
theorem dX8_isTwo_0 : decode cX8_isTwo 0 = .ok (.iload_n 0, 1) := by decide +kernel
theorem dX8_isTwo_1 : decode cX8_isTwo 1 = .ok (.i2l, 1) := by decide +kernel
theorem dX8_isTwo_2 : decode cX8_isTwo 2 = .ok (.lconst 0, 1) := by decide +kernel
theorem dX8_isTwo_3 : decode cX8_isTwo 3 = .ok (.lconst 1, 1) := by decide +kernel
theorem dX8_isTwo_4 : decode cX8_isTwo 4 = .ok (.invokestatic 80, 3) := by decide +kernel
theorem dX8_isTwo_7 : decode cX8_isTwo 7 = .ok (.ireturn, 1) := by decide +kernel
theorem dX8_isIn_0 : decode cX8_isIn 0 = .ok (.iload_n 0, 1) := by decide +kernel
theorem dX8_isIn_1 : decode cX8_isIn 1 = .ok (.iload_n 1, 1) := by decide +kernel
theorem dX8_isIn_2 : decode cX8_isIn 2 = .ok (.ishr, 1) := by decide +kernel
theorem dX8_isIn_3 : decode cX8_isIn 3 = .ok (.iconst 1, 1) := by decide +kernel
theorem dX8_isIn_4 : decode cX8_isIn 4 = .ok (.iand, 1) := by decide +kernel
theorem dX8_isIn_5 : decode cX8_isIn 5 = .ok (.iconst 1, 1) := by decide +kernel
theorem dX8_isIn_6 : decode cX8_isIn 6 = .ok (.if_icmp .ne 7, 3) := by decide +kernel
theorem dX8_isIn_9 : decode cX8_isIn 9 = .ok (.iconst 1, 1) := by decide +kernel
theorem dX8_isIn_10 : decode cX8_isIn 10 = .ok (.goto 4, 3) := by decide +kernel
theorem dX8_isIn_13 : decode cX8_isIn 13 = .ok (.iconst 0, 1) := by decide +kernel
theorem dX8_isIn_14 : decode cX8_isIn 14 = .ok (.ireturn, 1) := by decide +kernel
theorem dX8_ones_0 : decode cX8_ones 0 = .ok (.iconst 0, 1) := by decide +kernel
theorem dX8_ones_1 : decode cX8_ones 1 = .ok (.istore_n 1, 1) := by decide +kernel
theorem dX8_ones_2 : decode cX8_ones 2 = .ok (.iload_n 0, 1) := by decide +kernel
theorem dX8_ones_3 : decode cX8_ones 3 = .ok (.istore_n 2, 1) := by decide +kernel
theorem dX8_ones_4 : decode cX8_ones 4 = .ok (.iload_n 2, 1) := by decide +kernel
theorem dX8_ones_5 : decode cX8_ones 5 = .ok (.ifCond .eq 15, 3) := by decide +kernel
theorem dX8_ones_8 : decode cX8_ones 8 = .ok (.iinc 1 1, 3) := by decide +kernel
theorem dX8_ones_11 : decode cX8_ones 11 = .ok (.iload_n 2, 1) := by decide +kernel
theorem dX8_ones_12 : decode cX8_ones 12 = .ok (.iload_n 2, 1) := by decide +kernel
theorem dX8_ones_13 : decode cX8_ones 13 = .ok (.iconst 1, 1) := by decide +kernel
theorem dX8_ones_14 : decode cX8_ones 14 = .ok (.isub, 1) := by decide +kernel
theorem dX8_ones_15 : decode cX8_ones 15 = .ok (.iand, 1) := by decide +kernel
theorem dX8_ones_16 : decode cX8_ones 16 = .ok (.istore_n 2, 1) := by decide +kernel
theorem dX8_ones_17 : decode cX8_ones 17 = .ok (.goto (-13), 3) := by decide +kernel
theorem dX8_ones_20 : decode cX8_ones 20 = .ok (.iload_n 1, 1) := by decide +kernel
theorem dX8_ones_21 : decode cX8_ones 21 = .ok (.ireturn, 1) := by decide +kernel
theorem dX8_part_0 : decode cX8_part 0 = .ok (.lload_n 0, 1) := by decide +kernel
theorem dX8_part_1 : decode cX8_part 1 = .ok (.lstore 5, 2) := by decide +kernel
theorem dX8_part_3 : decode cX8_part 3 = .ok (.lload_n 2, 1) := by decide +kernel
theorem dX8_part_4 : decode cX8_part 4 = .ok (.lstore 7, 2) := by decide +kernel
theorem dX8_part_6 : decode cX8_part 6 = .ok (.lload 7, 2) := by decide +kernel
theorem dX8_part_8 : decode cX8_part 8 = .ok (.lconst 0, 1) := by decide +kernel
theorem dX8_part_9 : decode cX8_part 9 = .ok (.lcmp, 1) := by decide +kernel
theorem dX8_part_10 : decode cX8_part 10 = .ok (.ifCond .eq 21, 3) := by decide +kernel
theorem dX8_part_13 : decode cX8_part 13 = .ok (.lload 5, 2) := by decide +kernel
theorem dX8_part_15 : decode cX8_part 15 = .ok (.lload 7, 2) := by decide +kernel
theorem dX8_part_17 : decode cX8_part 17 = .ok (.lrem, 1) := by decide +kernel
theorem dX8_part_18 : decode cX8_part 18 = .ok (.lstore 9, 2) := by decide +kernel
theorem dX8_part_20 : decode cX8_part 20 = .ok (.lload 7, 2) := by decide +kernel
theorem dX8_part_22 : decode cX8_part 22 = .ok (.lstore 5, 2) := by decide +kernel
theorem dX8_part_24 : decode cX8_part 24 = .ok (.lload 9, 2) := by decide +kernel
theorem dX8_part_26 : decode cX8_part 26 = .ok (.lstore 7, 2) := by decide +kernel
theorem dX8_part_28 : decode cX8_part 28 = .ok (.goto (-22), 3) := by decide +kernel
theorem dX8_part_31 : decode cX8_part 31 = .ok (.iload 4, 2) := by decide +kernel
theorem dX8_part_33 : decode cX8_part 33 = .ok (.ifCond .ne 7, 3) := by decide +kernel
theorem dX8_part_36 : decode cX8_part 36 = .ok (.lload_n 0, 1) := by decide +kernel
theorem dX8_part_37 : decode cX8_part 37 = .ok (.goto 4, 3) := by decide +kernel
theorem dX8_part_40 : decode cX8_part 40 = .ok (.lload_n 2, 1) := by decide +kernel
theorem dX8_part_41 : decode cX8_part 41 = .ok (.lload 5, 2) := by decide +kernel
theorem dX8_part_43 : decode cX8_part 43 = .ok (.ldiv, 1) := by decide +kernel
theorem dX8_part_44 : decode cX8_part 44 = .ok (.lreturn, 1) := by decide +kernel
theorem dX8_met_0 : decode cX8_met 0 = .ok (.aload_n 0, 1) := by decide +kernel
theorem dX8_met_1 : decode cX8_met 1 = .ok (.iload_n 1, 1) := by decide +kernel
theorem dX8_met_2 : decode cX8_met 2 = .ok (.putfield 84, 3) := by decide +kernel
theorem dX8_met_5 : decode cX8_met 5 = .ok (.bipush (-10), 2) := by decide +kernel
theorem dX8_met_7 : decode cX8_met 7 = .ok (.iload_n 1, 1) := by decide +kernel
theorem dX8_met_8 : decode cX8_met 8 = .ok (.isub, 1) := by decide +kernel
theorem dX8_met_9 : decode cX8_met 9 = .ok (.ireturn, 1) := by decide +kernel
theorem dX8_isSheet_0 : decode cX8_isSheet 0 = .ok (.iload_n 0, 1) := by decide +kernel
theorem dX8_isSheet_1 : decode cX8_isSheet 1 = .ok (.i2l, 1) := by decide +kernel
theorem dX8_isSheet_2 : decode cX8_isSheet 2 = .ok (.lconst 0, 1) := by decide +kernel
theorem dX8_isSheet_3 : decode cX8_isSheet 3 = .ok (.ldc2_w 87, 3) := by decide +kernel
theorem dX8_isSheet_6 : decode cX8_isSheet 6 = .ok (.invokestatic 80, 3) := by decide +kernel
theorem dX8_isSheet_9 : decode cX8_isSheet 9 = .ok (.ireturn, 1) := by decide +kernel
theorem dX8_sheet_0 : decode cX8_sheet 0 = .ok (.iload_n 1, 1) := by decide +kernel
theorem dX8_sheet_1 : decode cX8_sheet 1 = .ok (.invokestatic 89, 3) := by decide +kernel
theorem dX8_sheet_4 : decode cX8_sheet 4 = .ok (.ifCond .eq 21, 3) := by decide +kernel
theorem dX8_sheet_7 : decode cX8_sheet 7 = .ok (.iload_n 2, 1) := by decide +kernel
theorem dX8_sheet_8 : decode cX8_sheet 8 = .ok (.i2l, 1) := by decide +kernel
theorem dX8_sheet_9 : decode cX8_sheet 9 = .ok (.lconst 0, 1) := by decide +kernel
theorem dX8_sheet_10 : decode cX8_sheet 10 = .ok (.ldc2_w 93, 3) := by decide +kernel
theorem dX8_sheet_13 : decode cX8_sheet 13 = .ok (.invokestatic 80, 3) := by decide +kernel
theorem dX8_sheet_16 : decode cX8_sheet 16 = .ok (.ifCond .eq 9, 3) := by decide +kernel
theorem dX8_sheet_19 : decode cX8_sheet 19 = .ok (.iload_n 3, 1) := by decide +kernel
theorem dX8_sheet_20 : decode cX8_sheet 20 = .ok (.bipush 60, 2) := by decide +kernel
theorem dX8_sheet_22 : decode cX8_sheet 22 = .ok (.if_icmp .le 6, 3) := by decide +kernel
theorem dX8_sheet_25 : decode cX8_sheet 25 = .ok (.bipush (-2), 2) := by decide +kernel
theorem dX8_sheet_27 : decode cX8_sheet 27 = .ok (.ireturn, 1) := by decide +kernel
theorem dX8_sheet_28 : decode cX8_sheet 28 = .ok (.iload_n 3, 1) := by decide +kernel
theorem dX8_sheet_29 : decode cX8_sheet 29 = .ok (.ifCond .ge 9, 3) := by decide +kernel
theorem dX8_sheet_32 : decode cX8_sheet 32 = .ok (.aload_n 0, 1) := by decide +kernel
theorem dX8_sheet_33 : decode cX8_sheet 33 = .ok (.iconst 5, 1) := by decide +kernel
theorem dX8_sheet_34 : decode cX8_sheet 34 = .ok (.invokevirtual 95, 3) := by decide +kernel
theorem dX8_sheet_37 : decode cX8_sheet 37 = .ok (.ireturn, 1) := by decide +kernel
theorem dX8_sheet_38 : decode cX8_sheet 38 = .ok (.aload_n 0, 1) := by decide +kernel
theorem dX8_sheet_39 : decode cX8_sheet 39 = .ok (.getfield 7, 3) := by decide +kernel
theorem dX8_sheet_42 : decode cX8_sheet 42 = .ok (.iload_n 1, 1) := by decide +kernel
theorem dX8_sheet_43 : decode cX8_sheet 43 = .ok (.iload_n 2, 1) := by decide +kernel
theorem dX8_sheet_44 : decode cX8_sheet 44 = .ok (.iastore, 1) := by decide +kernel
theorem dX8_sheet_45 : decode cX8_sheet 45 = .ok (.aload_n 0, 1) := by decide +kernel
theorem dX8_sheet_46 : decode cX8_sheet 46 = .ok (.getfield 13, 3) := by decide +kernel
theorem dX8_sheet_49 : decode cX8_sheet 49 = .ok (.iload_n 1, 1) := by decide +kernel
theorem dX8_sheet_50 : decode cX8_sheet 50 = .ok (.iload_n 3, 1) := by decide +kernel
theorem dX8_sheet_51 : decode cX8_sheet 51 = .ok (.iastore, 1) := by decide +kernel
theorem dX8_sheet_52 : decode cX8_sheet 52 = .ok (.iconst 0, 1) := by decide +kernel
theorem dX8_sheet_53 : decode cX8_sheet 53 = .ok (.istore 4, 2) := by decide +kernel
theorem dX8_sheet_55 : decode cX8_sheet 55 = .ok (.iload 4, 2) := by decide +kernel
theorem dX8_sheet_57 : decode cX8_sheet 57 = .ok (.iload_n 3, 1) := by decide +kernel
theorem dX8_sheet_58 : decode cX8_sheet 58 = .ok (.if_icmp .ge 22, 3) := by decide +kernel
theorem dX8_sheet_61 : decode cX8_sheet 61 = .ok (.aload_n 0, 1) := by decide +kernel
theorem dX8_sheet_62 : decode cX8_sheet 62 = .ok (.getfield 16, 3) := by decide +kernel
theorem dX8_sheet_65 : decode cX8_sheet 65 = .ok (.bipush 60, 2) := by decide +kernel
theorem dX8_sheet_67 : decode cX8_sheet 67 = .ok (.iload_n 1, 1) := by decide +kernel
theorem dX8_sheet_68 : decode cX8_sheet 68 = .ok (.imul, 1) := by decide +kernel
theorem dX8_sheet_69 : decode cX8_sheet 69 = .ok (.iload 4, 2) := by decide +kernel
theorem dX8_sheet_71 : decode cX8_sheet 71 = .ok (.iadd, 1) := by decide +kernel
theorem dX8_sheet_72 : decode cX8_sheet 72 = .ok (.iconst 0, 1) := by decide +kernel
theorem dX8_sheet_73 : decode cX8_sheet 73 = .ok (.iastore, 1) := by decide +kernel
theorem dX8_sheet_74 : decode cX8_sheet 74 = .ok (.iinc 4 1, 3) := by decide +kernel
theorem dX8_sheet_77 : decode cX8_sheet 77 = .ok (.goto (-22), 3) := by decide +kernel
theorem dX8_sheet_80 : decode cX8_sheet 80 = .ok (.iload_n 3, 1) := by decide +kernel
theorem dX8_sheet_81 : decode cX8_sheet 81 = .ok (.ireturn, 1) := by decide +kernel
theorem dX8_lose_0 : decode cX8_lose 0 = .ok (.iload_n 1, 1) := by decide +kernel
theorem dX8_lose_1 : decode cX8_lose 1 = .ok (.invokestatic 89, 3) := by decide +kernel
theorem dX8_lose_4 : decode cX8_lose 4 = .ok (.ifCond .ne 6, 3) := by decide +kernel
theorem dX8_lose_7 : decode cX8_lose 7 = .ok (.bipush (-2), 2) := by decide +kernel
theorem dX8_lose_9 : decode cX8_lose 9 = .ok (.ireturn, 1) := by decide +kernel
theorem dX8_lose_10 : decode cX8_lose 10 = .ok (.aload_n 0, 1) := by decide +kernel
theorem dX8_lose_11 : decode cX8_lose 11 = .ok (.getfield 7, 3) := by decide +kernel
theorem dX8_lose_14 : decode cX8_lose 14 = .ok (.iload_n 1, 1) := by decide +kernel
theorem dX8_lose_15 : decode cX8_lose 15 = .ok (.iaload, 1) := by decide +kernel
theorem dX8_lose_16 : decode cX8_lose 16 = .ok (.ifCond .ge 9, 3) := by decide +kernel
theorem dX8_lose_19 : decode cX8_lose 19 = .ok (.aload_n 0, 1) := by decide +kernel
theorem dX8_lose_20 : decode cX8_lose 20 = .ok (.iconst 1, 1) := by decide +kernel
theorem dX8_lose_21 : decode cX8_lose 21 = .ok (.invokevirtual 95, 3) := by decide +kernel
theorem dX8_lose_24 : decode cX8_lose 24 = .ok (.ireturn, 1) := by decide +kernel
theorem dX8_lose_25 : decode cX8_lose 25 = .ok (.aload_n 0, 1) := by decide +kernel
theorem dX8_lose_26 : decode cX8_lose 26 = .ok (.getfield 7, 3) := by decide +kernel
theorem dX8_lose_29 : decode cX8_lose 29 = .ok (.iload_n 1, 1) := by decide +kernel
theorem dX8_lose_30 : decode cX8_lose 30 = .ok (.iconst (-1), 1) := by decide +kernel
theorem dX8_lose_31 : decode cX8_lose 31 = .ok (.iastore, 1) := by decide +kernel
theorem dX8_lose_32 : decode cX8_lose 32 = .ok (.aload_n 0, 1) := by decide +kernel
theorem dX8_lose_33 : decode cX8_lose 33 = .ok (.getfield 13, 3) := by decide +kernel
theorem dX8_lose_36 : decode cX8_lose 36 = .ok (.iload_n 1, 1) := by decide +kernel
theorem dX8_lose_37 : decode cX8_lose 37 = .ok (.iaload, 1) := by decide +kernel
theorem dX8_lose_38 : decode cX8_lose 38 = .ok (.ireturn, 1) := by decide +kernel
theorem dX8_lacks_0 : decode cX8_lacks 0 = .ok (.aload_n 0, 1) := by decide +kernel
theorem dX8_lacks_1 : decode cX8_lacks 1 = .ok (.getfield 7, 3) := by decide +kernel
theorem dX8_lacks_4 : decode cX8_lacks 4 = .ok (.iload_n 1, 1) := by decide +kernel
theorem dX8_lacks_5 : decode cX8_lacks 5 = .ok (.iaload, 1) := by decide +kernel
theorem dX8_lacks_6 : decode cX8_lacks 6 = .ok (.ifCond .ge 9, 3) := by decide +kernel
theorem dX8_lacks_9 : decode cX8_lacks 9 = .ok (.aload_n 0, 1) := by decide +kernel
theorem dX8_lacks_10 : decode cX8_lacks 10 = .ok (.iconst 1, 1) := by decide +kernel
theorem dX8_lacks_11 : decode cX8_lacks 11 = .ok (.invokevirtual 95, 3) := by decide +kernel
theorem dX8_lacks_14 : decode cX8_lacks 14 = .ok (.ireturn, 1) := by decide +kernel
theorem dX8_lacks_15 : decode cX8_lacks 15 = .ok (.aload_n 0, 1) := by decide +kernel
theorem dX8_lacks_16 : decode cX8_lacks 16 = .ok (.getfield 7, 3) := by decide +kernel
theorem dX8_lacks_19 : decode cX8_lacks 19 = .ok (.iload_n 1, 1) := by decide +kernel
theorem dX8_lacks_20 : decode cX8_lacks 20 = .ok (.iaload, 1) := by decide +kernel
theorem dX8_lacks_21 : decode cX8_lacks 21 = .ok (.iload_n 2, 1) := by decide +kernel
theorem dX8_lacks_22 : decode cX8_lacks 22 = .ok (.if_icmp .eq 9, 3) := by decide +kernel
theorem dX8_lacks_25 : decode cX8_lacks 25 = .ok (.aload_n 0, 1) := by decide +kernel
theorem dX8_lacks_26 : decode cX8_lacks 26 = .ok (.iconst 3, 1) := by decide +kernel
theorem dX8_lacks_27 : decode cX8_lacks 27 = .ok (.invokevirtual 95, 3) := by decide +kernel
theorem dX8_lacks_30 : decode cX8_lacks 30 = .ok (.ireturn, 1) := by decide +kernel
theorem dX8_lacks_31 : decode cX8_lacks 31 = .ok (.iload_n 3, 1) := by decide +kernel
theorem dX8_lacks_32 : decode cX8_lacks 32 = .ok (.i2l, 1) := by decide +kernel
theorem dX8_lacks_33 : decode cX8_lacks 33 = .ok (.lconst 0, 1) := by decide +kernel
theorem dX8_lacks_34 : decode cX8_lacks 34 = .ok (.aload_n 0, 1) := by decide +kernel
theorem dX8_lacks_35 : decode cX8_lacks 35 = .ok (.getfield 13, 3) := by decide +kernel
theorem dX8_lacks_38 : decode cX8_lacks 38 = .ok (.iload_n 1, 1) := by decide +kernel
theorem dX8_lacks_39 : decode cX8_lacks 39 = .ok (.iaload, 1) := by decide +kernel
theorem dX8_lacks_40 : decode cX8_lacks 40 = .ok (.iconst 1, 1) := by decide +kernel
theorem dX8_lacks_41 : decode cX8_lacks 41 = .ok (.isub, 1) := by decide +kernel
theorem dX8_lacks_42 : decode cX8_lacks 42 = .ok (.i2l, 1) := by decide +kernel
theorem dX8_lacks_43 : decode cX8_lacks 43 = .ok (.invokestatic 80, 3) := by decide +kernel
theorem dX8_lacks_46 : decode cX8_lacks 46 = .ok (.ifCond .eq 7, 3) := by decide +kernel
theorem dX8_lacks_49 : decode cX8_lacks 49 = .ok (.iconst 0, 1) := by decide +kernel
theorem dX8_lacks_50 : decode cX8_lacks 50 = .ok (.goto 8, 3) := by decide +kernel
theorem dX8_lacks_53 : decode cX8_lacks 53 = .ok (.aload_n 0, 1) := by decide +kernel
theorem dX8_lacks_54 : decode cX8_lacks 54 = .ok (.iconst 2, 1) := by decide +kernel
theorem dX8_lacks_55 : decode cX8_lacks 55 = .ok (.invokevirtual 95, 3) := by decide +kernel
theorem dX8_lacks_58 : decode cX8_lacks 58 = .ok (.ireturn, 1) := by decide +kernel
theorem dX8_cut_0 : decode cX8_cut 0 = .ok (.iload_n 0, 1) := by decide +kernel
theorem dX8_cut_1 : decode cX8_cut 1 = .ok (.ifCond .ne 8, 3) := by decide +kernel
theorem dX8_cut_4 : decode cX8_cut 4 = .ok (.iload_n 1, 1) := by decide +kernel
theorem dX8_cut_5 : decode cX8_cut 5 = .ok (.i2b, 1) := by decide +kernel
theorem dX8_cut_6 : decode cX8_cut 6 = .ok (.goto 14, 3) := by decide +kernel
theorem dX8_cut_9 : decode cX8_cut 9 = .ok (.iload_n 0, 1) := by decide +kernel
theorem dX8_cut_10 : decode cX8_cut 10 = .ok (.iconst 1, 1) := by decide +kernel
theorem dX8_cut_11 : decode cX8_cut 11 = .ok (.if_icmp .ne 8, 3) := by decide +kernel
theorem dX8_cut_14 : decode cX8_cut 14 = .ok (.iload_n 1, 1) := by decide +kernel
theorem dX8_cut_15 : decode cX8_cut 15 = .ok (.i2s, 1) := by decide +kernel
theorem dX8_cut_16 : decode cX8_cut 16 = .ok (.goto 4, 3) := by decide +kernel
theorem dX8_cut_19 : decode cX8_cut 19 = .ok (.iload_n 1, 1) := by decide +kernel
theorem dX8_cut_20 : decode cX8_cut 20 = .ok (.ireturn, 1) := by decide +kernel
theorem dX8_lay_0 : decode cX8_lay 0 = .ok (.iload_n 1, 1) := by decide +kernel
theorem dX8_lay_1 : decode cX8_lay 1 = .ok (.invokestatic 89, 3) := by decide +kernel
theorem dX8_lay_4 : decode cX8_lay 4 = .ok (.ifCond .eq 15, 3) := by decide +kernel
theorem dX8_lay_7 : decode cX8_lay 7 = .ok (.iload_n 2, 1) := by decide +kernel
theorem dX8_lay_8 : decode cX8_lay 8 = .ok (.i2l, 1) := by decide +kernel
theorem dX8_lay_9 : decode cX8_lay 9 = .ok (.lconst 0, 1) := by decide +kernel
theorem dX8_lay_10 : decode cX8_lay 10 = .ok (.ldc2_w 93, 3) := by decide +kernel
theorem dX8_lay_13 : decode cX8_lay 13 = .ok (.invokestatic 80, 3) := by decide +kernel
theorem dX8_lay_16 : decode cX8_lay 16 = .ok (.ifCond .ne 6, 3) := by decide +kernel
theorem dX8_lay_19 : decode cX8_lay 19 = .ok (.bipush (-2), 2) := by decide +kernel
theorem dX8_lay_21 : decode cX8_lay 21 = .ok (.ireturn, 1) := by decide +kernel
theorem dX8_lay_22 : decode cX8_lay 22 = .ok (.aload_n 0, 1) := by decide +kernel
theorem dX8_lay_23 : decode cX8_lay 23 = .ok (.iload_n 1, 1) := by decide +kernel
theorem dX8_lay_24 : decode cX8_lay 24 = .ok (.iload_n 2, 1) := by decide +kernel
theorem dX8_lay_25 : decode cX8_lay 25 = .ok (.iload_n 3, 1) := by decide +kernel
theorem dX8_lay_26 : decode cX8_lay 26 = .ok (.invokevirtual 99, 3) := by decide +kernel
theorem dX8_lay_29 : decode cX8_lay 29 = .ok (.istore 5, 2) := by decide +kernel
theorem dX8_lay_31 : decode cX8_lay 31 = .ok (.iload 5, 2) := by decide +kernel
theorem dX8_lay_33 : decode cX8_lay 33 = .ok (.ifCond .eq 6, 3) := by decide +kernel
theorem dX8_lay_36 : decode cX8_lay 36 = .ok (.iload 5, 2) := by decide +kernel
theorem dX8_lay_38 : decode cX8_lay 38 = .ok (.ireturn, 1) := by decide +kernel
theorem dX8_lay_39 : decode cX8_lay 39 = .ok (.aload_n 0, 1) := by decide +kernel
theorem dX8_lay_40 : decode cX8_lay 40 = .ok (.getfield 16, 3) := by decide +kernel
theorem dX8_lay_43 : decode cX8_lay 43 = .ok (.bipush 60, 2) := by decide +kernel
theorem dX8_lay_45 : decode cX8_lay 45 = .ok (.iload_n 1, 1) := by decide +kernel
theorem dX8_lay_46 : decode cX8_lay 46 = .ok (.imul, 1) := by decide +kernel
theorem dX8_lay_47 : decode cX8_lay 47 = .ok (.iload_n 3, 1) := by decide +kernel
theorem dX8_lay_48 : decode cX8_lay 48 = .ok (.iadd, 1) := by decide +kernel
theorem dX8_lay_49 : decode cX8_lay 49 = .ok (.iload_n 2, 1) := by decide +kernel
theorem dX8_lay_50 : decode cX8_lay 50 = .ok (.iload 4, 2) := by decide +kernel
theorem dX8_lay_52 : decode cX8_lay 52 = .ok (.invokestatic 103, 3) := by decide +kernel
theorem dX8_lay_55 : decode cX8_lay 55 = .ok (.iastore, 1) := by decide +kernel
theorem dX8_lay_56 : decode cX8_lay 56 = .ok (.iconst 1, 1) := by decide +kernel
theorem dX8_lay_57 : decode cX8_lay 57 = .ok (.ireturn, 1) := by decide +kernel
theorem dX8_get_0 : decode cX8_get 0 = .ok (.iload_n 1, 1) := by decide +kernel
theorem dX8_get_1 : decode cX8_get 1 = .ok (.invokestatic 89, 3) := by decide +kernel
theorem dX8_get_4 : decode cX8_get 4 = .ok (.ifCond .eq 25, 3) := by decide +kernel
theorem dX8_get_7 : decode cX8_get 7 = .ok (.iload_n 2, 1) := by decide +kernel
theorem dX8_get_8 : decode cX8_get 8 = .ok (.i2l, 1) := by decide +kernel
theorem dX8_get_9 : decode cX8_get 9 = .ok (.lconst 0, 1) := by decide +kernel
theorem dX8_get_10 : decode cX8_get 10 = .ok (.ldc2_w 93, 3) := by decide +kernel
theorem dX8_get_13 : decode cX8_get 13 = .ok (.invokestatic 80, 3) := by decide +kernel
theorem dX8_get_16 : decode cX8_get 16 = .ok (.ifCond .eq 13, 3) := by decide +kernel
theorem dX8_get_19 : decode cX8_get 19 = .ok (.aload_n 0, 1) := by decide +kernel
theorem dX8_get_20 : decode cX8_get 20 = .ok (.iload_n 1, 1) := by decide +kernel
theorem dX8_get_21 : decode cX8_get 21 = .ok (.iload_n 2, 1) := by decide +kernel
theorem dX8_get_22 : decode cX8_get 22 = .ok (.iload_n 3, 1) := by decide +kernel
theorem dX8_get_23 : decode cX8_get 23 = .ok (.invokevirtual 99, 3) := by decide +kernel
theorem dX8_get_26 : decode cX8_get 26 = .ok (.ifCond .eq 6, 3) := by decide +kernel
theorem dX8_get_29 : decode cX8_get 29 = .ok (.ldc 107, 2) := by decide +kernel
theorem dX8_get_31 : decode cX8_get 31 = .ok (.ireturn, 1) := by decide +kernel
theorem dX8_get_32 : decode cX8_get 32 = .ok (.aload_n 0, 1) := by decide +kernel
theorem dX8_get_33 : decode cX8_get 33 = .ok (.getfield 16, 3) := by decide +kernel
theorem dX8_get_36 : decode cX8_get 36 = .ok (.bipush 60, 2) := by decide +kernel
theorem dX8_get_38 : decode cX8_get 38 = .ok (.iload_n 1, 1) := by decide +kernel
theorem dX8_get_39 : decode cX8_get 39 = .ok (.imul, 1) := by decide +kernel
theorem dX8_get_40 : decode cX8_get 40 = .ok (.iload_n 3, 1) := by decide +kernel
theorem dX8_get_41 : decode cX8_get 41 = .ok (.iadd, 1) := by decide +kernel
theorem dX8_get_42 : decode cX8_get 42 = .ok (.iaload, 1) := by decide +kernel
theorem dX8_get_43 : decode cX8_get 43 = .ok (.ireturn, 1) := by decide +kernel
theorem dX8_copy_0 : decode cX8_copy 0 = .ok (.iload_n 1, 1) := by decide +kernel
theorem dX8_copy_1 : decode cX8_copy 1 = .ok (.invokestatic 89, 3) := by decide +kernel
theorem dX8_copy_4 : decode cX8_copy 4 = .ok (.ifCond .eq 10, 3) := by decide +kernel
theorem dX8_copy_7 : decode cX8_copy 7 = .ok (.iload_n 3, 1) := by decide +kernel
theorem dX8_copy_8 : decode cX8_copy 8 = .ok (.invokestatic 89, 3) := by decide +kernel
theorem dX8_copy_11 : decode cX8_copy 11 = .ok (.ifCond .ne 6, 3) := by decide +kernel
theorem dX8_copy_14 : decode cX8_copy 14 = .ok (.bipush (-2), 2) := by decide +kernel
theorem dX8_copy_16 : decode cX8_copy 16 = .ok (.ireturn, 1) := by decide +kernel
theorem dX8_copy_17 : decode cX8_copy 17 = .ok (.aload_n 0, 1) := by decide +kernel
theorem dX8_copy_18 : decode cX8_copy 18 = .ok (.getfield 7, 3) := by decide +kernel
