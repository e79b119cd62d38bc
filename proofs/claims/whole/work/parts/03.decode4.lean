theorem dX8_read_54 : decode cX8_read 54 = .ok (.iload_n 1, 1) := by decide +kernel
theorem dX8_read_55 : decode cX8_read 55 = .ok (.imul, 1) := by decide +kernel
theorem dX8_read_56 : decode cX8_read 56 = .ok (.iconst 2, 1) := by decide +kernel
theorem dX8_read_57 : decode cX8_read 57 = .ok (.iload_n 2, 1) := by decide +kernel
theorem dX8_read_58 : decode cX8_read 58 = .ok (.imul, 1) := by decide +kernel
theorem dX8_read_59 : decode cX8_read 59 = .ok (.iadd, 1) := by decide +kernel
theorem dX8_read_60 : decode cX8_read 60 = .ok (.iaload, 1) := by decide +kernel
theorem dX8_read_61 : decode cX8_read 61 = .ok (.aload_n 0, 1) := by decide +kernel
theorem dX8_read_62 : decode cX8_read 62 = .ok (.getfield 16, 3) := by decide +kernel
theorem dX8_read_65 : decode cX8_read 65 = .ok (.bipush 60, 2) := by decide +kernel
theorem dX8_read_67 : decode cX8_read 67 = .ok (.iload_n 1, 1) := by decide +kernel
theorem dX8_read_68 : decode cX8_read 68 = .ok (.imul, 1) := by decide +kernel
theorem dX8_read_69 : decode cX8_read 69 = .ok (.iconst 2, 1) := by decide +kernel
theorem dX8_read_70 : decode cX8_read 70 = .ok (.iload_n 2, 1) := by decide +kernel
theorem dX8_read_71 : decode cX8_read 71 = .ok (.imul, 1) := by decide +kernel
theorem dX8_read_72 : decode cX8_read 72 = .ok (.iadd, 1) := by decide +kernel
theorem dX8_read_73 : decode cX8_read 73 = .ok (.iconst 1, 1) := by decide +kernel
theorem dX8_read_74 : decode cX8_read 74 = .ok (.iadd, 1) := by decide +kernel
theorem dX8_read_75 : decode cX8_read 75 = .ok (.iaload, 1) := by decide +kernel
theorem dX8_read_76 : decode cX8_read 76 = .ok (.invokevirtual 308, 3) := by decide +kernel
theorem dX8_read_79 : decode cX8_read 79 = .ok (.ifCond .lt 7, 3) := by decide +kernel
theorem dX8_read_82 : decode cX8_read 82 = .ok (.iconst 1, 1) := by decide +kernel
theorem dX8_read_83 : decode cX8_read 83 = .ok (.goto 4, 3) := by decide +kernel
theorem dX8_read_86 : decode cX8_read 86 = .ok (.iconst 0, 1) := by decide +kernel
theorem dX8_read_87 : decode cX8_read 87 = .ok (.istore_n 3, 1) := by decide +kernel
theorem dX8_read_88 : decode cX8_read 88 = .ok (.iload_n 2, 1) := by decide +kernel
theorem dX8_read_89 : decode cX8_read 89 = .ok (.iload_n 3, 1) := by decide +kernel
theorem dX8_read_90 : decode cX8_read 90 = .ok (.ifCond .eq 7, 3) := by decide +kernel
theorem dX8_read_93 : decode cX8_read 93 = .ok (.iconst 1, 1) := by decide +kernel
theorem dX8_read_94 : decode cX8_read 94 = .ok (.goto 4, 3) := by decide +kernel
theorem dX8_read_97 : decode cX8_read 97 = .ok (.iconst 0, 1) := by decide +kernel
theorem dX8_read_98 : decode cX8_read 98 = .ok (.iadd, 1) := by decide +kernel
theorem dX8_read_99 : decode cX8_read 99 = .ok (.istore_n 2, 1) := by decide +kernel
theorem dX8_read_100 : decode cX8_read 100 = .ok (.goto (-71), 3) := by decide +kernel
theorem dX8_read_103 : decode cX8_read 103 = .ok (.iload_n 2, 1) := by decide +kernel
theorem dX8_read_104 : decode cX8_read 104 = .ok (.ireturn, 1) := by decide +kernel
theorem dX8_forget_0 : decode cX8_forget 0 = .ok (.aload_n 0, 1) := by decide +kernel
theorem dX8_forget_1 : decode cX8_forget 1 = .ok (.getfield 305, 3) := by decide +kernel
theorem dX8_forget_4 : decode cX8_forget 4 = .ok (.istore_n 1, 1) := by decide +kernel
theorem dX8_forget_5 : decode cX8_forget 5 = .ok (.aload_n 0, 1) := by decide +kernel
theorem dX8_forget_6 : decode cX8_forget 6 = .ok (.iconst 0, 1) := by decide +kernel
theorem dX8_forget_7 : decode cX8_forget 7 = .ok (.putfield 305, 3) := by decide +kernel
theorem dX8_forget_10 : decode cX8_forget 10 = .ok (.iload_n 1, 1) := by decide +kernel
theorem dX8_forget_11 : decode cX8_forget 11 = .ok (.ireturn, 1) := by decide +kernel
theorem dX8_laysBounds_0 : decode cX8_laysBounds 0 = .ok (.aload_n 0, 1) := by decide +kernel
theorem dX8_laysBounds_1 : decode cX8_laysBounds 1 = .ok (.invokevirtual 211, 3) := by decide +kernel
theorem dX8_laysBounds_4 : decode cX8_laysBounds 4 = .ok (.iconst 0, 1) := by decide +kernel
theorem dX8_laysBounds_5 : decode cX8_laysBounds 5 = .ok (.istore_n 1, 1) := by decide +kernel
theorem dX8_laysBounds_6 : decode cX8_laysBounds 6 = .ok (.iload_n 1, 1) := by decide +kernel
theorem dX8_laysBounds_7 : decode cX8_laysBounds 7 = .ok (.aload_n 0, 1) := by decide +kernel
theorem dX8_laysBounds_8 : decode cX8_laysBounds 8 = .ok (.getfield 305, 3) := by decide +kernel
theorem dX8_laysBounds_11 : decode cX8_laysBounds 11 = .ok (.if_icmp .ge 90, 3) := by decide +kernel
theorem dX8_laysBounds_14 : decode cX8_laysBounds 14 = .ok (.aload_n 0, 1) := by decide +kernel
theorem dX8_laysBounds_15 : decode cX8_laysBounds 15 = .ok (.getfield 69, 3) := by decide +kernel
theorem dX8_laysBounds_18 : decode cX8_laysBounds 18 = .ok (.iload_n 1, 1) := by decide +kernel
theorem dX8_laysBounds_19 : decode cX8_laysBounds 19 = .ok (.iaload, 1) := by decide +kernel
theorem dX8_laysBounds_20 : decode cX8_laysBounds 20 = .ok (.istore_n 2, 1) := by decide +kernel
theorem dX8_laysBounds_21 : decode cX8_laysBounds 21 = .ok (.aload_n 0, 1) := by decide +kernel
theorem dX8_laysBounds_22 : decode cX8_laysBounds 22 = .ok (.getfield 72, 3) := by decide +kernel
theorem dX8_laysBounds_25 : decode cX8_laysBounds 25 = .ok (.iload_n 1, 1) := by decide +kernel
theorem dX8_laysBounds_26 : decode cX8_laysBounds 26 = .ok (.iaload, 1) := by decide +kernel
theorem dX8_laysBounds_27 : decode cX8_laysBounds 27 = .ok (.istore_n 3, 1) := by decide +kernel
theorem dX8_laysBounds_28 : decode cX8_laysBounds 28 = .ok (.aload_n 0, 1) := by decide +kernel
theorem dX8_laysBounds_29 : decode cX8_laysBounds 29 = .ok (.iload_n 3, 1) := by decide +kernel
theorem dX8_laysBounds_30 : decode cX8_laysBounds 30 = .ok (.invokevirtual 266, 3) := by decide +kernel
theorem dX8_laysBounds_33 : decode cX8_laysBounds 33 = .ok (.ifCond .eq 11, 3) := by decide +kernel
theorem dX8_laysBounds_36 : decode cX8_laysBounds 36 = .ok (.iload_n 2, 1) := by decide +kernel
theorem dX8_laysBounds_37 : decode cX8_laysBounds 37 = .ok (.aload_n 0, 1) := by decide +kernel
theorem dX8_laysBounds_38 : decode cX8_laysBounds 38 = .ok (.getfield 129, 3) := by decide +kernel
theorem dX8_laysBounds_41 : decode cX8_laysBounds 41 = .ok (.if_icmp .lt 5, 3) := by decide +kernel
theorem dX8_laysBounds_44 : decode cX8_laysBounds 44 = .ok (.iconst 0, 1) := by decide +kernel
theorem dX8_laysBounds_45 : decode cX8_laysBounds 45 = .ok (.ireturn, 1) := by decide +kernel
theorem dX8_laysBounds_46 : decode cX8_laysBounds 46 = .ok (.iload_n 2, 1) := by decide +kernel
theorem dX8_laysBounds_47 : decode cX8_laysBounds 47 = .ok (.iconst (-1), 1) := by decide +kernel
theorem dX8_laysBounds_48 : decode cX8_laysBounds 48 = .ok (.if_icmp .ne 18, 3) := by decide +kernel
theorem dX8_laysBounds_51 : decode cX8_laysBounds 51 = .ok (.aload_n 0, 1) := by decide +kernel
theorem dX8_laysBounds_52 : decode cX8_laysBounds 52 = .ok (.dup, 1) := by decide +kernel
theorem dX8_laysBounds_53 : decode cX8_laysBounds 53 = .ok (.getfield 189, 3) := by decide +kernel
theorem dX8_laysBounds_56 : decode cX8_laysBounds 56 = .ok (.iconst 1, 1) := by decide +kernel
theorem dX8_laysBounds_57 : decode cX8_laysBounds 57 = .ok (.iload_n 3, 1) := by decide +kernel
theorem dX8_laysBounds_58 : decode cX8_laysBounds 58 = .ok (.ishl, 1) := by decide +kernel
theorem dX8_laysBounds_59 : decode cX8_laysBounds 59 = .ok (.ior, 1) := by decide +kernel
theorem dX8_laysBounds_60 : decode cX8_laysBounds 60 = .ok (.putfield 189, 3) := by decide +kernel
theorem dX8_laysBounds_63 : decode cX8_laysBounds 63 = .ok (.goto 32, 3) := by decide +kernel
theorem dX8_laysBounds_66 : decode cX8_laysBounds 66 = .ok (.aload_n 0, 1) := by decide +kernel
theorem dX8_laysBounds_67 : decode cX8_laysBounds 67 = .ok (.getfield 54, 3) := by decide +kernel
theorem dX8_laysBounds_70 : decode cX8_laysBounds 70 = .ok (.iload_n 2, 1) := by decide +kernel
theorem dX8_laysBounds_71 : decode cX8_laysBounds 71 = .ok (.iaload, 1) := by decide +kernel
theorem dX8_laysBounds_72 : decode cX8_laysBounds 72 = .ok (.iconst (-1), 1) := by decide +kernel
theorem dX8_laysBounds_73 : decode cX8_laysBounds 73 = .ok (.if_icmp .eq 15, 3) := by decide +kernel
theorem dX8_laysBounds_76 : decode cX8_laysBounds 76 = .ok (.aload_n 0, 1) := by decide +kernel
theorem dX8_laysBounds_77 : decode cX8_laysBounds 77 = .ok (.getfield 54, 3) := by decide +kernel
theorem dX8_laysBounds_80 : decode cX8_laysBounds 80 = .ok (.iload_n 2, 1) := by decide +kernel
theorem dX8_laysBounds_81 : decode cX8_laysBounds 81 = .ok (.iaload, 1) := by decide +kernel
theorem dX8_laysBounds_82 : decode cX8_laysBounds 82 = .ok (.iload_n 3, 1) := by decide +kernel
theorem dX8_laysBounds_83 : decode cX8_laysBounds 83 = .ok (.if_icmp .eq 5, 3) := by decide +kernel
theorem dX8_laysBounds_86 : decode cX8_laysBounds 86 = .ok (.iconst 0, 1) := by decide +kernel
theorem dX8_laysBounds_87 : decode cX8_laysBounds 87 = .ok (.ireturn, 1) := by decide +kernel
theorem dX8_laysBounds_88 : decode cX8_laysBounds 88 = .ok (.aload_n 0, 1) := by decide +kernel
theorem dX8_laysBounds_89 : decode cX8_laysBounds 89 = .ok (.getfield 54, 3) := by decide +kernel
theorem dX8_laysBounds_92 : decode cX8_laysBounds 92 = .ok (.iload_n 2, 1) := by decide +kernel
theorem dX8_laysBounds_93 : decode cX8_laysBounds 93 = .ok (.iload_n 3, 1) := by decide +kernel
theorem dX8_laysBounds_94 : decode cX8_laysBounds 94 = .ok (.iastore, 1) := by decide +kernel
theorem dX8_laysBounds_95 : decode cX8_laysBounds 95 = .ok (.iinc 1 1, 3) := by decide +kernel
theorem dX8_laysBounds_98 : decode cX8_laysBounds 98 = .ok (.goto (-92), 3) := by decide +kernel
theorem dX8_laysBounds_101 : decode cX8_laysBounds 101 = .ok (.iconst 1, 1) := by decide +kernel
theorem dX8_laysBounds_102 : decode cX8_laysBounds 102 = .ok (.ireturn, 1) := by decide +kernel
theorem dX8_seenWith_0 : decode cX8_seenWith 0 = .ok (.aload_n 0, 1) := by decide +kernel
theorem dX8_seenWith_1 : decode cX8_seenWith 1 = .ok (.invokevirtual 311, 3) := by decide +kernel
theorem dX8_seenWith_4 : decode cX8_seenWith 4 = .ok (.ifCond .ne 5, 3) := by decide +kernel
theorem dX8_seenWith_7 : decode cX8_seenWith 7 = .ok (.lconst 0, 1) := by decide +kernel
theorem dX8_seenWith_8 : decode cX8_seenWith 8 = .ok (.lreturn, 1) := by decide +kernel
theorem dX8_seenWith_9 : decode cX8_seenWith 9 = .ok (.aload_n 0, 1) := by decide +kernel
theorem dX8_seenWith_10 : decode cX8_seenWith 10 = .ok (.iload_n 1, 1) := by decide +kernel
theorem dX8_seenWith_11 : decode cX8_seenWith 11 = .ok (.putfield 47, 3) := by decide +kernel
theorem dX8_seenWith_14 : decode cX8_seenWith 14 = .ok (.aload_n 0, 1) := by decide +kernel
theorem dX8_seenWith_15 : decode cX8_seenWith 15 = .ok (.iload_n 2, 1) := by decide +kernel
theorem dX8_seenWith_16 : decode cX8_seenWith 16 = .ok (.putfield 51, 3) := by decide +kernel
theorem dX8_seenWith_19 : decode cX8_seenWith 19 = .ok (.aload_n 0, 1) := by decide +kernel
theorem dX8_seenWith_20 : decode cX8_seenWith 20 = .ok (.iload_n 3, 1) := by decide +kernel
theorem dX8_seenWith_21 : decode cX8_seenWith 21 = .ok (.putfield 192, 3) := by decide +kernel
theorem dX8_seenWith_24 : decode cX8_seenWith 24 = .ok (.aload_n 0, 1) := by decide +kernel
theorem dX8_seenWith_25 : decode cX8_seenWith 25 = .ok (.invokevirtual 214, 3) := by decide +kernel
theorem dX8_seenWith_28 : decode cX8_seenWith 28 = .ok (.iconst 0, 1) := by decide +kernel
theorem dX8_seenWith_29 : decode cX8_seenWith 29 = .ok (.istore 4, 2) := by decide +kernel
theorem dX8_seenWith_31 : decode cX8_seenWith 31 = .ok (.iload 4, 2) := by decide +kernel
theorem dX8_seenWith_33 : decode cX8_seenWith 33 = .ok (.aload_n 0, 1) := by decide +kernel
theorem dX8_seenWith_34 : decode cX8_seenWith 34 = .ok (.getfield 129, 3) := by decide +kernel
theorem dX8_seenWith_37 : decode cX8_seenWith 37 = .ok (.if_icmp .ge 17, 3) := by decide +kernel
theorem dX8_seenWith_40 : decode cX8_seenWith 40 = .ok (.aload_n 0, 1) := by decide +kernel
theorem dX8_seenWith_41 : decode cX8_seenWith 41 = .ok (.iload 4, 2) := by decide +kernel
theorem dX8_seenWith_43 : decode cX8_seenWith 43 = .ok (.iload 4, 2) := by decide +kernel
theorem dX8_seenWith_45 : decode cX8_seenWith 45 = .ok (.invokevirtual 217, 3) := by decide +kernel
theorem dX8_seenWith_48 : decode cX8_seenWith 48 = .ok (.iinc 4 1, 3) := by decide +kernel
theorem dX8_seenWith_51 : decode cX8_seenWith 51 = .ok (.goto (-20), 3) := by decide +kernel
theorem dX8_seenWith_54 : decode cX8_seenWith 54 = .ok (.lconst 0, 1) := by decide +kernel
theorem dX8_seenWith_55 : decode cX8_seenWith 55 = .ok (.lstore 4, 2) := by decide +kernel
theorem dX8_seenWith_57 : decode cX8_seenWith 57 = .ok (.iconst 0, 1) := by decide +kernel
theorem dX8_seenWith_58 : decode cX8_seenWith 58 = .ok (.istore 6, 2) := by decide +kernel
theorem dX8_seenWith_60 : decode cX8_seenWith 60 = .ok (.iload 6, 2) := by decide +kernel
theorem dX8_seenWith_62 : decode cX8_seenWith 62 = .ok (.aload_n 0, 1) := by decide +kernel
theorem dX8_seenWith_63 : decode cX8_seenWith 63 = .ok (.invokevirtual 166, 3) := by decide +kernel
theorem dX8_seenWith_66 : decode cX8_seenWith 66 = .ok (.if_icmp .gt 21, 3) := by decide +kernel
theorem dX8_seenWith_69 : decode cX8_seenWith 69 = .ok (.lload 4, 2) := by decide +kernel
theorem dX8_seenWith_71 : decode cX8_seenWith 71 = .ok (.aload_n 0, 1) := by decide +kernel
theorem dX8_seenWith_72 : decode cX8_seenWith 72 = .ok (.getfield 40, 3) := by decide +kernel
theorem dX8_seenWith_75 : decode cX8_seenWith 75 = .ok (.iload 6, 2) := by decide +kernel
theorem dX8_seenWith_77 : decode cX8_seenWith 77 = .ok (.laload, 1) := by decide +kernel
theorem dX8_seenWith_78 : decode cX8_seenWith 78 = .ok (.ladd, 1) := by decide +kernel
theorem dX8_seenWith_79 : decode cX8_seenWith 79 = .ok (.lstore 4, 2) := by decide +kernel
theorem dX8_seenWith_81 : decode cX8_seenWith 81 = .ok (.iinc 6 1, 3) := by decide +kernel
theorem dX8_seenWith_84 : decode cX8_seenWith 84 = .ok (.goto (-24), 3) := by decide +kernel
theorem dX8_seenWith_87 : decode cX8_seenWith 87 = .ok (.lload 4, 2) := by decide +kernel
theorem dX8_seenWith_89 : decode cX8_seenWith 89 = .ok (.lreturn, 1) := by decide +kernel
theorem dX8_losersNow_0 : decode cX8_losersNow 0 = .ok (.iconst 0, 1) := by decide +kernel
theorem dX8_losersNow_1 : decode cX8_losersNow 1 = .ok (.istore_n 1, 1) := by decide +kernel
theorem dX8_losersNow_2 : decode cX8_losersNow 2 = .ok (.iconst 0, 1) := by decide +kernel
theorem dX8_losersNow_3 : decode cX8_losersNow 3 = .ok (.istore_n 2, 1) := by decide +kernel
theorem dX8_losersNow_4 : decode cX8_losersNow 4 = .ok (.iload_n 2, 1) := by decide +kernel
theorem dX8_losersNow_5 : decode cX8_losersNow 5 = .ok (.aload_n 0, 1) := by decide +kernel
theorem dX8_losersNow_6 : decode cX8_losersNow 6 = .ok (.getfield 129, 3) := by decide +kernel
theorem dX8_losersNow_9 : decode cX8_losersNow 9 = .ok (.if_icmp .ge 40, 3) := by decide +kernel
theorem dX8_losersNow_12 : decode cX8_losersNow 12 = .ok (.iload_n 1, 1) := by decide +kernel
theorem dX8_losersNow_13 : decode cX8_losersNow 13 = .ok (.aload_n 0, 1) := by decide +kernel
theorem dX8_losersNow_14 : decode cX8_losersNow 14 = .ok (.getfield 37, 3) := by decide +kernel
theorem dX8_losersNow_17 : decode cX8_losersNow 17 = .ok (.iload_n 2, 1) := by decide +kernel
theorem dX8_losersNow_18 : decode cX8_losersNow 18 = .ok (.iaload, 1) := by decide +kernel
theorem dX8_losersNow_19 : decode cX8_losersNow 19 = .ok (.ifCond .ne 21, 3) := by decide +kernel
theorem dX8_losersNow_22 : decode cX8_losersNow 22 = .ok (.aload_n 0, 1) := by decide +kernel
theorem dX8_losersNow_23 : decode cX8_losersNow 23 = .ok (.iload_n 2, 1) := by decide +kernel
theorem dX8_losersNow_24 : decode cX8_losersNow 24 = .ok (.iconst (-1), 1) := by decide +kernel
theorem dX8_losersNow_25 : decode cX8_losersNow 25 = .ok (.iconst 0, 1) := by decide +kernel
theorem dX8_losersNow_26 : decode cX8_losersNow 26 = .ok (.invokevirtual 315, 3) := by decide +kernel
theorem dX8_losersNow_29 : decode cX8_losersNow 29 = .ok (.lconst 0, 1) := by decide +kernel
theorem dX8_losersNow_30 : decode cX8_losersNow 30 = .ok (.lcmp, 1) := by decide +kernel
theorem dX8_losersNow_31 : decode cX8_losersNow 31 = .ok (.ifCond .le 9, 3) := by decide +kernel
theorem dX8_losersNow_34 : decode cX8_losersNow 34 = .ok (.iconst 1, 1) := by decide +kernel
theorem dX8_losersNow_35 : decode cX8_losersNow 35 = .ok (.iload_n 2, 1) := by decide +kernel
theorem dX8_losersNow_36 : decode cX8_losersNow 36 = .ok (.ishl, 1) := by decide +kernel
theorem dX8_losersNow_37 : decode cX8_losersNow 37 = .ok (.goto 4, 3) := by decide +kernel
theorem dX8_losersNow_40 : decode cX8_losersNow 40 = .ok (.iconst 0, 1) := by decide +kernel
theorem dX8_losersNow_41 : decode cX8_losersNow 41 = .ok (.ior, 1) := by decide +kernel
theorem dX8_losersNow_42 : decode cX8_losersNow 42 = .ok (.istore_n 1, 1) := by decide +kernel
theorem dX8_losersNow_43 : decode cX8_losersNow 43 = .ok (.iinc 2 1, 3) := by decide +kernel
theorem dX8_losersNow_46 : decode cX8_losersNow 46 = .ok (.goto (-42), 3) := by decide +kernel
theorem dX8_losersNow_49 : decode cX8_losersNow 49 = .ok (.iload_n 1, 1) := by decide +kernel
theorem dX8_losersNow_50 : decode cX8_losersNow 50 = .ok (.ireturn, 1) := by decide +kernel
theorem dX8_losers_0 : decode cX8_losers 0 = .ok (.aload_n 0, 1) := by decide +kernel
theorem dX8_losers_1 : decode cX8_losers 1 = .ok (.invokevirtual 147, 3) := by decide +kernel
theorem dX8_losers_4 : decode cX8_losers 4 = .ok (.aload_n 0, 1) := by decide +kernel
theorem dX8_losers_5 : decode cX8_losers 5 = .ok (.invokevirtual 318, 3) := by decide +kernel
theorem dX8_losers_8 : decode cX8_losers 8 = .ok (.ireturn, 1) := by decide +kernel
theorem dX8_share_0 : decode cX8_share 0 = .ok (.aload_n 0, 1) := by decide +kernel
theorem dX8_share_1 : decode cX8_share 1 = .ok (.iload_n 1, 1) := by decide +kernel
theorem dX8_share_2 : decode cX8_share 2 = .ok (.invokevirtual 159, 3) := by decide +kernel
theorem dX8_share_5 : decode cX8_share 5 = .ok (.ifCond .eq 19, 3) := by decide +kernel
theorem dX8_share_8 : decode cX8_share 8 = .ok (.aload_n 0, 1) := by decide +kernel
theorem dX8_share_9 : decode cX8_share 9 = .ok (.getfield 37, 3) := by decide +kernel
theorem dX8_share_12 : decode cX8_share 12 = .ok (.iload_n 1, 1) := by decide +kernel
theorem dX8_share_13 : decode cX8_share 13 = .ok (.iaload, 1) := by decide +kernel
theorem dX8_share_14 : decode cX8_share 14 = .ok (.ifCond .ne 10, 3) := by decide +kernel
theorem dX8_share_17 : decode cX8_share 17 = .ok (.iload_n 2, 1) := by decide +kernel
theorem dX8_share_18 : decode cX8_share 18 = .ok (.invokestatic 108, 3) := by decide +kernel
theorem dX8_share_21 : decode cX8_share 21 = .ok (.ifCond .ne 9, 3) := by decide +kernel
theorem dX8_share_24 : decode cX8_share 24 = .ok (.bipush (-2), 2) := by decide +kernel
theorem dX8_share_26 : decode cX8_share 26 = .ok (.invokestatic 236, 3) := by decide +kernel
theorem dX8_share_29 : decode cX8_share 29 = .ok (.lreturn, 1) := by decide +kernel
theorem dX8_share_30 : decode cX8_share 30 = .ok (.lconst 0, 1) := by decide +kernel
theorem dX8_share_31 : decode cX8_share 31 = .ok (.lstore_n 3, 1) := by decide +kernel
theorem dX8_share_32 : decode cX8_share 32 = .ok (.iconst 0, 1) := by decide +kernel
theorem dX8_share_33 : decode cX8_share 33 = .ok (.istore 5, 2) := by decide +kernel
theorem dX8_share_35 : decode cX8_share 35 = .ok (.iload 5, 2) := by decide +kernel
theorem dX8_share_37 : decode cX8_share 37 = .ok (.aload_n 0, 1) := by decide +kernel
theorem dX8_share_38 : decode cX8_share 38 = .ok (.getfield 129, 3) := by decide +kernel
theorem dX8_share_41 : decode cX8_share 41 = .ok (.if_icmp .ge 34, 3) := by decide +kernel
theorem dX8_share_44 : decode cX8_share 44 = .ok (.lload_n 3, 1) := by decide +kernel
theorem dX8_share_45 : decode cX8_share 45 = .ok (.aload_n 0, 1) := by decide +kernel
theorem dX8_share_46 : decode cX8_share 46 = .ok (.getfield 37, 3) := by decide +kernel
theorem dX8_share_49 : decode cX8_share 49 = .ok (.iload 5, 2) := by decide +kernel
theorem dX8_share_51 : decode cX8_share 51 = .ok (.iaload, 1) := by decide +kernel
theorem dX8_share_52 : decode cX8_share 52 = .ok (.ifCond .ne 14, 3) := by decide +kernel
theorem dX8_share_55 : decode cX8_share 55 = .ok (.aload_n 0, 1) := by decide +kernel
theorem dX8_share_56 : decode cX8_share 56 = .ok (.iload 5, 2) := by decide +kernel
theorem dX8_share_58 : decode cX8_share 58 = .ok (.iconst (-1), 1) := by decide +kernel
theorem dX8_share_59 : decode cX8_share 59 = .ok (.iconst 0, 1) := by decide +kernel
theorem dX8_share_60 : decode cX8_share 60 = .ok (.invokevirtual 315, 3) := by decide +kernel
theorem dX8_share_63 : decode cX8_share 63 = .ok (.goto 4, 3) := by decide +kernel
theorem dX8_share_66 : decode cX8_share 66 = .ok (.lconst 0, 1) := by decide +kernel
theorem dX8_share_67 : decode cX8_share 67 = .ok (.ladd, 1) := by decide +kernel
theorem dX8_share_68 : decode cX8_share 68 = .ok (.lstore_n 3, 1) := by decide +kernel
theorem dX8_share_69 : decode cX8_share 69 = .ok (.iinc 5 1, 3) := by decide +kernel
theorem dX8_share_72 : decode cX8_share 72 = .ok (.goto (-37), 3) := by decide +kernel
theorem dX8_share_75 : decode cX8_share 75 = .ok (.lload_n 3, 1) := by decide +kernel
theorem dX8_share_76 : decode cX8_share 76 = .ok (.lconst 0, 1) := by decide +kernel
theorem dX8_share_77 : decode cX8_share 77 = .ok (.lcmp, 1) := by decide +kernel
theorem dX8_share_78 : decode cX8_share 78 = .ok (.ifCond .ne 11, 3) := by decide +kernel
theorem dX8_share_81 : decode cX8_share 81 = .ok (.bipush (-3), 2) := by decide +kernel
theorem dX8_share_83 : decode cX8_share 83 = .ok (.invokestatic 236, 3) := by decide +kernel
theorem dX8_share_86 : decode cX8_share 86 = .ok (.goto 15, 3) := by decide +kernel
theorem dX8_share_89 : decode cX8_share 89 = .ok (.aload_n 0, 1) := by decide +kernel
theorem dX8_share_90 : decode cX8_share 90 = .ok (.iload_n 1, 1) := by decide +kernel
theorem dX8_share_91 : decode cX8_share 91 = .ok (.iconst (-1), 1) := by decide +kernel
theorem dX8_share_92 : decode cX8_share 92 = .ok (.iconst 0, 1) := by decide +kernel
theorem dX8_share_93 : decode cX8_share 93 = .ok (.invokevirtual 315, 3) := by decide +kernel
theorem dX8_share_96 : decode cX8_share 96 = .ok (.lload_n 3, 1) := by decide +kernel
theorem dX8_share_97 : decode cX8_share 97 = .ok (.iload_n 2, 1) := by decide +kernel
theorem dX8_share_98 : decode cX8_share 98 = .ok (.invokestatic 229, 3) := by decide +kernel
theorem dX8_share_101 : decode cX8_share 101 = .ok (.lreturn, 1) := by decide +kernel
theorem dX8_likeliestNow_0 : decode cX8_likeliestNow 0 = .ok (.iconst (-1), 1) := by decide +kernel
theorem dX8_likeliestNow_1 : decode cX8_likeliestNow 1 = .ok (.istore_n 1, 1) := by decide +kernel
theorem dX8_likeliestNow_2 : decode cX8_likeliestNow 2 = .ok (.lconst 0, 1) := by decide +kernel
theorem dX8_likeliestNow_3 : decode cX8_likeliestNow 3 = .ok (.lstore_n 2, 1) := by decide +kernel
theorem dX8_likeliestNow_4 : decode cX8_likeliestNow 4 = .ok (.iconst 0, 1) := by decide +kernel
theorem dX8_likeliestNow_5 : decode cX8_likeliestNow 5 = .ok (.istore 4, 2) := by decide +kernel
theorem dX8_likeliestNow_7 : decode cX8_likeliestNow 7 = .ok (.iload 4, 2) := by decide +kernel
theorem dX8_likeliestNow_9 : decode cX8_likeliestNow 9 = .ok (.aload_n 0, 1) := by decide +kernel
theorem dX8_likeliestNow_10 : decode cX8_likeliestNow 10 = .ok (.getfield 129, 3) := by decide +kernel
theorem dX8_likeliestNow_13 : decode cX8_likeliestNow 13 = .ok (.if_icmp .ge 61, 3) := by decide +kernel
theorem dX8_likeliestNow_16 : decode cX8_likeliestNow 16 = .ok (.aload_n 0, 1) := by decide +kernel
theorem dX8_likeliestNow_17 : decode cX8_likeliestNow 17 = .ok (.getfield 37, 3) := by decide +kernel
theorem dX8_likeliestNow_20 : decode cX8_likeliestNow 20 = .ok (.iload 4, 2) := by decide +kernel
theorem dX8_likeliestNow_22 : decode cX8_likeliestNow 22 = .ok (.iaload, 1) := by decide +kernel
theorem dX8_likeliestNow_23 : decode cX8_likeliestNow 23 = .ok (.ifCond .ne 14, 3) := by decide +kernel
theorem dX8_likeliestNow_26 : decode cX8_likeliestNow 26 = .ok (.aload_n 0, 1) := by decide +kernel
theorem dX8_likeliestNow_27 : decode cX8_likeliestNow 27 = .ok (.iload 4, 2) := by decide +kernel
theorem dX8_likeliestNow_29 : decode cX8_likeliestNow 29 = .ok (.iconst (-1), 1) := by decide +kernel
theorem dX8_likeliestNow_30 : decode cX8_likeliestNow 30 = .ok (.iconst 0, 1) := by decide +kernel
theorem dX8_likeliestNow_31 : decode cX8_likeliestNow 31 = .ok (.invokevirtual 315, 3) := by decide +kernel
theorem dX8_likeliestNow_34 : decode cX8_likeliestNow 34 = .ok (.goto 4, 3) := by decide +kernel
theorem dX8_likeliestNow_37 : decode cX8_likeliestNow 37 = .ok (.lconst 0, 1) := by decide +kernel
theorem dX8_likeliestNow_38 : decode cX8_likeliestNow 38 = .ok (.lstore 5, 2) := by decide +kernel
theorem dX8_likeliestNow_40 : decode cX8_likeliestNow 40 = .ok (.lload 5, 2) := by decide +kernel
theorem dX8_likeliestNow_42 : decode cX8_likeliestNow 42 = .ok (.lload_n 2, 1) := by decide +kernel
theorem dX8_likeliestNow_43 : decode cX8_likeliestNow 43 = .ok (.lcmp, 1) := by decide +kernel
theorem dX8_likeliestNow_44 : decode cX8_likeliestNow 44 = .ok (.ifCond .le 8, 3) := by decide +kernel
theorem dX8_likeliestNow_47 : decode cX8_likeliestNow 47 = .ok (.iload 4, 2) := by decide +kernel
theorem dX8_likeliestNow_49 : decode cX8_likeliestNow 49 = .ok (.goto 4, 3) := by decide +kernel
theorem dX8_likeliestNow_52 : decode cX8_likeliestNow 52 = .ok (.iload_n 1, 1) := by decide +kernel
theorem dX8_likeliestNow_53 : decode cX8_likeliestNow 53 = .ok (.istore_n 1, 1) := by decide +kernel
theorem dX8_likeliestNow_54 : decode cX8_likeliestNow 54 = .ok (.lload 5, 2) := by decide +kernel
theorem dX8_likeliestNow_56 : decode cX8_likeliestNow 56 = .ok (.lload_n 2, 1) := by decide +kernel
theorem dX8_likeliestNow_57 : decode cX8_likeliestNow 57 = .ok (.lcmp, 1) := by decide +kernel
theorem dX8_likeliestNow_58 : decode cX8_likeliestNow 58 = .ok (.ifCond .le 8, 3) := by decide +kernel
theorem dX8_likeliestNow_61 : decode cX8_likeliestNow 61 = .ok (.lload 5, 2) := by decide +kernel
theorem dX8_likeliestNow_63 : decode cX8_likeliestNow 63 = .ok (.goto 4, 3) := by decide +kernel
theorem dX8_likeliestNow_66 : decode cX8_likeliestNow 66 = .ok (.lload_n 2, 1) := by decide +kernel
theorem dX8_likeliestNow_67 : decode cX8_likeliestNow 67 = .ok (.lstore_n 2, 1) := by decide +kernel
theorem dX8_likeliestNow_68 : decode cX8_likeliestNow 68 = .ok (.iinc 4 1, 3) := by decide +kernel
theorem dX8_likeliestNow_71 : decode cX8_likeliestNow 71 = .ok (.goto (-64), 3) := by decide +kernel
theorem dX8_likeliestNow_74 : decode cX8_likeliestNow 74 = .ok (.iload_n 1, 1) := by decide +kernel
theorem dX8_likeliestNow_75 : decode cX8_likeliestNow 75 = .ok (.ireturn, 1) := by decide +kernel
theorem dX8_likeliest_0 : decode cX8_likeliest 0 = .ok (.aload_n 0, 1) := by decide +kernel
theorem dX8_likeliest_1 : decode cX8_likeliest 1 = .ok (.invokevirtual 147, 3) := by decide +kernel
theorem dX8_likeliest_4 : decode cX8_likeliest 4 = .ok (.aload_n 0, 1) := by decide +kernel
theorem dX8_likeliest_5 : decode cX8_likeliest 5 = .ok (.invokevirtual 321, 3) := by decide +kernel
theorem dX8_likeliest_8 : decode cX8_likeliest 8 = .ok (.ireturn, 1) := by decide +kernel
theorem dX8_wasSeen_0 : decode cX8_wasSeen 0 = .ok (.iconst 0, 1) := by decide +kernel
theorem dX8_wasSeen_1 : decode cX8_wasSeen 1 = .ok (.istore_n 2, 1) := by decide +kernel
theorem dX8_wasSeen_2 : decode cX8_wasSeen 2 = .ok (.iconst 0, 1) := by decide +kernel
theorem dX8_wasSeen_3 : decode cX8_wasSeen 3 = .ok (.istore_n 3, 1) := by decide +kernel
theorem dX8_wasSeen_4 : decode cX8_wasSeen 4 = .ok (.iload_n 3, 1) := by decide +kernel
theorem dX8_wasSeen_5 : decode cX8_wasSeen 5 = .ok (.aload_n 0, 1) := by decide +kernel
theorem dX8_wasSeen_6 : decode cX8_wasSeen 6 = .ok (.getfield 305, 3) := by decide +kernel
theorem dX8_wasSeen_9 : decode cX8_wasSeen 9 = .ok (.if_icmp .ge 29, 3) := by decide +kernel
theorem dX8_wasSeen_12 : decode cX8_wasSeen 12 = .ok (.iload_n 2, 1) := by decide +kernel
theorem dX8_wasSeen_13 : decode cX8_wasSeen 13 = .ok (.ifCond .ne 13, 3) := by decide +kernel
theorem dX8_wasSeen_16 : decode cX8_wasSeen 16 = .ok (.aload_n 0, 1) := by decide +kernel
theorem dX8_wasSeen_17 : decode cX8_wasSeen 17 = .ok (.getfield 69, 3) := by decide +kernel
theorem dX8_wasSeen_20 : decode cX8_wasSeen 20 = .ok (.iload_n 3, 1) := by decide +kernel
theorem dX8_wasSeen_21 : decode cX8_wasSeen 21 = .ok (.iaload, 1) := by decide +kernel
theorem dX8_wasSeen_22 : decode cX8_wasSeen 22 = .ok (.iload_n 1, 1) := by decide +kernel
theorem dX8_wasSeen_23 : decode cX8_wasSeen 23 = .ok (.if_icmp .ne 7, 3) := by decide +kernel
theorem dX8_wasSeen_26 : decode cX8_wasSeen 26 = .ok (.iconst 1, 1) := by decide +kernel
theorem dX8_wasSeen_27 : decode cX8_wasSeen 27 = .ok (.goto 4, 3) := by decide +kernel
theorem dX8_wasSeen_30 : decode cX8_wasSeen 30 = .ok (.iconst 0, 1) := by decide +kernel
theorem dX8_wasSeen_31 : decode cX8_wasSeen 31 = .ok (.istore_n 2, 1) := by decide +kernel
theorem dX8_wasSeen_32 : decode cX8_wasSeen 32 = .ok (.iinc 3 1, 3) := by decide +kernel
theorem dX8_wasSeen_35 : decode cX8_wasSeen 35 = .ok (.goto (-31), 3) := by decide +kernel
theorem dX8_wasSeen_38 : decode cX8_wasSeen 38 = .ok (.iload_n 2, 1) := by decide +kernel
theorem dX8_wasSeen_39 : decode cX8_wasSeen 39 = .ok (.ireturn, 1) := by decide +kernel
theorem dX8_worstBy_0 : decode cX8_worstBy 0 = .ok (.iconst 0, 1) := by decide +kernel
theorem dX8_worstBy_1 : decode cX8_worstBy 1 = .ok (.istore_n 3, 1) := by decide +kernel
theorem dX8_worstBy_2 : decode cX8_worstBy 2 = .ok (.iconst 0, 1) := by decide +kernel
theorem dX8_worstBy_3 : decode cX8_worstBy 3 = .ok (.istore 4, 2) := by decide +kernel
theorem dX8_worstBy_5 : decode cX8_worstBy 5 = .ok (.iload 4, 2) := by decide +kernel
theorem dX8_worstBy_7 : decode cX8_worstBy 7 = .ok (.aload_n 0, 1) := by decide +kernel
theorem dX8_worstBy_8 : decode cX8_worstBy 8 = .ok (.getfield 116, 3) := by decide +kernel
theorem dX8_worstBy_11 : decode cX8_worstBy 11 = .ok (.if_icmp .ge 76, 3) := by decide +kernel
theorem dX8_worstBy_14 : decode cX8_worstBy 14 = .ok (.iconst 0, 1) := by decide +kernel
theorem dX8_worstBy_15 : decode cX8_worstBy 15 = .ok (.istore 5, 2) := by decide +kernel
theorem dX8_worstBy_17 : decode cX8_worstBy 17 = .ok (.iconst 0, 1) := by decide +kernel
theorem dX8_worstBy_18 : decode cX8_worstBy 18 = .ok (.istore 6, 2) := by decide +kernel
theorem dX8_worstBy_20 : decode cX8_worstBy 20 = .ok (.iload 6, 2) := by decide +kernel
theorem dX8_worstBy_22 : decode cX8_worstBy 22 = .ok (.aload_n 0, 1) := by decide +kernel
theorem dX8_worstBy_23 : decode cX8_worstBy 23 = .ok (.getfield 129, 3) := by decide +kernel
theorem dX8_worstBy_26 : decode cX8_worstBy 26 = .ok (.if_icmp .ge 42, 3) := by decide +kernel
theorem dX8_worstBy_29 : decode cX8_worstBy 29 = .ok (.iload 5, 2) := by decide +kernel
theorem dX8_worstBy_31 : decode cX8_worstBy 31 = .ok (.iload_n 2, 1) := by decide +kernel
theorem dX8_worstBy_32 : decode cX8_worstBy 32 = .ok (.iload 6, 2) := by decide +kernel
theorem dX8_worstBy_34 : decode cX8_worstBy 34 = .ok (.invokestatic 162, 3) := by decide +kernel
theorem dX8_worstBy_37 : decode cX8_worstBy 37 = .ok (.ifCond .eq 21, 3) := by decide +kernel
theorem dX8_worstBy_40 : decode cX8_worstBy 40 = .ok (.aload_n 0, 1) := by decide +kernel
theorem dX8_worstBy_41 : decode cX8_worstBy 41 = .ok (.iload 6, 2) := by decide +kernel
theorem dX8_worstBy_43 : decode cX8_worstBy 43 = .ok (.iload_n 1, 1) := by decide +kernel
theorem dX8_worstBy_44 : decode cX8_worstBy 44 = .ok (.iload 4, 2) := by decide +kernel
theorem dX8_worstBy_46 : decode cX8_worstBy 46 = .ok (.invokevirtual 315, 3) := by decide +kernel
theorem dX8_worstBy_49 : decode cX8_worstBy 49 = .ok (.lconst 0, 1) := by decide +kernel
theorem dX8_worstBy_50 : decode cX8_worstBy 50 = .ok (.lcmp, 1) := by decide +kernel
theorem dX8_worstBy_51 : decode cX8_worstBy 51 = .ok (.ifCond .le 7, 3) := by decide +kernel
theorem dX8_worstBy_54 : decode cX8_worstBy 54 = .ok (.iconst 1, 1) := by decide +kernel
theorem dX8_worstBy_55 : decode cX8_worstBy 55 = .ok (.goto 4, 3) := by decide +kernel
theorem dX8_worstBy_58 : decode cX8_worstBy 58 = .ok (.iconst 0, 1) := by decide +kernel
theorem dX8_worstBy_59 : decode cX8_worstBy 59 = .ok (.iadd, 1) := by decide +kernel
theorem dX8_worstBy_60 : decode cX8_worstBy 60 = .ok (.istore 5, 2) := by decide +kernel
theorem dX8_worstBy_62 : decode cX8_worstBy 62 = .ok (.iinc 6 1, 3) := by decide +kernel
theorem dX8_worstBy_65 : decode cX8_worstBy 65 = .ok (.goto (-45), 3) := by decide +kernel
theorem dX8_worstBy_68 : decode cX8_worstBy 68 = .ok (.iload 5, 2) := by decide +kernel
theorem dX8_worstBy_70 : decode cX8_worstBy 70 = .ok (.iload_n 3, 1) := by decide +kernel
theorem dX8_worstBy_71 : decode cX8_worstBy 71 = .ok (.if_icmp .le 8, 3) := by decide +kernel
theorem dX8_worstBy_74 : decode cX8_worstBy 74 = .ok (.iload 5, 2) := by decide +kernel
theorem dX8_worstBy_76 : decode cX8_worstBy 76 = .ok (.goto 4, 3) := by decide +kernel
theorem dX8_worstBy_79 : decode cX8_worstBy 79 = .ok (.iload_n 3, 1) := by decide +kernel
theorem dX8_worstBy_80 : decode cX8_worstBy 80 = .ok (.istore_n 3, 1) := by decide +kernel
theorem dX8_worstBy_81 : decode cX8_worstBy 81 = .ok (.iinc 4 1, 3) := by decide +kernel
theorem dX8_worstBy_84 : decode cX8_worstBy 84 = .ok (.goto (-79), 3) := by decide +kernel
theorem dX8_worstBy_87 : decode cX8_worstBy 87 = .ok (.iload_n 3, 1) := by decide +kernel
theorem dX8_worstBy_88 : decode cX8_worstBy 88 = .ok (.ireturn, 1) := by decide +kernel
theorem dX8_askNow_0 : decode cX8_askNow 0 = .ok (.aload_n 0, 1) := by decide +kernel
theorem dX8_askNow_1 : decode cX8_askNow 1 = .ok (.invokevirtual 318, 3) := by decide +kernel
theorem dX8_askNow_4 : decode cX8_askNow 4 = .ok (.istore_n 2, 1) := by decide +kernel
theorem dX8_askNow_5 : decode cX8_askNow 5 = .ok (.iconst (-1), 1) := by decide +kernel
theorem dX8_askNow_6 : decode cX8_askNow 6 = .ok (.istore_n 3, 1) := by decide +kernel
theorem dX8_askNow_7 : decode cX8_askNow 7 = .ok (.iconst 0, 1) := by decide +kernel
theorem dX8_askNow_8 : decode cX8_askNow 8 = .ok (.istore 4, 2) := by decide +kernel
theorem dX8_askNow_10 : decode cX8_askNow 10 = .ok (.iconst 0, 1) := by decide +kernel
theorem dX8_askNow_11 : decode cX8_askNow 11 = .ok (.istore 5, 2) := by decide +kernel
theorem dX8_askNow_13 : decode cX8_askNow 13 = .ok (.iload 5, 2) := by decide +kernel
theorem dX8_askNow_15 : decode cX8_askNow 15 = .ok (.aload_n 0, 1) := by decide +kernel
theorem dX8_askNow_16 : decode cX8_askNow 16 = .ok (.getfield 129, 3) := by decide +kernel
theorem dX8_askNow_19 : decode cX8_askNow 19 = .ok (.if_icmp .ge 50, 3) := by decide +kernel
theorem dX8_askNow_22 : decode cX8_askNow 22 = .ok (.iload_n 2, 1) := by decide +kernel
theorem dX8_askNow_23 : decode cX8_askNow 23 = .ok (.ifCond .eq 46, 3) := by decide +kernel
theorem dX8_askNow_26 : decode cX8_askNow 26 = .ok (.aload_n 0, 1) := by decide +kernel
theorem dX8_askNow_27 : decode cX8_askNow 27 = .ok (.iload 5, 2) := by decide +kernel
theorem dX8_askNow_29 : decode cX8_askNow 29 = .ok (.invokevirtual 324, 3) := by decide +kernel
theorem dX8_askNow_32 : decode cX8_askNow 32 = .ok (.ifCond .ne 31, 3) := by decide +kernel
theorem dX8_askNow_35 : decode cX8_askNow 35 = .ok (.aload_n 0, 1) := by decide +kernel
theorem dX8_askNow_36 : decode cX8_askNow 36 = .ok (.iload 5, 2) := by decide +kernel
theorem dX8_askNow_38 : decode cX8_askNow 38 = .ok (.iload_n 2, 1) := by decide +kernel
theorem dX8_askNow_39 : decode cX8_askNow 39 = .ok (.invokevirtual 327, 3) := by decide +kernel
theorem dX8_askNow_42 : decode cX8_askNow 42 = .ok (.istore 6, 2) := by decide +kernel
theorem dX8_askNow_44 : decode cX8_askNow 44 = .ok (.iload_n 3, 1) := by decide +kernel
theorem dX8_askNow_45 : decode cX8_askNow 45 = .ok (.iconst (-1), 1) := by decide +kernel
theorem dX8_askNow_46 : decode cX8_askNow 46 = .ok (.if_icmp .eq 10, 3) := by decide +kernel
theorem dX8_askNow_49 : decode cX8_askNow 49 = .ok (.iload 6, 2) := by decide +kernel
theorem dX8_askNow_51 : decode cX8_askNow 51 = .ok (.iload 4, 2) := by decide +kernel
theorem dX8_askNow_53 : decode cX8_askNow 53 = .ok (.if_icmp .ge 10, 3) := by decide +kernel
theorem dX8_askNow_56 : decode cX8_askNow 56 = .ok (.iload 5, 2) := by decide +kernel
theorem dX8_askNow_58 : decode cX8_askNow 58 = .ok (.istore_n 3, 1) := by decide +kernel
theorem dX8_askNow_59 : decode cX8_askNow 59 = .ok (.iload 6, 2) := by decide +kernel
theorem dX8_askNow_61 : decode cX8_askNow 61 = .ok (.istore 4, 2) := by decide +kernel
theorem dX8_askNow_63 : decode cX8_askNow 63 = .ok (.iinc 5 1, 3) := by decide +kernel
theorem dX8_askNow_66 : decode cX8_askNow 66 = .ok (.goto (-53), 3) := by decide +kernel
theorem dX8_askNow_69 : decode cX8_askNow 69 = .ok (.iload_n 3, 1) := by decide +kernel
theorem dX8_askNow_70 : decode cX8_askNow 70 = .ok (.iconst (-1), 1) := by decide +kernel
theorem dX8_askNow_71 : decode cX8_askNow 71 = .ok (.if_icmp .ne 8, 3) := by decide +kernel
theorem dX8_askNow_74 : decode cX8_askNow 74 = .ok (.bipush (-3), 2) := by decide +kernel
theorem dX8_askNow_76 : decode cX8_askNow 76 = .ok (.goto 13, 3) := by decide +kernel
theorem dX8_askNow_79 : decode cX8_askNow 79 = .ok (.iload_n 1, 1) := by decide +kernel
theorem dX8_askNow_80 : decode cX8_askNow 80 = .ok (.ifCond .ne 7, 3) := by decide +kernel
theorem dX8_askNow_83 : decode cX8_askNow 83 = .ok (.iload_n 3, 1) := by decide +kernel
theorem dX8_askNow_84 : decode cX8_askNow 84 = .ok (.goto 5, 3) := by decide +kernel
theorem dX8_askNow_87 : decode cX8_askNow 87 = .ok (.iload 4, 2) := by decide +kernel
theorem dX8_askNow_89 : decode cX8_askNow 89 = .ok (.ireturn, 1) := by decide +kernel
theorem dX8_ask_0 : decode cX8_ask 0 = .ok (.aload_n 0, 1) := by decide +kernel
theorem dX8_ask_1 : decode cX8_ask 1 = .ok (.invokevirtual 147, 3) := by decide +kernel
theorem dX8_ask_4 : decode cX8_ask 4 = .ok (.iload_n 1, 1) := by decide +kernel
theorem dX8_ask_5 : decode cX8_ask 5 = .ok (.invokestatic 108, 3) := by decide +kernel
theorem dX8_ask_8 : decode cX8_ask 8 = .ok (.ifCond .eq 11, 3) := by decide +kernel
theorem dX8_ask_11 : decode cX8_ask 11 = .ok (.aload_n 0, 1) := by decide +kernel
theorem dX8_ask_12 : decode cX8_ask 12 = .ok (.iload_n 1, 1) := by decide +kernel
theorem dX8_ask_13 : decode cX8_ask 13 = .ok (.invokevirtual 330, 3) := by decide +kernel
theorem dX8_ask_16 : decode cX8_ask 16 = .ok (.goto 5, 3) := by decide +kernel
theorem dX8_ask_19 : decode cX8_ask 19 = .ok (.bipush (-2), 2) := by decide +kernel
theorem dX8_ask_21 : decode cX8_ask 21 = .ok (.ireturn, 1) := by decide +kernel
theorem dX8_turnedOf_0 : decode cX8_turnedOf 0 = .ok (.lconst 0, 1) := by decide +kernel
theorem dX8_turnedOf_1 : decode cX8_turnedOf 1 = .ok (.lstore_n 3, 1) := by decide +kernel
theorem dX8_turnedOf_2 : decode cX8_turnedOf 2 = .ok (.iload_n 0, 1) := by decide +kernel
theorem dX8_turnedOf_3 : decode cX8_turnedOf 3 = .ok (.istore 5, 2) := by decide +kernel
theorem dX8_turnedOf_5 : decode cX8_turnedOf 5 = .ok (.iload 5, 2) := by decide +kernel
theorem dX8_turnedOf_7 : decode cX8_turnedOf 7 = .ok (.iload_n 1, 1) := by decide +kernel
theorem dX8_turnedOf_8 : decode cX8_turnedOf 8 = .ok (.if_icmp .le 22, 3) := by decide +kernel
theorem dX8_turnedOf_11 : decode cX8_turnedOf 11 = .ok (.lload_n 3, 1) := by decide +kernel
theorem dX8_turnedOf_12 : decode cX8_turnedOf 12 = .ok (.ldc2_w 333, 3) := by decide +kernel
theorem dX8_turnedOf_15 : decode cX8_turnedOf 15 = .ok (.iload 5, 2) := by decide +kernel
theorem dX8_turnedOf_17 : decode cX8_turnedOf 17 = .ok (.i2l, 1) := by decide +kernel
theorem dX8_turnedOf_18 : decode cX8_turnedOf 18 = .ok (.ldiv, 1) := by decide +kernel
theorem dX8_turnedOf_19 : decode cX8_turnedOf 19 = .ok (.iload_n 1, 1) := by decide +kernel
theorem dX8_turnedOf_20 : decode cX8_turnedOf 20 = .ok (.i2l, 1) := by decide +kernel
theorem dX8_turnedOf_21 : decode cX8_turnedOf 21 = .ok (.lmul, 1) := by decide +kernel
theorem dX8_turnedOf_22 : decode cX8_turnedOf 22 = .ok (.ladd, 1) := by decide +kernel
theorem dX8_turnedOf_23 : decode cX8_turnedOf 23 = .ok (.lstore_n 3, 1) := by decide +kernel
theorem dX8_turnedOf_24 : decode cX8_turnedOf 24 = .ok (.iinc 5 (-1), 3) := by decide +kernel
theorem dX8_turnedOf_27 : decode cX8_turnedOf 27 = .ok (.goto (-22), 3) := by decide +kernel
theorem dX8_turnedOf_30 : decode cX8_turnedOf 30 = .ok (.lload_n 3, 1) := by decide +kernel
theorem dX8_turnedOf_31 : decode cX8_turnedOf 31 = .ok (.ldc2_w 333, 3) := by decide +kernel
theorem dX8_turnedOf_34 : decode cX8_turnedOf 34 = .ok (.iload_n 2, 1) := by decide +kernel
theorem dX8_turnedOf_35 : decode cX8_turnedOf 35 = .ok (.invokestatic 229, 3) := by decide +kernel
theorem dX8_turnedOf_38 : decode cX8_turnedOf 38 = .ok (.lreturn, 1) := by decide +kernel
theorem dX8_turned_0 : decode cX8_turned 0 = .ok (.iload_n 1, 1) := by decide +kernel
theorem dX8_turned_1 : decode cX8_turned 1 = .ok (.i2l, 1) := by decide +kernel
theorem dX8_turned_2 : decode cX8_turned 2 = .ok (.lconst 1, 1) := by decide +kernel
theorem dX8_turned_3 : decode cX8_turned 3 = .ok (.ldc2_w 335, 3) := by decide +kernel
theorem dX8_turned_6 : decode cX8_turned 6 = .ok (.invokestatic 80, 3) := by decide +kernel
theorem dX8_turned_9 : decode cX8_turned 9 = .ok (.ifCond .eq 30, 3) := by decide +kernel
theorem dX8_turned_12 : decode cX8_turned 12 = .ok (.iload_n 2, 1) := by decide +kernel
theorem dX8_turned_13 : decode cX8_turned 13 = .ok (.i2l, 1) := by decide +kernel
theorem dX8_turned_14 : decode cX8_turned 14 = .ok (.lconst 0, 1) := by decide +kernel
theorem dX8_turned_15 : decode cX8_turned 15 = .ok (.iload_n 1, 1) := by decide +kernel
theorem dX8_turned_16 : decode cX8_turned 16 = .ok (.i2l, 1) := by decide +kernel
theorem dX8_turned_17 : decode cX8_turned 17 = .ok (.invokestatic 80, 3) := by decide +kernel
theorem dX8_turned_20 : decode cX8_turned 20 = .ok (.ifCond .eq 19, 3) := by decide +kernel
theorem dX8_turned_23 : decode cX8_turned 23 = .ok (.iload_n 3, 1) := by decide +kernel
theorem dX8_turned_24 : decode cX8_turned 24 = .ok (.invokestatic 108, 3) := by decide +kernel
theorem dX8_turned_27 : decode cX8_turned 27 = .ok (.ifCond .eq 12, 3) := by decide +kernel
theorem dX8_turned_30 : decode cX8_turned 30 = .ok (.iload_n 1, 1) := by decide +kernel
theorem dX8_turned_31 : decode cX8_turned 31 = .ok (.iload_n 2, 1) := by decide +kernel
theorem dX8_turned_32 : decode cX8_turned 32 = .ok (.iload_n 3, 1) := by decide +kernel
theorem dX8_turned_33 : decode cX8_turned 33 = .ok (.invokestatic 337, 3) := by decide +kernel
theorem dX8_turned_36 : decode cX8_turned 36 = .ok (.goto 8, 3) := by decide +kernel
theorem dX8_turned_39 : decode cX8_turned 39 = .ok (.bipush (-2), 2) := by decide +kernel
theorem dX8_turned_41 : decode cX8_turned 41 = .ok (.invokestatic 236, 3) := by decide +kernel
theorem dX8_turned_44 : decode cX8_turned 44 = .ok (.lreturn, 1) := by decide +kernel
theorem dX8_lot_0 : decode cX8_lot 0 = .ok (.aload_n 0, 1) := by decide +kernel
theorem dX8_lot_1 : decode cX8_lot 1 = .ok (.ldc_w 340, 3) := by decide +kernel
theorem dX8_lot_4 : decode cX8_lot 4 = .ok (.aload_n 0, 1) := by decide +kernel
theorem dX8_lot_5 : decode cX8_lot 5 = .ok (.getfield 341, 3) := by decide +kernel
theorem dX8_lot_8 : decode cX8_lot 8 = .ok (.imul, 1) := by decide +kernel
theorem dX8_lot_9 : decode cX8_lot 9 = .ok (.sipush 12345, 3) := by decide +kernel
theorem dX8_lot_12 : decode cX8_lot 12 = .ok (.iadd, 1) := by decide +kernel
theorem dX8_lot_13 : decode cX8_lot 13 = .ok (.putfield 341, 3) := by decide +kernel
theorem dX8_lot_16 : decode cX8_lot 16 = .ok (.aload_n 0, 1) := by decide +kernel
theorem dX8_lot_17 : decode cX8_lot 17 = .ok (.getfield 341, 3) := by decide +kernel
theorem dX8_lot_20 : decode cX8_lot 20 = .ok (.bipush 16, 2) := by decide +kernel
theorem dX8_lot_22 : decode cX8_lot 22 = .ok (.iushr, 1) := by decide +kernel
theorem dX8_lot_23 : decode cX8_lot 23 = .ok (.iload_n 1, 1) := by decide +kernel
theorem dX8_lot_24 : decode cX8_lot 24 = .ok (.irem, 1) := by decide +kernel
theorem dX8_lot_25 : decode cX8_lot 25 = .ok (.ireturn, 1) := by decide +kernel
theorem dX8_findEvening_0 : decode cX8_findEvening 0 = .ok (.aload_n 0, 1) := by decide +kernel
theorem dX8_findEvening_1 : decode cX8_findEvening 1 = .ok (.iload_n 1, 1) := by decide +kernel
theorem dX8_findEvening_2 : decode cX8_findEvening 2 = .ok (.putfield 341, 3) := by decide +kernel
theorem dX8_findEvening_5 : decode cX8_findEvening 5 = .ok (.iconst 0, 1) := by decide +kernel
theorem dX8_findEvening_6 : decode cX8_findEvening 6 = .ok (.istore_n 2, 1) := by decide +kernel
theorem dX8_findEvening_7 : decode cX8_findEvening 7 = .ok (.iconst 0, 1) := by decide +kernel
theorem dX8_findEvening_8 : decode cX8_findEvening 8 = .ok (.istore_n 3, 1) := by decide +kernel
theorem dX8_findEvening_9 : decode cX8_findEvening 9 = .ok (.iconst 0, 1) := by decide +kernel
theorem dX8_findEvening_10 : decode cX8_findEvening 10 = .ok (.istore 4, 2) := by decide +kernel
theorem dX8_findEvening_12 : decode cX8_findEvening 12 = .ok (.iload 4, 2) := by decide +kernel
theorem dX8_findEvening_14 : decode cX8_findEvening 14 = .ok (.aload_n 0, 1) := by decide +kernel
theorem dX8_findEvening_15 : decode cX8_findEvening 15 = .ok (.getfield 129, 3) := by decide +kernel
theorem dX8_findEvening_18 : decode cX8_findEvening 18 = .ok (.if_icmp .ge 168, 3) := by decide +kernel
theorem dX8_findEvening_21 : decode cX8_findEvening 21 = .ok (.aload_n 0, 1) := by decide +kernel
theorem dX8_findEvening_22 : decode cX8_findEvening 22 = .ok (.iload 4, 2) := by decide +kernel
theorem dX8_findEvening_24 : decode cX8_findEvening 24 = .ok (.aload_n 0, 1) := by decide +kernel
theorem dX8_findEvening_25 : decode cX8_findEvening 25 = .ok (.getfield 37, 3) := by decide +kernel
theorem dX8_findEvening_28 : decode cX8_findEvening 28 = .ok (.iload 4, 2) := by decide +kernel
theorem dX8_findEvening_30 : decode cX8_findEvening 30 = .ok (.iaload, 1) := by decide +kernel
theorem dX8_findEvening_31 : decode cX8_findEvening 31 = .ok (.iload_n 2, 1) := by decide +kernel
theorem dX8_findEvening_32 : decode cX8_findEvening 32 = .ok (.invokevirtual 202, 3) := by decide +kernel
theorem dX8_findEvening_35 : decode cX8_findEvening 35 = .ok (.istore 5, 2) := by decide +kernel
theorem dX8_findEvening_37 : decode cX8_findEvening 37 = .ok (.aload_n 0, 1) := by decide +kernel
theorem dX8_findEvening_38 : decode cX8_findEvening 38 = .ok (.getfield 37, 3) := by decide +kernel
theorem dX8_findEvening_41 : decode cX8_findEvening 41 = .ok (.iload 4, 2) := by decide +kernel
theorem dX8_findEvening_43 : decode cX8_findEvening 43 = .ok (.iaload, 1) := by decide +kernel
theorem dX8_findEvening_44 : decode cX8_findEvening 44 = .ok (.iconst 1, 1) := by decide +kernel
theorem dX8_findEvening_45 : decode cX8_findEvening 45 = .ok (.if_icmp .eq 28, 3) := by decide +kernel
theorem dX8_findEvening_48 : decode cX8_findEvening 48 = .ok (.aload_n 0, 1) := by decide +kernel
theorem dX8_findEvening_49 : decode cX8_findEvening 49 = .ok (.getfield 37, 3) := by decide +kernel
theorem dX8_findEvening_52 : decode cX8_findEvening 52 = .ok (.iload 4, 2) := by decide +kernel
theorem dX8_findEvening_54 : decode cX8_findEvening 54 = .ok (.iaload, 1) := by decide +kernel
theorem dX8_findEvening_55 : decode cX8_findEvening 55 = .ok (.iconst 2, 1) := by decide +kernel
theorem dX8_findEvening_56 : decode cX8_findEvening 56 = .ok (.if_icmp .eq 21, 3) := by decide +kernel
theorem dX8_findEvening_59 : decode cX8_findEvening 59 = .ok (.iload_n 2, 1) := by decide +kernel
theorem dX8_findEvening_60 : decode cX8_findEvening 60 = .ok (.aload_n 0, 1) := by decide +kernel
theorem dX8_findEvening_61 : decode cX8_findEvening 61 = .ok (.getfield 34, 3) := by decide +kernel
theorem dX8_findEvening_64 : decode cX8_findEvening 64 = .ok (.iload 4, 2) := by decide +kernel
theorem dX8_findEvening_66 : decode cX8_findEvening 66 = .ok (.iaload, 1) := by decide +kernel
theorem dX8_findEvening_67 : decode cX8_findEvening 67 = .ok (.invokestatic 162, 3) := by decide +kernel
theorem dX8_findEvening_70 : decode cX8_findEvening 70 = .ok (.ifCond .eq 7, 3) := by decide +kernel
theorem dX8_findEvening_73 : decode cX8_findEvening 73 = .ok (.iconst 1, 1) := by decide +kernel
theorem dX8_findEvening_74 : decode cX8_findEvening 74 = .ok (.goto 4, 3) := by decide +kernel
theorem dX8_findEvening_77 : decode cX8_findEvening 77 = .ok (.iconst 0, 1) := by decide +kernel
theorem dX8_findEvening_78 : decode cX8_findEvening 78 = .ok (.istore 6, 2) := by decide +kernel
theorem dX8_findEvening_80 : decode cX8_findEvening 80 = .ok (.iload 6, 2) := by decide +kernel
theorem dX8_findEvening_82 : decode cX8_findEvening 82 = .ok (.ifCond .eq 15, 3) := by decide +kernel
theorem dX8_findEvening_85 : decode cX8_findEvening 85 = .ok (.aload_n 0, 1) := by decide +kernel
theorem dX8_findEvening_86 : decode cX8_findEvening 86 = .ok (.iload 5, 2) := by decide +kernel
theorem dX8_findEvening_88 : decode cX8_findEvening 88 = .ok (.invokestatic 205, 3) := by decide +kernel
theorem dX8_findEvening_91 : decode cX8_findEvening 91 = .ok (.invokevirtual 344, 3) := by decide +kernel
theorem dX8_findEvening_94 : decode cX8_findEvening 94 = .ok (.goto 4, 3) := by decide +kernel
theorem dX8_findEvening_97 : decode cX8_findEvening 97 = .ok (.iconst 0, 1) := by decide +kernel
theorem dX8_findEvening_98 : decode cX8_findEvening 98 = .ok (.istore 7, 2) := by decide +kernel
theorem dX8_findEvening_100 : decode cX8_findEvening 100 = .ok (.iconst 0, 1) := by decide +kernel
theorem dX8_findEvening_101 : decode cX8_findEvening 101 = .ok (.istore 8, 2) := by decide +kernel
theorem dX8_findEvening_103 : decode cX8_findEvening 103 = .ok (.iload 5, 2) := by decide +kernel
theorem dX8_findEvening_105 : decode cX8_findEvening 105 = .ok (.iload 8, 2) := by decide +kernel
theorem dX8_findEvening_107 : decode cX8_findEvening 107 = .ok (.invokestatic 162, 3) := by decide +kernel
theorem dX8_findEvening_110 : decode cX8_findEvening 110 = .ok (.ifCond .eq 8, 3) := by decide +kernel
theorem dX8_findEvening_113 : decode cX8_findEvening 113 = .ok (.iload 7, 2) := by decide +kernel
theorem dX8_findEvening_115 : decode cX8_findEvening 115 = .ok (.ifCond .le 29, 3) := by decide +kernel
theorem dX8_findEvening_118 : decode cX8_findEvening 118 = .ok (.iload 7, 2) := by decide +kernel
theorem dX8_findEvening_120 : decode cX8_findEvening 120 = .ok (.iload 5, 2) := by decide +kernel
theorem dX8_findEvening_122 : decode cX8_findEvening 122 = .ok (.iload 8, 2) := by decide +kernel
theorem dX8_findEvening_124 : decode cX8_findEvening 124 = .ok (.invokestatic 162, 3) := by decide +kernel
theorem dX8_findEvening_127 : decode cX8_findEvening 127 = .ok (.ifCond .eq 7, 3) := by decide +kernel
theorem dX8_findEvening_130 : decode cX8_findEvening 130 = .ok (.iconst 1, 1) := by decide +kernel
theorem dX8_findEvening_131 : decode cX8_findEvening 131 = .ok (.goto 4, 3) := by decide +kernel
theorem dX8_findEvening_134 : decode cX8_findEvening 134 = .ok (.iconst 0, 1) := by decide +kernel
theorem dX8_findEvening_135 : decode cX8_findEvening 135 = .ok (.isub, 1) := by decide +kernel
theorem dX8_findEvening_136 : decode cX8_findEvening 136 = .ok (.istore 7, 2) := by decide +kernel
theorem dX8_findEvening_138 : decode cX8_findEvening 138 = .ok (.iinc 8 1, 3) := by decide +kernel
theorem dX8_findEvening_141 : decode cX8_findEvening 141 = .ok (.goto (-38), 3) := by decide +kernel
theorem dX8_findEvening_144 : decode cX8_findEvening 144 = .ok (.aload_n 0, 1) := by decide +kernel
theorem dX8_findEvening_145 : decode cX8_findEvening 145 = .ok (.getfield 75, 3) := by decide +kernel
theorem dX8_findEvening_148 : decode cX8_findEvening 148 = .ok (.iload 4, 2) := by decide +kernel
theorem dX8_findEvening_150 : decode cX8_findEvening 150 = .ok (.iload 8, 2) := by decide +kernel
theorem dX8_findEvening_152 : decode cX8_findEvening 152 = .ok (.iastore, 1) := by decide +kernel
theorem dX8_findEvening_153 : decode cX8_findEvening 153 = .ok (.iload_n 2, 1) := by decide +kernel
theorem dX8_findEvening_154 : decode cX8_findEvening 154 = .ok (.iconst 1, 1) := by decide +kernel
theorem dX8_findEvening_155 : decode cX8_findEvening 155 = .ok (.iload 8, 2) := by decide +kernel
theorem dX8_findEvening_157 : decode cX8_findEvening 157 = .ok (.ishl, 1) := by decide +kernel
theorem dX8_findEvening_158 : decode cX8_findEvening 158 = .ok (.ior, 1) := by decide +kernel
theorem dX8_findEvening_159 : decode cX8_findEvening 159 = .ok (.istore_n 2, 1) := by decide +kernel
theorem dX8_findEvening_160 : decode cX8_findEvening 160 = .ok (.iload_n 3, 1) := by decide +kernel
theorem dX8_findEvening_161 : decode cX8_findEvening 161 = .ok (.iload 8, 2) := by decide +kernel
theorem dX8_findEvening_163 : decode cX8_findEvening 163 = .ok (.aload_n 0, 1) := by decide +kernel
theorem dX8_findEvening_164 : decode cX8_findEvening 164 = .ok (.getfield 34, 3) := by decide +kernel
theorem dX8_findEvening_167 : decode cX8_findEvening 167 = .ok (.iload 4, 2) := by decide +kernel
theorem dX8_findEvening_169 : decode cX8_findEvening 169 = .ok (.iaload, 1) := by decide +kernel
theorem dX8_findEvening_170 : decode cX8_findEvening 170 = .ok (.if_icmp .ne 7, 3) := by decide +kernel
theorem dX8_findEvening_173 : decode cX8_findEvening 173 = .ok (.iconst 0, 1) := by decide +kernel
theorem dX8_findEvening_174 : decode cX8_findEvening 174 = .ok (.goto 4, 3) := by decide +kernel
theorem dX8_findEvening_177 : decode cX8_findEvening 177 = .ok (.iconst 1, 1) := by decide +kernel
theorem dX8_findEvening_178 : decode cX8_findEvening 178 = .ok (.iadd, 1) := by decide +kernel
theorem dX8_findEvening_179 : decode cX8_findEvening 179 = .ok (.istore_n 3, 1) := by decide +kernel
theorem dX8_findEvening_180 : decode cX8_findEvening 180 = .ok (.iinc 4 1, 3) := by decide +kernel
theorem dX8_findEvening_183 : decode cX8_findEvening 183 = .ok (.goto (-171), 3) := by decide +kernel
theorem dX8_findEvening_186 : decode cX8_findEvening 186 = .ok (.iload_n 3, 1) := by decide +kernel
theorem dX8_findEvening_187 : decode cX8_findEvening 187 = .ok (.ireturn, 1) := by decide +kernel
theorem dX8_eveningOf_0 : decode cX8_eveningOf 0 = .ok (.aload_n 0, 1) := by decide +kernel
theorem dX8_eveningOf_1 : decode cX8_eveningOf 1 = .ok (.iload_n 1, 1) := by decide +kernel
theorem dX8_eveningOf_2 : decode cX8_eveningOf 2 = .ok (.invokevirtual 347, 3) := by decide +kernel
theorem dX8_eveningOf_5 : decode cX8_eveningOf 5 = .ok (.istore_n 3, 1) := by decide +kernel
theorem dX8_eveningOf_6 : decode cX8_eveningOf 6 = .ok (.iload_n 2, 1) := by decide +kernel
theorem dX8_eveningOf_7 : decode cX8_eveningOf 7 = .ok (.iconst (-1), 1) := by decide +kernel
theorem dX8_eveningOf_8 : decode cX8_eveningOf 8 = .ok (.if_icmp .ne 7, 3) := by decide +kernel
theorem dX8_eveningOf_11 : decode cX8_eveningOf 11 = .ok (.iload_n 3, 1) := by decide +kernel
theorem dX8_eveningOf_12 : decode cX8_eveningOf 12 = .ok (.goto 9, 3) := by decide +kernel
theorem dX8_eveningOf_15 : decode cX8_eveningOf 15 = .ok (.aload_n 0, 1) := by decide +kernel
theorem dX8_eveningOf_16 : decode cX8_eveningOf 16 = .ok (.getfield 75, 3) := by decide +kernel
theorem dX8_eveningOf_19 : decode cX8_eveningOf 19 = .ok (.iload_n 2, 1) := by decide +kernel
theorem dX8_eveningOf_20 : decode cX8_eveningOf 20 = .ok (.iaload, 1) := by decide +kernel
theorem dX8_eveningOf_21 : decode cX8_eveningOf 21 = .ok (.ireturn, 1) := by decide +kernel
theorem dX8_evening_0 : decode cX8_evening 0 = .ok (.aload_n 0, 1) := by decide +kernel
theorem dX8_evening_1 : decode cX8_evening 1 = .ok (.invokevirtual 147, 3) := by decide +kernel
theorem dX8_evening_4 : decode cX8_evening 4 = .ok (.iload_n 2, 1) := by decide +kernel
theorem dX8_evening_5 : decode cX8_evening 5 = .ok (.i2l, 1) := by decide +kernel
theorem dX8_evening_6 : decode cX8_evening 6 = .ok (.ldc2_w 248, 3) := by decide +kernel
theorem dX8_evening_9 : decode cX8_evening 9 = .ok (.aload_n 0, 1) := by decide +kernel
theorem dX8_evening_10 : decode cX8_evening 10 = .ok (.getfield 129, 3) := by decide +kernel
theorem dX8_evening_13 : decode cX8_evening 13 = .ok (.iconst 1, 1) := by decide +kernel
theorem dX8_evening_14 : decode cX8_evening 14 = .ok (.isub, 1) := by decide +kernel
theorem dX8_evening_15 : decode cX8_evening 15 = .ok (.i2l, 1) := by decide +kernel
theorem dX8_evening_16 : decode cX8_evening 16 = .ok (.invokestatic 80, 3) := by decide +kernel
theorem dX8_evening_19 : decode cX8_evening 19 = .ok (.ifCond .eq 12, 3) := by decide +kernel
theorem dX8_evening_22 : decode cX8_evening 22 = .ok (.aload_n 0, 1) := by decide +kernel
theorem dX8_evening_23 : decode cX8_evening 23 = .ok (.iload_n 1, 1) := by decide +kernel
theorem dX8_evening_24 : decode cX8_evening 24 = .ok (.iload_n 2, 1) := by decide +kernel
theorem dX8_evening_25 : decode cX8_evening 25 = .ok (.invokevirtual 350, 3) := by decide +kernel
theorem dX8_evening_28 : decode cX8_evening 28 = .ok (.goto 5, 3) := by decide +kernel
theorem dX8_evening_31 : decode cX8_evening 31 = .ok (.bipush (-2), 2) := by decide +kernel
theorem dX8_evening_33 : decode cX8_evening 33 = .ok (.ireturn, 1) := by decide +kernel
theorem dX8_write_0 : decode cX8_write 0 = .ok (.iload_n 2, 1) := by decide +kernel
theorem dX8_write_1 : decode cX8_write 1 = .ok (.invokestatic 89, 3) := by decide +kernel
theorem dX8_write_4 : decode cX8_write 4 = .ok (.ifCond .ne 6, 3) := by decide +kernel
theorem dX8_write_7 : decode cX8_write 7 = .ok (.bipush (-2), 2) := by decide +kernel
theorem dX8_write_9 : decode cX8_write 9 = .ok (.ireturn, 1) := by decide +kernel
theorem dX8_write_10 : decode cX8_write 10 = .ok (.aload_n 0, 1) := by decide +kernel
theorem dX8_write_11 : decode cX8_write 11 = .ok (.getfield 7, 3) := by decide +kernel
theorem dX8_write_14 : decode cX8_write 14 = .ok (.iload_n 2, 1) := by decide +kernel
theorem dX8_write_15 : decode cX8_write 15 = .ok (.iaload, 1) := by decide +kernel
theorem dX8_write_16 : decode cX8_write 16 = .ok (.ifCond .ge 9, 3) := by decide +kernel
theorem dX8_write_19 : decode cX8_write 19 = .ok (.aload_n 0, 1) := by decide +kernel
theorem dX8_write_20 : decode cX8_write 20 = .ok (.iconst 1, 1) := by decide +kernel
theorem dX8_write_21 : decode cX8_write 21 = .ok (.invokevirtual 95, 3) := by decide +kernel
theorem dX8_write_24 : decode cX8_write 24 = .ok (.ireturn, 1) := by decide +kernel
theorem dX8_write_25 : decode cX8_write 25 = .ok (.aload_n 0, 1) := by decide +kernel
theorem dX8_write_26 : decode cX8_write 26 = .ok (.invokevirtual 147, 3) := by decide +kernel
theorem dX8_write_29 : decode cX8_write 29 = .ok (.aload_n 0, 1) := by decide +kernel
theorem dX8_write_30 : decode cX8_write 30 = .ok (.iload_n 1, 1) := by decide +kernel
theorem dX8_write_31 : decode cX8_write 31 = .ok (.invokevirtual 347, 3) := by decide +kernel
theorem dX8_write_34 : decode cX8_write 34 = .ok (.pop, 1) := by decide +kernel
theorem dX8_write_35 : decode cX8_write 35 = .ok (.aload_n 0, 1) := by decide +kernel
theorem dX8_write_36 : decode cX8_write 36 = .ok (.getfield 13, 3) := by decide +kernel
theorem dX8_write_39 : decode cX8_write 39 = .ok (.iload_n 2, 1) := by decide +kernel
theorem dX8_write_40 : decode cX8_write 40 = .ok (.iaload, 1) := by decide +kernel
theorem dX8_write_41 : decode cX8_write 41 = .ok (.aload_n 0, 1) := by decide +kernel
theorem dX8_write_42 : decode cX8_write 42 = .ok (.getfield 129, 3) := by decide +kernel
theorem dX8_write_45 : decode cX8_write 45 = .ok (.if_icmp .ge 12, 3) := by decide +kernel
theorem dX8_write_48 : decode cX8_write 48 = .ok (.aload_n 0, 1) := by decide +kernel
theorem dX8_write_49 : decode cX8_write 49 = .ok (.getfield 13, 3) := by decide +kernel
theorem dX8_write_52 : decode cX8_write 52 = .ok (.iload_n 2, 1) := by decide +kernel
theorem dX8_write_53 : decode cX8_write 53 = .ok (.iaload, 1) := by decide +kernel
theorem dX8_write_54 : decode cX8_write 54 = .ok (.goto 7, 3) := by decide +kernel
theorem dX8_write_57 : decode cX8_write 57 = .ok (.aload_n 0, 1) := by decide +kernel
theorem dX8_write_58 : decode cX8_write 58 = .ok (.getfield 129, 3) := by decide +kernel
theorem dX8_write_61 : decode cX8_write 61 = .ok (.istore_n 3, 1) := by decide +kernel
theorem dX8_write_62 : decode cX8_write 62 = .ok (.iconst 0, 1) := by decide +kernel
theorem dX8_write_63 : decode cX8_write 63 = .ok (.istore 4, 2) := by decide +kernel
theorem dX8_write_65 : decode cX8_write 65 = .ok (.iload 4, 2) := by decide +kernel
theorem dX8_write_67 : decode cX8_write 67 = .ok (.iload_n 3, 1) := by decide +kernel
theorem dX8_write_68 : decode cX8_write 68 = .ok (.if_icmp .ge 37, 3) := by decide +kernel
theorem dX8_write_71 : decode cX8_write 71 = .ok (.aload_n 0, 1) := by decide +kernel
theorem dX8_write_72 : decode cX8_write 72 = .ok (.getfield 16, 3) := by decide +kernel
theorem dX8_write_75 : decode cX8_write 75 = .ok (.bipush 60, 2) := by decide +kernel
theorem dX8_write_77 : decode cX8_write 77 = .ok (.iload_n 2, 1) := by decide +kernel
theorem dX8_write_78 : decode cX8_write 78 = .ok (.imul, 1) := by decide +kernel
theorem dX8_write_79 : decode cX8_write 79 = .ok (.iload 4, 2) := by decide +kernel
theorem dX8_write_81 : decode cX8_write 81 = .ok (.iadd, 1) := by decide +kernel
theorem dX8_write_82 : decode cX8_write 82 = .ok (.aload_n 0, 1) := by decide +kernel
theorem dX8_write_83 : decode cX8_write 83 = .ok (.getfield 7, 3) := by decide +kernel
theorem dX8_write_86 : decode cX8_write 86 = .ok (.iload_n 2, 1) := by decide +kernel
theorem dX8_write_87 : decode cX8_write 87 = .ok (.iaload, 1) := by decide +kernel
theorem dX8_write_88 : decode cX8_write 88 = .ok (.aload_n 0, 1) := by decide +kernel
theorem dX8_write_89 : decode cX8_write 89 = .ok (.getfield 75, 3) := by decide +kernel
theorem dX8_write_92 : decode cX8_write 92 = .ok (.iload 4, 2) := by decide +kernel
theorem dX8_write_94 : decode cX8_write 94 = .ok (.iaload, 1) := by decide +kernel
theorem dX8_write_95 : decode cX8_write 95 = .ok (.invokestatic 103, 3) := by decide +kernel
theorem dX8_write_98 : decode cX8_write 98 = .ok (.iastore, 1) := by decide +kernel
theorem dX8_write_99 : decode cX8_write 99 = .ok (.iinc 4 1, 3) := by decide +kernel
theorem dX8_write_102 : decode cX8_write 102 = .ok (.goto (-37), 3) := by decide +kernel
theorem dX8_write_105 : decode cX8_write 105 = .ok (.iload_n 3, 1) := by decide +kernel
theorem dX8_write_106 : decode cX8_write 106 = .ok (.ireturn, 1) := by decide +kernel
theorem dX8_count_0 : decode cX8_count 0 = .ok (.iconst 0, 1) := by decide +kernel
theorem dX8_count_1 : decode cX8_count 1 = .ok (.istore_n 2, 1) := by decide +kernel
theorem dX8_count_2 : decode cX8_count 2 = .ok (.aload_n 0, 1) := by decide +kernel
theorem dX8_count_3 : decode cX8_count 3 = .ok (.invokevirtual 147, 3) := by decide +kernel
theorem dX8_count_6 : decode cX8_count 6 = .ok (.iload_n 1, 1) := by decide +kernel
theorem dX8_count_7 : decode cX8_count 7 = .ok (.tableswitch 153 0 8 #[49, 54, 59, 64, 64, 73, 78, 114, 148], 49) := by decide +kernel
theorem dX8_count_56 : decode cX8_count 56 = .ok (.aload_n 0, 1) := by decide +kernel
theorem dX8_count_57 : decode cX8_count 57 = .ok (.getfield 116, 3) := by decide +kernel
theorem dX8_count_60 : decode cX8_count 60 = .ok (.ireturn, 1) := by decide +kernel
theorem dX8_count_61 : decode cX8_count 61 = .ok (.aload_n 0, 1) := by decide +kernel
theorem dX8_count_62 : decode cX8_count 62 = .ok (.getfield 119, 3) := by decide +kernel
theorem dX8_count_65 : decode cX8_count 65 = .ok (.ireturn, 1) := by decide +kernel
theorem dX8_count_66 : decode cX8_count 66 = .ok (.aload_n 0, 1) := by decide +kernel
theorem dX8_count_67 : decode cX8_count 67 = .ok (.getfield 129, 3) := by decide +kernel
theorem dX8_count_70 : decode cX8_count 70 = .ok (.ireturn, 1) := by decide +kernel
theorem dX8_count_71 : decode cX8_count 71 = .ok (.aload_n 0, 1) := by decide +kernel
theorem dX8_count_72 : decode cX8_count 72 = .ok (.getfield 25, 3) := by decide +kernel
theorem dX8_count_75 : decode cX8_count 75 = .ok (.iload_n 1, 1) := by decide +kernel
theorem dX8_count_76 : decode cX8_count 76 = .ok (.iconst 3, 1) := by decide +kernel
theorem dX8_count_77 : decode cX8_count 77 = .ok (.isub, 1) := by decide +kernel
theorem dX8_count_78 : decode cX8_count 78 = .ok (.iaload, 1) := by decide +kernel
theorem dX8_count_79 : decode cX8_count 79 = .ok (.ireturn, 1) := by decide +kernel
theorem dX8_count_80 : decode cX8_count 80 = .ok (.aload_n 0, 1) := by decide +kernel
theorem dX8_count_81 : decode cX8_count 81 = .ok (.getfield 305, 3) := by decide +kernel
theorem dX8_count_84 : decode cX8_count 84 = .ok (.ireturn, 1) := by decide +kernel
theorem dX8_count_85 : decode cX8_count 85 = .ok (.iconst 0, 1) := by decide +kernel
theorem dX8_count_86 : decode cX8_count 86 = .ok (.istore_n 3, 1) := by decide +kernel
theorem dX8_count_87 : decode cX8_count 87 = .ok (.iload_n 3, 1) := by decide +kernel
theorem dX8_count_88 : decode cX8_count 88 = .ok (.aload_n 0, 1) := by decide +kernel
theorem dX8_count_89 : decode cX8_count 89 = .ok (.getfield 129, 3) := by decide +kernel
theorem dX8_count_92 : decode cX8_count 92 = .ok (.if_icmp .ge 27, 3) := by decide +kernel
theorem dX8_count_95 : decode cX8_count 95 = .ok (.iload_n 2, 1) := by decide +kernel
theorem dX8_count_96 : decode cX8_count 96 = .ok (.aload_n 0, 1) := by decide +kernel
theorem dX8_count_97 : decode cX8_count 97 = .ok (.getfield 37, 3) := by decide +kernel
theorem dX8_count_100 : decode cX8_count 100 = .ok (.iload_n 3, 1) := by decide +kernel
theorem dX8_count_101 : decode cX8_count 101 = .ok (.iaload, 1) := by decide +kernel
theorem dX8_count_102 : decode cX8_count 102 = .ok (.iconst 1, 1) := by decide +kernel
theorem dX8_count_103 : decode cX8_count 103 = .ok (.if_icmp .ne 7, 3) := by decide +kernel
theorem dX8_count_106 : decode cX8_count 106 = .ok (.iconst 1, 1) := by decide +kernel
theorem dX8_count_107 : decode cX8_count 107 = .ok (.goto 4, 3) := by decide +kernel
theorem dX8_count_110 : decode cX8_count 110 = .ok (.iconst 0, 1) := by decide +kernel
theorem dX8_count_111 : decode cX8_count 111 = .ok (.iadd, 1) := by decide +kernel
theorem dX8_count_112 : decode cX8_count 112 = .ok (.istore_n 2, 1) := by decide +kernel
theorem dX8_count_113 : decode cX8_count 113 = .ok (.iinc 3 1, 3) := by decide +kernel
theorem dX8_count_116 : decode cX8_count 116 = .ok (.goto (-29), 3) := by decide +kernel
theorem dX8_count_119 : decode cX8_count 119 = .ok (.iload_n 2, 1) := by decide +kernel
theorem dX8_count_120 : decode cX8_count 120 = .ok (.ireturn, 1) := by decide +kernel
theorem dX8_count_121 : decode cX8_count 121 = .ok (.iconst 0, 1) := by decide +kernel
theorem dX8_count_122 : decode cX8_count 122 = .ok (.istore_n 3, 1) := by decide +kernel
theorem dX8_count_123 : decode cX8_count 123 = .ok (.iload_n 3, 1) := by decide +kernel
theorem dX8_count_124 : decode cX8_count 124 = .ok (.aload_n 0, 1) := by decide +kernel
theorem dX8_count_125 : decode cX8_count 125 = .ok (.getfield 116, 3) := by decide +kernel
theorem dX8_count_128 : decode cX8_count 128 = .ok (.if_icmp .ge 25, 3) := by decide +kernel
theorem dX8_count_131 : decode cX8_count 131 = .ok (.iload_n 2, 1) := by decide +kernel
theorem dX8_count_132 : decode cX8_count 132 = .ok (.aload_n 0, 1) := by decide +kernel
theorem dX8_count_133 : decode cX8_count 133 = .ok (.iload_n 3, 1) := by decide +kernel
theorem dX8_count_134 : decode cX8_count 134 = .ok (.invokevirtual 150, 3) := by decide +kernel
theorem dX8_count_137 : decode cX8_count 137 = .ok (.ifCond .ne 7, 3) := by decide +kernel
theorem dX8_count_140 : decode cX8_count 140 = .ok (.iconst 1, 1) := by decide +kernel
theorem dX8_count_141 : decode cX8_count 141 = .ok (.goto 4, 3) := by decide +kernel
theorem dX8_count_144 : decode cX8_count 144 = .ok (.iconst 0, 1) := by decide +kernel
theorem dX8_count_145 : decode cX8_count 145 = .ok (.iadd, 1) := by decide +kernel
theorem dX8_count_146 : decode cX8_count 146 = .ok (.istore_n 2, 1) := by decide +kernel
theorem dX8_count_147 : decode cX8_count 147 = .ok (.iinc 3 1, 3) := by decide +kernel
theorem dX8_count_150 : decode cX8_count 150 = .ok (.goto (-27), 3) := by decide +kernel
theorem dX8_count_153 : decode cX8_count 153 = .ok (.iload_n 2, 1) := by decide +kernel
theorem dX8_count_154 : decode cX8_count 154 = .ok (.ireturn, 1) := by decide +kernel
theorem dX8_count_155 : decode cX8_count 155 = .ok (.aload_n 0, 1) := by decide +kernel
theorem dX8_count_156 : decode cX8_count 156 = .ok (.getfield 84, 3) := by decide +kernel
theorem dX8_count_159 : decode cX8_count 159 = .ok (.ireturn, 1) := by decide +kernel
theorem dX8_count_160 : decode cX8_count 160 = .ok (.bipush (-2), 2) := by decide +kernel
theorem dX8_count_162 : decode cX8_count 162 = .ok (.ireturn, 1) := by decide +kernel
theorem dX8_digest_0 : decode cX8_digest 0 = .ok (.ldc2_w 353, 3) := by decide +kernel
theorem dX8_digest_3 : decode cX8_digest 3 = .ok (.lstore_n 1, 1) := by decide +kernel
theorem dX8_digest_4 : decode cX8_digest 4 = .ok (.iconst 0, 1) := by decide +kernel
theorem dX8_digest_5 : decode cX8_digest 5 = .ok (.istore_n 3, 1) := by decide +kernel
theorem dX8_digest_6 : decode cX8_digest 6 = .ok (.iload_n 3, 1) := by decide +kernel
theorem dX8_digest_7 : decode cX8_digest 7 = .ok (.bipush 8, 2) := by decide +kernel
theorem dX8_digest_9 : decode cX8_digest 9 = .ok (.if_icmp .ge 22, 3) := by decide +kernel
theorem dX8_digest_12 : decode cX8_digest 12 = .ok (.ldc2_w 355, 3) := by decide +kernel
theorem dX8_digest_15 : decode cX8_digest 15 = .ok (.lload_n 1, 1) := by decide +kernel
theorem dX8_digest_16 : decode cX8_digest 16 = .ok (.lmul, 1) := by decide +kernel
theorem dX8_digest_17 : decode cX8_digest 17 = .ok (.aload_n 0, 1) := by decide +kernel
theorem dX8_digest_18 : decode cX8_digest 18 = .ok (.iload_n 3, 1) := by decide +kernel
theorem dX8_digest_19 : decode cX8_digest 19 = .ok (.invokevirtual 357, 3) := by decide +kernel
theorem dX8_digest_22 : decode cX8_digest 22 = .ok (.i2l, 1) := by decide +kernel
theorem dX8_digest_23 : decode cX8_digest 23 = .ok (.ladd, 1) := by decide +kernel
theorem dX8_digest_24 : decode cX8_digest 24 = .ok (.lstore_n 1, 1) := by decide +kernel
theorem dX8_digest_25 : decode cX8_digest 25 = .ok (.iinc 3 1, 3) := by decide +kernel
theorem dX8_digest_28 : decode cX8_digest 28 = .ok (.goto (-22), 3) := by decide +kernel
theorem dX8_digest_31 : decode cX8_digest 31 = .ok (.ldc2_w 355, 3) := by decide +kernel
theorem dX8_digest_34 : decode cX8_digest 34 = .ok (.lload_n 1, 1) := by decide +kernel
theorem dX8_digest_35 : decode cX8_digest 35 = .ok (.lmul, 1) := by decide +kernel
theorem dX8_digest_36 : decode cX8_digest 36 = .ok (.aload_n 0, 1) := by decide +kernel
theorem dX8_digest_37 : decode cX8_digest 37 = .ok (.iconst 0, 1) := by decide +kernel
theorem dX8_digest_38 : decode cX8_digest 38 = .ok (.invokevirtual 144, 3) := by decide +kernel
theorem dX8_digest_41 : decode cX8_digest 41 = .ok (.i2l, 1) := by decide +kernel
theorem dX8_digest_42 : decode cX8_digest 42 = .ok (.ladd, 1) := by decide +kernel
theorem dX8_digest_43 : decode cX8_digest 43 = .ok (.lstore_n 1, 1) := by decide +kernel
theorem dX8_digest_44 : decode cX8_digest 44 = .ok (.ldc2_w 355, 3) := by decide +kernel
theorem dX8_digest_47 : decode cX8_digest 47 = .ok (.lload_n 1, 1) := by decide +kernel
theorem dX8_digest_48 : decode cX8_digest 48 = .ok (.lmul, 1) := by decide +kernel
theorem dX8_digest_49 : decode cX8_digest 49 = .ok (.aload_n 0, 1) := by decide +kernel
theorem dX8_digest_50 : decode cX8_digest 50 = .ok (.iconst 1, 1) := by decide +kernel
theorem dX8_digest_51 : decode cX8_digest 51 = .ok (.invokevirtual 144, 3) := by decide +kernel
theorem dX8_digest_54 : decode cX8_digest 54 = .ok (.i2l, 1) := by decide +kernel
theorem dX8_digest_55 : decode cX8_digest 55 = .ok (.ladd, 1) := by decide +kernel
theorem dX8_digest_56 : decode cX8_digest 56 = .ok (.lstore_n 1, 1) := by decide +kernel
theorem dX8_digest_57 : decode cX8_digest 57 = .ok (.iconst 0, 1) := by decide +kernel
theorem dX8_digest_58 : decode cX8_digest 58 = .ok (.istore_n 3, 1) := by decide +kernel
theorem dX8_digest_59 : decode cX8_digest 59 = .ok (.iload_n 3, 1) := by decide +kernel
theorem dX8_digest_60 : decode cX8_digest 60 = .ok (.aload_n 0, 1) := by decide +kernel
theorem dX8_digest_61 : decode cX8_digest 61 = .ok (.getfield 116, 3) := by decide +kernel
theorem dX8_digest_64 : decode cX8_digest 64 = .ok (.if_icmp .ge 68, 3) := by decide +kernel
theorem dX8_digest_67 : decode cX8_digest 67 = .ok (.iconst 0, 1) := by decide +kernel
theorem dX8_digest_68 : decode cX8_digest 68 = .ok (.istore 4, 2) := by decide +kernel
theorem dX8_digest_70 : decode cX8_digest 70 = .ok (.iload 4, 2) := by decide +kernel
theorem dX8_digest_72 : decode cX8_digest 72 = .ok (.iconst 3, 1) := by decide +kernel
theorem dX8_digest_73 : decode cX8_digest 73 = .ok (.if_icmp .ge 24, 3) := by decide +kernel
theorem dX8_digest_76 : decode cX8_digest 76 = .ok (.ldc2_w 355, 3) := by decide +kernel
theorem dX8_digest_79 : decode cX8_digest 79 = .ok (.lload_n 1, 1) := by decide +kernel
theorem dX8_digest_80 : decode cX8_digest 80 = .ok (.lmul, 1) := by decide +kernel
theorem dX8_digest_81 : decode cX8_digest 81 = .ok (.aload_n 0, 1) := by decide +kernel
theorem dX8_digest_82 : decode cX8_digest 82 = .ok (.iload_n 3, 1) := by decide +kernel
theorem dX8_digest_83 : decode cX8_digest 83 = .ok (.iload 4, 2) := by decide +kernel
theorem dX8_digest_85 : decode cX8_digest 85 = .ok (.invokevirtual 156, 3) := by decide +kernel
theorem dX8_digest_88 : decode cX8_digest 88 = .ok (.i2l, 1) := by decide +kernel
theorem dX8_digest_89 : decode cX8_digest 89 = .ok (.ladd, 1) := by decide +kernel
theorem dX8_digest_90 : decode cX8_digest 90 = .ok (.lstore_n 1, 1) := by decide +kernel
theorem dX8_digest_91 : decode cX8_digest 91 = .ok (.iinc 4 1, 3) := by decide +kernel
theorem dX8_digest_94 : decode cX8_digest 94 = .ok (.goto (-24), 3) := by decide +kernel
theorem dX8_digest_97 : decode cX8_digest 97 = .ok (.iconst 0, 1) := by decide +kernel
theorem dX8_digest_98 : decode cX8_digest 98 = .ok (.istore 4, 2) := by decide +kernel
theorem dX8_digest_100 : decode cX8_digest 100 = .ok (.iload 4, 2) := by decide +kernel
theorem dX8_digest_102 : decode cX8_digest 102 = .ok (.iconst 2, 1) := by decide +kernel
theorem dX8_digest_103 : decode cX8_digest 103 = .ok (.if_icmp .ge 23, 3) := by decide +kernel
theorem dX8_digest_106 : decode cX8_digest 106 = .ok (.ldc2_w 355, 3) := by decide +kernel
theorem dX8_digest_109 : decode cX8_digest 109 = .ok (.lload_n 1, 1) := by decide +kernel
theorem dX8_digest_110 : decode cX8_digest 110 = .ok (.lmul, 1) := by decide +kernel
theorem dX8_digest_111 : decode cX8_digest 111 = .ok (.aload_n 0, 1) := by decide +kernel
theorem dX8_digest_112 : decode cX8_digest 112 = .ok (.iload_n 3, 1) := by decide +kernel
theorem dX8_digest_113 : decode cX8_digest 113 = .ok (.iload 4, 2) := by decide +kernel
theorem dX8_digest_115 : decode cX8_digest 115 = .ok (.invokevirtual 257, 3) := by decide +kernel
theorem dX8_digest_118 : decode cX8_digest 118 = .ok (.ladd, 1) := by decide +kernel
theorem dX8_digest_119 : decode cX8_digest 119 = .ok (.lstore_n 1, 1) := by decide +kernel
theorem dX8_digest_120 : decode cX8_digest 120 = .ok (.iinc 4 1, 3) := by decide +kernel
theorem dX8_digest_123 : decode cX8_digest 123 = .ok (.goto (-23), 3) := by decide +kernel
theorem dX8_digest_126 : decode cX8_digest 126 = .ok (.iinc 3 1, 3) := by decide +kernel
theorem dX8_digest_129 : decode cX8_digest 129 = .ok (.goto (-70), 3) := by decide +kernel
theorem dX8_digest_132 : decode cX8_digest 132 = .ok (.iconst 0, 1) := by decide +kernel
theorem dX8_digest_133 : decode cX8_digest 133 = .ok (.istore_n 3, 1) := by decide +kernel
theorem dX8_digest_134 : decode cX8_digest 134 = .ok (.iload_n 3, 1) := by decide +kernel
theorem dX8_digest_135 : decode cX8_digest 135 = .ok (.aload_n 0, 1) := by decide +kernel
theorem dX8_digest_136 : decode cX8_digest 136 = .ok (.getfield 129, 3) := by decide +kernel
theorem dX8_digest_139 : decode cX8_digest 139 = .ok (.if_icmp .ge 72, 3) := by decide +kernel
theorem dX8_digest_142 : decode cX8_digest 142 = .ok (.ldc2_w 355, 3) := by decide +kernel
theorem dX8_digest_145 : decode cX8_digest 145 = .ok (.lload_n 1, 1) := by decide +kernel
theorem dX8_digest_146 : decode cX8_digest 146 = .ok (.lmul, 1) := by decide +kernel
theorem dX8_digest_147 : decode cX8_digest 147 = .ok (.aload_n 0, 1) := by decide +kernel
theorem dX8_digest_148 : decode cX8_digest 148 = .ok (.getfield 34, 3) := by decide +kernel
theorem dX8_digest_151 : decode cX8_digest 151 = .ok (.iload_n 3, 1) := by decide +kernel
theorem dX8_digest_152 : decode cX8_digest 152 = .ok (.iaload, 1) := by decide +kernel
theorem dX8_digest_153 : decode cX8_digest 153 = .ok (.i2l, 1) := by decide +kernel
theorem dX8_digest_154 : decode cX8_digest 154 = .ok (.ladd, 1) := by decide +kernel
theorem dX8_digest_155 : decode cX8_digest 155 = .ok (.lstore_n 1, 1) := by decide +kernel
theorem dX8_digest_156 : decode cX8_digest 156 = .ok (.ldc2_w 355, 3) := by decide +kernel
theorem dX8_digest_159 : decode cX8_digest 159 = .ok (.lload_n 1, 1) := by decide +kernel
theorem dX8_digest_160 : decode cX8_digest 160 = .ok (.lmul, 1) := by decide +kernel
theorem dX8_digest_161 : decode cX8_digest 161 = .ok (.aload_n 0, 1) := by decide +kernel
theorem dX8_digest_162 : decode cX8_digest 162 = .ok (.getfield 37, 3) := by decide +kernel
theorem dX8_digest_165 : decode cX8_digest 165 = .ok (.iload_n 3, 1) := by decide +kernel
theorem dX8_digest_166 : decode cX8_digest 166 = .ok (.iaload, 1) := by decide +kernel
theorem dX8_digest_167 : decode cX8_digest 167 = .ok (.i2l, 1) := by decide +kernel
theorem dX8_digest_168 : decode cX8_digest 168 = .ok (.ladd, 1) := by decide +kernel
theorem dX8_digest_169 : decode cX8_digest 169 = .ok (.lstore_n 1, 1) := by decide +kernel
theorem dX8_digest_170 : decode cX8_digest 170 = .ok (.iconst 0, 1) := by decide +kernel
theorem dX8_digest_171 : decode cX8_digest 171 = .ok (.istore 4, 2) := by decide +kernel
theorem dX8_digest_173 : decode cX8_digest 173 = .ok (.iload 4, 2) := by decide +kernel
theorem dX8_digest_175 : decode cX8_digest 175 = .ok (.iconst 2, 1) := by decide +kernel
theorem dX8_digest_176 : decode cX8_digest 176 = .ok (.if_icmp .ge 29, 3) := by decide +kernel
theorem dX8_digest_179 : decode cX8_digest 179 = .ok (.ldc2_w 355, 3) := by decide +kernel
theorem dX8_digest_182 : decode cX8_digest 182 = .ok (.lload_n 1, 1) := by decide +kernel
theorem dX8_digest_183 : decode cX8_digest 183 = .ok (.lmul, 1) := by decide +kernel
theorem dX8_digest_184 : decode cX8_digest 184 = .ok (.aload_n 0, 1) := by decide +kernel
theorem dX8_digest_185 : decode cX8_digest 185 = .ok (.iload_n 3, 1) := by decide +kernel
theorem dX8_digest_186 : decode cX8_digest 186 = .ok (.aload_n 0, 1) := by decide +kernel
theorem dX8_digest_187 : decode cX8_digest 187 = .ok (.getfield 34, 3) := by decide +kernel
theorem dX8_digest_190 : decode cX8_digest 190 = .ok (.iload_n 3, 1) := by decide +kernel
theorem dX8_digest_191 : decode cX8_digest 191 = .ok (.iaload, 1) := by decide +kernel
theorem dX8_digest_192 : decode cX8_digest 192 = .ok (.iload 4, 2) := by decide +kernel
theorem dX8_digest_194 : decode cX8_digest 194 = .ok (.invokevirtual 233, 3) := by decide +kernel
theorem dX8_digest_197 : decode cX8_digest 197 = .ok (.ladd, 1) := by decide +kernel
theorem dX8_digest_198 : decode cX8_digest 198 = .ok (.lstore_n 1, 1) := by decide +kernel
theorem dX8_digest_199 : decode cX8_digest 199 = .ok (.iinc 4 1, 3) := by decide +kernel
theorem dX8_digest_202 : decode cX8_digest 202 = .ok (.goto (-29), 3) := by decide +kernel
theorem dX8_digest_205 : decode cX8_digest 205 = .ok (.iinc 3 1, 3) := by decide +kernel
theorem dX8_digest_208 : decode cX8_digest 208 = .ok (.goto (-74), 3) := by decide +kernel
theorem dX8_digest_211 : decode cX8_digest 211 = .ok (.iconst 0, 1) := by decide +kernel
theorem dX8_digest_212 : decode cX8_digest 212 = .ok (.istore_n 3, 1) := by decide +kernel
theorem dX8_digest_213 : decode cX8_digest 213 = .ok (.iload_n 3, 1) := by decide +kernel
theorem dX8_digest_214 : decode cX8_digest 214 = .ok (.iconst 2, 1) := by decide +kernel
theorem dX8_digest_215 : decode cX8_digest 215 = .ok (.if_icmp .ge 21, 3) := by decide +kernel
theorem dX8_digest_218 : decode cX8_digest 218 = .ok (.ldc2_w 355, 3) := by decide +kernel
theorem dX8_digest_221 : decode cX8_digest 221 = .ok (.lload_n 1, 1) := by decide +kernel
theorem dX8_digest_222 : decode cX8_digest 222 = .ok (.lmul, 1) := by decide +kernel
theorem dX8_digest_223 : decode cX8_digest 223 = .ok (.aload_n 0, 1) := by decide +kernel
theorem dX8_digest_224 : decode cX8_digest 224 = .ok (.iload_n 3, 1) := by decide +kernel
theorem dX8_digest_225 : decode cX8_digest 225 = .ok (.invokevirtual 250, 3) := by decide +kernel
theorem dX8_digest_228 : decode cX8_digest 228 = .ok (.ladd, 1) := by decide +kernel
theorem dX8_digest_229 : decode cX8_digest 229 = .ok (.lstore_n 1, 1) := by decide +kernel
theorem dX8_digest_230 : decode cX8_digest 230 = .ok (.iinc 3 1, 3) := by decide +kernel
theorem dX8_digest_233 : decode cX8_digest 233 = .ok (.goto (-20), 3) := by decide +kernel
theorem dX8_digest_236 : decode cX8_digest 236 = .ok (.iconst 0, 1) := by decide +kernel
theorem dX8_digest_237 : decode cX8_digest 237 = .ok (.istore_n 3, 1) := by decide +kernel
theorem dX8_digest_238 : decode cX8_digest 238 = .ok (.iload_n 3, 1) := by decide +kernel
theorem dX8_digest_239 : decode cX8_digest 239 = .ok (.iconst 2, 1) := by decide +kernel
theorem dX8_digest_240 : decode cX8_digest 240 = .ok (.if_icmp .ge 21, 3) := by decide +kernel
theorem dX8_digest_243 : decode cX8_digest 243 = .ok (.ldc2_w 355, 3) := by decide +kernel
theorem dX8_digest_246 : decode cX8_digest 246 = .ok (.lload_n 1, 1) := by decide +kernel
theorem dX8_digest_247 : decode cX8_digest 247 = .ok (.lmul, 1) := by decide +kernel
theorem dX8_digest_248 : decode cX8_digest 248 = .ok (.aload_n 0, 1) := by decide +kernel
theorem dX8_digest_249 : decode cX8_digest 249 = .ok (.iload_n 3, 1) := by decide +kernel
theorem dX8_digest_250 : decode cX8_digest 250 = .ok (.invokevirtual 260, 3) := by decide +kernel
theorem dX8_digest_253 : decode cX8_digest 253 = .ok (.ladd, 1) := by decide +kernel
theorem dX8_digest_254 : decode cX8_digest 254 = .ok (.lstore_n 1, 1) := by decide +kernel
theorem dX8_digest_255 : decode cX8_digest 255 = .ok (.iinc 3 1, 3) := by decide +kernel
theorem dX8_digest_258 : decode cX8_digest 258 = .ok (.goto (-20), 3) := by decide +kernel
theorem dX8_digest_261 : decode cX8_digest 261 = .ok (.iconst 0, 1) := by decide +kernel
theorem dX8_digest_262 : decode cX8_digest 262 = .ok (.istore_n 3, 1) := by decide +kernel
theorem dX8_digest_263 : decode cX8_digest 263 = .ok (.iload_n 3, 1) := by decide +kernel
theorem dX8_digest_264 : decode cX8_digest 264 = .ok (.iconst 2, 1) := by decide +kernel
theorem dX8_digest_265 : decode cX8_digest 265 = .ok (.if_icmp .ge 33, 3) := by decide +kernel
theorem dX8_digest_268 : decode cX8_digest 268 = .ok (.ldc2_w 355, 3) := by decide +kernel
theorem dX8_digest_271 : decode cX8_digest 271 = .ok (.lload_n 1, 1) := by decide +kernel
theorem dX8_digest_272 : decode cX8_digest 272 = .ok (.lmul, 1) := by decide +kernel
theorem dX8_digest_273 : decode cX8_digest 273 = .ok (.aload_n 0, 1) := by decide +kernel
theorem dX8_digest_274 : decode cX8_digest 274 = .ok (.aload_n 0, 1) := by decide +kernel
theorem dX8_digest_275 : decode cX8_digest 275 = .ok (.getfield 129, 3) := by decide +kernel
theorem dX8_digest_278 : decode cX8_digest 278 = .ok (.iconst 1, 1) := by decide +kernel
theorem dX8_digest_279 : decode cX8_digest 279 = .ok (.aload_n 0, 1) := by decide +kernel
theorem dX8_digest_280 : decode cX8_digest 280 = .ok (.getfield 129, 3) := by decide +kernel
theorem dX8_digest_283 : decode cX8_digest 283 = .ok (.ishl, 1) := by decide +kernel
theorem dX8_digest_284 : decode cX8_digest 284 = .ok (.iconst 1, 1) := by decide +kernel
theorem dX8_digest_285 : decode cX8_digest 285 = .ok (.isub, 1) := by decide +kernel
theorem dX8_digest_286 : decode cX8_digest 286 = .ok (.iload_n 3, 1) := by decide +kernel
theorem dX8_digest_287 : decode cX8_digest 287 = .ok (.invokevirtual 239, 3) := by decide +kernel
theorem dX8_digest_290 : decode cX8_digest 290 = .ok (.ladd, 1) := by decide +kernel
theorem dX8_digest_291 : decode cX8_digest 291 = .ok (.lstore_n 1, 1) := by decide +kernel
theorem dX8_digest_292 : decode cX8_digest 292 = .ok (.iinc 3 1, 3) := by decide +kernel
theorem dX8_digest_295 : decode cX8_digest 295 = .ok (.goto (-32), 3) := by decide +kernel
theorem dX8_digest_298 : decode cX8_digest 298 = .ok (.iconst 0, 1) := by decide +kernel
theorem dX8_digest_299 : decode cX8_digest 299 = .ok (.istore_n 3, 1) := by decide +kernel
theorem dX8_digest_300 : decode cX8_digest 300 = .ok (.iload_n 3, 1) := by decide +kernel
theorem dX8_digest_301 : decode cX8_digest 301 = .ok (.iconst 2, 1) := by decide +kernel
theorem dX8_digest_302 : decode cX8_digest 302 = .ok (.if_icmp .ge 21, 3) := by decide +kernel
theorem dX8_digest_305 : decode cX8_digest 305 = .ok (.ldc2_w 355, 3) := by decide +kernel
theorem dX8_digest_308 : decode cX8_digest 308 = .ok (.lload_n 1, 1) := by decide +kernel
theorem dX8_digest_309 : decode cX8_digest 309 = .ok (.lmul, 1) := by decide +kernel
theorem dX8_digest_310 : decode cX8_digest 310 = .ok (.aload_n 0, 1) := by decide +kernel
theorem dX8_digest_311 : decode cX8_digest 311 = .ok (.iload_n 3, 1) := by decide +kernel
theorem dX8_digest_312 : decode cX8_digest 312 = .ok (.invokevirtual 284, 3) := by decide +kernel
theorem dX8_digest_315 : decode cX8_digest 315 = .ok (.ladd, 1) := by decide +kernel
theorem dX8_digest_316 : decode cX8_digest 316 = .ok (.lstore_n 1, 1) := by decide +kernel
theorem dX8_digest_317 : decode cX8_digest 317 = .ok (.iinc 3 1, 3) := by decide +kernel
theorem dX8_digest_320 : decode cX8_digest 320 = .ok (.goto (-20), 3) := by decide +kernel
theorem dX8_digest_323 : decode cX8_digest 323 = .ok (.ldc2_w 355, 3) := by decide +kernel
theorem dX8_digest_326 : decode cX8_digest 326 = .ok (.lload_n 1, 1) := by decide +kernel
theorem dX8_digest_327 : decode cX8_digest 327 = .ok (.lmul, 1) := by decide +kernel
theorem dX8_digest_328 : decode cX8_digest 328 = .ok (.aload_n 0, 1) := by decide +kernel
theorem dX8_digest_329 : decode cX8_digest 329 = .ok (.invokevirtual 318, 3) := by decide +kernel
theorem dX8_digest_332 : decode cX8_digest 332 = .ok (.i2l, 1) := by decide +kernel
theorem dX8_digest_333 : decode cX8_digest 333 = .ok (.ladd, 1) := by decide +kernel
theorem dX8_digest_334 : decode cX8_digest 334 = .ok (.lstore_n 1, 1) := by decide +kernel
theorem dX8_digest_335 : decode cX8_digest 335 = .ok (.ldc2_w 355, 3) := by decide +kernel
theorem dX8_digest_338 : decode cX8_digest 338 = .ok (.lload_n 1, 1) := by decide +kernel
theorem dX8_digest_339 : decode cX8_digest 339 = .ok (.lmul, 1) := by decide +kernel
theorem dX8_digest_340 : decode cX8_digest 340 = .ok (.aload_n 0, 1) := by decide +kernel
theorem dX8_digest_341 : decode cX8_digest 341 = .ok (.invokevirtual 321, 3) := by decide +kernel
theorem dX8_digest_344 : decode cX8_digest 344 = .ok (.i2l, 1) := by decide +kernel
theorem dX8_digest_345 : decode cX8_digest 345 = .ok (.ladd, 1) := by decide +kernel
theorem dX8_digest_346 : decode cX8_digest 346 = .ok (.lstore_n 1, 1) := by decide +kernel
theorem dX8_digest_347 : decode cX8_digest 347 = .ok (.ldc2_w 355, 3) := by decide +kernel
theorem dX8_digest_350 : decode cX8_digest 350 = .ok (.lload_n 1, 1) := by decide +kernel
theorem dX8_digest_351 : decode cX8_digest 351 = .ok (.lmul, 1) := by decide +kernel
theorem dX8_digest_352 : decode cX8_digest 352 = .ok (.aload_n 0, 1) := by decide +kernel
theorem dX8_digest_353 : decode cX8_digest 353 = .ok (.iconst 0, 1) := by decide +kernel
theorem dX8_digest_354 : decode cX8_digest 354 = .ok (.invokevirtual 330, 3) := by decide +kernel
theorem dX8_digest_357 : decode cX8_digest 357 = .ok (.i2l, 1) := by decide +kernel
theorem dX8_digest_358 : decode cX8_digest 358 = .ok (.ladd, 1) := by decide +kernel
theorem dX8_digest_359 : decode cX8_digest 359 = .ok (.lstore_n 1, 1) := by decide +kernel
theorem dX8_digest_360 : decode cX8_digest 360 = .ok (.ldc2_w 355, 3) := by decide +kernel
theorem dX8_digest_363 : decode cX8_digest 363 = .ok (.lload_n 1, 1) := by decide +kernel
theorem dX8_digest_364 : decode cX8_digest 364 = .ok (.lmul, 1) := by decide +kernel
theorem dX8_digest_365 : decode cX8_digest 365 = .ok (.aload_n 0, 1) := by decide +kernel
theorem dX8_digest_366 : decode cX8_digest 366 = .ok (.iconst 1, 1) := by decide +kernel
theorem dX8_digest_367 : decode cX8_digest 367 = .ok (.invokevirtual 330, 3) := by decide +kernel
theorem dX8_digest_370 : decode cX8_digest 370 = .ok (.i2l, 1) := by decide +kernel
theorem dX8_digest_371 : decode cX8_digest 371 = .ok (.ladd, 1) := by decide +kernel
theorem dX8_digest_372 : decode cX8_digest 372 = .ok (.lstore_n 1, 1) := by decide +kernel
theorem dX8_digest_373 : decode cX8_digest 373 = .ok (.ldc2_w 355, 3) := by decide +kernel
theorem dX8_digest_376 : decode cX8_digest 376 = .ok (.lload_n 1, 1) := by decide +kernel
theorem dX8_digest_377 : decode cX8_digest 377 = .ok (.lmul, 1) := by decide +kernel
theorem dX8_digest_378 : decode cX8_digest 378 = .ok (.aload_n 0, 1) := by decide +kernel
theorem dX8_digest_379 : decode cX8_digest 379 = .ok (.bipush 7, 2) := by decide +kernel
theorem dX8_digest_381 : decode cX8_digest 381 = .ok (.iconst (-1), 1) := by decide +kernel
theorem dX8_digest_382 : decode cX8_digest 382 = .ok (.invokevirtual 350, 3) := by decide +kernel
theorem dX8_digest_385 : decode cX8_digest 385 = .ok (.i2l, 1) := by decide +kernel
theorem dX8_digest_386 : decode cX8_digest 386 = .ok (.ladd, 1) := by decide +kernel
theorem dX8_digest_387 : decode cX8_digest 387 = .ok (.lstore_n 1, 1) := by decide +kernel
theorem dX8_digest_388 : decode cX8_digest 388 = .ok (.iconst 0, 1) := by decide +kernel
theorem dX8_digest_389 : decode cX8_digest 389 = .ok (.istore_n 3, 1) := by decide +kernel
theorem dX8_digest_390 : decode cX8_digest 390 = .ok (.iload_n 3, 1) := by decide +kernel
theorem dX8_digest_391 : decode cX8_digest 391 = .ok (.iconst 2, 1) := by decide +kernel
theorem dX8_digest_392 : decode cX8_digest 392 = .ok (.if_icmp .ge 22, 3) := by decide +kernel
theorem dX8_digest_395 : decode cX8_digest 395 = .ok (.ldc2_w 355, 3) := by decide +kernel
theorem dX8_digest_398 : decode cX8_digest 398 = .ok (.lload_n 1, 1) := by decide +kernel
theorem dX8_digest_399 : decode cX8_digest 399 = .ok (.lmul, 1) := by decide +kernel
theorem dX8_digest_400 : decode cX8_digest 400 = .ok (.iconst 5, 1) := by decide +kernel
theorem dX8_digest_401 : decode cX8_digest 401 = .ok (.iconst 2, 1) := by decide +kernel
theorem dX8_digest_402 : decode cX8_digest 402 = .ok (.iload_n 3, 1) := by decide +kernel
theorem dX8_digest_403 : decode cX8_digest 403 = .ok (.invokestatic 337, 3) := by decide +kernel
theorem dX8_digest_406 : decode cX8_digest 406 = .ok (.ladd, 1) := by decide +kernel
theorem dX8_digest_407 : decode cX8_digest 407 = .ok (.lstore_n 1, 1) := by decide +kernel
theorem dX8_digest_408 : decode cX8_digest 408 = .ok (.iinc 3 1, 3) := by decide +kernel
theorem dX8_digest_411 : decode cX8_digest 411 = .ok (.goto (-21), 3) := by decide +kernel
theorem dX8_digest_414 : decode cX8_digest 414 = .ok (.lload_n 1, 1) := by decide +kernel
theorem dX8_digest_415 : decode cX8_digest 415 = .ok (.lreturn, 1) := by decide +kernel
theorem dL_law_0 : decode cL_law 0 = .ok (.new 7, 3) := by decide +kernel
theorem dL_law_3 : decode cL_law 3 = .ok (.dup, 1) := by decide +kernel
theorem dL_law_4 : decode cL_law 4 = .ok (.invokespecial 9, 3) := by decide +kernel
theorem dL_law_7 : decode cL_law 7 = .ok (.astore_n 1, 1) := by decide +kernel
theorem dL_law_8 : decode cL_law 8 = .ok (.new 10, 3) := by decide +kernel
theorem dL_law_11 : decode cL_law 11 = .ok (.dup, 1) := by decide +kernel
theorem dL_law_12 : decode cL_law 12 = .ok (.invokespecial 12, 3) := by decide +kernel
theorem dL_law_15 : decode cL_law 15 = .ok (.astore_n 2, 1) := by decide +kernel
theorem dL_law_16 : decode cL_law 16 = .ok (.iconst 0, 1) := by decide +kernel
theorem dL_law_17 : decode cL_law 17 = .ok (.istore_n 3, 1) := by decide +kernel
theorem dL_law_18 : decode cL_law 18 = .ok (.iload_n 3, 1) := by decide +kernel
theorem dL_law_19 : decode cL_law 19 = .ok (.aload_n 0, 1) := by decide +kernel
theorem dL_law_20 : decode cL_law 20 = .ok (.arraylength, 1) := by decide +kernel
theorem dL_law_21 : decode cL_law 21 = .ok (.bipush 6, 2) := by decide +kernel
theorem dL_law_23 : decode cL_law 23 = .ok (.isub, 1) := by decide +kernel
theorem dL_law_24 : decode cL_law 24 = .ok (.if_icmp .gt 1144, 3) := by decide +kernel
theorem dL_law_27 : decode cL_law 27 = .ok (.aload_n 0, 1) := by decide +kernel
theorem dL_law_28 : decode cL_law 28 = .ok (.iload_n 3, 1) := by decide +kernel
theorem dL_law_29 : decode cL_law 29 = .ok (.iaload, 1) := by decide +kernel
theorem dL_law_30 : decode cL_law 30 = .ok (.bipush 31, 2) := by decide +kernel
theorem dL_law_32 : decode cL_law 32 = .ok (.iand, 1) := by decide +kernel
theorem dL_law_33 : decode cL_law 33 = .ok (.tableswitch 1129 0 31 #[143, 176, 199, 222, 255, 288, 332, 376, 410, 444, 468, 491, 525, 548, 572, 605, 638, 661, 674, 687, 721, 734, 757, 801, 834, 877, 900, 953, 996, 1059, 1092, 1115], 143) := by decide +kernel
theorem dL_law_176 : decode cL_law 176 = .ok (.aload_n 1, 1) := by decide +kernel
theorem dL_law_177 : decode cL_law 177 = .ok (.aload_n 0, 1) := by decide +kernel
theorem dL_law_178 : decode cL_law 178 = .ok (.iload_n 3, 1) := by decide +kernel
theorem dL_law_179 : decode cL_law 179 = .ok (.iconst 1, 1) := by decide +kernel
theorem dL_law_180 : decode cL_law 180 = .ok (.iadd, 1) := by decide +kernel
theorem dL_law_181 : decode cL_law 181 = .ok (.iaload, 1) := by decide +kernel
theorem dL_law_182 : decode cL_law 182 = .ok (.aload_n 0, 1) := by decide +kernel
theorem dL_law_183 : decode cL_law 183 = .ok (.iload_n 3, 1) := by decide +kernel
theorem dL_law_184 : decode cL_law 184 = .ok (.iconst 2, 1) := by decide +kernel
theorem dL_law_185 : decode cL_law 185 = .ok (.iadd, 1) := by decide +kernel
theorem dL_law_186 : decode cL_law 186 = .ok (.iaload, 1) := by decide +kernel
theorem dL_law_187 : decode cL_law 187 = .ok (.invokevirtual 13, 3) := by decide +kernel
theorem dL_law_190 : decode cL_law 190 = .ok (.aload_n 2, 1) := by decide +kernel
theorem dL_law_191 : decode cL_law 191 = .ok (.aload_n 0, 1) := by decide +kernel
theorem dL_law_192 : decode cL_law 192 = .ok (.iload_n 3, 1) := by decide +kernel
theorem dL_law_193 : decode cL_law 193 = .ok (.iconst 1, 1) := by decide +kernel
theorem dL_law_194 : decode cL_law 194 = .ok (.iadd, 1) := by decide +kernel
theorem dL_law_195 : decode cL_law 195 = .ok (.iaload, 1) := by decide +kernel
theorem dL_law_196 : decode cL_law 196 = .ok (.aload_n 0, 1) := by decide +kernel
theorem dL_law_197 : decode cL_law 197 = .ok (.iload_n 3, 1) := by decide +kernel
theorem dL_law_198 : decode cL_law 198 = .ok (.iconst 2, 1) := by decide +kernel
theorem dL_law_199 : decode cL_law 199 = .ok (.iadd, 1) := by decide +kernel
theorem dL_law_200 : decode cL_law 200 = .ok (.iaload, 1) := by decide +kernel
theorem dL_law_201 : decode cL_law 201 = .ok (.invokevirtual 17, 3) := by decide +kernel
theorem dL_law_204 : decode cL_law 204 = .ok (.if_icmp .eq 958, 3) := by decide +kernel
theorem dL_law_207 : decode cL_law 207 = .ok (.iconst 0, 1) := by decide +kernel
theorem dL_law_208 : decode cL_law 208 = .ok (.ireturn, 1) := by decide +kernel
theorem dL_law_209 : decode cL_law 209 = .ok (.aload_n 1, 1) := by decide +kernel
theorem dL_law_210 : decode cL_law 210 = .ok (.aload_n 0, 1) := by decide +kernel
theorem dL_law_211 : decode cL_law 211 = .ok (.iload_n 3, 1) := by decide +kernel
theorem dL_law_212 : decode cL_law 212 = .ok (.iconst 1, 1) := by decide +kernel
theorem dL_law_213 : decode cL_law 213 = .ok (.iadd, 1) := by decide +kernel
theorem dL_law_214 : decode cL_law 214 = .ok (.iaload, 1) := by decide +kernel
theorem dL_law_215 : decode cL_law 215 = .ok (.invokevirtual 18, 3) := by decide +kernel
theorem dL_law_218 : decode cL_law 218 = .ok (.aload_n 2, 1) := by decide +kernel
theorem dL_law_219 : decode cL_law 219 = .ok (.aload_n 0, 1) := by decide +kernel
theorem dL_law_220 : decode cL_law 220 = .ok (.iload_n 3, 1) := by decide +kernel
theorem dL_law_221 : decode cL_law 221 = .ok (.iconst 1, 1) := by decide +kernel
theorem dL_law_222 : decode cL_law 222 = .ok (.iadd, 1) := by decide +kernel
theorem dL_law_223 : decode cL_law 223 = .ok (.iaload, 1) := by decide +kernel
theorem dL_law_224 : decode cL_law 224 = .ok (.invokevirtual 22, 3) := by decide +kernel
theorem dL_law_227 : decode cL_law 227 = .ok (.if_icmp .eq 935, 3) := by decide +kernel
theorem dL_law_230 : decode cL_law 230 = .ok (.iconst 0, 1) := by decide +kernel
theorem dL_law_231 : decode cL_law 231 = .ok (.ireturn, 1) := by decide +kernel
theorem dL_law_232 : decode cL_law 232 = .ok (.aload_n 1, 1) := by decide +kernel
theorem dL_law_233 : decode cL_law 233 = .ok (.aload_n 0, 1) := by decide +kernel
theorem dL_law_234 : decode cL_law 234 = .ok (.iload_n 3, 1) := by decide +kernel
theorem dL_law_235 : decode cL_law 235 = .ok (.iconst 1, 1) := by decide +kernel
theorem dL_law_236 : decode cL_law 236 = .ok (.iadd, 1) := by decide +kernel
theorem dL_law_237 : decode cL_law 237 = .ok (.iaload, 1) := by decide +kernel
theorem dL_law_238 : decode cL_law 238 = .ok (.invokevirtual 23, 3) := by decide +kernel
theorem dL_law_241 : decode cL_law 241 = .ok (.aload_n 2, 1) := by decide +kernel
theorem dL_law_242 : decode cL_law 242 = .ok (.aload_n 0, 1) := by decide +kernel
theorem dL_law_243 : decode cL_law 243 = .ok (.iload_n 3, 1) := by decide +kernel
theorem dL_law_244 : decode cL_law 244 = .ok (.iconst 1, 1) := by decide +kernel
theorem dL_law_245 : decode cL_law 245 = .ok (.iadd, 1) := by decide +kernel
theorem dL_law_246 : decode cL_law 246 = .ok (.iaload, 1) := by decide +kernel
theorem dL_law_247 : decode cL_law 247 = .ok (.invokevirtual 26, 3) := by decide +kernel
theorem dL_law_250 : decode cL_law 250 = .ok (.if_icmp .eq 912, 3) := by decide +kernel
theorem dL_law_253 : decode cL_law 253 = .ok (.iconst 0, 1) := by decide +kernel
theorem dL_law_254 : decode cL_law 254 = .ok (.ireturn, 1) := by decide +kernel
theorem dL_law_255 : decode cL_law 255 = .ok (.aload_n 1, 1) := by decide +kernel
theorem dL_law_256 : decode cL_law 256 = .ok (.aload_n 0, 1) := by decide +kernel
theorem dL_law_257 : decode cL_law 257 = .ok (.iload_n 3, 1) := by decide +kernel
theorem dL_law_258 : decode cL_law 258 = .ok (.iconst 1, 1) := by decide +kernel
theorem dL_law_259 : decode cL_law 259 = .ok (.iadd, 1) := by decide +kernel
theorem dL_law_260 : decode cL_law 260 = .ok (.iaload, 1) := by decide +kernel
theorem dL_law_261 : decode cL_law 261 = .ok (.aload_n 0, 1) := by decide +kernel
theorem dL_law_262 : decode cL_law 262 = .ok (.iload_n 3, 1) := by decide +kernel
theorem dL_law_263 : decode cL_law 263 = .ok (.iconst 2, 1) := by decide +kernel
theorem dL_law_264 : decode cL_law 264 = .ok (.iadd, 1) := by decide +kernel
theorem dL_law_265 : decode cL_law 265 = .ok (.iaload, 1) := by decide +kernel
theorem dL_law_266 : decode cL_law 266 = .ok (.invokevirtual 27, 3) := by decide +kernel
theorem dL_law_269 : decode cL_law 269 = .ok (.aload_n 2, 1) := by decide +kernel
theorem dL_law_270 : decode cL_law 270 = .ok (.aload_n 0, 1) := by decide +kernel
theorem dL_law_271 : decode cL_law 271 = .ok (.iload_n 3, 1) := by decide +kernel
theorem dL_law_272 : decode cL_law 272 = .ok (.iconst 1, 1) := by decide +kernel
theorem dL_law_273 : decode cL_law 273 = .ok (.iadd, 1) := by decide +kernel
theorem dL_law_274 : decode cL_law 274 = .ok (.iaload, 1) := by decide +kernel
theorem dL_law_275 : decode cL_law 275 = .ok (.aload_n 0, 1) := by decide +kernel
theorem dL_law_276 : decode cL_law 276 = .ok (.iload_n 3, 1) := by decide +kernel
theorem dL_law_277 : decode cL_law 277 = .ok (.iconst 2, 1) := by decide +kernel
theorem dL_law_278 : decode cL_law 278 = .ok (.iadd, 1) := by decide +kernel
theorem dL_law_279 : decode cL_law 279 = .ok (.iaload, 1) := by decide +kernel
theorem dL_law_280 : decode cL_law 280 = .ok (.invokevirtual 30, 3) := by decide +kernel
theorem dL_law_283 : decode cL_law 283 = .ok (.if_icmp .eq 879, 3) := by decide +kernel
theorem dL_law_286 : decode cL_law 286 = .ok (.iconst 0, 1) := by decide +kernel
theorem dL_law_287 : decode cL_law 287 = .ok (.ireturn, 1) := by decide +kernel
theorem dL_law_288 : decode cL_law 288 = .ok (.aload_n 1, 1) := by decide +kernel
theorem dL_law_289 : decode cL_law 289 = .ok (.aload_n 0, 1) := by decide +kernel
theorem dL_law_290 : decode cL_law 290 = .ok (.iload_n 3, 1) := by decide +kernel
theorem dL_law_291 : decode cL_law 291 = .ok (.iconst 1, 1) := by decide +kernel
theorem dL_law_292 : decode cL_law 292 = .ok (.iadd, 1) := by decide +kernel
theorem dL_law_293 : decode cL_law 293 = .ok (.iaload, 1) := by decide +kernel
theorem dL_law_294 : decode cL_law 294 = .ok (.aload_n 0, 1) := by decide +kernel
theorem dL_law_295 : decode cL_law 295 = .ok (.iload_n 3, 1) := by decide +kernel
theorem dL_law_296 : decode cL_law 296 = .ok (.iconst 2, 1) := by decide +kernel
theorem dL_law_297 : decode cL_law 297 = .ok (.iadd, 1) := by decide +kernel
theorem dL_law_298 : decode cL_law 298 = .ok (.iaload, 1) := by decide +kernel
theorem dL_law_299 : decode cL_law 299 = .ok (.invokevirtual 31, 3) := by decide +kernel
theorem dL_law_302 : decode cL_law 302 = .ok (.aload_n 2, 1) := by decide +kernel
theorem dL_law_303 : decode cL_law 303 = .ok (.aload_n 0, 1) := by decide +kernel
theorem dL_law_304 : decode cL_law 304 = .ok (.iload_n 3, 1) := by decide +kernel
theorem dL_law_305 : decode cL_law 305 = .ok (.iconst 1, 1) := by decide +kernel
theorem dL_law_306 : decode cL_law 306 = .ok (.iadd, 1) := by decide +kernel
theorem dL_law_307 : decode cL_law 307 = .ok (.iaload, 1) := by decide +kernel
theorem dL_law_308 : decode cL_law 308 = .ok (.aload_n 0, 1) := by decide +kernel
theorem dL_law_309 : decode cL_law 309 = .ok (.iload_n 3, 1) := by decide +kernel
theorem dL_law_310 : decode cL_law 310 = .ok (.iconst 2, 1) := by decide +kernel
theorem dL_law_311 : decode cL_law 311 = .ok (.iadd, 1) := by decide +kernel
theorem dL_law_312 : decode cL_law 312 = .ok (.iaload, 1) := by decide +kernel
theorem dL_law_313 : decode cL_law 313 = .ok (.invokevirtual 34, 3) := by decide +kernel
theorem dL_law_316 : decode cL_law 316 = .ok (.if_icmp .eq 846, 3) := by decide +kernel
theorem dL_law_319 : decode cL_law 319 = .ok (.iconst 0, 1) := by decide +kernel
theorem dL_law_320 : decode cL_law 320 = .ok (.ireturn, 1) := by decide +kernel
theorem dL_law_321 : decode cL_law 321 = .ok (.aload_n 1, 1) := by decide +kernel
theorem dL_law_322 : decode cL_law 322 = .ok (.aload_n 0, 1) := by decide +kernel
theorem dL_law_323 : decode cL_law 323 = .ok (.iload_n 3, 1) := by decide +kernel
theorem dL_law_324 : decode cL_law 324 = .ok (.iconst 1, 1) := by decide +kernel
theorem dL_law_325 : decode cL_law 325 = .ok (.iadd, 1) := by decide +kernel
theorem dL_law_326 : decode cL_law 326 = .ok (.iaload, 1) := by decide +kernel
theorem dL_law_327 : decode cL_law 327 = .ok (.aload_n 0, 1) := by decide +kernel
theorem dL_law_328 : decode cL_law 328 = .ok (.iload_n 3, 1) := by decide +kernel
theorem dL_law_329 : decode cL_law 329 = .ok (.iconst 2, 1) := by decide +kernel
theorem dL_law_330 : decode cL_law 330 = .ok (.iadd, 1) := by decide +kernel
theorem dL_law_331 : decode cL_law 331 = .ok (.iaload, 1) := by decide +kernel
theorem dL_law_332 : decode cL_law 332 = .ok (.aload_n 0, 1) := by decide +kernel
theorem dL_law_333 : decode cL_law 333 = .ok (.iload_n 3, 1) := by decide +kernel
theorem dL_law_334 : decode cL_law 334 = .ok (.iconst 3, 1) := by decide +kernel
theorem dL_law_335 : decode cL_law 335 = .ok (.iadd, 1) := by decide +kernel
theorem dL_law_336 : decode cL_law 336 = .ok (.iaload, 1) := by decide +kernel
theorem dL_law_337 : decode cL_law 337 = .ok (.invokevirtual 35, 3) := by decide +kernel
theorem dL_law_340 : decode cL_law 340 = .ok (.aload_n 2, 1) := by decide +kernel
theorem dL_law_341 : decode cL_law 341 = .ok (.aload_n 0, 1) := by decide +kernel
theorem dL_law_342 : decode cL_law 342 = .ok (.iload_n 3, 1) := by decide +kernel
theorem dL_law_343 : decode cL_law 343 = .ok (.iconst 1, 1) := by decide +kernel
theorem dL_law_344 : decode cL_law 344 = .ok (.iadd, 1) := by decide +kernel
theorem dL_law_345 : decode cL_law 345 = .ok (.iaload, 1) := by decide +kernel
theorem dL_law_346 : decode cL_law 346 = .ok (.aload_n 0, 1) := by decide +kernel
theorem dL_law_347 : decode cL_law 347 = .ok (.iload_n 3, 1) := by decide +kernel
theorem dL_law_348 : decode cL_law 348 = .ok (.iconst 2, 1) := by decide +kernel
theorem dL_law_349 : decode cL_law 349 = .ok (.iadd, 1) := by decide +kernel
theorem dL_law_350 : decode cL_law 350 = .ok (.iaload, 1) := by decide +kernel
theorem dL_law_351 : decode cL_law 351 = .ok (.aload_n 0, 1) := by decide +kernel
theorem dL_law_352 : decode cL_law 352 = .ok (.iload_n 3, 1) := by decide +kernel
theorem dL_law_353 : decode cL_law 353 = .ok (.iconst 3, 1) := by decide +kernel
theorem dL_law_354 : decode cL_law 354 = .ok (.iadd, 1) := by decide +kernel
theorem dL_law_355 : decode cL_law 355 = .ok (.iaload, 1) := by decide +kernel
theorem dL_law_356 : decode cL_law 356 = .ok (.invokevirtual 39, 3) := by decide +kernel
theorem dL_law_359 : decode cL_law 359 = .ok (.lcmp, 1) := by decide +kernel
theorem dL_law_360 : decode cL_law 360 = .ok (.ifCond .eq 802, 3) := by decide +kernel
theorem dL_law_363 : decode cL_law 363 = .ok (.iconst 0, 1) := by decide +kernel
theorem dL_law_364 : decode cL_law 364 = .ok (.ireturn, 1) := by decide +kernel
theorem dL_law_365 : decode cL_law 365 = .ok (.aload_n 1, 1) := by decide +kernel
theorem dL_law_366 : decode cL_law 366 = .ok (.aload_n 0, 1) := by decide +kernel
theorem dL_law_367 : decode cL_law 367 = .ok (.iload_n 3, 1) := by decide +kernel
theorem dL_law_368 : decode cL_law 368 = .ok (.iconst 1, 1) := by decide +kernel
theorem dL_law_369 : decode cL_law 369 = .ok (.iadd, 1) := by decide +kernel
theorem dL_law_370 : decode cL_law 370 = .ok (.iaload, 1) := by decide +kernel
theorem dL_law_371 : decode cL_law 371 = .ok (.aload_n 0, 1) := by decide +kernel
theorem dL_law_372 : decode cL_law 372 = .ok (.iload_n 3, 1) := by decide +kernel
theorem dL_law_373 : decode cL_law 373 = .ok (.iconst 2, 1) := by decide +kernel
theorem dL_law_374 : decode cL_law 374 = .ok (.iadd, 1) := by decide +kernel
theorem dL_law_375 : decode cL_law 375 = .ok (.iaload, 1) := by decide +kernel
theorem dL_law_376 : decode cL_law 376 = .ok (.aload_n 0, 1) := by decide +kernel
theorem dL_law_377 : decode cL_law 377 = .ok (.iload_n 3, 1) := by decide +kernel
theorem dL_law_378 : decode cL_law 378 = .ok (.iconst 3, 1) := by decide +kernel
theorem dL_law_379 : decode cL_law 379 = .ok (.iadd, 1) := by decide +kernel
theorem dL_law_380 : decode cL_law 380 = .ok (.iaload, 1) := by decide +kernel
theorem dL_law_381 : decode cL_law 381 = .ok (.invokevirtual 40, 3) := by decide +kernel
theorem dL_law_384 : decode cL_law 384 = .ok (.aload_n 2, 1) := by decide +kernel
theorem dL_law_385 : decode cL_law 385 = .ok (.aload_n 0, 1) := by decide +kernel
theorem dL_law_386 : decode cL_law 386 = .ok (.iload_n 3, 1) := by decide +kernel
theorem dL_law_387 : decode cL_law 387 = .ok (.iconst 1, 1) := by decide +kernel
theorem dL_law_388 : decode cL_law 388 = .ok (.iadd, 1) := by decide +kernel
theorem dL_law_389 : decode cL_law 389 = .ok (.iaload, 1) := by decide +kernel
theorem dL_law_390 : decode cL_law 390 = .ok (.aload_n 0, 1) := by decide +kernel
theorem dL_law_391 : decode cL_law 391 = .ok (.iload_n 3, 1) := by decide +kernel
theorem dL_law_392 : decode cL_law 392 = .ok (.iconst 2, 1) := by decide +kernel
theorem dL_law_393 : decode cL_law 393 = .ok (.iadd, 1) := by decide +kernel
theorem dL_law_394 : decode cL_law 394 = .ok (.iaload, 1) := by decide +kernel
theorem dL_law_395 : decode cL_law 395 = .ok (.aload_n 0, 1) := by decide +kernel
theorem dL_law_396 : decode cL_law 396 = .ok (.iload_n 3, 1) := by decide +kernel
theorem dL_law_397 : decode cL_law 397 = .ok (.iconst 3, 1) := by decide +kernel
theorem dL_law_398 : decode cL_law 398 = .ok (.iadd, 1) := by decide +kernel
theorem dL_law_399 : decode cL_law 399 = .ok (.iaload, 1) := by decide +kernel
theorem dL_law_400 : decode cL_law 400 = .ok (.invokevirtual 43, 3) := by decide +kernel
theorem dL_law_403 : decode cL_law 403 = .ok (.lcmp, 1) := by decide +kernel
theorem dL_law_404 : decode cL_law 404 = .ok (.ifCond .eq 758, 3) := by decide +kernel
theorem dL_law_407 : decode cL_law 407 = .ok (.iconst 0, 1) := by decide +kernel
theorem dL_law_408 : decode cL_law 408 = .ok (.ireturn, 1) := by decide +kernel
theorem dL_law_409 : decode cL_law 409 = .ok (.aload_n 1, 1) := by decide +kernel
theorem dL_law_410 : decode cL_law 410 = .ok (.aload_n 0, 1) := by decide +kernel
theorem dL_law_411 : decode cL_law 411 = .ok (.iload_n 3, 1) := by decide +kernel
theorem dL_law_412 : decode cL_law 412 = .ok (.iconst 1, 1) := by decide +kernel
theorem dL_law_413 : decode cL_law 413 = .ok (.iadd, 1) := by decide +kernel
theorem dL_law_414 : decode cL_law 414 = .ok (.iaload, 1) := by decide +kernel
theorem dL_law_415 : decode cL_law 415 = .ok (.aload_n 0, 1) := by decide +kernel
theorem dL_law_416 : decode cL_law 416 = .ok (.iload_n 3, 1) := by decide +kernel
theorem dL_law_417 : decode cL_law 417 = .ok (.iconst 2, 1) := by decide +kernel
theorem dL_law_418 : decode cL_law 418 = .ok (.iadd, 1) := by decide +kernel
theorem dL_law_419 : decode cL_law 419 = .ok (.iaload, 1) := by decide +kernel
theorem dL_law_420 : decode cL_law 420 = .ok (.invokevirtual 44, 3) := by decide +kernel
theorem dL_law_423 : decode cL_law 423 = .ok (.aload_n 2, 1) := by decide +kernel
theorem dL_law_424 : decode cL_law 424 = .ok (.aload_n 0, 1) := by decide +kernel
theorem dL_law_425 : decode cL_law 425 = .ok (.iload_n 3, 1) := by decide +kernel
theorem dL_law_426 : decode cL_law 426 = .ok (.iconst 1, 1) := by decide +kernel
theorem dL_law_427 : decode cL_law 427 = .ok (.iadd, 1) := by decide +kernel
theorem dL_law_428 : decode cL_law 428 = .ok (.iaload, 1) := by decide +kernel
theorem dL_law_429 : decode cL_law 429 = .ok (.aload_n 0, 1) := by decide +kernel
theorem dL_law_430 : decode cL_law 430 = .ok (.iload_n 3, 1) := by decide +kernel
theorem dL_law_431 : decode cL_law 431 = .ok (.iconst 2, 1) := by decide +kernel
theorem dL_law_432 : decode cL_law 432 = .ok (.iadd, 1) := by decide +kernel
theorem dL_law_433 : decode cL_law 433 = .ok (.iaload, 1) := by decide +kernel
theorem dL_law_434 : decode cL_law 434 = .ok (.invokevirtual 48, 3) := by decide +kernel
theorem dL_law_437 : decode cL_law 437 = .ok (.lcmp, 1) := by decide +kernel
theorem dL_law_438 : decode cL_law 438 = .ok (.ifCond .eq 724, 3) := by decide +kernel
theorem dL_law_441 : decode cL_law 441 = .ok (.iconst 0, 1) := by decide +kernel
theorem dL_law_442 : decode cL_law 442 = .ok (.ireturn, 1) := by decide +kernel
theorem dL_law_443 : decode cL_law 443 = .ok (.aload_n 1, 1) := by decide +kernel
theorem dL_law_444 : decode cL_law 444 = .ok (.aload_n 0, 1) := by decide +kernel
theorem dL_law_445 : decode cL_law 445 = .ok (.iload_n 3, 1) := by decide +kernel
theorem dL_law_446 : decode cL_law 446 = .ok (.iconst 1, 1) := by decide +kernel
theorem dL_law_447 : decode cL_law 447 = .ok (.iadd, 1) := by decide +kernel
theorem dL_law_448 : decode cL_law 448 = .ok (.iaload, 1) := by decide +kernel
theorem dL_law_449 : decode cL_law 449 = .ok (.aload_n 0, 1) := by decide +kernel
theorem dL_law_450 : decode cL_law 450 = .ok (.iload_n 3, 1) := by decide +kernel
theorem dL_law_451 : decode cL_law 451 = .ok (.iconst 2, 1) := by decide +kernel
theorem dL_law_452 : decode cL_law 452 = .ok (.iadd, 1) := by decide +kernel
theorem dL_law_453 : decode cL_law 453 = .ok (.iaload, 1) := by decide +kernel
theorem dL_law_454 : decode cL_law 454 = .ok (.invokevirtual 49, 3) := by decide +kernel
theorem dL_law_457 : decode cL_law 457 = .ok (.aload_n 2, 1) := by decide +kernel
theorem dL_law_458 : decode cL_law 458 = .ok (.aload_n 0, 1) := by decide +kernel
theorem dL_law_459 : decode cL_law 459 = .ok (.iload_n 3, 1) := by decide +kernel
theorem dL_law_460 : decode cL_law 460 = .ok (.iconst 1, 1) := by decide +kernel
theorem dL_law_461 : decode cL_law 461 = .ok (.iadd, 1) := by decide +kernel
theorem dL_law_462 : decode cL_law 462 = .ok (.iaload, 1) := by decide +kernel
theorem dL_law_463 : decode cL_law 463 = .ok (.aload_n 0, 1) := by decide +kernel
theorem dL_law_464 : decode cL_law 464 = .ok (.iload_n 3, 1) := by decide +kernel
theorem dL_law_465 : decode cL_law 465 = .ok (.iconst 2, 1) := by decide +kernel
theorem dL_law_466 : decode cL_law 466 = .ok (.iadd, 1) := by decide +kernel
theorem dL_law_467 : decode cL_law 467 = .ok (.iaload, 1) := by decide +kernel
theorem dL_law_468 : decode cL_law 468 = .ok (.invokevirtual 52, 3) := by decide +kernel
theorem dL_law_471 : decode cL_law 471 = .ok (.lcmp, 1) := by decide +kernel
theorem dL_law_472 : decode cL_law 472 = .ok (.ifCond .eq 690, 3) := by decide +kernel
theorem dL_law_475 : decode cL_law 475 = .ok (.iconst 0, 1) := by decide +kernel
theorem dL_law_476 : decode cL_law 476 = .ok (.ireturn, 1) := by decide +kernel
theorem dL_law_477 : decode cL_law 477 = .ok (.aload_n 1, 1) := by decide +kernel
theorem dL_law_478 : decode cL_law 478 = .ok (.aload_n 0, 1) := by decide +kernel
theorem dL_law_479 : decode cL_law 479 = .ok (.iload_n 3, 1) := by decide +kernel
theorem dL_law_480 : decode cL_law 480 = .ok (.iconst 1, 1) := by decide +kernel
theorem dL_law_481 : decode cL_law 481 = .ok (.iadd, 1) := by decide +kernel
theorem dL_law_482 : decode cL_law 482 = .ok (.iaload, 1) := by decide +kernel
theorem dL_law_483 : decode cL_law 483 = .ok (.invokevirtual 53, 3) := by decide +kernel
theorem dL_law_486 : decode cL_law 486 = .ok (.aload_n 2, 1) := by decide +kernel
theorem dL_law_487 : decode cL_law 487 = .ok (.aload_n 0, 1) := by decide +kernel
theorem dL_law_488 : decode cL_law 488 = .ok (.iload_n 3, 1) := by decide +kernel
theorem dL_law_489 : decode cL_law 489 = .ok (.iconst 1, 1) := by decide +kernel
theorem dL_law_490 : decode cL_law 490 = .ok (.iadd, 1) := by decide +kernel
theorem dL_law_491 : decode cL_law 491 = .ok (.iaload, 1) := by decide +kernel
theorem dL_law_492 : decode cL_law 492 = .ok (.invokevirtual 57, 3) := by decide +kernel
theorem dL_law_495 : decode cL_law 495 = .ok (.lcmp, 1) := by decide +kernel
theorem dL_law_496 : decode cL_law 496 = .ok (.ifCond .eq 666, 3) := by decide +kernel
theorem dL_law_499 : decode cL_law 499 = .ok (.iconst 0, 1) := by decide +kernel
theorem dL_law_500 : decode cL_law 500 = .ok (.ireturn, 1) := by decide +kernel
theorem dL_law_501 : decode cL_law 501 = .ok (.aload_n 1, 1) := by decide +kernel
theorem dL_law_502 : decode cL_law 502 = .ok (.aload_n 0, 1) := by decide +kernel
theorem dL_law_503 : decode cL_law 503 = .ok (.iload_n 3, 1) := by decide +kernel
theorem dL_law_504 : decode cL_law 504 = .ok (.iconst 1, 1) := by decide +kernel
theorem dL_law_505 : decode cL_law 505 = .ok (.iadd, 1) := by decide +kernel
theorem dL_law_506 : decode cL_law 506 = .ok (.iaload, 1) := by decide +kernel
theorem dL_law_507 : decode cL_law 507 = .ok (.invokevirtual 58, 3) := by decide +kernel
theorem dL_law_510 : decode cL_law 510 = .ok (.aload_n 2, 1) := by decide +kernel
theorem dL_law_511 : decode cL_law 511 = .ok (.aload_n 0, 1) := by decide +kernel
theorem dL_law_512 : decode cL_law 512 = .ok (.iload_n 3, 1) := by decide +kernel
theorem dL_law_513 : decode cL_law 513 = .ok (.iconst 1, 1) := by decide +kernel
theorem dL_law_514 : decode cL_law 514 = .ok (.iadd, 1) := by decide +kernel
theorem dL_law_515 : decode cL_law 515 = .ok (.iaload, 1) := by decide +kernel
theorem dL_law_516 : decode cL_law 516 = .ok (.invokevirtual 61, 3) := by decide +kernel
theorem dL_law_519 : decode cL_law 519 = .ok (.if_icmp .eq 643, 3) := by decide +kernel
theorem dL_law_522 : decode cL_law 522 = .ok (.iconst 0, 1) := by decide +kernel
theorem dL_law_523 : decode cL_law 523 = .ok (.ireturn, 1) := by decide +kernel
theorem dL_law_524 : decode cL_law 524 = .ok (.aload_n 1, 1) := by decide +kernel
theorem dL_law_525 : decode cL_law 525 = .ok (.aload_n 0, 1) := by decide +kernel
theorem dL_law_526 : decode cL_law 526 = .ok (.iload_n 3, 1) := by decide +kernel
theorem dL_law_527 : decode cL_law 527 = .ok (.iconst 1, 1) := by decide +kernel
theorem dL_law_528 : decode cL_law 528 = .ok (.iadd, 1) := by decide +kernel
theorem dL_law_529 : decode cL_law 529 = .ok (.iaload, 1) := by decide +kernel
theorem dL_law_530 : decode cL_law 530 = .ok (.aload_n 0, 1) := by decide +kernel
theorem dL_law_531 : decode cL_law 531 = .ok (.iload_n 3, 1) := by decide +kernel
theorem dL_law_532 : decode cL_law 532 = .ok (.iconst 2, 1) := by decide +kernel
theorem dL_law_533 : decode cL_law 533 = .ok (.iadd, 1) := by decide +kernel
theorem dL_law_534 : decode cL_law 534 = .ok (.iaload, 1) := by decide +kernel
theorem dL_law_535 : decode cL_law 535 = .ok (.invokevirtual 62, 3) := by decide +kernel
theorem dL_law_538 : decode cL_law 538 = .ok (.aload_n 2, 1) := by decide +kernel
theorem dL_law_539 : decode cL_law 539 = .ok (.aload_n 0, 1) := by decide +kernel
theorem dL_law_540 : decode cL_law 540 = .ok (.iload_n 3, 1) := by decide +kernel
theorem dL_law_541 : decode cL_law 541 = .ok (.iconst 1, 1) := by decide +kernel
theorem dL_law_542 : decode cL_law 542 = .ok (.iadd, 1) := by decide +kernel
theorem dL_law_543 : decode cL_law 543 = .ok (.iaload, 1) := by decide +kernel
theorem dL_law_544 : decode cL_law 544 = .ok (.aload_n 0, 1) := by decide +kernel
theorem dL_law_545 : decode cL_law 545 = .ok (.iload_n 3, 1) := by decide +kernel
theorem dL_law_546 : decode cL_law 546 = .ok (.iconst 2, 1) := by decide +kernel
theorem dL_law_547 : decode cL_law 547 = .ok (.iadd, 1) := by decide +kernel
theorem dL_law_548 : decode cL_law 548 = .ok (.iaload, 1) := by decide +kernel
theorem dL_law_549 : decode cL_law 549 = .ok (.invokevirtual 65, 3) := by decide +kernel
theorem dL_law_552 : decode cL_law 552 = .ok (.lcmp, 1) := by decide +kernel
theorem dL_law_553 : decode cL_law 553 = .ok (.ifCond .eq 609, 3) := by decide +kernel
theorem dL_law_556 : decode cL_law 556 = .ok (.iconst 0, 1) := by decide +kernel
theorem dL_law_557 : decode cL_law 557 = .ok (.ireturn, 1) := by decide +kernel
theorem dL_law_558 : decode cL_law 558 = .ok (.aload_n 1, 1) := by decide +kernel
theorem dL_law_559 : decode cL_law 559 = .ok (.aload_n 0, 1) := by decide +kernel
theorem dL_law_560 : decode cL_law 560 = .ok (.iload_n 3, 1) := by decide +kernel
theorem dL_law_561 : decode cL_law 561 = .ok (.iconst 1, 1) := by decide +kernel
theorem dL_law_562 : decode cL_law 562 = .ok (.iadd, 1) := by decide +kernel
theorem dL_law_563 : decode cL_law 563 = .ok (.iaload, 1) := by decide +kernel
theorem dL_law_564 : decode cL_law 564 = .ok (.invokevirtual 66, 3) := by decide +kernel
theorem dL_law_567 : decode cL_law 567 = .ok (.aload_n 2, 1) := by decide +kernel
theorem dL_law_568 : decode cL_law 568 = .ok (.aload_n 0, 1) := by decide +kernel
theorem dL_law_569 : decode cL_law 569 = .ok (.iload_n 3, 1) := by decide +kernel
theorem dL_law_570 : decode cL_law 570 = .ok (.iconst 1, 1) := by decide +kernel
theorem dL_law_571 : decode cL_law 571 = .ok (.iadd, 1) := by decide +kernel
theorem dL_law_572 : decode cL_law 572 = .ok (.iaload, 1) := by decide +kernel
theorem dL_law_573 : decode cL_law 573 = .ok (.invokevirtual 69, 3) := by decide +kernel
theorem dL_law_576 : decode cL_law 576 = .ok (.if_icmp .eq 586, 3) := by decide +kernel
theorem dL_law_579 : decode cL_law 579 = .ok (.iconst 0, 1) := by decide +kernel
theorem dL_law_580 : decode cL_law 580 = .ok (.ireturn, 1) := by decide +kernel
theorem dL_law_581 : decode cL_law 581 = .ok (.aload_n 1, 1) := by decide +kernel
theorem dL_law_582 : decode cL_law 582 = .ok (.aload_n 0, 1) := by decide +kernel
theorem dL_law_583 : decode cL_law 583 = .ok (.iload_n 3, 1) := by decide +kernel
theorem dL_law_584 : decode cL_law 584 = .ok (.iconst 1, 1) := by decide +kernel
theorem dL_law_585 : decode cL_law 585 = .ok (.iadd, 1) := by decide +kernel
theorem dL_law_586 : decode cL_law 586 = .ok (.iaload, 1) := by decide +kernel
theorem dL_law_587 : decode cL_law 587 = .ok (.invokevirtual 70, 3) := by decide +kernel
theorem dL_law_590 : decode cL_law 590 = .ok (.aload_n 2, 1) := by decide +kernel
theorem dL_law_591 : decode cL_law 591 = .ok (.aload_n 0, 1) := by decide +kernel
theorem dL_law_592 : decode cL_law 592 = .ok (.iload_n 3, 1) := by decide +kernel
theorem dL_law_593 : decode cL_law 593 = .ok (.iconst 1, 1) := by decide +kernel
theorem dL_law_594 : decode cL_law 594 = .ok (.iadd, 1) := by decide +kernel
theorem dL_law_595 : decode cL_law 595 = .ok (.iaload, 1) := by decide +kernel
theorem dL_law_596 : decode cL_law 596 = .ok (.invokevirtual 73, 3) := by decide +kernel
theorem dL_law_599 : decode cL_law 599 = .ok (.lcmp, 1) := by decide +kernel
theorem dL_law_600 : decode cL_law 600 = .ok (.ifCond .eq 562, 3) := by decide +kernel
theorem dL_law_603 : decode cL_law 603 = .ok (.iconst 0, 1) := by decide +kernel
theorem dL_law_604 : decode cL_law 604 = .ok (.ireturn, 1) := by decide +kernel
theorem dL_law_605 : decode cL_law 605 = .ok (.aload_n 1, 1) := by decide +kernel
theorem dL_law_606 : decode cL_law 606 = .ok (.aload_n 0, 1) := by decide +kernel
theorem dL_law_607 : decode cL_law 607 = .ok (.iload_n 3, 1) := by decide +kernel
theorem dL_law_608 : decode cL_law 608 = .ok (.iconst 1, 1) := by decide +kernel
theorem dL_law_609 : decode cL_law 609 = .ok (.iadd, 1) := by decide +kernel
theorem dL_law_610 : decode cL_law 610 = .ok (.iaload, 1) := by decide +kernel
theorem dL_law_611 : decode cL_law 611 = .ok (.aload_n 0, 1) := by decide +kernel
theorem dL_law_612 : decode cL_law 612 = .ok (.iload_n 3, 1) := by decide +kernel
theorem dL_law_613 : decode cL_law 613 = .ok (.iconst 2, 1) := by decide +kernel
theorem dL_law_614 : decode cL_law 614 = .ok (.iadd, 1) := by decide +kernel
theorem dL_law_615 : decode cL_law 615 = .ok (.iaload, 1) := by decide +kernel
theorem dL_law_616 : decode cL_law 616 = .ok (.invokevirtual 74, 3) := by decide +kernel
theorem dL_law_619 : decode cL_law 619 = .ok (.aload_n 2, 1) := by decide +kernel
theorem dL_law_620 : decode cL_law 620 = .ok (.aload_n 0, 1) := by decide +kernel
theorem dL_law_621 : decode cL_law 621 = .ok (.iload_n 3, 1) := by decide +kernel
theorem dL_law_622 : decode cL_law 622 = .ok (.iconst 1, 1) := by decide +kernel
theorem dL_law_623 : decode cL_law 623 = .ok (.iadd, 1) := by decide +kernel
theorem dL_law_624 : decode cL_law 624 = .ok (.iaload, 1) := by decide +kernel
theorem dL_law_625 : decode cL_law 625 = .ok (.aload_n 0, 1) := by decide +kernel
theorem dL_law_626 : decode cL_law 626 = .ok (.iload_n 3, 1) := by decide +kernel
theorem dL_law_627 : decode cL_law 627 = .ok (.iconst 2, 1) := by decide +kernel
theorem dL_law_628 : decode cL_law 628 = .ok (.iadd, 1) := by decide +kernel
theorem dL_law_629 : decode cL_law 629 = .ok (.iaload, 1) := by decide +kernel
theorem dL_law_630 : decode cL_law 630 = .ok (.invokevirtual 77, 3) := by decide +kernel
theorem dL_law_633 : decode cL_law 633 = .ok (.if_icmp .eq 529, 3) := by decide +kernel
theorem dL_law_636 : decode cL_law 636 = .ok (.iconst 0, 1) := by decide +kernel
theorem dL_law_637 : decode cL_law 637 = .ok (.ireturn, 1) := by decide +kernel
theorem dL_law_638 : decode cL_law 638 = .ok (.aload_n 1, 1) := by decide +kernel
theorem dL_law_639 : decode cL_law 639 = .ok (.aload_n 0, 1) := by decide +kernel
theorem dL_law_640 : decode cL_law 640 = .ok (.iload_n 3, 1) := by decide +kernel
theorem dL_law_641 : decode cL_law 641 = .ok (.iconst 1, 1) := by decide +kernel
theorem dL_law_642 : decode cL_law 642 = .ok (.iadd, 1) := by decide +kernel
theorem dL_law_643 : decode cL_law 643 = .ok (.iaload, 1) := by decide +kernel
theorem dL_law_644 : decode cL_law 644 = .ok (.aload_n 0, 1) := by decide +kernel
theorem dL_law_645 : decode cL_law 645 = .ok (.iload_n 3, 1) := by decide +kernel
theorem dL_law_646 : decode cL_law 646 = .ok (.iconst 2, 1) := by decide +kernel
theorem dL_law_647 : decode cL_law 647 = .ok (.iadd, 1) := by decide +kernel
theorem dL_law_648 : decode cL_law 648 = .ok (.iaload, 1) := by decide +kernel
theorem dL_law_649 : decode cL_law 649 = .ok (.invokevirtual 78, 3) := by decide +kernel
theorem dL_law_652 : decode cL_law 652 = .ok (.aload_n 2, 1) := by decide +kernel
theorem dL_law_653 : decode cL_law 653 = .ok (.aload_n 0, 1) := by decide +kernel
theorem dL_law_654 : decode cL_law 654 = .ok (.iload_n 3, 1) := by decide +kernel
theorem dL_law_655 : decode cL_law 655 = .ok (.iconst 1, 1) := by decide +kernel
theorem dL_law_656 : decode cL_law 656 = .ok (.iadd, 1) := by decide +kernel
theorem dL_law_657 : decode cL_law 657 = .ok (.iaload, 1) := by decide +kernel
theorem dL_law_658 : decode cL_law 658 = .ok (.aload_n 0, 1) := by decide +kernel
theorem dL_law_659 : decode cL_law 659 = .ok (.iload_n 3, 1) := by decide +kernel
theorem dL_law_660 : decode cL_law 660 = .ok (.iconst 2, 1) := by decide +kernel
theorem dL_law_661 : decode cL_law 661 = .ok (.iadd, 1) := by decide +kernel
theorem dL_law_662 : decode cL_law 662 = .ok (.iaload, 1) := by decide +kernel
theorem dL_law_663 : decode cL_law 663 = .ok (.invokevirtual 81, 3) := by decide +kernel
theorem dL_law_666 : decode cL_law 666 = .ok (.if_icmp .eq 496, 3) := by decide +kernel
theorem dL_law_669 : decode cL_law 669 = .ok (.iconst 0, 1) := by decide +kernel
theorem dL_law_670 : decode cL_law 670 = .ok (.ireturn, 1) := by decide +kernel
theorem dL_law_671 : decode cL_law 671 = .ok (.aload_n 1, 1) := by decide +kernel
theorem dL_law_672 : decode cL_law 672 = .ok (.aload_n 0, 1) := by decide +kernel
theorem dL_law_673 : decode cL_law 673 = .ok (.iload_n 3, 1) := by decide +kernel
theorem dL_law_674 : decode cL_law 674 = .ok (.iconst 1, 1) := by decide +kernel
theorem dL_law_675 : decode cL_law 675 = .ok (.iadd, 1) := by decide +kernel
theorem dL_law_676 : decode cL_law 676 = .ok (.iaload, 1) := by decide +kernel
theorem dL_law_677 : decode cL_law 677 = .ok (.invokevirtual 82, 3) := by decide +kernel
theorem dL_law_680 : decode cL_law 680 = .ok (.aload_n 2, 1) := by decide +kernel
theorem dL_law_681 : decode cL_law 681 = .ok (.aload_n 0, 1) := by decide +kernel
theorem dL_law_682 : decode cL_law 682 = .ok (.iload_n 3, 1) := by decide +kernel
theorem dL_law_683 : decode cL_law 683 = .ok (.iconst 1, 1) := by decide +kernel
theorem dL_law_684 : decode cL_law 684 = .ok (.iadd, 1) := by decide +kernel
theorem dL_law_685 : decode cL_law 685 = .ok (.iaload, 1) := by decide +kernel
theorem dL_law_686 : decode cL_law 686 = .ok (.invokevirtual 85, 3) := by decide +kernel
theorem dL_law_689 : decode cL_law 689 = .ok (.if_icmp .eq 473, 3) := by decide +kernel
theorem dL_law_692 : decode cL_law 692 = .ok (.iconst 0, 1) := by decide +kernel
theorem dL_law_693 : decode cL_law 693 = .ok (.ireturn, 1) := by decide +kernel
theorem dL_law_694 : decode cL_law 694 = .ok (.aload_n 1, 1) := by decide +kernel
theorem dL_law_695 : decode cL_law 695 = .ok (.invokevirtual 86, 3) := by decide +kernel
theorem dL_law_698 : decode cL_law 698 = .ok (.aload_n 2, 1) := by decide +kernel
theorem dL_law_699 : decode cL_law 699 = .ok (.invokevirtual 90, 3) := by decide +kernel
theorem dL_law_702 : decode cL_law 702 = .ok (.if_icmp .eq 460, 3) := by decide +kernel
theorem dL_law_705 : decode cL_law 705 = .ok (.iconst 0, 1) := by decide +kernel
theorem dL_law_706 : decode cL_law 706 = .ok (.ireturn, 1) := by decide +kernel
theorem dL_law_707 : decode cL_law 707 = .ok (.aload_n 1, 1) := by decide +kernel
theorem dL_law_708 : decode cL_law 708 = .ok (.invokevirtual 91, 3) := by decide +kernel
theorem dL_law_711 : decode cL_law 711 = .ok (.aload_n 2, 1) := by decide +kernel
theorem dL_law_712 : decode cL_law 712 = .ok (.invokevirtual 94, 3) := by decide +kernel
theorem dL_law_715 : decode cL_law 715 = .ok (.if_icmp .eq 447, 3) := by decide +kernel
theorem dL_law_718 : decode cL_law 718 = .ok (.iconst 0, 1) := by decide +kernel
theorem dL_law_719 : decode cL_law 719 = .ok (.ireturn, 1) := by decide +kernel
theorem dL_law_720 : decode cL_law 720 = .ok (.aload_n 1, 1) := by decide +kernel
theorem dL_law_721 : decode cL_law 721 = .ok (.aload_n 0, 1) := by decide +kernel
theorem dL_law_722 : decode cL_law 722 = .ok (.iload_n 3, 1) := by decide +kernel
theorem dL_law_723 : decode cL_law 723 = .ok (.iconst 1, 1) := by decide +kernel
theorem dL_law_724 : decode cL_law 724 = .ok (.iadd, 1) := by decide +kernel
theorem dL_law_725 : decode cL_law 725 = .ok (.iaload, 1) := by decide +kernel
theorem dL_law_726 : decode cL_law 726 = .ok (.aload_n 0, 1) := by decide +kernel
theorem dL_law_727 : decode cL_law 727 = .ok (.iload_n 3, 1) := by decide +kernel
theorem dL_law_728 : decode cL_law 728 = .ok (.iconst 2, 1) := by decide +kernel
theorem dL_law_729 : decode cL_law 729 = .ok (.iadd, 1) := by decide +kernel
theorem dL_law_730 : decode cL_law 730 = .ok (.iaload, 1) := by decide +kernel
theorem dL_law_731 : decode cL_law 731 = .ok (.invokevirtual 95, 3) := by decide +kernel
theorem dL_law_734 : decode cL_law 734 = .ok (.aload_n 2, 1) := by decide +kernel
theorem dL_law_735 : decode cL_law 735 = .ok (.aload_n 0, 1) := by decide +kernel
theorem dL_law_736 : decode cL_law 736 = .ok (.iload_n 3, 1) := by decide +kernel
theorem dL_law_737 : decode cL_law 737 = .ok (.iconst 1, 1) := by decide +kernel
theorem dL_law_738 : decode cL_law 738 = .ok (.iadd, 1) := by decide +kernel
theorem dL_law_739 : decode cL_law 739 = .ok (.iaload, 1) := by decide +kernel
theorem dL_law_740 : decode cL_law 740 = .ok (.aload_n 0, 1) := by decide +kernel
theorem dL_law_741 : decode cL_law 741 = .ok (.iload_n 3, 1) := by decide +kernel
theorem dL_law_742 : decode cL_law 742 = .ok (.iconst 2, 1) := by decide +kernel
theorem dL_law_743 : decode cL_law 743 = .ok (.iadd, 1) := by decide +kernel
theorem dL_law_744 : decode cL_law 744 = .ok (.iaload, 1) := by decide +kernel
theorem dL_law_745 : decode cL_law 745 = .ok (.invokevirtual 98, 3) := by decide +kernel
theorem dL_law_748 : decode cL_law 748 = .ok (.lcmp, 1) := by decide +kernel
theorem dL_law_749 : decode cL_law 749 = .ok (.ifCond .eq 413, 3) := by decide +kernel
theorem dL_law_752 : decode cL_law 752 = .ok (.iconst 0, 1) := by decide +kernel
theorem dL_law_753 : decode cL_law 753 = .ok (.ireturn, 1) := by decide +kernel
theorem dL_law_754 : decode cL_law 754 = .ok (.aload_n 1, 1) := by decide +kernel
theorem dL_law_755 : decode cL_law 755 = .ok (.invokevirtual 99, 3) := by decide +kernel
theorem dL_law_758 : decode cL_law 758 = .ok (.aload_n 2, 1) := by decide +kernel
theorem dL_law_759 : decode cL_law 759 = .ok (.invokevirtual 102, 3) := by decide +kernel
theorem dL_law_762 : decode cL_law 762 = .ok (.if_icmp .eq 400, 3) := by decide +kernel
theorem dL_law_765 : decode cL_law 765 = .ok (.iconst 0, 1) := by decide +kernel
theorem dL_law_766 : decode cL_law 766 = .ok (.ireturn, 1) := by decide +kernel
theorem dL_law_767 : decode cL_law 767 = .ok (.aload_n 1, 1) := by decide +kernel
theorem dL_law_768 : decode cL_law 768 = .ok (.aload_n 0, 1) := by decide +kernel
theorem dL_law_769 : decode cL_law 769 = .ok (.iload_n 3, 1) := by decide +kernel
theorem dL_law_770 : decode cL_law 770 = .ok (.iconst 1, 1) := by decide +kernel
theorem dL_law_771 : decode cL_law 771 = .ok (.iadd, 1) := by decide +kernel
theorem dL_law_772 : decode cL_law 772 = .ok (.iaload, 1) := by decide +kernel
theorem dL_law_773 : decode cL_law 773 = .ok (.invokevirtual 103, 3) := by decide +kernel
theorem dL_law_776 : decode cL_law 776 = .ok (.aload_n 2, 1) := by decide +kernel
theorem dL_law_777 : decode cL_law 777 = .ok (.aload_n 0, 1) := by decide +kernel
theorem dL_law_778 : decode cL_law 778 = .ok (.iload_n 3, 1) := by decide +kernel
theorem dL_law_779 : decode cL_law 779 = .ok (.iconst 1, 1) := by decide +kernel
theorem dL_law_780 : decode cL_law 780 = .ok (.iadd, 1) := by decide +kernel
theorem dL_law_781 : decode cL_law 781 = .ok (.iaload, 1) := by decide +kernel
theorem dL_law_782 : decode cL_law 782 = .ok (.invokevirtual 106, 3) := by decide +kernel
theorem dL_law_785 : decode cL_law 785 = .ok (.if_icmp .eq 377, 3) := by decide +kernel
theorem dL_law_788 : decode cL_law 788 = .ok (.iconst 0, 1) := by decide +kernel
theorem dL_law_789 : decode cL_law 789 = .ok (.ireturn, 1) := by decide +kernel
theorem dL_law_790 : decode cL_law 790 = .ok (.aload_n 1, 1) := by decide +kernel
theorem dL_law_791 : decode cL_law 791 = .ok (.aload_n 0, 1) := by decide +kernel
theorem dL_law_792 : decode cL_law 792 = .ok (.iload_n 3, 1) := by decide +kernel
theorem dL_law_793 : decode cL_law 793 = .ok (.iconst 1, 1) := by decide +kernel
theorem dL_law_794 : decode cL_law 794 = .ok (.iadd, 1) := by decide +kernel
theorem dL_law_795 : decode cL_law 795 = .ok (.iaload, 1) := by decide +kernel
theorem dL_law_796 : decode cL_law 796 = .ok (.aload_n 0, 1) := by decide +kernel
theorem dL_law_797 : decode cL_law 797 = .ok (.iload_n 3, 1) := by decide +kernel
theorem dL_law_798 : decode cL_law 798 = .ok (.iconst 2, 1) := by decide +kernel
theorem dL_law_799 : decode cL_law 799 = .ok (.iadd, 1) := by decide +kernel
theorem dL_law_800 : decode cL_law 800 = .ok (.iaload, 1) := by decide +kernel
theorem dL_law_801 : decode cL_law 801 = .ok (.aload_n 0, 1) := by decide +kernel
theorem dL_law_802 : decode cL_law 802 = .ok (.iload_n 3, 1) := by decide +kernel
theorem dL_law_803 : decode cL_law 803 = .ok (.iconst 3, 1) := by decide +kernel
theorem dL_law_804 : decode cL_law 804 = .ok (.iadd, 1) := by decide +kernel
theorem dL_law_805 : decode cL_law 805 = .ok (.iaload, 1) := by decide +kernel
theorem dL_law_806 : decode cL_law 806 = .ok (.invokevirtual 107, 3) := by decide +kernel
theorem dL_law_809 : decode cL_law 809 = .ok (.aload_n 2, 1) := by decide +kernel
theorem dL_law_810 : decode cL_law 810 = .ok (.aload_n 0, 1) := by decide +kernel
theorem dL_law_811 : decode cL_law 811 = .ok (.iload_n 3, 1) := by decide +kernel
theorem dL_law_812 : decode cL_law 812 = .ok (.iconst 1, 1) := by decide +kernel
theorem dL_law_813 : decode cL_law 813 = .ok (.iadd, 1) := by decide +kernel
theorem dL_law_814 : decode cL_law 814 = .ok (.iaload, 1) := by decide +kernel
theorem dL_law_815 : decode cL_law 815 = .ok (.aload_n 0, 1) := by decide +kernel
theorem dL_law_816 : decode cL_law 816 = .ok (.iload_n 3, 1) := by decide +kernel
theorem dL_law_817 : decode cL_law 817 = .ok (.iconst 2, 1) := by decide +kernel
theorem dL_law_818 : decode cL_law 818 = .ok (.iadd, 1) := by decide +kernel
theorem dL_law_819 : decode cL_law 819 = .ok (.iaload, 1) := by decide +kernel
theorem dL_law_820 : decode cL_law 820 = .ok (.aload_n 0, 1) := by decide +kernel
theorem dL_law_821 : decode cL_law 821 = .ok (.iload_n 3, 1) := by decide +kernel
theorem dL_law_822 : decode cL_law 822 = .ok (.iconst 3, 1) := by decide +kernel
theorem dL_law_823 : decode cL_law 823 = .ok (.iadd, 1) := by decide +kernel
theorem dL_law_824 : decode cL_law 824 = .ok (.iaload, 1) := by decide +kernel
theorem dL_law_825 : decode cL_law 825 = .ok (.invokevirtual 110, 3) := by decide +kernel
theorem dL_law_828 : decode cL_law 828 = .ok (.lcmp, 1) := by decide +kernel
theorem dL_law_829 : decode cL_law 829 = .ok (.ifCond .eq 333, 3) := by decide +kernel
theorem dL_law_832 : decode cL_law 832 = .ok (.iconst 0, 1) := by decide +kernel
theorem dL_law_833 : decode cL_law 833 = .ok (.ireturn, 1) := by decide +kernel
theorem dL_law_834 : decode cL_law 834 = .ok (.aload_n 1, 1) := by decide +kernel
theorem dL_law_835 : decode cL_law 835 = .ok (.aload_n 0, 1) := by decide +kernel
theorem dL_law_836 : decode cL_law 836 = .ok (.iload_n 3, 1) := by decide +kernel
theorem dL_law_837 : decode cL_law 837 = .ok (.iconst 1, 1) := by decide +kernel
theorem dL_law_838 : decode cL_law 838 = .ok (.iadd, 1) := by decide +kernel
theorem dL_law_839 : decode cL_law 839 = .ok (.iaload, 1) := by decide +kernel
theorem dL_law_840 : decode cL_law 840 = .ok (.aload_n 0, 1) := by decide +kernel
theorem dL_law_841 : decode cL_law 841 = .ok (.iload_n 3, 1) := by decide +kernel
theorem dL_law_842 : decode cL_law 842 = .ok (.iconst 2, 1) := by decide +kernel
theorem dL_law_843 : decode cL_law 843 = .ok (.iadd, 1) := by decide +kernel
theorem dL_law_844 : decode cL_law 844 = .ok (.iaload, 1) := by decide +kernel
theorem dL_law_845 : decode cL_law 845 = .ok (.invokevirtual 111, 3) := by decide +kernel
theorem dL_law_848 : decode cL_law 848 = .ok (.aload_n 2, 1) := by decide +kernel
theorem dL_law_849 : decode cL_law 849 = .ok (.aload_n 0, 1) := by decide +kernel
theorem dL_law_850 : decode cL_law 850 = .ok (.iload_n 3, 1) := by decide +kernel
theorem dL_law_851 : decode cL_law 851 = .ok (.iconst 1, 1) := by decide +kernel
theorem dL_law_852 : decode cL_law 852 = .ok (.iadd, 1) := by decide +kernel
theorem dL_law_853 : decode cL_law 853 = .ok (.iaload, 1) := by decide +kernel
theorem dL_law_854 : decode cL_law 854 = .ok (.aload_n 0, 1) := by decide +kernel
theorem dL_law_855 : decode cL_law 855 = .ok (.iload_n 3, 1) := by decide +kernel
theorem dL_law_856 : decode cL_law 856 = .ok (.iconst 2, 1) := by decide +kernel
theorem dL_law_857 : decode cL_law 857 = .ok (.iadd, 1) := by decide +kernel
theorem dL_law_858 : decode cL_law 858 = .ok (.iaload, 1) := by decide +kernel
theorem dL_law_859 : decode cL_law 859 = .ok (.invokevirtual 114, 3) := by decide +kernel
theorem dL_law_862 : decode cL_law 862 = .ok (.if_icmp .eq 300, 3) := by decide +kernel
theorem dL_law_865 : decode cL_law 865 = .ok (.iconst 0, 1) := by decide +kernel
theorem dL_law_866 : decode cL_law 866 = .ok (.ireturn, 1) := by decide +kernel
theorem dL_law_867 : decode cL_law 867 = .ok (.aload_n 1, 1) := by decide +kernel
theorem dL_law_868 : decode cL_law 868 = .ok (.aload_n 0, 1) := by decide +kernel
theorem dL_law_869 : decode cL_law 869 = .ok (.iload_n 3, 1) := by decide +kernel
theorem dL_law_870 : decode cL_law 870 = .ok (.iconst 1, 1) := by decide +kernel
theorem dL_law_871 : decode cL_law 871 = .ok (.iadd, 1) := by decide +kernel
theorem dL_law_872 : decode cL_law 872 = .ok (.iaload, 1) := by decide +kernel
theorem dL_law_873 : decode cL_law 873 = .ok (.aload_n 0, 1) := by decide +kernel
theorem dL_law_874 : decode cL_law 874 = .ok (.iload_n 3, 1) := by decide +kernel
theorem dL_law_875 : decode cL_law 875 = .ok (.iconst 2, 1) := by decide +kernel
theorem dL_law_876 : decode cL_law 876 = .ok (.iadd, 1) := by decide +kernel
theorem dL_law_877 : decode cL_law 877 = .ok (.iaload, 1) := by decide +kernel
theorem dL_law_878 : decode cL_law 878 = .ok (.aload_n 0, 1) := by decide +kernel
theorem dL_law_879 : decode cL_law 879 = .ok (.iload_n 3, 1) := by decide +kernel
theorem dL_law_880 : decode cL_law 880 = .ok (.iconst 3, 1) := by decide +kernel
theorem dL_law_881 : decode cL_law 881 = .ok (.iadd, 1) := by decide +kernel
theorem dL_law_882 : decode cL_law 882 = .ok (.iaload, 1) := by decide +kernel
theorem dL_law_883 : decode cL_law 883 = .ok (.invokevirtual 115, 3) := by decide +kernel
theorem dL_law_886 : decode cL_law 886 = .ok (.aload_n 2, 1) := by decide +kernel
theorem dL_law_887 : decode cL_law 887 = .ok (.aload_n 0, 1) := by decide +kernel
theorem dL_law_888 : decode cL_law 888 = .ok (.iload_n 3, 1) := by decide +kernel
theorem dL_law_889 : decode cL_law 889 = .ok (.iconst 1, 1) := by decide +kernel
theorem dL_law_890 : decode cL_law 890 = .ok (.iadd, 1) := by decide +kernel
theorem dL_law_891 : decode cL_law 891 = .ok (.iaload, 1) := by decide +kernel
theorem dL_law_892 : decode cL_law 892 = .ok (.aload_n 0, 1) := by decide +kernel
theorem dL_law_893 : decode cL_law 893 = .ok (.iload_n 3, 1) := by decide +kernel
theorem dL_law_894 : decode cL_law 894 = .ok (.iconst 2, 1) := by decide +kernel
theorem dL_law_895 : decode cL_law 895 = .ok (.iadd, 1) := by decide +kernel
theorem dL_law_896 : decode cL_law 896 = .ok (.iaload, 1) := by decide +kernel
theorem dL_law_897 : decode cL_law 897 = .ok (.aload_n 0, 1) := by decide +kernel
theorem dL_law_898 : decode cL_law 898 = .ok (.iload_n 3, 1) := by decide +kernel
theorem dL_law_899 : decode cL_law 899 = .ok (.iconst 3, 1) := by decide +kernel
theorem dL_law_900 : decode cL_law 900 = .ok (.iadd, 1) := by decide +kernel
theorem dL_law_901 : decode cL_law 901 = .ok (.iaload, 1) := by decide +kernel
theorem dL_law_902 : decode cL_law 902 = .ok (.invokevirtual 119, 3) := by decide +kernel
theorem dL_law_905 : decode cL_law 905 = .ok (.if_icmp .eq 257, 3) := by decide +kernel
theorem dL_law_908 : decode cL_law 908 = .ok (.iconst 0, 1) := by decide +kernel
theorem dL_law_909 : decode cL_law 909 = .ok (.ireturn, 1) := by decide +kernel
theorem dL_law_910 : decode cL_law 910 = .ok (.aload_n 1, 1) := by decide +kernel
theorem dL_law_911 : decode cL_law 911 = .ok (.aload_n 0, 1) := by decide +kernel
theorem dL_law_912 : decode cL_law 912 = .ok (.iload_n 3, 1) := by decide +kernel
theorem dL_law_913 : decode cL_law 913 = .ok (.iconst 1, 1) := by decide +kernel
theorem dL_law_914 : decode cL_law 914 = .ok (.iadd, 1) := by decide +kernel
theorem dL_law_915 : decode cL_law 915 = .ok (.iaload, 1) := by decide +kernel
theorem dL_law_916 : decode cL_law 916 = .ok (.invokevirtual 120, 3) := by decide +kernel
theorem dL_law_919 : decode cL_law 919 = .ok (.aload_n 2, 1) := by decide +kernel
theorem dL_law_920 : decode cL_law 920 = .ok (.aload_n 0, 1) := by decide +kernel
theorem dL_law_921 : decode cL_law 921 = .ok (.iload_n 3, 1) := by decide +kernel
theorem dL_law_922 : decode cL_law 922 = .ok (.iconst 1, 1) := by decide +kernel
theorem dL_law_923 : decode cL_law 923 = .ok (.iadd, 1) := by decide +kernel
theorem dL_law_924 : decode cL_law 924 = .ok (.iaload, 1) := by decide +kernel
theorem dL_law_925 : decode cL_law 925 = .ok (.invokevirtual 123, 3) := by decide +kernel
theorem dL_law_928 : decode cL_law 928 = .ok (.if_icmp .eq 234, 3) := by decide +kernel
theorem dL_law_931 : decode cL_law 931 = .ok (.iconst 0, 1) := by decide +kernel
theorem dL_law_932 : decode cL_law 932 = .ok (.ireturn, 1) := by decide +kernel
theorem dL_law_933 : decode cL_law 933 = .ok (.aload_n 1, 1) := by decide +kernel
theorem dL_law_934 : decode cL_law 934 = .ok (.aload_n 0, 1) := by decide +kernel
theorem dL_law_935 : decode cL_law 935 = .ok (.iload_n 3, 1) := by decide +kernel
theorem dL_law_936 : decode cL_law 936 = .ok (.iconst 1, 1) := by decide +kernel
theorem dL_law_937 : decode cL_law 937 = .ok (.iadd, 1) := by decide +kernel
theorem dL_law_938 : decode cL_law 938 = .ok (.iaload, 1) := by decide +kernel
theorem dL_law_939 : decode cL_law 939 = .ok (.aload_n 0, 1) := by decide +kernel
theorem dL_law_940 : decode cL_law 940 = .ok (.iload_n 3, 1) := by decide +kernel
theorem dL_law_941 : decode cL_law 941 = .ok (.iconst 2, 1) := by decide +kernel
theorem dL_law_942 : decode cL_law 942 = .ok (.iadd, 1) := by decide +kernel
theorem dL_law_943 : decode cL_law 943 = .ok (.iaload, 1) := by decide +kernel
theorem dL_law_944 : decode cL_law 944 = .ok (.aload_n 0, 1) := by decide +kernel
theorem dL_law_945 : decode cL_law 945 = .ok (.iload_n 3, 1) := by decide +kernel
theorem dL_law_946 : decode cL_law 946 = .ok (.iconst 3, 1) := by decide +kernel
theorem dL_law_947 : decode cL_law 947 = .ok (.iadd, 1) := by decide +kernel
theorem dL_law_948 : decode cL_law 948 = .ok (.iaload, 1) := by decide +kernel
theorem dL_law_949 : decode cL_law 949 = .ok (.aload_n 0, 1) := by decide +kernel
theorem dL_law_950 : decode cL_law 950 = .ok (.iload_n 3, 1) := by decide +kernel
theorem dL_law_951 : decode cL_law 951 = .ok (.iconst 4, 1) := by decide +kernel
theorem dL_law_952 : decode cL_law 952 = .ok (.iadd, 1) := by decide +kernel
theorem dL_law_953 : decode cL_law 953 = .ok (.iaload, 1) := by decide +kernel
theorem dL_law_954 : decode cL_law 954 = .ok (.invokevirtual 124, 3) := by decide +kernel
theorem dL_law_957 : decode cL_law 957 = .ok (.aload_n 2, 1) := by decide +kernel
theorem dL_law_958 : decode cL_law 958 = .ok (.aload_n 0, 1) := by decide +kernel
theorem dL_law_959 : decode cL_law 959 = .ok (.iload_n 3, 1) := by decide +kernel
theorem dL_law_960 : decode cL_law 960 = .ok (.iconst 1, 1) := by decide +kernel
theorem dL_law_961 : decode cL_law 961 = .ok (.iadd, 1) := by decide +kernel
theorem dL_law_962 : decode cL_law 962 = .ok (.iaload, 1) := by decide +kernel
theorem dL_law_963 : decode cL_law 963 = .ok (.aload_n 0, 1) := by decide +kernel
theorem dL_law_964 : decode cL_law 964 = .ok (.iload_n 3, 1) := by decide +kernel
theorem dL_law_965 : decode cL_law 965 = .ok (.iconst 2, 1) := by decide +kernel
theorem dL_law_966 : decode cL_law 966 = .ok (.iadd, 1) := by decide +kernel
theorem dL_law_967 : decode cL_law 967 = .ok (.iaload, 1) := by decide +kernel
theorem dL_law_968 : decode cL_law 968 = .ok (.aload_n 0, 1) := by decide +kernel
theorem dL_law_969 : decode cL_law 969 = .ok (.iload_n 3, 1) := by decide +kernel
theorem dL_law_970 : decode cL_law 970 = .ok (.iconst 3, 1) := by decide +kernel
theorem dL_law_971 : decode cL_law 971 = .ok (.iadd, 1) := by decide +kernel
theorem dL_law_972 : decode cL_law 972 = .ok (.iaload, 1) := by decide +kernel
theorem dL_law_973 : decode cL_law 973 = .ok (.aload_n 0, 1) := by decide +kernel
theorem dL_law_974 : decode cL_law 974 = .ok (.iload_n 3, 1) := by decide +kernel
theorem dL_law_975 : decode cL_law 975 = .ok (.iconst 4, 1) := by decide +kernel
theorem dL_law_976 : decode cL_law 976 = .ok (.iadd, 1) := by decide +kernel
theorem dL_law_977 : decode cL_law 977 = .ok (.iaload, 1) := by decide +kernel
theorem dL_law_978 : decode cL_law 978 = .ok (.invokevirtual 128, 3) := by decide +kernel
theorem dL_law_981 : decode cL_law 981 = .ok (.if_icmp .eq 181, 3) := by decide +kernel
theorem dL_law_984 : decode cL_law 984 = .ok (.iconst 0, 1) := by decide +kernel
theorem dL_law_985 : decode cL_law 985 = .ok (.ireturn, 1) := by decide +kernel
theorem dL_law_986 : decode cL_law 986 = .ok (.aload_n 1, 1) := by decide +kernel
theorem dL_law_987 : decode cL_law 987 = .ok (.aload_n 0, 1) := by decide +kernel
theorem dL_law_988 : decode cL_law 988 = .ok (.iload_n 3, 1) := by decide +kernel
theorem dL_law_989 : decode cL_law 989 = .ok (.iconst 1, 1) := by decide +kernel
theorem dL_law_990 : decode cL_law 990 = .ok (.iadd, 1) := by decide +kernel
theorem dL_law_991 : decode cL_law 991 = .ok (.iaload, 1) := by decide +kernel
theorem dL_law_992 : decode cL_law 992 = .ok (.aload_n 0, 1) := by decide +kernel
theorem dL_law_993 : decode cL_law 993 = .ok (.iload_n 3, 1) := by decide +kernel
theorem dL_law_994 : decode cL_law 994 = .ok (.iconst 2, 1) := by decide +kernel
theorem dL_law_995 : decode cL_law 995 = .ok (.iadd, 1) := by decide +kernel
theorem dL_law_996 : decode cL_law 996 = .ok (.iaload, 1) := by decide +kernel
theorem dL_law_997 : decode cL_law 997 = .ok (.aload_n 0, 1) := by decide +kernel
theorem dL_law_998 : decode cL_law 998 = .ok (.iload_n 3, 1) := by decide +kernel
theorem dL_law_999 : decode cL_law 999 = .ok (.iconst 3, 1) := by decide +kernel
theorem dL_law_1000 : decode cL_law 1000 = .ok (.iadd, 1) := by decide +kernel
theorem dL_law_1001 : decode cL_law 1001 = .ok (.iaload, 1) := by decide +kernel
theorem dL_law_1002 : decode cL_law 1002 = .ok (.invokevirtual 129, 3) := by decide +kernel
theorem dL_law_1005 : decode cL_law 1005 = .ok (.aload_n 2, 1) := by decide +kernel
theorem dL_law_1006 : decode cL_law 1006 = .ok (.aload_n 0, 1) := by decide +kernel
theorem dL_law_1007 : decode cL_law 1007 = .ok (.iload_n 3, 1) := by decide +kernel
theorem dL_law_1008 : decode cL_law 1008 = .ok (.iconst 1, 1) := by decide +kernel
theorem dL_law_1009 : decode cL_law 1009 = .ok (.iadd, 1) := by decide +kernel
theorem dL_law_1010 : decode cL_law 1010 = .ok (.iaload, 1) := by decide +kernel
theorem dL_law_1011 : decode cL_law 1011 = .ok (.aload_n 0, 1) := by decide +kernel
theorem dL_law_1012 : decode cL_law 1012 = .ok (.iload_n 3, 1) := by decide +kernel
theorem dL_law_1013 : decode cL_law 1013 = .ok (.iconst 2, 1) := by decide +kernel
theorem dL_law_1014 : decode cL_law 1014 = .ok (.iadd, 1) := by decide +kernel
theorem dL_law_1015 : decode cL_law 1015 = .ok (.iaload, 1) := by decide +kernel
theorem dL_law_1016 : decode cL_law 1016 = .ok (.aload_n 0, 1) := by decide +kernel
theorem dL_law_1017 : decode cL_law 1017 = .ok (.iload_n 3, 1) := by decide +kernel
theorem dL_law_1018 : decode cL_law 1018 = .ok (.iconst 3, 1) := by decide +kernel
theorem dL_law_1019 : decode cL_law 1019 = .ok (.iadd, 1) := by decide +kernel
theorem dL_law_1020 : decode cL_law 1020 = .ok (.iaload, 1) := by decide +kernel
theorem dL_law_1021 : decode cL_law 1021 = .ok (.invokevirtual 132, 3) := by decide +kernel
theorem dL_law_1024 : decode cL_law 1024 = .ok (.if_icmp .eq 138, 3) := by decide +kernel
theorem dL_law_1027 : decode cL_law 1027 = .ok (.iconst 0, 1) := by decide +kernel
theorem dL_law_1028 : decode cL_law 1028 = .ok (.ireturn, 1) := by decide +kernel
theorem dL_law_1029 : decode cL_law 1029 = .ok (.aload_n 1, 1) := by decide +kernel
theorem dL_law_1030 : decode cL_law 1030 = .ok (.aload_n 0, 1) := by decide +kernel
theorem dL_law_1031 : decode cL_law 1031 = .ok (.iload_n 3, 1) := by decide +kernel
theorem dL_law_1032 : decode cL_law 1032 = .ok (.iconst 1, 1) := by decide +kernel
theorem dL_law_1033 : decode cL_law 1033 = .ok (.iadd, 1) := by decide +kernel
theorem dL_law_1034 : decode cL_law 1034 = .ok (.iaload, 1) := by decide +kernel
theorem dL_law_1035 : decode cL_law 1035 = .ok (.aload_n 0, 1) := by decide +kernel
theorem dL_law_1036 : decode cL_law 1036 = .ok (.iload_n 3, 1) := by decide +kernel
theorem dL_law_1037 : decode cL_law 1037 = .ok (.iconst 2, 1) := by decide +kernel
theorem dL_law_1038 : decode cL_law 1038 = .ok (.iadd, 1) := by decide +kernel
theorem dL_law_1039 : decode cL_law 1039 = .ok (.iaload, 1) := by decide +kernel
theorem dL_law_1040 : decode cL_law 1040 = .ok (.aload_n 0, 1) := by decide +kernel
theorem dL_law_1041 : decode cL_law 1041 = .ok (.iload_n 3, 1) := by decide +kernel
theorem dL_law_1042 : decode cL_law 1042 = .ok (.iconst 3, 1) := by decide +kernel
theorem dL_law_1043 : decode cL_law 1043 = .ok (.iadd, 1) := by decide +kernel
theorem dL_law_1044 : decode cL_law 1044 = .ok (.iaload, 1) := by decide +kernel
theorem dL_law_1045 : decode cL_law 1045 = .ok (.aload_n 0, 1) := by decide +kernel
theorem dL_law_1046 : decode cL_law 1046 = .ok (.iload_n 3, 1) := by decide +kernel
theorem dL_law_1047 : decode cL_law 1047 = .ok (.iconst 4, 1) := by decide +kernel
theorem dL_law_1048 : decode cL_law 1048 = .ok (.iadd, 1) := by decide +kernel
theorem dL_law_1049 : decode cL_law 1049 = .ok (.iaload, 1) := by decide +kernel
theorem dL_law_1050 : decode cL_law 1050 = .ok (.aload_n 0, 1) := by decide +kernel
theorem dL_law_1051 : decode cL_law 1051 = .ok (.iload_n 3, 1) := by decide +kernel
theorem dL_law_1052 : decode cL_law 1052 = .ok (.iconst 5, 1) := by decide +kernel
theorem dL_law_1053 : decode cL_law 1053 = .ok (.iadd, 1) := by decide +kernel
theorem dL_law_1054 : decode cL_law 1054 = .ok (.iaload, 1) := by decide +kernel
theorem dL_law_1055 : decode cL_law 1055 = .ok (.invokevirtual 133, 3) := by decide +kernel
theorem dL_law_1058 : decode cL_law 1058 = .ok (.aload_n 2, 1) := by decide +kernel
theorem dL_law_1059 : decode cL_law 1059 = .ok (.aload_n 0, 1) := by decide +kernel
theorem dL_law_1060 : decode cL_law 1060 = .ok (.iload_n 3, 1) := by decide +kernel
theorem dL_law_1061 : decode cL_law 1061 = .ok (.iconst 1, 1) := by decide +kernel
theorem dL_law_1062 : decode cL_law 1062 = .ok (.iadd, 1) := by decide +kernel
theorem dL_law_1063 : decode cL_law 1063 = .ok (.iaload, 1) := by decide +kernel
theorem dL_law_1064 : decode cL_law 1064 = .ok (.aload_n 0, 1) := by decide +kernel
theorem dL_law_1065 : decode cL_law 1065 = .ok (.iload_n 3, 1) := by decide +kernel
theorem dL_law_1066 : decode cL_law 1066 = .ok (.iconst 2, 1) := by decide +kernel
theorem dL_law_1067 : decode cL_law 1067 = .ok (.iadd, 1) := by decide +kernel
theorem dL_law_1068 : decode cL_law 1068 = .ok (.iaload, 1) := by decide +kernel
theorem dL_law_1069 : decode cL_law 1069 = .ok (.aload_n 0, 1) := by decide +kernel
theorem dL_law_1070 : decode cL_law 1070 = .ok (.iload_n 3, 1) := by decide +kernel
theorem dL_law_1071 : decode cL_law 1071 = .ok (.iconst 3, 1) := by decide +kernel
theorem dL_law_1072 : decode cL_law 1072 = .ok (.iadd, 1) := by decide +kernel
theorem dL_law_1073 : decode cL_law 1073 = .ok (.iaload, 1) := by decide +kernel
theorem dL_law_1074 : decode cL_law 1074 = .ok (.aload_n 0, 1) := by decide +kernel
theorem dL_law_1075 : decode cL_law 1075 = .ok (.iload_n 3, 1) := by decide +kernel
theorem dL_law_1076 : decode cL_law 1076 = .ok (.iconst 4, 1) := by decide +kernel
theorem dL_law_1077 : decode cL_law 1077 = .ok (.iadd, 1) := by decide +kernel
theorem dL_law_1078 : decode cL_law 1078 = .ok (.iaload, 1) := by decide +kernel
theorem dL_law_1079 : decode cL_law 1079 = .ok (.aload_n 0, 1) := by decide +kernel
theorem dL_law_1080 : decode cL_law 1080 = .ok (.iload_n 3, 1) := by decide +kernel
theorem dL_law_1081 : decode cL_law 1081 = .ok (.iconst 5, 1) := by decide +kernel
theorem dL_law_1082 : decode cL_law 1082 = .ok (.iadd, 1) := by decide +kernel
theorem dL_law_1083 : decode cL_law 1083 = .ok (.iaload, 1) := by decide +kernel
theorem dL_law_1084 : decode cL_law 1084 = .ok (.invokevirtual 137, 3) := by decide +kernel
theorem dL_law_1087 : decode cL_law 1087 = .ok (.if_icmp .eq 75, 3) := by decide +kernel
theorem dL_law_1090 : decode cL_law 1090 = .ok (.iconst 0, 1) := by decide +kernel
theorem dL_law_1091 : decode cL_law 1091 = .ok (.ireturn, 1) := by decide +kernel
theorem dL_law_1092 : decode cL_law 1092 = .ok (.aload_n 1, 1) := by decide +kernel
theorem dL_law_1093 : decode cL_law 1093 = .ok (.aload_n 0, 1) := by decide +kernel
theorem dL_law_1094 : decode cL_law 1094 = .ok (.iload_n 3, 1) := by decide +kernel
theorem dL_law_1095 : decode cL_law 1095 = .ok (.iconst 1, 1) := by decide +kernel
theorem dL_law_1096 : decode cL_law 1096 = .ok (.iadd, 1) := by decide +kernel
theorem dL_law_1097 : decode cL_law 1097 = .ok (.iaload, 1) := by decide +kernel
theorem dL_law_1098 : decode cL_law 1098 = .ok (.aload_n 0, 1) := by decide +kernel
theorem dL_law_1099 : decode cL_law 1099 = .ok (.iload_n 3, 1) := by decide +kernel
theorem dL_law_1100 : decode cL_law 1100 = .ok (.iconst 2, 1) := by decide +kernel
theorem dL_law_1101 : decode cL_law 1101 = .ok (.iadd, 1) := by decide +kernel
theorem dL_law_1102 : decode cL_law 1102 = .ok (.iaload, 1) := by decide +kernel
theorem dL_law_1103 : decode cL_law 1103 = .ok (.invokevirtual 138, 3) := by decide +kernel
theorem dL_law_1106 : decode cL_law 1106 = .ok (.aload_n 2, 1) := by decide +kernel
theorem dL_law_1107 : decode cL_law 1107 = .ok (.aload_n 0, 1) := by decide +kernel
theorem dL_law_1108 : decode cL_law 1108 = .ok (.iload_n 3, 1) := by decide +kernel
theorem dL_law_1109 : decode cL_law 1109 = .ok (.iconst 1, 1) := by decide +kernel
theorem dL_law_1110 : decode cL_law 1110 = .ok (.iadd, 1) := by decide +kernel
theorem dL_law_1111 : decode cL_law 1111 = .ok (.iaload, 1) := by decide +kernel
theorem dL_law_1112 : decode cL_law 1112 = .ok (.aload_n 0, 1) := by decide +kernel
theorem dL_law_1113 : decode cL_law 1113 = .ok (.iload_n 3, 1) := by decide +kernel
theorem dL_law_1114 : decode cL_law 1114 = .ok (.iconst 2, 1) := by decide +kernel
theorem dL_law_1115 : decode cL_law 1115 = .ok (.iadd, 1) := by decide +kernel
theorem dL_law_1116 : decode cL_law 1116 = .ok (.iaload, 1) := by decide +kernel
theorem dL_law_1117 : decode cL_law 1117 = .ok (.invokevirtual 141, 3) := by decide +kernel
theorem dL_law_1120 : decode cL_law 1120 = .ok (.if_icmp .eq 42, 3) := by decide +kernel
theorem dL_law_1123 : decode cL_law 1123 = .ok (.iconst 0, 1) := by decide +kernel
theorem dL_law_1124 : decode cL_law 1124 = .ok (.ireturn, 1) := by decide +kernel
theorem dL_law_1125 : decode cL_law 1125 = .ok (.aload_n 1, 1) := by decide +kernel
theorem dL_law_1126 : decode cL_law 1126 = .ok (.aload_n 0, 1) := by decide +kernel
theorem dL_law_1127 : decode cL_law 1127 = .ok (.iload_n 3, 1) := by decide +kernel
theorem dL_law_1128 : decode cL_law 1128 = .ok (.iconst 1, 1) := by decide +kernel
theorem dL_law_1129 : decode cL_law 1129 = .ok (.iadd, 1) := by decide +kernel
theorem dL_law_1130 : decode cL_law 1130 = .ok (.iaload, 1) := by decide +kernel
theorem dL_law_1131 : decode cL_law 1131 = .ok (.invokevirtual 142, 3) := by decide +kernel
theorem dL_law_1134 : decode cL_law 1134 = .ok (.aload_n 2, 1) := by decide +kernel
theorem dL_law_1135 : decode cL_law 1135 = .ok (.aload_n 0, 1) := by decide +kernel
theorem dL_law_1136 : decode cL_law 1136 = .ok (.iload_n 3, 1) := by decide +kernel
theorem dL_law_1137 : decode cL_law 1137 = .ok (.iconst 1, 1) := by decide +kernel
theorem dL_law_1138 : decode cL_law 1138 = .ok (.iadd, 1) := by decide +kernel
theorem dL_law_1139 : decode cL_law 1139 = .ok (.iaload, 1) := by decide +kernel
theorem dL_law_1140 : decode cL_law 1140 = .ok (.invokevirtual 145, 3) := by decide +kernel
theorem dL_law_1143 : decode cL_law 1143 = .ok (.if_icmp .eq 19, 3) := by decide +kernel
theorem dL_law_1146 : decode cL_law 1146 = .ok (.iconst 0, 1) := by decide +kernel
theorem dL_law_1147 : decode cL_law 1147 = .ok (.ireturn, 1) := by decide +kernel
theorem dL_law_1148 : decode cL_law 1148 = .ok (.aload_n 1, 1) := by decide +kernel
theorem dL_law_1149 : decode cL_law 1149 = .ok (.invokevirtual 146, 3) := by decide +kernel
theorem dL_law_1152 : decode cL_law 1152 = .ok (.aload_n 2, 1) := by decide +kernel
theorem dL_law_1153 : decode cL_law 1153 = .ok (.invokevirtual 150, 3) := by decide +kernel
theorem dL_law_1156 : decode cL_law 1156 = .ok (.lcmp, 1) := by decide +kernel
theorem dL_law_1157 : decode cL_law 1157 = .ok (.ifCond .eq 5, 3) := by decide +kernel
theorem dL_law_1160 : decode cL_law 1160 = .ok (.iconst 0, 1) := by decide +kernel
theorem dL_law_1161 : decode cL_law 1161 = .ok (.ireturn, 1) := by decide +kernel
theorem dL_law_1162 : decode cL_law 1162 = .ok (.iinc 3 6, 3) := by decide +kernel
theorem dL_law_1165 : decode cL_law 1165 = .ok (.goto (-1147), 3) := by decide +kernel
theorem dL_law_1168 : decode cL_law 1168 = .ok (.iconst 1, 1) := by decide +kernel
theorem dL_law_1169 : decode cL_law 1169 = .ok (.ireturn, 1) := by decide +kernel
theorem dJ6_bitCount_0f7a4_0 : decode cJ6_bitCount_0f7a4 0 = .ok (.iload_n 0, 1) := by decide +kernel
theorem dJ6_bitCount_0f7a4_1 : decode cJ6_bitCount_0f7a4 1 = .ok (.iload_n 0, 1) := by decide +kernel
theorem dJ6_bitCount_0f7a4_2 : decode cJ6_bitCount_0f7a4 2 = .ok (.iconst 1, 1) := by decide +kernel
theorem dJ6_bitCount_0f7a4_3 : decode cJ6_bitCount_0f7a4 3 = .ok (.iushr, 1) := by decide +kernel
theorem dJ6_bitCount_0f7a4_4 : decode cJ6_bitCount_0f7a4 4 = .ok (.ldc_w 265, 3) := by decide +kernel
theorem dJ6_bitCount_0f7a4_7 : decode cJ6_bitCount_0f7a4 7 = .ok (.iand, 1) := by decide +kernel
theorem dJ6_bitCount_0f7a4_8 : decode cJ6_bitCount_0f7a4 8 = .ok (.isub, 1) := by decide +kernel
theorem dJ6_bitCount_0f7a4_9 : decode cJ6_bitCount_0f7a4 9 = .ok (.istore_n 0, 1) := by decide +kernel
theorem dJ6_bitCount_0f7a4_10 : decode cJ6_bitCount_0f7a4 10 = .ok (.iload_n 0, 1) := by decide +kernel
theorem dJ6_bitCount_0f7a4_11 : decode cJ6_bitCount_0f7a4 11 = .ok (.ldc_w 266, 3) := by decide +kernel
theorem dJ6_bitCount_0f7a4_14 : decode cJ6_bitCount_0f7a4 14 = .ok (.iand, 1) := by decide +kernel
theorem dJ6_bitCount_0f7a4_15 : decode cJ6_bitCount_0f7a4 15 = .ok (.iload_n 0, 1) := by decide +kernel
theorem dJ6_bitCount_0f7a4_16 : decode cJ6_bitCount_0f7a4 16 = .ok (.iconst 2, 1) := by decide +kernel
theorem dJ6_bitCount_0f7a4_17 : decode cJ6_bitCount_0f7a4 17 = .ok (.iushr, 1) := by decide +kernel
theorem dJ6_bitCount_0f7a4_18 : decode cJ6_bitCount_0f7a4 18 = .ok (.ldc_w 266, 3) := by decide +kernel
theorem dJ6_bitCount_0f7a4_21 : decode cJ6_bitCount_0f7a4 21 = .ok (.iand, 1) := by decide +kernel
theorem dJ6_bitCount_0f7a4_22 : decode cJ6_bitCount_0f7a4 22 = .ok (.iadd, 1) := by decide +kernel
theorem dJ6_bitCount_0f7a4_23 : decode cJ6_bitCount_0f7a4 23 = .ok (.istore_n 0, 1) := by decide +kernel
theorem dJ6_bitCount_0f7a4_24 : decode cJ6_bitCount_0f7a4 24 = .ok (.iload_n 0, 1) := by decide +kernel
theorem dJ6_bitCount_0f7a4_25 : decode cJ6_bitCount_0f7a4 25 = .ok (.iload_n 0, 1) := by decide +kernel
theorem dJ6_bitCount_0f7a4_26 : decode cJ6_bitCount_0f7a4 26 = .ok (.iconst 4, 1) := by decide +kernel
theorem dJ6_bitCount_0f7a4_27 : decode cJ6_bitCount_0f7a4 27 = .ok (.iushr, 1) := by decide +kernel
theorem dJ6_bitCount_0f7a4_28 : decode cJ6_bitCount_0f7a4 28 = .ok (.iadd, 1) := by decide +kernel
theorem dJ6_bitCount_0f7a4_29 : decode cJ6_bitCount_0f7a4 29 = .ok (.ldc_w 267, 3) := by decide +kernel
theorem dJ6_bitCount_0f7a4_32 : decode cJ6_bitCount_0f7a4 32 = .ok (.iand, 1) := by decide +kernel
theorem dJ6_bitCount_0f7a4_33 : decode cJ6_bitCount_0f7a4 33 = .ok (.istore_n 0, 1) := by decide +kernel
theorem dJ6_bitCount_0f7a4_34 : decode cJ6_bitCount_0f7a4 34 = .ok (.iload_n 0, 1) := by decide +kernel
theorem dJ6_bitCount_0f7a4_35 : decode cJ6_bitCount_0f7a4 35 = .ok (.iload_n 0, 1) := by decide +kernel
theorem dJ6_bitCount_0f7a4_36 : decode cJ6_bitCount_0f7a4 36 = .ok (.bipush 8, 2) := by decide +kernel
theorem dJ6_bitCount_0f7a4_38 : decode cJ6_bitCount_0f7a4 38 = .ok (.iushr, 1) := by decide +kernel
theorem dJ6_bitCount_0f7a4_39 : decode cJ6_bitCount_0f7a4 39 = .ok (.iadd, 1) := by decide +kernel
theorem dJ6_bitCount_0f7a4_40 : decode cJ6_bitCount_0f7a4 40 = .ok (.istore_n 0, 1) := by decide +kernel
theorem dJ6_bitCount_0f7a4_41 : decode cJ6_bitCount_0f7a4 41 = .ok (.iload_n 0, 1) := by decide +kernel
theorem dJ6_bitCount_0f7a4_42 : decode cJ6_bitCount_0f7a4 42 = .ok (.iload_n 0, 1) := by decide +kernel
theorem dJ6_bitCount_0f7a4_43 : decode cJ6_bitCount_0f7a4 43 = .ok (.bipush 16, 2) := by decide +kernel
theorem dJ6_bitCount_0f7a4_45 : decode cJ6_bitCount_0f7a4 45 = .ok (.iushr, 1) := by decide +kernel
theorem dJ6_bitCount_0f7a4_46 : decode cJ6_bitCount_0f7a4 46 = .ok (.iadd, 1) := by decide +kernel
theorem dJ6_bitCount_0f7a4_47 : decode cJ6_bitCount_0f7a4 47 = .ok (.istore_n 0, 1) := by decide +kernel
theorem dJ6_bitCount_0f7a4_48 : decode cJ6_bitCount_0f7a4 48 = .ok (.iload_n 0, 1) := by decide +kernel
theorem dJ6_bitCount_0f7a4_49 : decode cJ6_bitCount_0f7a4 49 = .ok (.bipush 63, 2) := by decide +kernel
theorem dJ6_bitCount_0f7a4_51 : decode cJ6_bitCount_0f7a4 51 = .ok (.iand, 1) := by decide +kernel
theorem dJ6_bitCount_0f7a4_52 : decode cJ6_bitCount_0f7a4 52 = .ok (.ireturn, 1) := by decide +kernel
theorem dJ7_fill_d0a16_0 : decode cJ7_fill_d0a16 0 = .ok (.iconst 0, 1) := by decide +kernel
theorem dJ7_fill_d0a16_1 : decode cJ7_fill_d0a16 1 = .ok (.istore_n 3, 1) := by decide +kernel
theorem dJ7_fill_d0a16_2 : decode cJ7_fill_d0a16 2 = .ok (.aload_n 0, 1) := by decide +kernel
theorem dJ7_fill_d0a16_3 : decode cJ7_fill_d0a16 3 = .ok (.arraylength, 1) := by decide +kernel
theorem dJ7_fill_d0a16_4 : decode cJ7_fill_d0a16 4 = .ok (.istore 4, 2) := by decide +kernel
theorem dJ7_fill_d0a16_6 : decode cJ7_fill_d0a16 6 = .ok (.iload_n 3, 1) := by decide +kernel
theorem dJ7_fill_d0a16_7 : decode cJ7_fill_d0a16 7 = .ok (.iload 4, 2) := by decide +kernel
theorem dJ7_fill_d0a16_9 : decode cJ7_fill_d0a16 9 = .ok (.if_icmp .ge 13, 3) := by decide +kernel
theorem dJ7_fill_d0a16_12 : decode cJ7_fill_d0a16 12 = .ok (.aload_n 0, 1) := by decide +kernel
theorem dJ7_fill_d0a16_13 : decode cJ7_fill_d0a16 13 = .ok (.iload_n 3, 1) := by decide +kernel
theorem dJ7_fill_d0a16_14 : decode cJ7_fill_d0a16 14 = .ok (.lload_n 1, 1) := by decide +kernel
theorem dJ7_fill_d0a16_15 : decode cJ7_fill_d0a16 15 = .ok (.lastore, 1) := by decide +kernel
theorem dJ7_fill_d0a16_16 : decode cJ7_fill_d0a16 16 = .ok (.iinc 3 1, 3) := by decide +kernel
theorem dJ7_fill_d0a16_19 : decode cJ7_fill_d0a16 19 = .ok (.goto (-13), 3) := by decide +kernel
theorem dJ7_fill_d0a16_22 : decode cJ7_fill_d0a16 22 = .ok (.return_, 1) := by decide +kernel
theorem dJ7_fill_53178_0 : decode cJ7_fill_53178 0 = .ok (.iconst 0, 1) := by decide +kernel
theorem dJ7_fill_53178_1 : decode cJ7_fill_53178 1 = .ok (.istore_n 2, 1) := by decide +kernel
theorem dJ7_fill_53178_2 : decode cJ7_fill_53178 2 = .ok (.aload_n 0, 1) := by decide +kernel
theorem dJ7_fill_53178_3 : decode cJ7_fill_53178 3 = .ok (.arraylength, 1) := by decide +kernel
theorem dJ7_fill_53178_4 : decode cJ7_fill_53178 4 = .ok (.istore_n 3, 1) := by decide +kernel
theorem dJ7_fill_53178_5 : decode cJ7_fill_53178 5 = .ok (.iload_n 2, 1) := by decide +kernel
theorem dJ7_fill_53178_6 : decode cJ7_fill_53178 6 = .ok (.iload_n 3, 1) := by decide +kernel
theorem dJ7_fill_53178_7 : decode cJ7_fill_53178 7 = .ok (.if_icmp .ge 13, 3) := by decide +kernel
theorem dJ7_fill_53178_10 : decode cJ7_fill_53178 10 = .ok (.aload_n 0, 1) := by decide +kernel
theorem dJ7_fill_53178_11 : decode cJ7_fill_53178 11 = .ok (.iload_n 2, 1) := by decide +kernel
theorem dJ7_fill_53178_12 : decode cJ7_fill_53178 12 = .ok (.iload_n 1, 1) := by decide +kernel
theorem dJ7_fill_53178_13 : decode cJ7_fill_53178 13 = .ok (.iastore, 1) := by decide +kernel
theorem dJ7_fill_53178_14 : decode cJ7_fill_53178 14 = .ok (.iinc 2 1, 3) := by decide +kernel
theorem dJ7_fill_53178_17 : decode cJ7_fill_53178 17 = .ok (.goto (-12), 3) := by decide +kernel
theorem dJ7_fill_53178_20 : decode cJ7_fill_53178 20 = .ok (.return_, 1) := by decide +kernel
theorem dJ9_max_7cf53_0 : decode cJ9_max_7cf53 0 = .ok (.iload_n 0, 1) := by decide +kernel
theorem dJ9_max_7cf53_1 : decode cJ9_max_7cf53 1 = .ok (.iload_n 1, 1) := by decide +kernel
theorem dJ9_max_7cf53_2 : decode cJ9_max_7cf53 2 = .ok (.if_icmp .lt 7, 3) := by decide +kernel
theorem dJ9_max_7cf53_5 : decode cJ9_max_7cf53 5 = .ok (.iload_n 0, 1) := by decide +kernel
theorem dJ9_max_7cf53_6 : decode cJ9_max_7cf53 6 = .ok (.goto 4, 3) := by decide +kernel
theorem dJ9_max_7cf53_9 : decode cJ9_max_7cf53 9 = .ok (.iload_n 1, 1) := by decide +kernel
theorem dJ9_max_7cf53_10 : decode cJ9_max_7cf53 10 = .ok (.ireturn, 1) := by decide +kernel
theorem dJ9_min_7cf53_0 : decode cJ9_min_7cf53 0 = .ok (.iload_n 0, 1) := by decide +kernel
theorem dJ9_min_7cf53_1 : decode cJ9_min_7cf53 1 = .ok (.iload_n 1, 1) := by decide +kernel
theorem dJ9_min_7cf53_2 : decode cJ9_min_7cf53 2 = .ok (.if_icmp .gt 7, 3) := by decide +kernel
theorem dJ9_min_7cf53_5 : decode cJ9_min_7cf53 5 = .ok (.iload_n 0, 1) := by decide +kernel
theorem dJ9_min_7cf53_6 : decode cJ9_min_7cf53 6 = .ok (.goto 4, 3) := by decide +kernel
theorem dJ9_min_7cf53_9 : decode cJ9_min_7cf53 9 = .ok (.iload_n 1, 1) := by decide +kernel
theorem dJ9_min_7cf53_10 : decode cJ9_min_7cf53 10 = .ok (.ireturn, 1) := by decide +kernel
