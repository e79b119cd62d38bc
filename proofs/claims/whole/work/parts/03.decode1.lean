theorem dX0_init_0 : decode cX0_init 0 = .ok (.aload_n 0, 1) := by decide +kernel
theorem dX0_init_1 : decode cX0_init 1 = .ok (.invokespecial 3, 3) := by decide +kernel
theorem dX0_init_4 : decode cX0_init 4 = .ok (.aload_n 0, 1) := by decide +kernel
theorem dX0_init_5 : decode cX0_init 5 = .ok (.sipush 256, 3) := by decide +kernel
theorem dX0_init_8 : decode cX0_init 8 = .ok (.newarray .long, 2) := by decide +kernel
theorem dX0_init_10 : decode cX0_init 10 = .ok (.putfield 9, 3) := by decide +kernel
theorem dX0_init_13 : decode cX0_init 13 = .ok (.aload_n 0, 1) := by decide +kernel
theorem dX0_init_14 : decode cX0_init 14 = .ok (.bipush 64, 2) := by decide +kernel
theorem dX0_init_16 : decode cX0_init 16 = .ok (.newarray .long, 2) := by decide +kernel
theorem dX0_init_18 : decode cX0_init 18 = .ok (.putfield 15, 3) := by decide +kernel
theorem dX0_init_21 : decode cX0_init 21 = .ok (.aload_n 0, 1) := by decide +kernel
theorem dX0_init_22 : decode cX0_init 22 = .ok (.bipush 9, 2) := by decide +kernel
theorem dX0_init_24 : decode cX0_init 24 = .ok (.newarray .long, 2) := by decide +kernel
theorem dX0_init_26 : decode cX0_init 26 = .ok (.putfield 18, 3) := by decide +kernel
theorem dX0_init_29 : decode cX0_init 29 = .ok (.aload_n 0, 1) := by decide +kernel
theorem dX0_init_30 : decode cX0_init 30 = .ok (.bipush 8, 2) := by decide +kernel
theorem dX0_init_32 : decode cX0_init 32 = .ok (.newarray .long, 2) := by decide +kernel
theorem dX0_init_34 : decode cX0_init 34 = .ok (.putfield 21, 3) := by decide +kernel
theorem dX0_init_37 : decode cX0_init 37 = .ok (.aload_n 0, 1) := by decide +kernel
theorem dX0_init_38 : decode cX0_init 38 = .ok (.sipush 2304, 3) := by decide +kernel
theorem dX0_init_41 : decode cX0_init 41 = .ok (.newarray .long, 2) := by decide +kernel
theorem dX0_init_43 : decode cX0_init 43 = .ok (.putfield 24, 3) := by decide +kernel
theorem dX0_init_46 : decode cX0_init 46 = .ok (.aload_n 0, 1) := by decide +kernel
theorem dX0_init_47 : decode cX0_init 47 = .ok (.aload_n 1, 1) := by decide +kernel
theorem dX0_init_48 : decode cX0_init 48 = .ok (.putfield 27, 3) := by decide +kernel
theorem dX0_init_51 : decode cX0_init 51 = .ok (.return_, 1) := by decide +kernel
theorem dX0_refresh_0 : decode cX0_refresh 0 = .ok (.aload_n 0, 1) := by decide +kernel
theorem dX0_refresh_1 : decode cX0_refresh 1 = .ok (.getfield 31, 3) := by decide +kernel
theorem dX0_refresh_4 : decode cX0_refresh 4 = .ok (.ifCond .eq 4, 3) := by decide +kernel
theorem dX0_refresh_7 : decode cX0_refresh 7 = .ok (.return_, 1) := by decide +kernel
theorem dX0_refresh_8 : decode cX0_refresh 8 = .ok (.aload_n 0, 1) := by decide +kernel
theorem dX0_refresh_9 : decode cX0_refresh 9 = .ok (.invokevirtual 35, 3) := by decide +kernel
theorem dX0_refresh_12 : decode cX0_refresh 12 = .ok (.aload_n 0, 1) := by decide +kernel
theorem dX0_refresh_13 : decode cX0_refresh 13 = .ok (.getfield 9, 3) := by decide +kernel
theorem dX0_refresh_16 : decode cX0_refresh 16 = .ok (.iconst 0, 1) := by decide +kernel
theorem dX0_refresh_17 : decode cX0_refresh 17 = .ok (.ldc2_w 38, 3) := by decide +kernel
theorem dX0_refresh_20 : decode cX0_refresh 20 = .ok (.lastore, 1) := by decide +kernel
theorem dX0_refresh_21 : decode cX0_refresh 21 = .ok (.aload_n 0, 1) := by decide +kernel
theorem dX0_refresh_22 : decode cX0_refresh 22 = .ok (.getfield 24, 3) := by decide +kernel
theorem dX0_refresh_25 : decode cX0_refresh 25 = .ok (.iconst 0, 1) := by decide +kernel
theorem dX0_refresh_26 : decode cX0_refresh 26 = .ok (.ldc2_w 38, 3) := by decide +kernel
theorem dX0_refresh_29 : decode cX0_refresh 29 = .ok (.lastore, 1) := by decide +kernel
theorem dX0_refresh_30 : decode cX0_refresh 30 = .ok (.aload_n 0, 1) := by decide +kernel
theorem dX0_refresh_31 : decode cX0_refresh 31 = .ok (.getfield 27, 3) := by decide +kernel
theorem dX0_refresh_34 : decode cX0_refresh 34 = .ok (.invokevirtual 40, 3) := by decide +kernel
theorem dX0_refresh_37 : decode cX0_refresh 37 = .ok (.istore_n 1, 1) := by decide +kernel
theorem dX0_refresh_38 : decode cX0_refresh 38 = .ok (.iconst 0, 1) := by decide +kernel
theorem dX0_refresh_39 : decode cX0_refresh 39 = .ok (.istore_n 2, 1) := by decide +kernel
theorem dX0_refresh_40 : decode cX0_refresh 40 = .ok (.iload_n 2, 1) := by decide +kernel
theorem dX0_refresh_41 : decode cX0_refresh 41 = .ok (.iload_n 1, 1) := by decide +kernel
theorem dX0_refresh_42 : decode cX0_refresh 42 = .ok (.if_icmp .gt 29, 3) := by decide +kernel
theorem dX0_refresh_45 : decode cX0_refresh 45 = .ok (.aload_n 0, 1) := by decide +kernel
theorem dX0_refresh_46 : decode cX0_refresh 46 = .ok (.getfield 9, 3) := by decide +kernel
theorem dX0_refresh_49 : decode cX0_refresh 49 = .ok (.iload_n 2, 1) := by decide +kernel
theorem dX0_refresh_50 : decode cX0_refresh 50 = .ok (.laload, 1) := by decide +kernel
theorem dX0_refresh_51 : decode cX0_refresh 51 = .ok (.lconst 0, 1) := by decide +kernel
theorem dX0_refresh_52 : decode cX0_refresh 52 = .ok (.lcmp, 1) := by decide +kernel
theorem dX0_refresh_53 : decode cX0_refresh 53 = .ok (.ifCond .eq 12, 3) := by decide +kernel
theorem dX0_refresh_56 : decode cX0_refresh 56 = .ok (.aload_n 0, 1) := by decide +kernel
theorem dX0_refresh_57 : decode cX0_refresh 57 = .ok (.iload_n 2, 1) := by decide +kernel
theorem dX0_refresh_58 : decode cX0_refresh 58 = .ok (.iload_n 2, 1) := by decide +kernel
theorem dX0_refresh_59 : decode cX0_refresh 59 = .ok (.invokestatic 46, 3) := by decide +kernel
theorem dX0_refresh_62 : decode cX0_refresh 62 = .ok (.invokevirtual 52, 3) := by decide +kernel
theorem dX0_refresh_65 : decode cX0_refresh 65 = .ok (.iinc 2 1, 3) := by decide +kernel
theorem dX0_refresh_68 : decode cX0_refresh 68 = .ok (.goto (-28), 3) := by decide +kernel
theorem dX0_refresh_71 : decode cX0_refresh 71 = .ok (.iconst 1, 1) := by decide +kernel
theorem dX0_refresh_72 : decode cX0_refresh 72 = .ok (.istore_n 2, 1) := by decide +kernel
theorem dX0_refresh_73 : decode cX0_refresh 73 = .ok (.iload_n 2, 1) := by decide +kernel
theorem dX0_refresh_74 : decode cX0_refresh 74 = .ok (.aload_n 0, 1) := by decide +kernel
theorem dX0_refresh_75 : decode cX0_refresh 75 = .ok (.getfield 27, 3) := by decide +kernel
theorem dX0_refresh_78 : decode cX0_refresh 78 = .ok (.getfield 56, 3) := by decide +kernel
theorem dX0_refresh_81 : decode cX0_refresh 81 = .ok (.if_icmp .gt 27, 3) := by decide +kernel
theorem dX0_refresh_84 : decode cX0_refresh 84 = .ok (.aload_n 0, 1) := by decide +kernel
theorem dX0_refresh_85 : decode cX0_refresh 85 = .ok (.dup, 1) := by decide +kernel
theorem dX0_refresh_86 : decode cX0_refresh 86 = .ok (.getfield 60, 3) := by decide +kernel
theorem dX0_refresh_89 : decode cX0_refresh 89 = .ok (.iload_n 2, 1) := by decide +kernel
theorem dX0_refresh_90 : decode cX0_refresh 90 = .ok (.i2l, 1) := by decide +kernel
theorem dX0_refresh_91 : decode cX0_refresh 91 = .ok (.aload_n 0, 1) := by decide +kernel
theorem dX0_refresh_92 : decode cX0_refresh 92 = .ok (.getfield 18, 3) := by decide +kernel
theorem dX0_refresh_95 : decode cX0_refresh 95 = .ok (.iload_n 2, 1) := by decide +kernel
theorem dX0_refresh_96 : decode cX0_refresh 96 = .ok (.laload, 1) := by decide +kernel
theorem dX0_refresh_97 : decode cX0_refresh 97 = .ok (.lmul, 1) := by decide +kernel
theorem dX0_refresh_98 : decode cX0_refresh 98 = .ok (.ladd, 1) := by decide +kernel
theorem dX0_refresh_99 : decode cX0_refresh 99 = .ok (.putfield 60, 3) := by decide +kernel
theorem dX0_refresh_102 : decode cX0_refresh 102 = .ok (.iinc 2 1, 3) := by decide +kernel
theorem dX0_refresh_105 : decode cX0_refresh 105 = .ok (.goto (-32), 3) := by decide +kernel
theorem dX0_refresh_108 : decode cX0_refresh 108 = .ok (.aload_n 0, 1) := by decide +kernel
theorem dX0_refresh_109 : decode cX0_refresh 109 = .ok (.iconst 1, 1) := by decide +kernel
theorem dX0_refresh_110 : decode cX0_refresh 110 = .ok (.putfield 31, 3) := by decide +kernel
theorem dX0_refresh_113 : decode cX0_refresh 113 = .ok (.return_, 1) := by decide +kernel
theorem dX0_clear_0 : decode cX0_clear 0 = .ok (.aload_n 0, 1) := by decide +kernel
theorem dX0_clear_1 : decode cX0_clear 1 = .ok (.getfield 9, 3) := by decide +kernel
theorem dX0_clear_4 : decode cX0_clear 4 = .ok (.lconst 0, 1) := by decide +kernel
theorem dX0_clear_5 : decode cX0_clear 5 = .ok (.invokestatic 64, 3) := by decide +kernel
theorem dX0_clear_8 : decode cX0_clear 8 = .ok (.aload_n 0, 1) := by decide +kernel
theorem dX0_clear_9 : decode cX0_clear 9 = .ok (.getfield 15, 3) := by decide +kernel
theorem dX0_clear_12 : decode cX0_clear 12 = .ok (.lconst 0, 1) := by decide +kernel
theorem dX0_clear_13 : decode cX0_clear 13 = .ok (.invokestatic 64, 3) := by decide +kernel
theorem dX0_clear_16 : decode cX0_clear 16 = .ok (.aload_n 0, 1) := by decide +kernel
theorem dX0_clear_17 : decode cX0_clear 17 = .ok (.getfield 18, 3) := by decide +kernel
theorem dX0_clear_20 : decode cX0_clear 20 = .ok (.lconst 0, 1) := by decide +kernel
theorem dX0_clear_21 : decode cX0_clear 21 = .ok (.invokestatic 64, 3) := by decide +kernel
theorem dX0_clear_24 : decode cX0_clear 24 = .ok (.aload_n 0, 1) := by decide +kernel
theorem dX0_clear_25 : decode cX0_clear 25 = .ok (.getfield 21, 3) := by decide +kernel
theorem dX0_clear_28 : decode cX0_clear 28 = .ok (.lconst 0, 1) := by decide +kernel
theorem dX0_clear_29 : decode cX0_clear 29 = .ok (.invokestatic 64, 3) := by decide +kernel
theorem dX0_clear_32 : decode cX0_clear 32 = .ok (.aload_n 0, 1) := by decide +kernel
theorem dX0_clear_33 : decode cX0_clear 33 = .ok (.getfield 24, 3) := by decide +kernel
theorem dX0_clear_36 : decode cX0_clear 36 = .ok (.lconst 0, 1) := by decide +kernel
theorem dX0_clear_37 : decode cX0_clear 37 = .ok (.invokestatic 64, 3) := by decide +kernel
theorem dX0_clear_40 : decode cX0_clear 40 = .ok (.aload_n 0, 1) := by decide +kernel
theorem dX0_clear_41 : decode cX0_clear 41 = .ok (.lconst 0, 1) := by decide +kernel
theorem dX0_clear_42 : decode cX0_clear 42 = .ok (.putfield 60, 3) := by decide +kernel
theorem dX0_clear_45 : decode cX0_clear 45 = .ok (.aload_n 0, 1) := by decide +kernel
theorem dX0_clear_46 : decode cX0_clear 46 = .ok (.lconst 0, 1) := by decide +kernel
theorem dX0_clear_47 : decode cX0_clear 47 = .ok (.putfield 70, 3) := by decide +kernel
theorem dX0_clear_50 : decode cX0_clear 50 = .ok (.return_, 1) := by decide +kernel
theorem dX0_goOn_0 : decode cX0_goOn 0 = .ok (.iload_n 2, 1) := by decide +kernel
theorem dX0_goOn_1 : decode cX0_goOn 1 = .ok (.aload_n 0, 1) := by decide +kernel
theorem dX0_goOn_2 : decode cX0_goOn 2 = .ok (.getfield 27, 3) := by decide +kernel
theorem dX0_goOn_5 : decode cX0_goOn 5 = .ok (.getfield 56, 3) := by decide +kernel
theorem dX0_goOn_8 : decode cX0_goOn 8 = .ok (.if_icmp .lt 10, 3) := by decide +kernel
theorem dX0_goOn_11 : decode cX0_goOn 11 = .ok (.aload_n 0, 1) := by decide +kernel
theorem dX0_goOn_12 : decode cX0_goOn 12 = .ok (.iload_n 1, 1) := by decide +kernel
theorem dX0_goOn_13 : decode cX0_goOn 13 = .ok (.iload_n 2, 1) := by decide +kernel
theorem dX0_goOn_14 : decode cX0_goOn 14 = .ok (.invokevirtual 73, 3) := by decide +kernel
theorem dX0_goOn_17 : decode cX0_goOn 17 = .ok (.return_, 1) := by decide +kernel
theorem dX0_goOn_18 : decode cX0_goOn 18 = .ok (.aload_n 0, 1) := by decide +kernel
theorem dX0_goOn_19 : decode cX0_goOn 19 = .ok (.getfield 27, 3) := by decide +kernel
theorem dX0_goOn_22 : decode cX0_goOn 22 = .ok (.iload_n 1, 1) := by decide +kernel
theorem dX0_goOn_23 : decode cX0_goOn 23 = .ok (.aload_n 0, 1) := by decide +kernel
theorem dX0_goOn_24 : decode cX0_goOn 24 = .ok (.getfield 27, 3) := by decide +kernel
theorem dX0_goOn_27 : decode cX0_goOn 27 = .ok (.getfield 76, 3) := by decide +kernel
theorem dX0_goOn_30 : decode cX0_goOn 30 = .ok (.iload_n 2, 1) := by decide +kernel
theorem dX0_goOn_31 : decode cX0_goOn 31 = .ok (.iaload, 1) := by decide +kernel
theorem dX0_goOn_32 : decode cX0_goOn 32 = .ok (.aload_n 0, 1) := by decide +kernel
theorem dX0_goOn_33 : decode cX0_goOn 33 = .ok (.getfield 27, 3) := by decide +kernel
theorem dX0_goOn_36 : decode cX0_goOn 36 = .ok (.getfield 80, 3) := by decide +kernel
theorem dX0_goOn_39 : decode cX0_goOn 39 = .ok (.iload_n 2, 1) := by decide +kernel
theorem dX0_goOn_40 : decode cX0_goOn 40 = .ok (.iaload, 1) := by decide +kernel
theorem dX0_goOn_41 : decode cX0_goOn 41 = .ok (.invokevirtual 83, 3) := by decide +kernel
theorem dX0_goOn_44 : decode cX0_goOn 44 = .ok (.istore_n 3, 1) := by decide +kernel
theorem dX0_goOn_45 : decode cX0_goOn 45 = .ok (.iload_n 3, 1) := by decide +kernel
theorem dX0_goOn_46 : decode cX0_goOn 46 = .ok (.invokestatic 46, 3) := by decide +kernel
theorem dX0_goOn_49 : decode cX0_goOn 49 = .ok (.istore 4, 2) := by decide +kernel
theorem dX0_goOn_51 : decode cX0_goOn 51 = .ok (.iload 4, 2) := by decide +kernel
theorem dX0_goOn_53 : decode cX0_goOn 53 = .ok (.ifCond .ne 4, 3) := by decide +kernel
theorem dX0_goOn_56 : decode cX0_goOn 56 = .ok (.return_, 1) := by decide +kernel
theorem dX0_goOn_57 : decode cX0_goOn 57 = .ok (.iconst 0, 1) := by decide +kernel
theorem dX0_goOn_58 : decode cX0_goOn 58 = .ok (.istore 5, 2) := by decide +kernel
theorem dX0_goOn_60 : decode cX0_goOn 60 = .ok (.iload 5, 2) := by decide +kernel
theorem dX0_goOn_62 : decode cX0_goOn 62 = .ok (.aload_n 0, 1) := by decide +kernel
theorem dX0_goOn_63 : decode cX0_goOn 63 = .ok (.getfield 27, 3) := by decide +kernel
theorem dX0_goOn_66 : decode cX0_goOn 66 = .ok (.getfield 87, 3) := by decide +kernel
theorem dX0_goOn_69 : decode cX0_goOn 69 = .ok (.if_icmp .ge 28, 3) := by decide +kernel
theorem dX0_goOn_72 : decode cX0_goOn 72 = .ok (.iload_n 3, 1) := by decide +kernel
theorem dX0_goOn_73 : decode cX0_goOn 73 = .ok (.iload 5, 2) := by decide +kernel
theorem dX0_goOn_75 : decode cX0_goOn 75 = .ok (.invokestatic 90, 3) := by decide +kernel
theorem dX0_goOn_78 : decode cX0_goOn 78 = .ok (.ifCond .eq 13, 3) := by decide +kernel
theorem dX0_goOn_81 : decode cX0_goOn 81 = .ok (.aload_n 0, 1) := by decide +kernel
theorem dX0_goOn_82 : decode cX0_goOn 82 = .ok (.iload_n 1, 1) := by decide +kernel
theorem dX0_goOn_83 : decode cX0_goOn 83 = .ok (.iload_n 2, 1) := by decide +kernel
theorem dX0_goOn_84 : decode cX0_goOn 84 = .ok (.iload 5, 2) := by decide +kernel
theorem dX0_goOn_86 : decode cX0_goOn 86 = .ok (.iload 4, 2) := by decide +kernel
theorem dX0_goOn_88 : decode cX0_goOn 88 = .ok (.invokevirtual 94, 3) := by decide +kernel
theorem dX0_goOn_91 : decode cX0_goOn 91 = .ok (.iinc 5 1, 3) := by decide +kernel
theorem dX0_goOn_94 : decode cX0_goOn 94 = .ok (.goto (-34), 3) := by decide +kernel
theorem dX0_goOn_97 : decode cX0_goOn 97 = .ok (.return_, 1) := by decide +kernel
theorem dX0_sitDown_0 : decode cX0_sitDown 0 = .ok (.aload_n 0, 1) := by decide +kernel
theorem dX0_sitDown_1 : decode cX0_sitDown 1 = .ok (.getfield 27, 3) := by decide +kernel
theorem dX0_sitDown_4 : decode cX0_sitDown 4 = .ok (.getfield 76, 3) := by decide +kernel
theorem dX0_sitDown_7 : decode cX0_sitDown 7 = .ok (.iload_n 2, 1) := by decide +kernel
theorem dX0_sitDown_8 : decode cX0_sitDown 8 = .ok (.iaload, 1) := by decide +kernel
theorem dX0_sitDown_9 : decode cX0_sitDown 9 = .ok (.istore 5, 2) := by decide +kernel
theorem dX0_sitDown_11 : decode cX0_sitDown 11 = .ok (.iload_n 1, 1) := by decide +kernel
theorem dX0_sitDown_12 : decode cX0_sitDown 12 = .ok (.iconst 1, 1) := by decide +kernel
theorem dX0_sitDown_13 : decode cX0_sitDown 13 = .ok (.iload_n 3, 1) := by decide +kernel
theorem dX0_sitDown_14 : decode cX0_sitDown 14 = .ok (.ishl, 1) := by decide +kernel
theorem dX0_sitDown_15 : decode cX0_sitDown 15 = .ok (.ior, 1) := by decide +kernel
theorem dX0_sitDown_16 : decode cX0_sitDown 16 = .ok (.istore 6, 2) := by decide +kernel
theorem dX0_sitDown_18 : decode cX0_sitDown 18 = .ok (.aload_n 0, 1) := by decide +kernel
theorem dX0_sitDown_19 : decode cX0_sitDown 19 = .ok (.getfield 9, 3) := by decide +kernel
theorem dX0_sitDown_22 : decode cX0_sitDown 22 = .ok (.iload_n 1, 1) := by decide +kernel
theorem dX0_sitDown_23 : decode cX0_sitDown 23 = .ok (.laload, 1) := by decide +kernel
theorem dX0_sitDown_24 : decode cX0_sitDown 24 = .ok (.iload 4, 2) := by decide +kernel
theorem dX0_sitDown_26 : decode cX0_sitDown 26 = .ok (.i2l, 1) := by decide +kernel
theorem dX0_sitDown_27 : decode cX0_sitDown 27 = .ok (.ldiv, 1) := by decide +kernel
theorem dX0_sitDown_28 : decode cX0_sitDown 28 = .ok (.lstore 7, 2) := by decide +kernel
theorem dX0_sitDown_30 : decode cX0_sitDown 30 = .ok (.aload_n 0, 1) := by decide +kernel
theorem dX0_sitDown_31 : decode cX0_sitDown 31 = .ok (.getfield 9, 3) := by decide +kernel
theorem dX0_sitDown_34 : decode cX0_sitDown 34 = .ok (.iload 6, 2) := by decide +kernel
theorem dX0_sitDown_36 : decode cX0_sitDown 36 = .ok (.dup2, 1) := by decide +kernel
theorem dX0_sitDown_37 : decode cX0_sitDown 37 = .ok (.laload, 1) := by decide +kernel
theorem dX0_sitDown_38 : decode cX0_sitDown 38 = .ok (.lload 7, 2) := by decide +kernel
theorem dX0_sitDown_40 : decode cX0_sitDown 40 = .ok (.ladd, 1) := by decide +kernel
theorem dX0_sitDown_41 : decode cX0_sitDown 41 = .ok (.lastore, 1) := by decide +kernel
theorem dX0_sitDown_42 : decode cX0_sitDown 42 = .ok (.aload_n 0, 1) := by decide +kernel
theorem dX0_sitDown_43 : decode cX0_sitDown 43 = .ok (.getfield 15, 3) := by decide +kernel
theorem dX0_sitDown_46 : decode cX0_sitDown 46 = .ok (.iload_n 2, 1) := by decide +kernel
theorem dX0_sitDown_47 : decode cX0_sitDown 47 = .ok (.bipush 8, 2) := by decide +kernel
theorem dX0_sitDown_49 : decode cX0_sitDown 49 = .ok (.imul, 1) := by decide +kernel
theorem dX0_sitDown_50 : decode cX0_sitDown 50 = .ok (.iload_n 3, 1) := by decide +kernel
theorem dX0_sitDown_51 : decode cX0_sitDown 51 = .ok (.iadd, 1) := by decide +kernel
theorem dX0_sitDown_52 : decode cX0_sitDown 52 = .ok (.dup2, 1) := by decide +kernel
theorem dX0_sitDown_53 : decode cX0_sitDown 53 = .ok (.laload, 1) := by decide +kernel
theorem dX0_sitDown_54 : decode cX0_sitDown 54 = .ok (.lload 7, 2) := by decide +kernel
theorem dX0_sitDown_56 : decode cX0_sitDown 56 = .ok (.ladd, 1) := by decide +kernel
theorem dX0_sitDown_57 : decode cX0_sitDown 57 = .ok (.lastore, 1) := by decide +kernel
theorem dX0_sitDown_58 : decode cX0_sitDown 58 = .ok (.aload_n 0, 1) := by decide +kernel
theorem dX0_sitDown_59 : decode cX0_sitDown 59 = .ok (.getfield 27, 3) := by decide +kernel
theorem dX0_sitDown_62 : decode cX0_sitDown 62 = .ok (.getfield 80, 3) := by decide +kernel
theorem dX0_sitDown_65 : decode cX0_sitDown 65 = .ok (.iload_n 2, 1) := by decide +kernel
theorem dX0_sitDown_66 : decode cX0_sitDown 66 = .ok (.iaload, 1) := by decide +kernel
theorem dX0_sitDown_67 : decode cX0_sitDown 67 = .ok (.iconst 2, 1) := by decide +kernel
theorem dX0_sitDown_68 : decode cX0_sitDown 68 = .ok (.if_icmp .ne 26, 3) := by decide +kernel
theorem dX0_sitDown_71 : decode cX0_sitDown 71 = .ok (.aload_n 0, 1) := by decide +kernel
theorem dX0_sitDown_72 : decode cX0_sitDown 72 = .ok (.dup, 1) := by decide +kernel
theorem dX0_sitDown_73 : decode cX0_sitDown 73 = .ok (.getfield 70, 3) := by decide +kernel
theorem dX0_sitDown_76 : decode cX0_sitDown 76 = .ok (.lload 7, 2) := by decide +kernel
theorem dX0_sitDown_78 : decode cX0_sitDown 78 = .ok (.aload_n 0, 1) := by decide +kernel
theorem dX0_sitDown_79 : decode cX0_sitDown 79 = .ok (.getfield 27, 3) := by decide +kernel
theorem dX0_sitDown_82 : decode cX0_sitDown 82 = .ok (.iload 5, 2) := by decide +kernel
theorem dX0_sitDown_84 : decode cX0_sitDown 84 = .ok (.iload_n 3, 1) := by decide +kernel
theorem dX0_sitDown_85 : decode cX0_sitDown 85 = .ok (.invokevirtual 98, 3) := by decide +kernel
theorem dX0_sitDown_88 : decode cX0_sitDown 88 = .ok (.i2l, 1) := by decide +kernel
theorem dX0_sitDown_89 : decode cX0_sitDown 89 = .ok (.lmul, 1) := by decide +kernel
theorem dX0_sitDown_90 : decode cX0_sitDown 90 = .ok (.ladd, 1) := by decide +kernel
theorem dX0_sitDown_91 : decode cX0_sitDown 91 = .ok (.putfield 70, 3) := by decide +kernel
theorem dX0_sitDown_94 : decode cX0_sitDown 94 = .ok (.iload_n 3, 1) := by decide +kernel
theorem dX0_sitDown_95 : decode cX0_sitDown 95 = .ok (.iload 5, 2) := by decide +kernel
theorem dX0_sitDown_97 : decode cX0_sitDown 97 = .ok (.if_icmp .ne 7, 3) := by decide +kernel
theorem dX0_sitDown_100 : decode cX0_sitDown 100 = .ok (.iconst 0, 1) := by decide +kernel
theorem dX0_sitDown_101 : decode cX0_sitDown 101 = .ok (.goto 4, 3) := by decide +kernel
theorem dX0_sitDown_104 : decode cX0_sitDown 104 = .ok (.iconst 1, 1) := by decide +kernel
theorem dX0_sitDown_105 : decode cX0_sitDown 105 = .ok (.istore 9, 2) := by decide +kernel
theorem dX0_sitDown_107 : decode cX0_sitDown 107 = .ok (.iconst 0, 1) := by decide +kernel
theorem dX0_sitDown_108 : decode cX0_sitDown 108 = .ok (.istore 10, 2) := by decide +kernel
theorem dX0_sitDown_110 : decode cX0_sitDown 110 = .ok (.iload 10, 2) := by decide +kernel
theorem dX0_sitDown_112 : decode cX0_sitDown 112 = .ok (.iload_n 2, 1) := by decide +kernel
theorem dX0_sitDown_113 : decode cX0_sitDown 113 = .ok (.if_icmp .gt 44, 3) := by decide +kernel
theorem dX0_sitDown_116 : decode cX0_sitDown 116 = .ok (.aload_n 0, 1) := by decide +kernel
theorem dX0_sitDown_117 : decode cX0_sitDown 117 = .ok (.getfield 24, 3) := by decide +kernel
theorem dX0_sitDown_120 : decode cX0_sitDown 120 = .ok (.iload 6, 2) := by decide +kernel
theorem dX0_sitDown_122 : decode cX0_sitDown 122 = .ok (.bipush 9, 2) := by decide +kernel
theorem dX0_sitDown_124 : decode cX0_sitDown 124 = .ok (.imul, 1) := by decide +kernel
theorem dX0_sitDown_125 : decode cX0_sitDown 125 = .ok (.iload 10, 2) := by decide +kernel
theorem dX0_sitDown_127 : decode cX0_sitDown 127 = .ok (.iadd, 1) := by decide +kernel
theorem dX0_sitDown_128 : decode cX0_sitDown 128 = .ok (.iload 9, 2) := by decide +kernel
theorem dX0_sitDown_130 : decode cX0_sitDown 130 = .ok (.iadd, 1) := by decide +kernel
theorem dX0_sitDown_131 : decode cX0_sitDown 131 = .ok (.dup2, 1) := by decide +kernel
theorem dX0_sitDown_132 : decode cX0_sitDown 132 = .ok (.laload, 1) := by decide +kernel
theorem dX0_sitDown_133 : decode cX0_sitDown 133 = .ok (.aload_n 0, 1) := by decide +kernel
theorem dX0_sitDown_134 : decode cX0_sitDown 134 = .ok (.getfield 24, 3) := by decide +kernel
theorem dX0_sitDown_137 : decode cX0_sitDown 137 = .ok (.iload_n 1, 1) := by decide +kernel
theorem dX0_sitDown_138 : decode cX0_sitDown 138 = .ok (.bipush 9, 2) := by decide +kernel
theorem dX0_sitDown_140 : decode cX0_sitDown 140 = .ok (.imul, 1) := by decide +kernel
theorem dX0_sitDown_141 : decode cX0_sitDown 141 = .ok (.iload 10, 2) := by decide +kernel
theorem dX0_sitDown_143 : decode cX0_sitDown 143 = .ok (.iadd, 1) := by decide +kernel
theorem dX0_sitDown_144 : decode cX0_sitDown 144 = .ok (.laload, 1) := by decide +kernel
theorem dX0_sitDown_145 : decode cX0_sitDown 145 = .ok (.iload 4, 2) := by decide +kernel
theorem dX0_sitDown_147 : decode cX0_sitDown 147 = .ok (.i2l, 1) := by decide +kernel
theorem dX0_sitDown_148 : decode cX0_sitDown 148 = .ok (.ldiv, 1) := by decide +kernel
theorem dX0_sitDown_149 : decode cX0_sitDown 149 = .ok (.ladd, 1) := by decide +kernel
theorem dX0_sitDown_150 : decode cX0_sitDown 150 = .ok (.lastore, 1) := by decide +kernel
theorem dX0_sitDown_151 : decode cX0_sitDown 151 = .ok (.iinc 10 1, 3) := by decide +kernel
theorem dX0_sitDown_154 : decode cX0_sitDown 154 = .ok (.goto (-44), 3) := by decide +kernel
theorem dX0_sitDown_157 : decode cX0_sitDown 157 = .ok (.return_, 1) := by decide +kernel
theorem dX0_close_0 : decode cX0_close 0 = .ok (.iconst 0, 1) := by decide +kernel
theorem dX0_close_1 : decode cX0_close 1 = .ok (.istore_n 3, 1) := by decide +kernel
theorem dX0_close_2 : decode cX0_close 2 = .ok (.iload_n 3, 1) := by decide +kernel
theorem dX0_close_3 : decode cX0_close 3 = .ok (.iload_n 2, 1) := by decide +kernel
theorem dX0_close_4 : decode cX0_close 4 = .ok (.if_icmp .gt 29, 3) := by decide +kernel
theorem dX0_close_7 : decode cX0_close 7 = .ok (.aload_n 0, 1) := by decide +kernel
theorem dX0_close_8 : decode cX0_close 8 = .ok (.getfield 18, 3) := by decide +kernel
theorem dX0_close_11 : decode cX0_close 11 = .ok (.iload_n 3, 1) := by decide +kernel
theorem dX0_close_12 : decode cX0_close 12 = .ok (.dup2, 1) := by decide +kernel
theorem dX0_close_13 : decode cX0_close 13 = .ok (.laload, 1) := by decide +kernel
theorem dX0_close_14 : decode cX0_close 14 = .ok (.aload_n 0, 1) := by decide +kernel
theorem dX0_close_15 : decode cX0_close 15 = .ok (.getfield 24, 3) := by decide +kernel
theorem dX0_close_18 : decode cX0_close 18 = .ok (.iload_n 1, 1) := by decide +kernel
theorem dX0_close_19 : decode cX0_close 19 = .ok (.bipush 9, 2) := by decide +kernel
theorem dX0_close_21 : decode cX0_close 21 = .ok (.imul, 1) := by decide +kernel
theorem dX0_close_22 : decode cX0_close 22 = .ok (.iload_n 3, 1) := by decide +kernel
theorem dX0_close_23 : decode cX0_close 23 = .ok (.iadd, 1) := by decide +kernel
theorem dX0_close_24 : decode cX0_close 24 = .ok (.laload, 1) := by decide +kernel
theorem dX0_close_25 : decode cX0_close 25 = .ok (.ladd, 1) := by decide +kernel
theorem dX0_close_26 : decode cX0_close 26 = .ok (.lastore, 1) := by decide +kernel
theorem dX0_close_27 : decode cX0_close 27 = .ok (.iinc 3 1, 3) := by decide +kernel
theorem dX0_close_30 : decode cX0_close 30 = .ok (.goto (-28), 3) := by decide +kernel
theorem dX0_close_33 : decode cX0_close 33 = .ok (.iconst 0, 1) := by decide +kernel
theorem dX0_close_34 : decode cX0_close 34 = .ok (.istore_n 3, 1) := by decide +kernel
theorem dX0_close_35 : decode cX0_close 35 = .ok (.iload_n 3, 1) := by decide +kernel
theorem dX0_close_36 : decode cX0_close 36 = .ok (.aload_n 0, 1) := by decide +kernel
theorem dX0_close_37 : decode cX0_close 37 = .ok (.getfield 27, 3) := by decide +kernel
theorem dX0_close_40 : decode cX0_close 40 = .ok (.getfield 87, 3) := by decide +kernel
theorem dX0_close_43 : decode cX0_close 43 = .ok (.if_icmp .ge 32, 3) := by decide +kernel
theorem dX0_close_46 : decode cX0_close 46 = .ok (.iload_n 1, 1) := by decide +kernel
theorem dX0_close_47 : decode cX0_close 47 = .ok (.iload_n 3, 1) := by decide +kernel
theorem dX0_close_48 : decode cX0_close 48 = .ok (.invokestatic 90, 3) := by decide +kernel
theorem dX0_close_51 : decode cX0_close 51 = .ok (.ifCond .ne 18, 3) := by decide +kernel
theorem dX0_close_54 : decode cX0_close 54 = .ok (.aload_n 0, 1) := by decide +kernel
theorem dX0_close_55 : decode cX0_close 55 = .ok (.getfield 21, 3) := by decide +kernel
theorem dX0_close_58 : decode cX0_close 58 = .ok (.iload_n 3, 1) := by decide +kernel
theorem dX0_close_59 : decode cX0_close 59 = .ok (.dup2, 1) := by decide +kernel
theorem dX0_close_60 : decode cX0_close 60 = .ok (.laload, 1) := by decide +kernel
theorem dX0_close_61 : decode cX0_close 61 = .ok (.aload_n 0, 1) := by decide +kernel
theorem dX0_close_62 : decode cX0_close 62 = .ok (.getfield 9, 3) := by decide +kernel
theorem dX0_close_65 : decode cX0_close 65 = .ok (.iload_n 1, 1) := by decide +kernel
theorem dX0_close_66 : decode cX0_close 66 = .ok (.laload, 1) := by decide +kernel
theorem dX0_close_67 : decode cX0_close 67 = .ok (.ladd, 1) := by decide +kernel
theorem dX0_close_68 : decode cX0_close 68 = .ok (.lastore, 1) := by decide +kernel
theorem dX0_close_69 : decode cX0_close 69 = .ok (.iinc 3 1, 3) := by decide +kernel
theorem dX0_close_72 : decode cX0_close 72 = .ok (.goto (-37), 3) := by decide +kernel
theorem dX0_close_75 : decode cX0_close 75 = .ok (.return_, 1) := by decide +kernel
theorem dX1_init_0 : decode cX1_init 0 = .ok (.aload_n 0, 1) := by decide +kernel
theorem dX1_init_1 : decode cX1_init 1 = .ok (.invokespecial 3, 3) := by decide +kernel
theorem dX1_init_4 : decode cX1_init 4 = .ok (.aload_n 0, 1) := by decide +kernel
theorem dX1_init_5 : decode cX1_init 5 = .ok (.bipush 6, 2) := by decide +kernel
theorem dX1_init_7 : decode cX1_init 7 = .ok (.newarray .int, 2) := by decide +kernel
theorem dX1_init_9 : decode cX1_init 9 = .ok (.putfield 9, 3) := by decide +kernel
theorem dX1_init_12 : decode cX1_init 12 = .ok (.aload_n 0, 1) := by decide +kernel
theorem dX1_init_13 : decode cX1_init 13 = .ok (.bipush 6, 2) := by decide +kernel
theorem dX1_init_15 : decode cX1_init 15 = .ok (.newarray .int, 2) := by decide +kernel
theorem dX1_init_17 : decode cX1_init 17 = .ok (.putfield 15, 3) := by decide +kernel
theorem dX1_init_20 : decode cX1_init 20 = .ok (.aload_n 0, 1) := by decide +kernel
theorem dX1_init_21 : decode cX1_init 21 = .ok (.sipush 256, 3) := by decide +kernel
theorem dX1_init_24 : decode cX1_init 24 = .ok (.newarray .long, 2) := by decide +kernel
theorem dX1_init_26 : decode cX1_init 26 = .ok (.putfield 18, 3) := by decide +kernel
theorem dX1_init_29 : decode cX1_init 29 = .ok (.aload_n 0, 1) := by decide +kernel
theorem dX1_init_30 : decode cX1_init 30 = .ok (.bipush 56, 2) := by decide +kernel
theorem dX1_init_32 : decode cX1_init 32 = .ok (.newarray .long, 2) := by decide +kernel
theorem dX1_init_34 : decode cX1_init 34 = .ok (.putfield 22, 3) := by decide +kernel
theorem dX1_init_37 : decode cX1_init 37 = .ok (.aload_n 0, 1) := by decide +kernel
theorem dX1_init_38 : decode cX1_init 38 = .ok (.aload_n 1, 1) := by decide +kernel
theorem dX1_init_39 : decode cX1_init 39 = .ok (.putfield 25, 3) := by decide +kernel
theorem dX1_init_42 : decode cX1_init 42 = .ok (.return_, 1) := by decide +kernel
theorem dX1_refresh_0 : decode cX1_refresh 0 = .ok (.aload_n 0, 1) := by decide +kernel
theorem dX1_refresh_1 : decode cX1_refresh 1 = .ok (.getfield 29, 3) := by decide +kernel
theorem dX1_refresh_4 : decode cX1_refresh 4 = .ok (.ifCond .ne 15, 3) := by decide +kernel
theorem dX1_refresh_7 : decode cX1_refresh 7 = .ok (.aload_n 0, 1) := by decide +kernel
theorem dX1_refresh_8 : decode cX1_refresh 8 = .ok (.getfield 25, 3) := by decide +kernel
theorem dX1_refresh_11 : decode cX1_refresh 11 = .ok (.getfield 33, 3) := by decide +kernel
theorem dX1_refresh_14 : decode cX1_refresh 14 = .ok (.bipush 6, 2) := by decide +kernel
theorem dX1_refresh_16 : decode cX1_refresh 16 = .ok (.if_icmp .le 4, 3) := by decide +kernel
theorem dX1_refresh_19 : decode cX1_refresh 19 = .ok (.return_, 1) := by decide +kernel
theorem dX1_refresh_20 : decode cX1_refresh 20 = .ok (.aload_n 0, 1) := by decide +kernel
theorem dX1_refresh_21 : decode cX1_refresh 21 = .ok (.ldc2_w 41, 3) := by decide +kernel
theorem dX1_refresh_24 : decode cX1_refresh 24 = .ok (.putfield 43, 3) := by decide +kernel
theorem dX1_refresh_27 : decode cX1_refresh 27 = .ok (.aload_n 0, 1) := by decide +kernel
theorem dX1_refresh_28 : decode cX1_refresh 28 = .ok (.getfield 18, 3) := by decide +kernel
theorem dX1_refresh_31 : decode cX1_refresh 31 = .ok (.iconst 0, 1) := by decide +kernel
theorem dX1_refresh_32 : decode cX1_refresh 32 = .ok (.ldc2_w 47, 3) := by decide +kernel
theorem dX1_refresh_35 : decode cX1_refresh 35 = .ok (.lastore, 1) := by decide +kernel
theorem dX1_refresh_36 : decode cX1_refresh 36 = .ok (.aload_n 0, 1) := by decide +kernel
theorem dX1_refresh_37 : decode cX1_refresh 37 = .ok (.iconst 0, 1) := by decide +kernel
theorem dX1_refresh_38 : decode cX1_refresh 38 = .ok (.iconst 0, 1) := by decide +kernel
theorem dX1_refresh_39 : decode cX1_refresh 39 = .ok (.lconst 0, 1) := by decide +kernel
theorem dX1_refresh_40 : decode cX1_refresh 40 = .ok (.invokevirtual 49, 3) := by decide +kernel
theorem dX1_refresh_43 : decode cX1_refresh 43 = .ok (.aload_n 0, 1) := by decide +kernel
theorem dX1_refresh_44 : decode cX1_refresh 44 = .ok (.iconst 1, 1) := by decide +kernel
theorem dX1_refresh_45 : decode cX1_refresh 45 = .ok (.putfield 29, 3) := by decide +kernel
theorem dX1_refresh_48 : decode cX1_refresh 48 = .ok (.return_, 1) := by decide +kernel
theorem dX1_letIn_0 : decode cX1_letIn 0 = .ok (.iload_n 1, 1) := by decide +kernel
theorem dX1_letIn_1 : decode cX1_letIn 1 = .ok (.aload_n 0, 1) := by decide +kernel
theorem dX1_letIn_2 : decode cX1_letIn 2 = .ok (.getfield 25, 3) := by decide +kernel
theorem dX1_letIn_5 : decode cX1_letIn 5 = .ok (.getfield 33, 3) := by decide +kernel
theorem dX1_letIn_8 : decode cX1_letIn 8 = .ok (.if_icmp .ge 9, 3) := by decide +kernel
theorem dX1_letIn_11 : decode cX1_letIn 11 = .ok (.iload_n 1, 1) := by decide +kernel
theorem dX1_letIn_12 : decode cX1_letIn 12 = .ok (.bipush 6, 2) := by decide +kernel
theorem dX1_letIn_14 : decode cX1_letIn 14 = .ok (.if_icmp .lt 9, 3) := by decide +kernel
theorem dX1_letIn_17 : decode cX1_letIn 17 = .ok (.aload_n 0, 1) := by decide +kernel
theorem dX1_letIn_18 : decode cX1_letIn 18 = .ok (.lload_n 3, 1) := by decide +kernel
theorem dX1_letIn_19 : decode cX1_letIn 19 = .ok (.invokevirtual 53, 3) := by decide +kernel
theorem dX1_letIn_22 : decode cX1_letIn 22 = .ok (.return_, 1) := by decide +kernel
theorem dX1_letIn_23 : decode cX1_letIn 23 = .ok (.lload_n 3, 1) := by decide +kernel
theorem dX1_letIn_24 : decode cX1_letIn 24 = .ok (.aload_n 0, 1) := by decide +kernel
theorem dX1_letIn_25 : decode cX1_letIn 25 = .ok (.iload_n 1, 1) := by decide +kernel
theorem dX1_letIn_26 : decode cX1_letIn 26 = .ok (.iload_n 2, 1) := by decide +kernel
theorem dX1_letIn_27 : decode cX1_letIn 27 = .ok (.invokevirtual 57, 3) := by decide +kernel
theorem dX1_letIn_30 : decode cX1_letIn 30 = .ok (.ladd, 1) := by decide +kernel
theorem dX1_letIn_31 : decode cX1_letIn 31 = .ok (.aload_n 0, 1) := by decide +kernel
theorem dX1_letIn_32 : decode cX1_letIn 32 = .ok (.getfield 43, 3) := by decide +kernel
theorem dX1_letIn_35 : decode cX1_letIn 35 = .ok (.lcmp, 1) := by decide +kernel
theorem dX1_letIn_36 : decode cX1_letIn 36 = .ok (.ifCond .lt 4, 3) := by decide +kernel
theorem dX1_letIn_39 : decode cX1_letIn 39 = .ok (.return_, 1) := by decide +kernel
theorem dX1_letIn_40 : decode cX1_letIn 40 = .ok (.aload_n 0, 1) := by decide +kernel
theorem dX1_letIn_41 : decode cX1_letIn 41 = .ok (.iload_n 2, 1) := by decide +kernel
theorem dX1_letIn_42 : decode cX1_letIn 42 = .ok (.invokevirtual 61, 3) := by decide +kernel
theorem dX1_letIn_45 : decode cX1_letIn 45 = .ok (.ifCond .eq 11, 3) := by decide +kernel
theorem dX1_letIn_48 : decode cX1_letIn 48 = .ok (.aload_n 0, 1) := by decide +kernel
theorem dX1_letIn_49 : decode cX1_letIn 49 = .ok (.iload_n 1, 1) := by decide +kernel
theorem dX1_letIn_50 : decode cX1_letIn 50 = .ok (.iload_n 2, 1) := by decide +kernel
theorem dX1_letIn_51 : decode cX1_letIn 51 = .ok (.lload_n 3, 1) := by decide +kernel
theorem dX1_letIn_52 : decode cX1_letIn 52 = .ok (.invokevirtual 65, 3) := by decide +kernel
theorem dX1_letIn_55 : decode cX1_letIn 55 = .ok (.return_, 1) := by decide +kernel
theorem dX1_letIn_56 : decode cX1_letIn 56 = .ok (.iconst 0, 1) := by decide +kernel
theorem dX1_letIn_57 : decode cX1_letIn 57 = .ok (.istore 5, 2) := by decide +kernel
theorem dX1_letIn_59 : decode cX1_letIn 59 = .ok (.iload 5, 2) := by decide +kernel
theorem dX1_letIn_61 : decode cX1_letIn 61 = .ok (.aload_n 0, 1) := by decide +kernel
theorem dX1_letIn_62 : decode cX1_letIn 62 = .ok (.getfield 25, 3) := by decide +kernel
theorem dX1_letIn_65 : decode cX1_letIn 65 = .ok (.getfield 33, 3) := by decide +kernel
theorem dX1_letIn_68 : decode cX1_letIn 68 = .ok (.if_icmp .ge 82, 3) := by decide +kernel
theorem dX1_letIn_71 : decode cX1_letIn 71 = .ok (.iload_n 2, 1) := by decide +kernel
theorem dX1_letIn_72 : decode cX1_letIn 72 = .ok (.iload 5, 2) := by decide +kernel
theorem dX1_letIn_74 : decode cX1_letIn 74 = .ok (.invokestatic 68, 3) := by decide +kernel
theorem dX1_letIn_77 : decode cX1_letIn 77 = .ok (.ifCond .ne 67, 3) := by decide +kernel
theorem dX1_letIn_80 : decode cX1_letIn 80 = .ok (.aload_n 0, 1) := by decide +kernel
theorem dX1_letIn_81 : decode cX1_letIn 81 = .ok (.iload 5, 2) := by decide +kernel
theorem dX1_letIn_83 : decode cX1_letIn 83 = .ok (.iload_n 2, 1) := by decide +kernel
theorem dX1_letIn_84 : decode cX1_letIn 84 = .ok (.invokevirtual 72, 3) := by decide +kernel
theorem dX1_letIn_87 : decode cX1_letIn 87 = .ok (.ifCond .eq 6, 3) := by decide +kernel
theorem dX1_letIn_90 : decode cX1_letIn 90 = .ok (.goto 54, 3) := by decide +kernel
theorem dX1_letIn_93 : decode cX1_letIn 93 = .ok (.lload_n 3, 1) := by decide +kernel
theorem dX1_letIn_94 : decode cX1_letIn 94 = .ok (.aload_n 0, 1) := by decide +kernel
theorem dX1_letIn_95 : decode cX1_letIn 95 = .ok (.iload_n 1, 1) := by decide +kernel
theorem dX1_letIn_96 : decode cX1_letIn 96 = .ok (.iload 5, 2) := by decide +kernel
theorem dX1_letIn_98 : decode cX1_letIn 98 = .ok (.invokevirtual 75, 3) := by decide +kernel
theorem dX1_letIn_101 : decode cX1_letIn 101 = .ok (.ladd, 1) := by decide +kernel
theorem dX1_letIn_102 : decode cX1_letIn 102 = .ok (.lstore 6, 2) := by decide +kernel
theorem dX1_letIn_104 : decode cX1_letIn 104 = .ok (.lload 6, 2) := by decide +kernel
theorem dX1_letIn_106 : decode cX1_letIn 106 = .ok (.aload_n 0, 1) := by decide +kernel
theorem dX1_letIn_107 : decode cX1_letIn 107 = .ok (.getfield 43, 3) := by decide +kernel
theorem dX1_letIn_110 : decode cX1_letIn 110 = .ok (.lcmp, 1) := by decide +kernel
theorem dX1_letIn_111 : decode cX1_letIn 111 = .ok (.ifCond .ge 33, 3) := by decide +kernel
theorem dX1_letIn_114 : decode cX1_letIn 114 = .ok (.aload_n 0, 1) := by decide +kernel
theorem dX1_letIn_115 : decode cX1_letIn 115 = .ok (.getfield 15, 3) := by decide +kernel
theorem dX1_letIn_118 : decode cX1_letIn 118 = .ok (.iload_n 1, 1) := by decide +kernel
theorem dX1_letIn_119 : decode cX1_letIn 119 = .ok (.iload 5, 2) := by decide +kernel
theorem dX1_letIn_121 : decode cX1_letIn 121 = .ok (.iastore, 1) := by decide +kernel
theorem dX1_letIn_122 : decode cX1_letIn 122 = .ok (.aload_n 0, 1) := by decide +kernel
theorem dX1_letIn_123 : decode cX1_letIn 123 = .ok (.iload_n 1, 1) := by decide +kernel
theorem dX1_letIn_124 : decode cX1_letIn 124 = .ok (.iload 5, 2) := by decide +kernel
theorem dX1_letIn_126 : decode cX1_letIn 126 = .ok (.invokevirtual 78, 3) := by decide +kernel
theorem dX1_letIn_129 : decode cX1_letIn 129 = .ok (.aload_n 0, 1) := by decide +kernel
theorem dX1_letIn_130 : decode cX1_letIn 130 = .ok (.iload_n 1, 1) := by decide +kernel
theorem dX1_letIn_131 : decode cX1_letIn 131 = .ok (.iconst 1, 1) := by decide +kernel
theorem dX1_letIn_132 : decode cX1_letIn 132 = .ok (.iadd, 1) := by decide +kernel
theorem dX1_letIn_133 : decode cX1_letIn 133 = .ok (.iload_n 2, 1) := by decide +kernel
theorem dX1_letIn_134 : decode cX1_letIn 134 = .ok (.iconst 1, 1) := by decide +kernel
theorem dX1_letIn_135 : decode cX1_letIn 135 = .ok (.iload 5, 2) := by decide +kernel
theorem dX1_letIn_137 : decode cX1_letIn 137 = .ok (.ishl, 1) := by decide +kernel
theorem dX1_letIn_138 : decode cX1_letIn 138 = .ok (.ior, 1) := by decide +kernel
theorem dX1_letIn_139 : decode cX1_letIn 139 = .ok (.lload 6, 2) := by decide +kernel
theorem dX1_letIn_141 : decode cX1_letIn 141 = .ok (.invokevirtual 49, 3) := by decide +kernel
theorem dX1_letIn_144 : decode cX1_letIn 144 = .ok (.iinc 5 1, 3) := by decide +kernel
theorem dX1_letIn_147 : decode cX1_letIn 147 = .ok (.goto (-88), 3) := by decide +kernel
theorem dX1_letIn_150 : decode cX1_letIn 150 = .ok (.return_, 1) := by decide +kernel
theorem dX1_onlyLostOutside_0 : decode cX1_onlyLostOutside 0 = .ok (.iconst 0, 1) := by decide +kernel
theorem dX1_onlyLostOutside_1 : decode cX1_onlyLostOutside 1 = .ok (.istore_n 2, 1) := by decide +kernel
theorem dX1_onlyLostOutside_2 : decode cX1_onlyLostOutside 2 = .ok (.iload_n 2, 1) := by decide +kernel
theorem dX1_onlyLostOutside_3 : decode cX1_onlyLostOutside 3 = .ok (.aload_n 0, 1) := by decide +kernel
theorem dX1_onlyLostOutside_4 : decode cX1_onlyLostOutside 4 = .ok (.getfield 25, 3) := by decide +kernel
theorem dX1_onlyLostOutside_7 : decode cX1_onlyLostOutside 7 = .ok (.getfield 33, 3) := by decide +kernel
theorem dX1_onlyLostOutside_10 : decode cX1_onlyLostOutside 10 = .ok (.if_icmp .ge 32, 3) := by decide +kernel
theorem dX1_onlyLostOutside_13 : decode cX1_onlyLostOutside 13 = .ok (.iload_n 1, 1) := by decide +kernel
theorem dX1_onlyLostOutside_14 : decode cX1_onlyLostOutside 14 = .ok (.iload_n 2, 1) := by decide +kernel
theorem dX1_onlyLostOutside_15 : decode cX1_onlyLostOutside 15 = .ok (.invokestatic 68, 3) := by decide +kernel
theorem dX1_onlyLostOutside_18 : decode cX1_onlyLostOutside 18 = .ok (.ifCond .ne 18, 3) := by decide +kernel
theorem dX1_onlyLostOutside_21 : decode cX1_onlyLostOutside 21 = .ok (.aload_n 0, 1) := by decide +kernel
theorem dX1_onlyLostOutside_22 : decode cX1_onlyLostOutside 22 = .ok (.getfield 25, 3) := by decide +kernel
theorem dX1_onlyLostOutside_25 : decode cX1_onlyLostOutside 25 = .ok (.getfield 82, 3) := by decide +kernel
theorem dX1_onlyLostOutside_28 : decode cX1_onlyLostOutside 28 = .ok (.iload_n 2, 1) := by decide +kernel
theorem dX1_onlyLostOutside_29 : decode cX1_onlyLostOutside 29 = .ok (.iaload, 1) := by decide +kernel
theorem dX1_onlyLostOutside_30 : decode cX1_onlyLostOutside 30 = .ok (.iconst 1, 1) := by decide +kernel
theorem dX1_onlyLostOutside_31 : decode cX1_onlyLostOutside 31 = .ok (.if_icmp .eq 5, 3) := by decide +kernel
theorem dX1_onlyLostOutside_34 : decode cX1_onlyLostOutside 34 = .ok (.iconst 0, 1) := by decide +kernel
theorem dX1_onlyLostOutside_35 : decode cX1_onlyLostOutside 35 = .ok (.ireturn, 1) := by decide +kernel
theorem dX1_onlyLostOutside_36 : decode cX1_onlyLostOutside 36 = .ok (.iinc 2 1, 3) := by decide +kernel
theorem dX1_onlyLostOutside_39 : decode cX1_onlyLostOutside 39 = .ok (.goto (-37), 3) := by decide +kernel
theorem dX1_onlyLostOutside_42 : decode cX1_onlyLostOutside 42 = .ok (.iconst 1, 1) := by decide +kernel
theorem dX1_onlyLostOutside_43 : decode cX1_onlyLostOutside 43 = .ok (.ireturn, 1) := by decide +kernel
theorem dX1_letInLost_0 : decode cX1_letInLost 0 = .ok (.lload_n 3, 1) := by decide +kernel
theorem dX1_letInLost_1 : decode cX1_letInLost 1 = .ok (.lstore 5, 2) := by decide +kernel
theorem dX1_letInLost_3 : decode cX1_letInLost 3 = .ok (.iload_n 1, 1) := by decide +kernel
theorem dX1_letInLost_4 : decode cX1_letInLost 4 = .ok (.istore 7, 2) := by decide +kernel
theorem dX1_letInLost_6 : decode cX1_letInLost 6 = .ok (.iconst 0, 1) := by decide +kernel
theorem dX1_letInLost_7 : decode cX1_letInLost 7 = .ok (.istore 8, 2) := by decide +kernel
theorem dX1_letInLost_9 : decode cX1_letInLost 9 = .ok (.iload 8, 2) := by decide +kernel
theorem dX1_letInLost_11 : decode cX1_letInLost 11 = .ok (.aload_n 0, 1) := by decide +kernel
theorem dX1_letInLost_12 : decode cX1_letInLost 12 = .ok (.getfield 25, 3) := by decide +kernel
theorem dX1_letInLost_15 : decode cX1_letInLost 15 = .ok (.getfield 33, 3) := by decide +kernel
theorem dX1_letInLost_18 : decode cX1_letInLost 18 = .ok (.if_icmp .ge 49, 3) := by decide +kernel
theorem dX1_letInLost_21 : decode cX1_letInLost 21 = .ok (.iload 7, 2) := by decide +kernel
theorem dX1_letInLost_23 : decode cX1_letInLost 23 = .ok (.bipush 6, 2) := by decide +kernel
theorem dX1_letInLost_25 : decode cX1_letInLost 25 = .ok (.if_icmp .ge 42, 3) := by decide +kernel
theorem dX1_letInLost_28 : decode cX1_letInLost 28 = .ok (.iload_n 2, 1) := by decide +kernel
theorem dX1_letInLost_29 : decode cX1_letInLost 29 = .ok (.iload 8, 2) := by decide +kernel
theorem dX1_letInLost_31 : decode cX1_letInLost 31 = .ok (.invokestatic 68, 3) := by decide +kernel
theorem dX1_letInLost_34 : decode cX1_letInLost 34 = .ok (.ifCond .ne 27, 3) := by decide +kernel
theorem dX1_letInLost_37 : decode cX1_letInLost 37 = .ok (.lload 5, 2) := by decide +kernel
theorem dX1_letInLost_39 : decode cX1_letInLost 39 = .ok (.aload_n 0, 1) := by decide +kernel
theorem dX1_letInLost_40 : decode cX1_letInLost 40 = .ok (.iload_n 1, 1) := by decide +kernel
theorem dX1_letInLost_41 : decode cX1_letInLost 41 = .ok (.iload 8, 2) := by decide +kernel
theorem dX1_letInLost_43 : decode cX1_letInLost 43 = .ok (.invokevirtual 75, 3) := by decide +kernel
theorem dX1_letInLost_46 : decode cX1_letInLost 46 = .ok (.ladd, 1) := by decide +kernel
theorem dX1_letInLost_47 : decode cX1_letInLost 47 = .ok (.lstore 5, 2) := by decide +kernel
theorem dX1_letInLost_49 : decode cX1_letInLost 49 = .ok (.aload_n 0, 1) := by decide +kernel
theorem dX1_letInLost_50 : decode cX1_letInLost 50 = .ok (.getfield 15, 3) := by decide +kernel
theorem dX1_letInLost_53 : decode cX1_letInLost 53 = .ok (.iload 7, 2) := by decide +kernel
theorem dX1_letInLost_55 : decode cX1_letInLost 55 = .ok (.iload 8, 2) := by decide +kernel
theorem dX1_letInLost_57 : decode cX1_letInLost 57 = .ok (.iastore, 1) := by decide +kernel
theorem dX1_letInLost_58 : decode cX1_letInLost 58 = .ok (.iinc 7 1, 3) := by decide +kernel
theorem dX1_letInLost_61 : decode cX1_letInLost 61 = .ok (.iinc 8 1, 3) := by decide +kernel
theorem dX1_letInLost_64 : decode cX1_letInLost 64 = .ok (.goto (-55), 3) := by decide +kernel
theorem dX1_letInLost_67 : decode cX1_letInLost 67 = .ok (.aload_n 0, 1) := by decide +kernel
theorem dX1_letInLost_68 : decode cX1_letInLost 68 = .ok (.lload 5, 2) := by decide +kernel
theorem dX1_letInLost_70 : decode cX1_letInLost 70 = .ok (.invokevirtual 53, 3) := by decide +kernel
theorem dX1_letInLost_73 : decode cX1_letInLost 73 = .ok (.return_, 1) := by decide +kernel
theorem dX1_keep_0 : decode cX1_keep 0 = .ok (.lload_n 1, 1) := by decide +kernel
theorem dX1_keep_1 : decode cX1_keep 1 = .ok (.aload_n 0, 1) := by decide +kernel
theorem dX1_keep_2 : decode cX1_keep 2 = .ok (.getfield 43, 3) := by decide +kernel
theorem dX1_keep_5 : decode cX1_keep 5 = .ok (.lcmp, 1) := by decide +kernel
theorem dX1_keep_6 : decode cX1_keep 6 = .ok (.ifCond .ge 23, 3) := by decide +kernel
theorem dX1_keep_9 : decode cX1_keep 9 = .ok (.aload_n 0, 1) := by decide +kernel
theorem dX1_keep_10 : decode cX1_keep 10 = .ok (.lload_n 1, 1) := by decide +kernel
theorem dX1_keep_11 : decode cX1_keep 11 = .ok (.putfield 43, 3) := by decide +kernel
theorem dX1_keep_14 : decode cX1_keep 14 = .ok (.aload_n 0, 1) := by decide +kernel
theorem dX1_keep_15 : decode cX1_keep 15 = .ok (.getfield 15, 3) := by decide +kernel
theorem dX1_keep_18 : decode cX1_keep 18 = .ok (.iconst 0, 1) := by decide +kernel
theorem dX1_keep_19 : decode cX1_keep 19 = .ok (.aload_n 0, 1) := by decide +kernel
theorem dX1_keep_20 : decode cX1_keep 20 = .ok (.getfield 9, 3) := by decide +kernel
theorem dX1_keep_23 : decode cX1_keep 23 = .ok (.iconst 0, 1) := by decide +kernel
theorem dX1_keep_24 : decode cX1_keep 24 = .ok (.bipush 6, 2) := by decide +kernel
theorem dX1_keep_26 : decode cX1_keep 26 = .ok (.invokestatic 85, 3) := by decide +kernel
theorem dX1_keep_29 : decode cX1_keep 29 = .ok (.return_, 1) := by decide +kernel
theorem dX1_hasTwinOutside_0 : decode cX1_hasTwinOutside 0 = .ok (.iconst 0, 1) := by decide +kernel
theorem dX1_hasTwinOutside_1 : decode cX1_hasTwinOutside 1 = .ok (.istore_n 3, 1) := by decide +kernel
theorem dX1_hasTwinOutside_2 : decode cX1_hasTwinOutside 2 = .ok (.iload_n 3, 1) := by decide +kernel
theorem dX1_hasTwinOutside_3 : decode cX1_hasTwinOutside 3 = .ok (.iload_n 1, 1) := by decide +kernel
theorem dX1_hasTwinOutside_4 : decode cX1_hasTwinOutside 4 = .ok (.if_icmp .ge 61, 3) := by decide +kernel
theorem dX1_hasTwinOutside_7 : decode cX1_hasTwinOutside 7 = .ok (.iload_n 2, 1) := by decide +kernel
theorem dX1_hasTwinOutside_8 : decode cX1_hasTwinOutside 8 = .ok (.iload_n 3, 1) := by decide +kernel
theorem dX1_hasTwinOutside_9 : decode cX1_hasTwinOutside 9 = .ok (.invokestatic 68, 3) := by decide +kernel
theorem dX1_hasTwinOutside_12 : decode cX1_hasTwinOutside 12 = .ok (.ifCond .ne 47, 3) := by decide +kernel
theorem dX1_hasTwinOutside_15 : decode cX1_hasTwinOutside 15 = .ok (.aload_n 0, 1) := by decide +kernel
theorem dX1_hasTwinOutside_16 : decode cX1_hasTwinOutside 16 = .ok (.getfield 25, 3) := by decide +kernel
theorem dX1_hasTwinOutside_19 : decode cX1_hasTwinOutside 19 = .ok (.getfield 91, 3) := by decide +kernel
theorem dX1_hasTwinOutside_22 : decode cX1_hasTwinOutside 22 = .ok (.iload_n 3, 1) := by decide +kernel
theorem dX1_hasTwinOutside_23 : decode cX1_hasTwinOutside 23 = .ok (.iaload, 1) := by decide +kernel
theorem dX1_hasTwinOutside_24 : decode cX1_hasTwinOutside 24 = .ok (.aload_n 0, 1) := by decide +kernel
theorem dX1_hasTwinOutside_25 : decode cX1_hasTwinOutside 25 = .ok (.getfield 25, 3) := by decide +kernel
theorem dX1_hasTwinOutside_28 : decode cX1_hasTwinOutside 28 = .ok (.getfield 91, 3) := by decide +kernel
theorem dX1_hasTwinOutside_31 : decode cX1_hasTwinOutside 31 = .ok (.iload_n 1, 1) := by decide +kernel
theorem dX1_hasTwinOutside_32 : decode cX1_hasTwinOutside 32 = .ok (.iaload, 1) := by decide +kernel
theorem dX1_hasTwinOutside_33 : decode cX1_hasTwinOutside 33 = .ok (.if_icmp .ne 26, 3) := by decide +kernel
theorem dX1_hasTwinOutside_36 : decode cX1_hasTwinOutside 36 = .ok (.aload_n 0, 1) := by decide +kernel
theorem dX1_hasTwinOutside_37 : decode cX1_hasTwinOutside 37 = .ok (.getfield 25, 3) := by decide +kernel
theorem dX1_hasTwinOutside_40 : decode cX1_hasTwinOutside 40 = .ok (.getfield 82, 3) := by decide +kernel
theorem dX1_hasTwinOutside_43 : decode cX1_hasTwinOutside 43 = .ok (.iload_n 3, 1) := by decide +kernel
theorem dX1_hasTwinOutside_44 : decode cX1_hasTwinOutside 44 = .ok (.iaload, 1) := by decide +kernel
theorem dX1_hasTwinOutside_45 : decode cX1_hasTwinOutside 45 = .ok (.aload_n 0, 1) := by decide +kernel
theorem dX1_hasTwinOutside_46 : decode cX1_hasTwinOutside 46 = .ok (.getfield 25, 3) := by decide +kernel
theorem dX1_hasTwinOutside_49 : decode cX1_hasTwinOutside 49 = .ok (.getfield 82, 3) := by decide +kernel
theorem dX1_hasTwinOutside_52 : decode cX1_hasTwinOutside 52 = .ok (.iload_n 1, 1) := by decide +kernel
theorem dX1_hasTwinOutside_53 : decode cX1_hasTwinOutside 53 = .ok (.iaload, 1) := by decide +kernel
theorem dX1_hasTwinOutside_54 : decode cX1_hasTwinOutside 54 = .ok (.if_icmp .ne 5, 3) := by decide +kernel
theorem dX1_hasTwinOutside_57 : decode cX1_hasTwinOutside 57 = .ok (.iconst 1, 1) := by decide +kernel
theorem dX1_hasTwinOutside_58 : decode cX1_hasTwinOutside 58 = .ok (.ireturn, 1) := by decide +kernel
theorem dX1_hasTwinOutside_59 : decode cX1_hasTwinOutside 59 = .ok (.iinc 3 1, 3) := by decide +kernel
theorem dX1_hasTwinOutside_62 : decode cX1_hasTwinOutside 62 = .ok (.goto (-60), 3) := by decide +kernel
theorem dX1_hasTwinOutside_65 : decode cX1_hasTwinOutside 65 = .ok (.iconst 0, 1) := by decide +kernel
theorem dX1_hasTwinOutside_66 : decode cX1_hasTwinOutside 66 = .ok (.ireturn, 1) := by decide +kernel
theorem dX1_leastToCome_0 : decode cX1_leastToCome 0 = .ok (.lconst 0, 1) := by decide +kernel
theorem dX1_leastToCome_1 : decode cX1_leastToCome 1 = .ok (.lstore_n 3, 1) := by decide +kernel
theorem dX1_leastToCome_2 : decode cX1_leastToCome 2 = .ok (.aload_n 0, 1) := by decide +kernel
theorem dX1_leastToCome_3 : decode cX1_leastToCome 3 = .ok (.getfield 25, 3) := by decide +kernel
theorem dX1_leastToCome_6 : decode cX1_leastToCome 6 = .ok (.getfield 94, 3) := by decide +kernel
theorem dX1_leastToCome_9 : decode cX1_leastToCome 9 = .ok (.aload_n 0, 1) := by decide +kernel
theorem dX1_leastToCome_10 : decode cX1_leastToCome 10 = .ok (.getfield 25, 3) := by decide +kernel
theorem dX1_leastToCome_13 : decode cX1_leastToCome 13 = .ok (.getfield 33, 3) := by decide +kernel
theorem dX1_leastToCome_16 : decode cX1_leastToCome 16 = .ok (.isub, 1) := by decide +kernel
theorem dX1_leastToCome_17 : decode cX1_leastToCome 17 = .ok (.iconst 1, 1) := by decide +kernel
theorem dX1_leastToCome_18 : decode cX1_leastToCome 18 = .ok (.iadd, 1) := by decide +kernel
theorem dX1_leastToCome_19 : decode cX1_leastToCome 19 = .ok (.istore 5, 2) := by decide +kernel
theorem dX1_leastToCome_21 : decode cX1_leastToCome 21 = .ok (.iconst 0, 1) := by decide +kernel
theorem dX1_leastToCome_22 : decode cX1_leastToCome 22 = .ok (.istore 6, 2) := by decide +kernel
theorem dX1_leastToCome_24 : decode cX1_leastToCome 24 = .ok (.iload 6, 2) := by decide +kernel
theorem dX1_leastToCome_26 : decode cX1_leastToCome 26 = .ok (.aload_n 0, 1) := by decide +kernel
theorem dX1_leastToCome_27 : decode cX1_leastToCome 27 = .ok (.getfield 25, 3) := by decide +kernel
theorem dX1_leastToCome_30 : decode cX1_leastToCome 30 = .ok (.getfield 33, 3) := by decide +kernel
theorem dX1_leastToCome_33 : decode cX1_leastToCome 33 = .ok (.if_icmp .ge 30, 3) := by decide +kernel
theorem dX1_leastToCome_36 : decode cX1_leastToCome 36 = .ok (.iload_n 2, 1) := by decide +kernel
theorem dX1_leastToCome_37 : decode cX1_leastToCome 37 = .ok (.iload 6, 2) := by decide +kernel
theorem dX1_leastToCome_39 : decode cX1_leastToCome 39 = .ok (.invokestatic 68, 3) := by decide +kernel
theorem dX1_leastToCome_42 : decode cX1_leastToCome 42 = .ok (.ifCond .ne 15, 3) := by decide +kernel
theorem dX1_leastToCome_45 : decode cX1_leastToCome 45 = .ok (.lload_n 3, 1) := by decide +kernel
theorem dX1_leastToCome_46 : decode cX1_leastToCome 46 = .ok (.aload_n 0, 1) := by decide +kernel
theorem dX1_leastToCome_47 : decode cX1_leastToCome 47 = .ok (.iload 5, 2) := by decide +kernel
theorem dX1_leastToCome_49 : decode cX1_leastToCome 49 = .ok (.iload_n 1, 1) := by decide +kernel
theorem dX1_leastToCome_50 : decode cX1_leastToCome 50 = .ok (.iload 6, 2) := by decide +kernel
theorem dX1_leastToCome_52 : decode cX1_leastToCome 52 = .ok (.invokevirtual 97, 3) := by decide +kernel
theorem dX1_leastToCome_55 : decode cX1_leastToCome 55 = .ok (.ladd, 1) := by decide +kernel
theorem dX1_leastToCome_56 : decode cX1_leastToCome 56 = .ok (.lstore_n 3, 1) := by decide +kernel
theorem dX1_leastToCome_57 : decode cX1_leastToCome 57 = .ok (.iinc 6 1, 3) := by decide +kernel
theorem dX1_leastToCome_60 : decode cX1_leastToCome 60 = .ok (.goto (-36), 3) := by decide +kernel
theorem dX1_leastToCome_63 : decode cX1_leastToCome 63 = .ok (.lload_n 3, 1) := by decide +kernel
theorem dX1_leastToCome_64 : decode cX1_leastToCome 64 = .ok (.lreturn, 1) := by decide +kernel
theorem dX1_wrongNext_0 : decode cX1_wrongNext 0 = .ok (.aload_n 0, 1) := by decide +kernel
theorem dX1_wrongNext_1 : decode cX1_wrongNext 1 = .ok (.aload_n 0, 1) := by decide +kernel
theorem dX1_wrongNext_2 : decode cX1_wrongNext 2 = .ok (.getfield 25, 3) := by decide +kernel
theorem dX1_wrongNext_5 : decode cX1_wrongNext 5 = .ok (.getfield 94, 3) := by decide +kernel
theorem dX1_wrongNext_8 : decode cX1_wrongNext 8 = .ok (.iload_n 1, 1) := by decide +kernel
theorem dX1_wrongNext_9 : decode cX1_wrongNext 9 = .ok (.isub, 1) := by decide +kernel
theorem dX1_wrongNext_10 : decode cX1_wrongNext 10 = .ok (.iload_n 1, 1) := by decide +kernel
theorem dX1_wrongNext_11 : decode cX1_wrongNext 11 = .ok (.iload_n 2, 1) := by decide +kernel
theorem dX1_wrongNext_12 : decode cX1_wrongNext 12 = .ok (.invokevirtual 97, 3) := by decide +kernel
theorem dX1_wrongNext_15 : decode cX1_wrongNext 15 = .ok (.lreturn, 1) := by decide +kernel
theorem dX1_wrongAmong_0 : decode cX1_wrongAmong 0 = .ok (.aload_n 0, 1) := by decide +kernel
theorem dX1_wrongAmong_1 : decode cX1_wrongAmong 1 = .ok (.getfield 22, 3) := by decide +kernel
theorem dX1_wrongAmong_4 : decode cX1_wrongAmong 4 = .ok (.iload_n 2, 1) := by decide +kernel
theorem dX1_wrongAmong_5 : decode cX1_wrongAmong 5 = .ok (.bipush 8, 2) := by decide +kernel
theorem dX1_wrongAmong_7 : decode cX1_wrongAmong 7 = .ok (.imul, 1) := by decide +kernel
theorem dX1_wrongAmong_8 : decode cX1_wrongAmong 8 = .ok (.aload_n 0, 1) := by decide +kernel
theorem dX1_wrongAmong_9 : decode cX1_wrongAmong 9 = .ok (.getfield 25, 3) := by decide +kernel
theorem dX1_wrongAmong_12 : decode cX1_wrongAmong 12 = .ok (.getfield 91, 3) := by decide +kernel
theorem dX1_wrongAmong_15 : decode cX1_wrongAmong 15 = .ok (.iload_n 3, 1) := by decide +kernel
theorem dX1_wrongAmong_16 : decode cX1_wrongAmong 16 = .ok (.iaload, 1) := by decide +kernel
theorem dX1_wrongAmong_17 : decode cX1_wrongAmong 17 = .ok (.iadd, 1) := by decide +kernel
theorem dX1_wrongAmong_18 : decode cX1_wrongAmong 18 = .ok (.laload, 1) := by decide +kernel
theorem dX1_wrongAmong_19 : decode cX1_wrongAmong 19 = .ok (.lstore 4, 2) := by decide +kernel
theorem dX1_wrongAmong_21 : decode cX1_wrongAmong 21 = .ok (.aload_n 0, 1) := by decide +kernel
theorem dX1_wrongAmong_22 : decode cX1_wrongAmong 22 = .ok (.getfield 25, 3) := by decide +kernel
theorem dX1_wrongAmong_25 : decode cX1_wrongAmong 25 = .ok (.getfield 82, 3) := by decide +kernel
theorem dX1_wrongAmong_28 : decode cX1_wrongAmong 28 = .ok (.iload_n 3, 1) := by decide +kernel
theorem dX1_wrongAmong_29 : decode cX1_wrongAmong 29 = .ok (.iaload, 1) := by decide +kernel
theorem dX1_wrongAmong_30 : decode cX1_wrongAmong 30 = .ok (.iconst 1, 1) := by decide +kernel
theorem dX1_wrongAmong_31 : decode cX1_wrongAmong 31 = .ok (.if_icmp .ne 7, 3) := by decide +kernel
theorem dX1_wrongAmong_34 : decode cX1_wrongAmong 34 = .ok (.iload_n 1, 1) := by decide +kernel
theorem dX1_wrongAmong_35 : decode cX1_wrongAmong 35 = .ok (.ifCond .gt 6, 3) := by decide +kernel
theorem dX1_wrongAmong_38 : decode cX1_wrongAmong 38 = .ok (.lload 4, 2) := by decide +kernel
theorem dX1_wrongAmong_40 : decode cX1_wrongAmong 40 = .ok (.lreturn, 1) := by decide +kernel
theorem dX1_wrongAmong_41 : decode cX1_wrongAmong 41 = .ok (.ldc2_w 47, 3) := by decide +kernel
theorem dX1_wrongAmong_44 : decode cX1_wrongAmong 44 = .ok (.ldc2_w 47, 3) := by decide +kernel
theorem dX1_wrongAmong_47 : decode cX1_wrongAmong 47 = .ok (.lload 4, 2) := by decide +kernel
theorem dX1_wrongAmong_49 : decode cX1_wrongAmong 49 = .ok (.lsub, 1) := by decide +kernel
theorem dX1_wrongAmong_50 : decode cX1_wrongAmong 50 = .ok (.iload_n 1, 1) := by decide +kernel
theorem dX1_wrongAmong_51 : decode cX1_wrongAmong 51 = .ok (.i2l, 1) := by decide +kernel
theorem dX1_wrongAmong_52 : decode cX1_wrongAmong 52 = .ok (.ldiv, 1) := by decide +kernel
theorem dX1_wrongAmong_53 : decode cX1_wrongAmong 53 = .ok (.lsub, 1) := by decide +kernel
theorem dX1_wrongAmong_54 : decode cX1_wrongAmong 54 = .ok (.lreturn, 1) := by decide +kernel
theorem dX1_seatNext_0 : decode cX1_seatNext 0 = .ok (.aload_n 0, 1) := by decide +kernel
theorem dX1_seatNext_1 : decode cX1_seatNext 1 = .ok (.iload_n 1, 1) := by decide +kernel
theorem dX1_seatNext_2 : decode cX1_seatNext 2 = .ok (.iconst 1, 1) := by decide +kernel
theorem dX1_seatNext_3 : decode cX1_seatNext 3 = .ok (.iadd, 1) := by decide +kernel
theorem dX1_seatNext_4 : decode cX1_seatNext 4 = .ok (.invokevirtual 101, 3) := by decide +kernel
theorem dX1_seatNext_7 : decode cX1_seatNext 7 = .ok (.aload_n 0, 1) := by decide +kernel
theorem dX1_seatNext_8 : decode cX1_seatNext 8 = .ok (.iload_n 1, 1) := by decide +kernel
theorem dX1_seatNext_9 : decode cX1_seatNext 9 = .ok (.invokevirtual 105, 3) := by decide +kernel
theorem dX1_seatNext_12 : decode cX1_seatNext 12 = .ok (.iconst 1, 1) := by decide +kernel
theorem dX1_seatNext_13 : decode cX1_seatNext 13 = .ok (.iload_n 1, 1) := by decide +kernel
theorem dX1_seatNext_14 : decode cX1_seatNext 14 = .ok (.ishl, 1) := by decide +kernel
theorem dX1_seatNext_15 : decode cX1_seatNext 15 = .ok (.iconst 1, 1) := by decide +kernel
theorem dX1_seatNext_16 : decode cX1_seatNext 16 = .ok (.isub, 1) := by decide +kernel
theorem dX1_seatNext_17 : decode cX1_seatNext 17 = .ok (.istore_n 3, 1) := by decide +kernel
theorem dX1_seatNext_18 : decode cX1_seatNext 18 = .ok (.iconst 0, 1) := by decide +kernel
theorem dX1_seatNext_19 : decode cX1_seatNext 19 = .ok (.istore 4, 2) := by decide +kernel
theorem dX1_seatNext_21 : decode cX1_seatNext 21 = .ok (.iload 4, 2) := by decide +kernel
theorem dX1_seatNext_23 : decode cX1_seatNext 23 = .ok (.sipush 256, 3) := by decide +kernel
theorem dX1_seatNext_26 : decode cX1_seatNext 26 = .ok (.if_icmp .ge 77, 3) := by decide +kernel
theorem dX1_seatNext_29 : decode cX1_seatNext 29 = .ok (.iload_n 3, 1) := by decide +kernel
theorem dX1_seatNext_30 : decode cX1_seatNext 30 = .ok (.aload_n 0, 1) := by decide +kernel
theorem dX1_seatNext_31 : decode cX1_seatNext 31 = .ok (.getfield 25, 3) := by decide +kernel
theorem dX1_seatNext_34 : decode cX1_seatNext 34 = .ok (.invokevirtual 108, 3) := by decide +kernel
theorem dX1_seatNext_37 : decode cX1_seatNext 37 = .ok (.if_icmp .gt 66, 3) := by decide +kernel
theorem dX1_seatNext_40 : decode cX1_seatNext 40 = .ok (.aload_n 0, 1) := by decide +kernel
theorem dX1_seatNext_41 : decode cX1_seatNext 41 = .ok (.getfield 18, 3) := by decide +kernel
theorem dX1_seatNext_44 : decode cX1_seatNext 44 = .ok (.iload_n 3, 1) := by decide +kernel
theorem dX1_seatNext_45 : decode cX1_seatNext 45 = .ok (.laload, 1) := by decide +kernel
theorem dX1_seatNext_46 : decode cX1_seatNext 46 = .ok (.lconst 0, 1) := by decide +kernel
theorem dX1_seatNext_47 : decode cX1_seatNext 47 = .ok (.lcmp, 1) := by decide +kernel
theorem dX1_seatNext_48 : decode cX1_seatNext 48 = .ok (.ifCond .eq 44, 3) := by decide +kernel
theorem dX1_seatNext_51 : decode cX1_seatNext 51 = .ok (.aload_n 0, 1) := by decide +kernel
theorem dX1_seatNext_52 : decode cX1_seatNext 52 = .ok (.getfield 25, 3) := by decide +kernel
theorem dX1_seatNext_55 : decode cX1_seatNext 55 = .ok (.iload_n 3, 1) := by decide +kernel
theorem dX1_seatNext_56 : decode cX1_seatNext 56 = .ok (.aload_n 0, 1) := by decide +kernel
theorem dX1_seatNext_57 : decode cX1_seatNext 57 = .ok (.getfield 25, 3) := by decide +kernel
theorem dX1_seatNext_60 : decode cX1_seatNext 60 = .ok (.getfield 91, 3) := by decide +kernel
theorem dX1_seatNext_63 : decode cX1_seatNext 63 = .ok (.iload_n 2, 1) := by decide +kernel
theorem dX1_seatNext_64 : decode cX1_seatNext 64 = .ok (.iaload, 1) := by decide +kernel
theorem dX1_seatNext_65 : decode cX1_seatNext 65 = .ok (.aload_n 0, 1) := by decide +kernel
theorem dX1_seatNext_66 : decode cX1_seatNext 66 = .ok (.getfield 25, 3) := by decide +kernel
theorem dX1_seatNext_69 : decode cX1_seatNext 69 = .ok (.getfield 82, 3) := by decide +kernel
theorem dX1_seatNext_72 : decode cX1_seatNext 72 = .ok (.iload_n 2, 1) := by decide +kernel
theorem dX1_seatNext_73 : decode cX1_seatNext 73 = .ok (.iaload, 1) := by decide +kernel
theorem dX1_seatNext_74 : decode cX1_seatNext 74 = .ok (.invokevirtual 112, 3) := by decide +kernel
theorem dX1_seatNext_77 : decode cX1_seatNext 77 = .ok (.istore 5, 2) := by decide +kernel
theorem dX1_seatNext_79 : decode cX1_seatNext 79 = .ok (.aload_n 0, 1) := by decide +kernel
theorem dX1_seatNext_80 : decode cX1_seatNext 80 = .ok (.iload_n 3, 1) := by decide +kernel
theorem dX1_seatNext_81 : decode cX1_seatNext 81 = .ok (.iload 5, 2) := by decide +kernel
theorem dX1_seatNext_83 : decode cX1_seatNext 83 = .ok (.iload_n 1, 1) := by decide +kernel
theorem dX1_seatNext_84 : decode cX1_seatNext 84 = .ok (.iconst 1, 1) := by decide +kernel
theorem dX1_seatNext_85 : decode cX1_seatNext 85 = .ok (.iadd, 1) := by decide +kernel
theorem dX1_seatNext_86 : decode cX1_seatNext 86 = .ok (.bipush 8, 2) := by decide +kernel
theorem dX1_seatNext_88 : decode cX1_seatNext 88 = .ok (.imul, 1) := by decide +kernel
theorem dX1_seatNext_89 : decode cX1_seatNext 89 = .ok (.invokevirtual 116, 3) := by decide +kernel
theorem dX1_seatNext_92 : decode cX1_seatNext 92 = .ok (.iload_n 3, 1) := by decide +kernel
theorem dX1_seatNext_93 : decode cX1_seatNext 93 = .ok (.invokestatic 120, 3) := by decide +kernel
theorem dX1_seatNext_96 : decode cX1_seatNext 96 = .ok (.istore_n 3, 1) := by decide +kernel
theorem dX1_seatNext_97 : decode cX1_seatNext 97 = .ok (.iinc 4 1, 3) := by decide +kernel
theorem dX1_seatNext_100 : decode cX1_seatNext 100 = .ok (.goto (-79), 3) := by decide +kernel
theorem dX1_seatNext_103 : decode cX1_seatNext 103 = .ok (.return_, 1) := by decide +kernel
theorem dX1_copyTaken_0 : decode cX1_copyTaken 0 = .ok (.iload_n 1, 1) := by decide +kernel
theorem dX1_copyTaken_1 : decode cX1_copyTaken 1 = .ok (.bipush 8, 2) := by decide +kernel
theorem dX1_copyTaken_3 : decode cX1_copyTaken 3 = .ok (.imul, 1) := by decide +kernel
theorem dX1_copyTaken_4 : decode cX1_copyTaken 4 = .ok (.istore_n 2, 1) := by decide +kernel
theorem dX1_copyTaken_5 : decode cX1_copyTaken 5 = .ok (.iconst 0, 1) := by decide +kernel
theorem dX1_copyTaken_6 : decode cX1_copyTaken 6 = .ok (.istore_n 3, 1) := by decide +kernel
theorem dX1_copyTaken_7 : decode cX1_copyTaken 7 = .ok (.iload_n 3, 1) := by decide +kernel
theorem dX1_copyTaken_8 : decode cX1_copyTaken 8 = .ok (.bipush 8, 2) := by decide +kernel
theorem dX1_copyTaken_10 : decode cX1_copyTaken 10 = .ok (.if_icmp .ge 28, 3) := by decide +kernel
theorem dX1_copyTaken_13 : decode cX1_copyTaken 13 = .ok (.aload_n 0, 1) := by decide +kernel
theorem dX1_copyTaken_14 : decode cX1_copyTaken 14 = .ok (.getfield 22, 3) := by decide +kernel
theorem dX1_copyTaken_17 : decode cX1_copyTaken 17 = .ok (.iload_n 2, 1) := by decide +kernel
theorem dX1_copyTaken_18 : decode cX1_copyTaken 18 = .ok (.bipush 8, 2) := by decide +kernel
theorem dX1_copyTaken_20 : decode cX1_copyTaken 20 = .ok (.iadd, 1) := by decide +kernel
theorem dX1_copyTaken_21 : decode cX1_copyTaken 21 = .ok (.iload_n 3, 1) := by decide +kernel
theorem dX1_copyTaken_22 : decode cX1_copyTaken 22 = .ok (.iadd, 1) := by decide +kernel
theorem dX1_copyTaken_23 : decode cX1_copyTaken 23 = .ok (.aload_n 0, 1) := by decide +kernel
theorem dX1_copyTaken_24 : decode cX1_copyTaken 24 = .ok (.getfield 22, 3) := by decide +kernel
theorem dX1_copyTaken_27 : decode cX1_copyTaken 27 = .ok (.iload_n 2, 1) := by decide +kernel
theorem dX1_copyTaken_28 : decode cX1_copyTaken 28 = .ok (.iload_n 3, 1) := by decide +kernel
theorem dX1_copyTaken_29 : decode cX1_copyTaken 29 = .ok (.iadd, 1) := by decide +kernel
theorem dX1_copyTaken_30 : decode cX1_copyTaken 30 = .ok (.laload, 1) := by decide +kernel
theorem dX1_copyTaken_31 : decode cX1_copyTaken 31 = .ok (.lastore, 1) := by decide +kernel
theorem dX1_copyTaken_32 : decode cX1_copyTaken 32 = .ok (.iinc 3 1, 3) := by decide +kernel
theorem dX1_copyTaken_35 : decode cX1_copyTaken 35 = .ok (.goto (-28), 3) := by decide +kernel
theorem dX1_copyTaken_38 : decode cX1_copyTaken 38 = .ok (.return_, 1) := by decide +kernel
theorem dX1_clearSets_0 : decode cX1_clearSets 0 = .ok (.iconst 1, 1) := by decide +kernel
theorem dX1_clearSets_1 : decode cX1_clearSets 1 = .ok (.iload_n 1, 1) := by decide +kernel
theorem dX1_clearSets_2 : decode cX1_clearSets 2 = .ok (.ishl, 1) := by decide +kernel
theorem dX1_clearSets_3 : decode cX1_clearSets 3 = .ok (.iconst 1, 1) := by decide +kernel
theorem dX1_clearSets_4 : decode cX1_clearSets 4 = .ok (.isub, 1) := by decide +kernel
theorem dX1_clearSets_5 : decode cX1_clearSets 5 = .ok (.istore_n 2, 1) := by decide +kernel
theorem dX1_clearSets_6 : decode cX1_clearSets 6 = .ok (.iconst 0, 1) := by decide +kernel
theorem dX1_clearSets_7 : decode cX1_clearSets 7 = .ok (.istore_n 3, 1) := by decide +kernel
theorem dX1_clearSets_8 : decode cX1_clearSets 8 = .ok (.iload_n 3, 1) := by decide +kernel
theorem dX1_clearSets_9 : decode cX1_clearSets 9 = .ok (.sipush 256, 3) := by decide +kernel
theorem dX1_clearSets_12 : decode cX1_clearSets 12 = .ok (.if_icmp .ge 32, 3) := by decide +kernel
theorem dX1_clearSets_15 : decode cX1_clearSets 15 = .ok (.iload_n 2, 1) := by decide +kernel
theorem dX1_clearSets_16 : decode cX1_clearSets 16 = .ok (.aload_n 0, 1) := by decide +kernel
theorem dX1_clearSets_17 : decode cX1_clearSets 17 = .ok (.getfield 25, 3) := by decide +kernel
theorem dX1_clearSets_20 : decode cX1_clearSets 20 = .ok (.invokevirtual 108, 3) := by decide +kernel
theorem dX1_clearSets_23 : decode cX1_clearSets 23 = .ok (.if_icmp .gt 21, 3) := by decide +kernel
theorem dX1_clearSets_26 : decode cX1_clearSets 26 = .ok (.aload_n 0, 1) := by decide +kernel
theorem dX1_clearSets_27 : decode cX1_clearSets 27 = .ok (.getfield 18, 3) := by decide +kernel
theorem dX1_clearSets_30 : decode cX1_clearSets 30 = .ok (.iload_n 2, 1) := by decide +kernel
theorem dX1_clearSets_31 : decode cX1_clearSets 31 = .ok (.lconst 0, 1) := by decide +kernel
theorem dX1_clearSets_32 : decode cX1_clearSets 32 = .ok (.lastore, 1) := by decide +kernel
theorem dX1_clearSets_33 : decode cX1_clearSets 33 = .ok (.iload_n 2, 1) := by decide +kernel
theorem dX1_clearSets_34 : decode cX1_clearSets 34 = .ok (.invokestatic 120, 3) := by decide +kernel
theorem dX1_clearSets_37 : decode cX1_clearSets 37 = .ok (.istore_n 2, 1) := by decide +kernel
theorem dX1_clearSets_38 : decode cX1_clearSets 38 = .ok (.iinc 3 1, 3) := by decide +kernel
theorem dX1_clearSets_41 : decode cX1_clearSets 41 = .ok (.goto (-33), 3) := by decide +kernel
theorem dX1_clearSets_44 : decode cX1_clearSets 44 = .ok (.return_, 1) := by decide +kernel
theorem dX1_spread_0 : decode cX1_spread 0 = .ok (.iload_n 2, 1) := by decide +kernel
theorem dX1_spread_1 : decode cX1_spread 1 = .ok (.invokestatic 124, 3) := by decide +kernel
theorem dX1_spread_4 : decode cX1_spread 4 = .ok (.istore 4, 2) := by decide +kernel
theorem dX1_spread_6 : decode cX1_spread 6 = .ok (.iload 4, 2) := by decide +kernel
theorem dX1_spread_8 : decode cX1_spread 8 = .ok (.ifCond .ne 4, 3) := by decide +kernel
theorem dX1_spread_11 : decode cX1_spread 11 = .ok (.return_, 1) := by decide +kernel
theorem dX1_spread_12 : decode cX1_spread 12 = .ok (.aload_n 0, 1) := by decide +kernel
theorem dX1_spread_13 : decode cX1_spread 13 = .ok (.getfield 18, 3) := by decide +kernel
theorem dX1_spread_16 : decode cX1_spread 16 = .ok (.iload_n 1, 1) := by decide +kernel
theorem dX1_spread_17 : decode cX1_spread 17 = .ok (.laload, 1) := by decide +kernel
theorem dX1_spread_18 : decode cX1_spread 18 = .ok (.iload 4, 2) := by decide +kernel
theorem dX1_spread_20 : decode cX1_spread 20 = .ok (.i2l, 1) := by decide +kernel
theorem dX1_spread_21 : decode cX1_spread 21 = .ok (.ldiv, 1) := by decide +kernel
theorem dX1_spread_22 : decode cX1_spread 22 = .ok (.lstore 5, 2) := by decide +kernel
theorem dX1_spread_24 : decode cX1_spread 24 = .ok (.iconst 0, 1) := by decide +kernel
theorem dX1_spread_25 : decode cX1_spread 25 = .ok (.istore 7, 2) := by decide +kernel
theorem dX1_spread_27 : decode cX1_spread 27 = .ok (.iload 7, 2) := by decide +kernel
theorem dX1_spread_29 : decode cX1_spread 29 = .ok (.aload_n 0, 1) := by decide +kernel
theorem dX1_spread_30 : decode cX1_spread 30 = .ok (.getfield 25, 3) := by decide +kernel
theorem dX1_spread_33 : decode cX1_spread 33 = .ok (.getfield 94, 3) := by decide +kernel
theorem dX1_spread_36 : decode cX1_spread 36 = .ok (.if_icmp .ge 48, 3) := by decide +kernel
theorem dX1_spread_39 : decode cX1_spread 39 = .ok (.iload_n 2, 1) := by decide +kernel
theorem dX1_spread_40 : decode cX1_spread 40 = .ok (.iload 7, 2) := by decide +kernel
theorem dX1_spread_42 : decode cX1_spread 42 = .ok (.invokestatic 68, 3) := by decide +kernel
theorem dX1_spread_45 : decode cX1_spread 45 = .ok (.ifCond .eq 33, 3) := by decide +kernel
theorem dX1_spread_48 : decode cX1_spread 48 = .ok (.aload_n 0, 1) := by decide +kernel
theorem dX1_spread_49 : decode cX1_spread 49 = .ok (.getfield 18, 3) := by decide +kernel
theorem dX1_spread_52 : decode cX1_spread 52 = .ok (.iload_n 1, 1) := by decide +kernel
theorem dX1_spread_53 : decode cX1_spread 53 = .ok (.iconst 1, 1) := by decide +kernel
theorem dX1_spread_54 : decode cX1_spread 54 = .ok (.iload 7, 2) := by decide +kernel
theorem dX1_spread_56 : decode cX1_spread 56 = .ok (.ishl, 1) := by decide +kernel
theorem dX1_spread_57 : decode cX1_spread 57 = .ok (.ior, 1) := by decide +kernel
theorem dX1_spread_58 : decode cX1_spread 58 = .ok (.dup2, 1) := by decide +kernel
theorem dX1_spread_59 : decode cX1_spread 59 = .ok (.laload, 1) := by decide +kernel
theorem dX1_spread_60 : decode cX1_spread 60 = .ok (.lload 5, 2) := by decide +kernel
theorem dX1_spread_62 : decode cX1_spread 62 = .ok (.ladd, 1) := by decide +kernel
theorem dX1_spread_63 : decode cX1_spread 63 = .ok (.lastore, 1) := by decide +kernel
theorem dX1_spread_64 : decode cX1_spread 64 = .ok (.aload_n 0, 1) := by decide +kernel
theorem dX1_spread_65 : decode cX1_spread 65 = .ok (.getfield 22, 3) := by decide +kernel
theorem dX1_spread_68 : decode cX1_spread 68 = .ok (.iload_n 3, 1) := by decide +kernel
theorem dX1_spread_69 : decode cX1_spread 69 = .ok (.iload 7, 2) := by decide +kernel
theorem dX1_spread_71 : decode cX1_spread 71 = .ok (.iadd, 1) := by decide +kernel
theorem dX1_spread_72 : decode cX1_spread 72 = .ok (.dup2, 1) := by decide +kernel
theorem dX1_spread_73 : decode cX1_spread 73 = .ok (.laload, 1) := by decide +kernel
theorem dX1_spread_74 : decode cX1_spread 74 = .ok (.lload 5, 2) := by decide +kernel
theorem dX1_spread_76 : decode cX1_spread 76 = .ok (.ladd, 1) := by decide +kernel
theorem dX1_spread_77 : decode cX1_spread 77 = .ok (.lastore, 1) := by decide +kernel
theorem dX1_spread_78 : decode cX1_spread 78 = .ok (.iinc 7 1, 3) := by decide +kernel
theorem dX1_spread_81 : decode cX1_spread 81 = .ok (.goto (-54), 3) := by decide +kernel
theorem dX1_spread_84 : decode cX1_spread 84 = .ok (.return_, 1) := by decide +kernel
theorem dX1_nextAsLarge_0 : decode cX1_nextAsLarge 0 = .ok (.iload_n 0, 1) := by decide +kernel
theorem dX1_nextAsLarge_1 : decode cX1_nextAsLarge 1 = .ok (.iload_n 0, 1) := by decide +kernel
theorem dX1_nextAsLarge_2 : decode cX1_nextAsLarge 2 = .ok (.ineg, 1) := by decide +kernel
theorem dX1_nextAsLarge_3 : decode cX1_nextAsLarge 3 = .ok (.iand, 1) := by decide +kernel
theorem dX1_nextAsLarge_4 : decode cX1_nextAsLarge 4 = .ok (.istore_n 1, 1) := by decide +kernel
theorem dX1_nextAsLarge_5 : decode cX1_nextAsLarge 5 = .ok (.iload_n 1, 1) := by decide +kernel
theorem dX1_nextAsLarge_6 : decode cX1_nextAsLarge 6 = .ok (.ifCond .ne 7, 3) := by decide +kernel
theorem dX1_nextAsLarge_9 : decode cX1_nextAsLarge 9 = .ok (.sipush 256, 3) := by decide +kernel
theorem dX1_nextAsLarge_12 : decode cX1_nextAsLarge 12 = .ok (.ireturn, 1) := by decide +kernel
theorem dX1_nextAsLarge_13 : decode cX1_nextAsLarge 13 = .ok (.iload_n 0, 1) := by decide +kernel
theorem dX1_nextAsLarge_14 : decode cX1_nextAsLarge 14 = .ok (.iload_n 1, 1) := by decide +kernel
theorem dX1_nextAsLarge_15 : decode cX1_nextAsLarge 15 = .ok (.iadd, 1) := by decide +kernel
theorem dX1_nextAsLarge_16 : decode cX1_nextAsLarge 16 = .ok (.istore_n 2, 1) := by decide +kernel
theorem dX1_nextAsLarge_17 : decode cX1_nextAsLarge 17 = .ok (.iload_n 2, 1) := by decide +kernel
theorem dX1_nextAsLarge_18 : decode cX1_nextAsLarge 18 = .ok (.iload_n 2, 1) := by decide +kernel
theorem dX1_nextAsLarge_19 : decode cX1_nextAsLarge 19 = .ok (.iload_n 0, 1) := by decide +kernel
theorem dX1_nextAsLarge_20 : decode cX1_nextAsLarge 20 = .ok (.ixor, 1) := by decide +kernel
theorem dX1_nextAsLarge_21 : decode cX1_nextAsLarge 21 = .ok (.iload_n 1, 1) := by decide +kernel
theorem dX1_nextAsLarge_22 : decode cX1_nextAsLarge 22 = .ok (.idiv, 1) := by decide +kernel
theorem dX1_nextAsLarge_23 : decode cX1_nextAsLarge 23 = .ok (.iconst 2, 1) := by decide +kernel
theorem dX1_nextAsLarge_24 : decode cX1_nextAsLarge 24 = .ok (.ishr, 1) := by decide +kernel
theorem dX1_nextAsLarge_25 : decode cX1_nextAsLarge 25 = .ok (.ior, 1) := by decide +kernel
theorem dX1_nextAsLarge_26 : decode cX1_nextAsLarge 26 = .ok (.ireturn, 1) := by decide +kernel
theorem dX2_init_0 : decode cX2_init 0 = .ok (.aload_n 0, 1) := by decide +kernel
theorem dX2_init_1 : decode cX2_init 1 = .ok (.invokespecial 3, 3) := by decide +kernel
theorem dX2_init_4 : decode cX2_init 4 = .ok (.aload_n 0, 1) := by decide +kernel
theorem dX2_init_5 : decode cX2_init 5 = .ok (.bipush 8, 2) := by decide +kernel
theorem dX2_init_7 : decode cX2_init 7 = .ok (.newarray .int, 2) := by decide +kernel
theorem dX2_init_9 : decode cX2_init 9 = .ok (.putfield 9, 3) := by decide +kernel
theorem dX2_init_12 : decode cX2_init 12 = .ok (.aload_n 0, 1) := by decide +kernel
theorem dX2_init_13 : decode cX2_init 13 = .ok (.aload_n 1, 1) := by decide +kernel
theorem dX2_init_14 : decode cX2_init 14 = .ok (.putfield 15, 3) := by decide +kernel
theorem dX2_init_17 : decode cX2_init 17 = .ok (.return_, 1) := by decide +kernel
theorem dX2_run_0 : decode cX2_run 0 = .ok (.aload_n 0, 1) := by decide +kernel
theorem dX2_run_1 : decode cX2_run 1 = .ok (.iload_n 1, 1) := by decide +kernel
theorem dX2_run_2 : decode cX2_run 2 = .ok (.putfield 19, 3) := by decide +kernel
theorem dX2_run_5 : decode cX2_run 5 = .ok (.aload_n 0, 1) := by decide +kernel
theorem dX2_run_6 : decode cX2_run 6 = .ok (.iconst 0, 1) := by decide +kernel
theorem dX2_run_7 : decode cX2_run 7 = .ok (.putfield 23, 3) := by decide +kernel
theorem dX2_run_10 : decode cX2_run 10 = .ok (.iconst 0, 1) := by decide +kernel
theorem dX2_run_11 : decode cX2_run 11 = .ok (.istore_n 2, 1) := by decide +kernel
theorem dX2_run_12 : decode cX2_run 12 = .ok (.iconst 0, 1) := by decide +kernel
theorem dX2_run_13 : decode cX2_run 13 = .ok (.istore_n 3, 1) := by decide +kernel
theorem dX2_run_14 : decode cX2_run 14 = .ok (.iload_n 3, 1) := by decide +kernel
theorem dX2_run_15 : decode cX2_run 15 = .ok (.aload_n 0, 1) := by decide +kernel
theorem dX2_run_16 : decode cX2_run 16 = .ok (.getfield 15, 3) := by decide +kernel
theorem dX2_run_19 : decode cX2_run 19 = .ok (.getfield 26, 3) := by decide +kernel
theorem dX2_run_22 : decode cX2_run 22 = .ok (.if_icmp .ge 81, 3) := by decide +kernel
theorem dX2_run_25 : decode cX2_run 25 = .ok (.aload_n 0, 1) := by decide +kernel
theorem dX2_run_26 : decode cX2_run 26 = .ok (.getfield 9, 3) := by decide +kernel
theorem dX2_run_29 : decode cX2_run 29 = .ok (.iload_n 3, 1) := by decide +kernel
theorem dX2_run_30 : decode cX2_run 30 = .ok (.aload_n 0, 1) := by decide +kernel
theorem dX2_run_31 : decode cX2_run 31 = .ok (.iload_n 2, 1) := by decide +kernel
theorem dX2_run_32 : decode cX2_run 32 = .ok (.aload_n 0, 1) := by decide +kernel
theorem dX2_run_33 : decode cX2_run 33 = .ok (.getfield 15, 3) := by decide +kernel
theorem dX2_run_36 : decode cX2_run 36 = .ok (.getfield 31, 3) := by decide +kernel
theorem dX2_run_39 : decode cX2_run 39 = .ok (.iload_n 3, 1) := by decide +kernel
theorem dX2_run_40 : decode cX2_run 40 = .ok (.iaload, 1) := by decide +kernel
theorem dX2_run_41 : decode cX2_run 41 = .ok (.aload_n 0, 1) := by decide +kernel
theorem dX2_run_42 : decode cX2_run 42 = .ok (.getfield 15, 3) := by decide +kernel
theorem dX2_run_45 : decode cX2_run 45 = .ok (.getfield 34, 3) := by decide +kernel
theorem dX2_run_48 : decode cX2_run 48 = .ok (.iload_n 3, 1) := by decide +kernel
theorem dX2_run_49 : decode cX2_run 49 = .ok (.iaload, 1) := by decide +kernel
theorem dX2_run_50 : decode cX2_run 50 = .ok (.invokevirtual 37, 3) := by decide +kernel
theorem dX2_run_53 : decode cX2_run 53 = .ok (.iastore, 1) := by decide +kernel
theorem dX2_run_54 : decode cX2_run 54 = .ok (.iload_n 2, 1) := by decide +kernel
theorem dX2_run_55 : decode cX2_run 55 = .ok (.iconst 1, 1) := by decide +kernel
theorem dX2_run_56 : decode cX2_run 56 = .ok (.aload_n 0, 1) := by decide +kernel
theorem dX2_run_57 : decode cX2_run 57 = .ok (.getfield 9, 3) := by decide +kernel
theorem dX2_run_60 : decode cX2_run 60 = .ok (.iload_n 3, 1) := by decide +kernel
theorem dX2_run_61 : decode cX2_run 61 = .ok (.iaload, 1) := by decide +kernel
theorem dX2_run_62 : decode cX2_run 62 = .ok (.ishl, 1) := by decide +kernel
theorem dX2_run_63 : decode cX2_run 63 = .ok (.ior, 1) := by decide +kernel
theorem dX2_run_64 : decode cX2_run 64 = .ok (.istore_n 2, 1) := by decide +kernel
theorem dX2_run_65 : decode cX2_run 65 = .ok (.aload_n 0, 1) := by decide +kernel
theorem dX2_run_66 : decode cX2_run 66 = .ok (.dup, 1) := by decide +kernel
theorem dX2_run_67 : decode cX2_run 67 = .ok (.getfield 23, 3) := by decide +kernel
theorem dX2_run_70 : decode cX2_run 70 = .ok (.aload_n 0, 1) := by decide +kernel
theorem dX2_run_71 : decode cX2_run 71 = .ok (.getfield 9, 3) := by decide +kernel
theorem dX2_run_74 : decode cX2_run 74 = .ok (.iload_n 3, 1) := by decide +kernel
theorem dX2_run_75 : decode cX2_run 75 = .ok (.iaload, 1) := by decide +kernel
theorem dX2_run_76 : decode cX2_run 76 = .ok (.aload_n 0, 1) := by decide +kernel
theorem dX2_run_77 : decode cX2_run 77 = .ok (.getfield 15, 3) := by decide +kernel
theorem dX2_run_80 : decode cX2_run 80 = .ok (.getfield 31, 3) := by decide +kernel
theorem dX2_run_83 : decode cX2_run 83 = .ok (.iload_n 3, 1) := by decide +kernel
theorem dX2_run_84 : decode cX2_run 84 = .ok (.iaload, 1) := by decide +kernel
theorem dX2_run_85 : decode cX2_run 85 = .ok (.if_icmp .ne 7, 3) := by decide +kernel
theorem dX2_run_88 : decode cX2_run 88 = .ok (.iconst 0, 1) := by decide +kernel
theorem dX2_run_89 : decode cX2_run 89 = .ok (.goto 4, 3) := by decide +kernel
theorem dX2_run_92 : decode cX2_run 92 = .ok (.iconst 1, 1) := by decide +kernel
theorem dX2_run_93 : decode cX2_run 93 = .ok (.iadd, 1) := by decide +kernel
theorem dX2_run_94 : decode cX2_run 94 = .ok (.putfield 23, 3) := by decide +kernel
theorem dX2_run_97 : decode cX2_run 97 = .ok (.iinc 3 1, 3) := by decide +kernel
theorem dX2_run_100 : decode cX2_run 100 = .ok (.goto (-86), 3) := by decide +kernel
theorem dX2_run_103 : decode cX2_run 103 = .ok (.return_, 1) := by decide +kernel
theorem dX2_place_0 : decode cX2_place 0 = .ok (.aload_n 0, 1) := by decide +kernel
theorem dX2_place_1 : decode cX2_place 1 = .ok (.getfield 15, 3) := by decide +kernel
theorem dX2_place_4 : decode cX2_place 4 = .ok (.iload_n 1, 1) := by decide +kernel
theorem dX2_place_5 : decode cX2_place 5 = .ok (.iload_n 2, 1) := by decide +kernel
theorem dX2_place_6 : decode cX2_place 6 = .ok (.iload_n 3, 1) := by decide +kernel
theorem dX2_place_7 : decode cX2_place 7 = .ok (.invokevirtual 41, 3) := by decide +kernel
theorem dX2_place_10 : decode cX2_place 10 = .ok (.istore 4, 2) := by decide +kernel
theorem dX2_place_12 : decode cX2_place 12 = .ok (.iload_n 3, 1) := by decide +kernel
theorem dX2_place_13 : decode cX2_place 13 = .ok (.iconst 1, 1) := by decide +kernel
theorem dX2_place_14 : decode cX2_place 14 = .ok (.if_icmp .eq 16, 3) := by decide +kernel
theorem dX2_place_17 : decode cX2_place 17 = .ok (.iload_n 3, 1) := by decide +kernel
theorem dX2_place_18 : decode cX2_place 18 = .ok (.iconst 2, 1) := by decide +kernel
theorem dX2_place_19 : decode cX2_place 19 = .ok (.if_icmp .eq 15, 3) := by decide +kernel
theorem dX2_place_22 : decode cX2_place 22 = .ok (.iload_n 1, 1) := by decide +kernel
theorem dX2_place_23 : decode cX2_place 23 = .ok (.iload_n 2, 1) := by decide +kernel
theorem dX2_place_24 : decode cX2_place 24 = .ok (.invokestatic 44, 3) := by decide +kernel
theorem dX2_place_27 : decode cX2_place 27 = .ok (.ifCond .eq 7, 3) := by decide +kernel
theorem dX2_place_30 : decode cX2_place 30 = .ok (.iconst 1, 1) := by decide +kernel
theorem dX2_place_31 : decode cX2_place 31 = .ok (.goto 4, 3) := by decide +kernel
theorem dX2_place_34 : decode cX2_place 34 = .ok (.iconst 0, 1) := by decide +kernel
theorem dX2_place_35 : decode cX2_place 35 = .ok (.istore 5, 2) := by decide +kernel
theorem dX2_place_37 : decode cX2_place 37 = .ok (.aload_n 0, 1) := by decide +kernel
theorem dX2_place_38 : decode cX2_place 38 = .ok (.iload 4, 2) := by decide +kernel
theorem dX2_place_40 : decode cX2_place 40 = .ok (.iload 5, 2) := by decide +kernel
theorem dX2_place_42 : decode cX2_place 42 = .ok (.ifCond .eq 15, 3) := by decide +kernel
theorem dX2_place_45 : decode cX2_place 45 = .ok (.aload_n 0, 1) := by decide +kernel
theorem dX2_place_46 : decode cX2_place 46 = .ok (.iload 4, 2) := by decide +kernel
theorem dX2_place_48 : decode cX2_place 48 = .ok (.invokestatic 48, 3) := by decide +kernel
theorem dX2_place_51 : decode cX2_place 51 = .ok (.invokevirtual 54, 3) := by decide +kernel
theorem dX2_place_54 : decode cX2_place 54 = .ok (.goto 4, 3) := by decide +kernel
theorem dX2_place_57 : decode cX2_place 57 = .ok (.iconst 0, 1) := by decide +kernel
theorem dX2_place_58 : decode cX2_place 58 = .ok (.invokevirtual 57, 3) := by decide +kernel
theorem dX2_place_61 : decode cX2_place 61 = .ok (.ireturn, 1) := by decide +kernel
theorem dX2_lot_0 : decode cX2_lot 0 = .ok (.aload_n 0, 1) := by decide +kernel
theorem dX2_lot_1 : decode cX2_lot 1 = .ok (.ldc 61, 2) := by decide +kernel
theorem dX2_lot_3 : decode cX2_lot 3 = .ok (.aload_n 0, 1) := by decide +kernel
theorem dX2_lot_4 : decode cX2_lot 4 = .ok (.getfield 19, 3) := by decide +kernel
theorem dX2_lot_7 : decode cX2_lot 7 = .ok (.imul, 1) := by decide +kernel
theorem dX2_lot_8 : decode cX2_lot 8 = .ok (.sipush 12345, 3) := by decide +kernel
theorem dX2_lot_11 : decode cX2_lot 11 = .ok (.iadd, 1) := by decide +kernel
theorem dX2_lot_12 : decode cX2_lot 12 = .ok (.putfield 19, 3) := by decide +kernel
theorem dX2_lot_15 : decode cX2_lot 15 = .ok (.iload_n 1, 1) := by decide +kernel
theorem dX2_lot_16 : decode cX2_lot 16 = .ok (.ifCond .le 15, 3) := by decide +kernel
theorem dX2_lot_19 : decode cX2_lot 19 = .ok (.aload_n 0, 1) := by decide +kernel
theorem dX2_lot_20 : decode cX2_lot 20 = .ok (.getfield 19, 3) := by decide +kernel
theorem dX2_lot_23 : decode cX2_lot 23 = .ok (.bipush 16, 2) := by decide +kernel
theorem dX2_lot_25 : decode cX2_lot 25 = .ok (.iushr, 1) := by decide +kernel
theorem dX2_lot_26 : decode cX2_lot 26 = .ok (.iload_n 1, 1) := by decide +kernel
theorem dX2_lot_27 : decode cX2_lot 27 = .ok (.irem, 1) := by decide +kernel
theorem dX2_lot_28 : decode cX2_lot 28 = .ok (.goto 4, 3) := by decide +kernel
theorem dX2_lot_31 : decode cX2_lot 31 = .ok (.iconst 0, 1) := by decide +kernel
theorem dX2_lot_32 : decode cX2_lot 32 = .ok (.ireturn, 1) := by decide +kernel
theorem dX2_member_0 : decode cX2_member 0 = .ok (.iconst 0, 1) := by decide +kernel
theorem dX2_member_1 : decode cX2_member 1 = .ok (.istore_n 3, 1) := by decide +kernel
theorem dX2_member_2 : decode cX2_member 2 = .ok (.iconst 0, 1) := by decide +kernel
theorem dX2_member_3 : decode cX2_member 3 = .ok (.istore 4, 2) := by decide +kernel
theorem dX2_member_5 : decode cX2_member 5 = .ok (.iload 4, 2) := by decide +kernel
theorem dX2_member_7 : decode cX2_member 7 = .ok (.aload_n 0, 1) := by decide +kernel
theorem dX2_member_8 : decode cX2_member 8 = .ok (.getfield 15, 3) := by decide +kernel
theorem dX2_member_11 : decode cX2_member 11 = .ok (.getfield 62, 3) := by decide +kernel
theorem dX2_member_14 : decode cX2_member 14 = .ok (.if_icmp .ge 29, 3) := by decide +kernel
theorem dX2_member_17 : decode cX2_member 17 = .ok (.iload_n 1, 1) := by decide +kernel
theorem dX2_member_18 : decode cX2_member 18 = .ok (.iload 4, 2) := by decide +kernel
theorem dX2_member_20 : decode cX2_member 20 = .ok (.invokestatic 44, 3) := by decide +kernel
theorem dX2_member_23 : decode cX2_member 23 = .ok (.ifCond .eq 14, 3) := by decide +kernel
theorem dX2_member_26 : decode cX2_member 26 = .ok (.iload_n 3, 1) := by decide +kernel
theorem dX2_member_27 : decode cX2_member 27 = .ok (.iload_n 2, 1) := by decide +kernel
theorem dX2_member_28 : decode cX2_member 28 = .ok (.if_icmp .ne 6, 3) := by decide +kernel
theorem dX2_member_31 : decode cX2_member 31 = .ok (.iload 4, 2) := by decide +kernel
theorem dX2_member_33 : decode cX2_member 33 = .ok (.ireturn, 1) := by decide +kernel
theorem dX2_member_34 : decode cX2_member 34 = .ok (.iinc 3 1, 3) := by decide +kernel
theorem dX2_member_37 : decode cX2_member 37 = .ok (.iinc 4 1, 3) := by decide +kernel
theorem dX2_member_40 : decode cX2_member 40 = .ok (.goto (-35), 3) := by decide +kernel
theorem dX2_member_43 : decode cX2_member 43 = .ok (.iconst 0, 1) := by decide +kernel
theorem dX2_member_44 : decode cX2_member 44 = .ok (.ireturn, 1) := by decide +kernel
theorem dX3_init_0 : decode cX3_init 0 = .ok (.aload_n 0, 1) := by decide +kernel
theorem dX3_init_1 : decode cX3_init 1 = .ok (.invokespecial 3, 3) := by decide +kernel
theorem dX3_init_4 : decode cX3_init 4 = .ok (.aload_n 0, 1) := by decide +kernel
theorem dX3_init_5 : decode cX3_init 5 = .ok (.iconst 2, 1) := by decide +kernel
theorem dX3_init_6 : decode cX3_init 6 = .ok (.bipush 20, 2) := by decide +kernel
theorem dX3_init_8 : decode cX3_init 8 = .ok (.multianewarray 9 2, 4) := by decide +kernel
theorem dX3_init_12 : decode cX3_init 12 = .ok (.putfield 11, 3) := by decide +kernel
theorem dX3_init_15 : decode cX3_init 15 = .ok (.aload_n 0, 1) := by decide +kernel
theorem dX3_init_16 : decode cX3_init 16 = .ok (.iconst 2, 1) := by decide +kernel
theorem dX3_init_17 : decode cX3_init 17 = .ok (.newarray .int, 2) := by decide +kernel
theorem dX3_init_19 : decode cX3_init 19 = .ok (.putfield 16, 3) := by decide +kernel
theorem dX3_init_22 : decode cX3_init 22 = .ok (.aload_n 0, 1) := by decide +kernel
theorem dX3_init_23 : decode cX3_init 23 = .ok (.iconst 2, 1) := by decide +kernel
theorem dX3_init_24 : decode cX3_init 24 = .ok (.newarray .int, 2) := by decide +kernel
theorem dX3_init_26 : decode cX3_init 26 = .ok (.putfield 20, 3) := by decide +kernel
theorem dX3_init_29 : decode cX3_init 29 = .ok (.aload_n 0, 1) := by decide +kernel
theorem dX3_init_30 : decode cX3_init 30 = .ok (.bipush 8, 2) := by decide +kernel
theorem dX3_init_32 : decode cX3_init 32 = .ok (.newarray .int, 2) := by decide +kernel
theorem dX3_init_34 : decode cX3_init 34 = .ok (.putfield 23, 3) := by decide +kernel
theorem dX3_init_37 : decode cX3_init 37 = .ok (.aload_n 0, 1) := by decide +kernel
theorem dX3_init_38 : decode cX3_init 38 = .ok (.bipush 8, 2) := by decide +kernel
theorem dX3_init_40 : decode cX3_init 40 = .ok (.newarray .int, 2) := by decide +kernel
theorem dX3_init_42 : decode cX3_init 42 = .ok (.putfield 26, 3) := by decide +kernel
theorem dX3_init_45 : decode cX3_init 45 = .ok (.aload_n 0, 1) := by decide +kernel
theorem dX3_init_46 : decode cX3_init 46 = .ok (.iconst 3, 1) := by decide +kernel
theorem dX3_init_47 : decode cX3_init 47 = .ok (.newarray .int, 2) := by decide +kernel
theorem dX3_init_49 : decode cX3_init 49 = .ok (.putfield 29, 3) := by decide +kernel
theorem dX3_init_52 : decode cX3_init 52 = .ok (.aload_n 0, 1) := by decide +kernel
theorem dX3_init_53 : decode cX3_init 53 = .ok (.bipush 8, 2) := by decide +kernel
theorem dX3_init_55 : decode cX3_init 55 = .ok (.newarray .int, 2) := by decide +kernel
theorem dX3_init_57 : decode cX3_init 57 = .ok (.putfield 32, 3) := by decide +kernel
theorem dX3_init_60 : decode cX3_init 60 = .ok (.aload_n 0, 1) := by decide +kernel
theorem dX3_init_61 : decode cX3_init 61 = .ok (.bipush 8, 2) := by decide +kernel
theorem dX3_init_63 : decode cX3_init 63 = .ok (.newarray .int, 2) := by decide +kernel
theorem dX3_init_65 : decode cX3_init 65 = .ok (.putfield 35, 3) := by decide +kernel
theorem dX3_init_68 : decode cX3_init 68 = .ok (.aload_n 0, 1) := by decide +kernel
theorem dX3_init_69 : decode cX3_init 69 = .ok (.invokevirtual 38, 3) := by decide +kernel
theorem dX3_init_72 : decode cX3_init 72 = .ok (.return_, 1) := by decide +kernel
theorem dX3_append_0 : decode cX3_append 0 = .ok (.aload_n 0, 1) := by decide +kernel
theorem dX3_append_1 : decode cX3_append 1 = .ok (.getfield 16, 3) := by decide +kernel
theorem dX3_append_4 : decode cX3_append 4 = .ok (.iload_n 1, 1) := by decide +kernel
theorem dX3_append_5 : decode cX3_append 5 = .ok (.iaload, 1) := by decide +kernel
theorem dX3_append_6 : decode cX3_append 6 = .ok (.bipush 20, 2) := by decide +kernel
theorem dX3_append_8 : decode cX3_append 8 = .ok (.if_icmp .ge 27, 3) := by decide +kernel
theorem dX3_append_11 : decode cX3_append 11 = .ok (.aload_n 0, 1) := by decide +kernel
theorem dX3_append_12 : decode cX3_append 12 = .ok (.getfield 11, 3) := by decide +kernel
theorem dX3_append_15 : decode cX3_append 15 = .ok (.iload_n 1, 1) := by decide +kernel
theorem dX3_append_16 : decode cX3_append 16 = .ok (.aaload, 1) := by decide +kernel
theorem dX3_append_17 : decode cX3_append 17 = .ok (.aload_n 0, 1) := by decide +kernel
theorem dX3_append_18 : decode cX3_append 18 = .ok (.getfield 16, 3) := by decide +kernel
theorem dX3_append_21 : decode cX3_append 21 = .ok (.iload_n 1, 1) := by decide +kernel
theorem dX3_append_22 : decode cX3_append 22 = .ok (.iaload, 1) := by decide +kernel
theorem dX3_append_23 : decode cX3_append 23 = .ok (.iload_n 2, 1) := by decide +kernel
theorem dX3_append_24 : decode cX3_append 24 = .ok (.iastore, 1) := by decide +kernel
theorem dX3_append_25 : decode cX3_append 25 = .ok (.aload_n 0, 1) := by decide +kernel
theorem dX3_append_26 : decode cX3_append 26 = .ok (.getfield 16, 3) := by decide +kernel
theorem dX3_append_29 : decode cX3_append 29 = .ok (.iload_n 1, 1) := by decide +kernel
theorem dX3_append_30 : decode cX3_append 30 = .ok (.dup2, 1) := by decide +kernel
theorem dX3_append_31 : decode cX3_append 31 = .ok (.iaload, 1) := by decide +kernel
theorem dX3_append_32 : decode cX3_append 32 = .ok (.iconst 1, 1) := by decide +kernel
theorem dX3_append_33 : decode cX3_append 33 = .ok (.iadd, 1) := by decide +kernel
theorem dX3_append_34 : decode cX3_append 34 = .ok (.iastore, 1) := by decide +kernel
theorem dX3_append_35 : decode cX3_append 35 = .ok (.aload_n 0, 1) := by decide +kernel
theorem dX3_append_36 : decode cX3_append 36 = .ok (.invokevirtual 38, 3) := by decide +kernel
theorem dX3_append_39 : decode cX3_append 39 = .ok (.return_, 1) := by decide +kernel
theorem dX3_empty_0 : decode cX3_empty 0 = .ok (.aload_n 0, 1) := by decide +kernel
theorem dX3_empty_1 : decode cX3_empty 1 = .ok (.getfield 16, 3) := by decide +kernel
theorem dX3_empty_4 : decode cX3_empty 4 = .ok (.iload_n 1, 1) := by decide +kernel
theorem dX3_empty_5 : decode cX3_empty 5 = .ok (.iconst 0, 1) := by decide +kernel
theorem dX3_empty_6 : decode cX3_empty 6 = .ok (.iastore, 1) := by decide +kernel
theorem dX3_empty_7 : decode cX3_empty 7 = .ok (.aload_n 0, 1) := by decide +kernel
theorem dX3_empty_8 : decode cX3_empty 8 = .ok (.invokevirtual 38, 3) := by decide +kernel
theorem dX3_empty_11 : decode cX3_empty 11 = .ok (.return_, 1) := by decide +kernel
theorem dX3_parse_0 : decode cX3_parse 0 = .ok (.aload_n 0, 1) := by decide +kernel
theorem dX3_parse_1 : decode cX3_parse 1 = .ok (.invokevirtual 41, 3) := by decide +kernel
theorem dX3_parse_4 : decode cX3_parse 4 = .ok (.aload_n 0, 1) := by decide +kernel
theorem dX3_parse_5 : decode cX3_parse 5 = .ok (.invokevirtual 44, 3) := by decide +kernel
theorem dX3_parse_8 : decode cX3_parse 8 = .ok (.return_, 1) := by decide +kernel
theorem dX3_parseSeats_0 : decode cX3_parseSeats 0 = .ok (.aload_n 0, 1) := by decide +kernel
theorem dX3_parseSeats_1 : decode cX3_parseSeats 1 = .ok (.iconst 0, 1) := by decide +kernel
theorem dX3_parseSeats_2 : decode cX3_parseSeats 2 = .ok (.putfield 47, 3) := by decide +kernel
theorem dX3_parseSeats_5 : decode cX3_parseSeats 5 = .ok (.aload_n 0, 1) := by decide +kernel
theorem dX3_parseSeats_6 : decode cX3_parseSeats 6 = .ok (.iconst 0, 1) := by decide +kernel
theorem dX3_parseSeats_7 : decode cX3_parseSeats 7 = .ok (.putfield 51, 3) := by decide +kernel
theorem dX3_parseSeats_10 : decode cX3_parseSeats 10 = .ok (.iconst 0, 1) := by decide +kernel
theorem dX3_parseSeats_11 : decode cX3_parseSeats 11 = .ok (.istore_n 1, 1) := by decide +kernel
theorem dX3_parseSeats_12 : decode cX3_parseSeats 12 = .ok (.iconst 0, 1) := by decide +kernel
theorem dX3_parseSeats_13 : decode cX3_parseSeats 13 = .ok (.istore_n 2, 1) := by decide +kernel
theorem dX3_parseSeats_14 : decode cX3_parseSeats 14 = .ok (.iload_n 2, 1) := by decide +kernel
theorem dX3_parseSeats_15 : decode cX3_parseSeats 15 = .ok (.aload_n 0, 1) := by decide +kernel
theorem dX3_parseSeats_16 : decode cX3_parseSeats 16 = .ok (.getfield 16, 3) := by decide +kernel
theorem dX3_parseSeats_19 : decode cX3_parseSeats 19 = .ok (.iconst 0, 1) := by decide +kernel
theorem dX3_parseSeats_20 : decode cX3_parseSeats 20 = .ok (.iaload, 1) := by decide +kernel
theorem dX3_parseSeats_21 : decode cX3_parseSeats 21 = .ok (.if_icmp .ge 80, 3) := by decide +kernel
theorem dX3_parseSeats_24 : decode cX3_parseSeats 24 = .ok (.aload_n 0, 1) := by decide +kernel
theorem dX3_parseSeats_25 : decode cX3_parseSeats 25 = .ok (.getfield 11, 3) := by decide +kernel
theorem dX3_parseSeats_28 : decode cX3_parseSeats 28 = .ok (.iconst 0, 1) := by decide +kernel
theorem dX3_parseSeats_29 : decode cX3_parseSeats 29 = .ok (.aaload, 1) := by decide +kernel
theorem dX3_parseSeats_30 : decode cX3_parseSeats 30 = .ok (.iload_n 2, 1) := by decide +kernel
theorem dX3_parseSeats_31 : decode cX3_parseSeats 31 = .ok (.iaload, 1) := by decide +kernel
theorem dX3_parseSeats_32 : decode cX3_parseSeats 32 = .ok (.istore_n 3, 1) := by decide +kernel
theorem dX3_parseSeats_33 : decode cX3_parseSeats 33 = .ok (.iload_n 3, 1) := by decide +kernel
theorem dX3_parseSeats_34 : decode cX3_parseSeats 34 = .ok (.invokestatic 54, 3) := by decide +kernel
theorem dX3_parseSeats_37 : decode cX3_parseSeats 37 = .ok (.istore 4, 2) := by decide +kernel
theorem dX3_parseSeats_39 : decode cX3_parseSeats 39 = .ok (.iload 4, 2) := by decide +kernel
theorem dX3_parseSeats_41 : decode cX3_parseSeats 41 = .ok (.iconst (-1), 1) := by decide +kernel
theorem dX3_parseSeats_42 : decode cX3_parseSeats 42 = .ok (.if_icmp .eq 41, 3) := by decide +kernel
theorem dX3_parseSeats_45 : decode cX3_parseSeats 45 = .ok (.aload_n 0, 1) := by decide +kernel
theorem dX3_parseSeats_46 : decode cX3_parseSeats 46 = .ok (.getfield 47, 3) := by decide +kernel
theorem dX3_parseSeats_49 : decode cX3_parseSeats 49 = .ok (.bipush 8, 2) := by decide +kernel
theorem dX3_parseSeats_51 : decode cX3_parseSeats 51 = .ok (.if_icmp .ge 32, 3) := by decide +kernel
theorem dX3_parseSeats_54 : decode cX3_parseSeats 54 = .ok (.aload_n 0, 1) := by decide +kernel
theorem dX3_parseSeats_55 : decode cX3_parseSeats 55 = .ok (.dup, 1) := by decide +kernel
theorem dX3_parseSeats_56 : decode cX3_parseSeats 56 = .ok (.getfield 51, 3) := by decide +kernel
theorem dX3_parseSeats_59 : decode cX3_parseSeats 59 = .ok (.iload_n 1, 1) := by decide +kernel
theorem dX3_parseSeats_60 : decode cX3_parseSeats 60 = .ok (.ifCond .eq 7, 3) := by decide +kernel
theorem dX3_parseSeats_63 : decode cX3_parseSeats 63 = .ok (.iconst 0, 1) := by decide +kernel
theorem dX3_parseSeats_64 : decode cX3_parseSeats 64 = .ok (.goto 4, 3) := by decide +kernel
theorem dX3_parseSeats_67 : decode cX3_parseSeats 67 = .ok (.iconst 1, 1) := by decide +kernel
theorem dX3_parseSeats_68 : decode cX3_parseSeats 68 = .ok (.iadd, 1) := by decide +kernel
theorem dX3_parseSeats_69 : decode cX3_parseSeats 69 = .ok (.putfield 51, 3) := by decide +kernel
theorem dX3_parseSeats_72 : decode cX3_parseSeats 72 = .ok (.iconst 1, 1) := by decide +kernel
theorem dX3_parseSeats_73 : decode cX3_parseSeats 73 = .ok (.istore_n 1, 1) := by decide +kernel
theorem dX3_parseSeats_74 : decode cX3_parseSeats 74 = .ok (.aload_n 0, 1) := by decide +kernel
theorem dX3_parseSeats_75 : decode cX3_parseSeats 75 = .ok (.iload 4, 2) := by decide +kernel
theorem dX3_parseSeats_77 : decode cX3_parseSeats 77 = .ok (.invokevirtual 58, 3) := by decide +kernel
theorem dX3_parseSeats_80 : decode cX3_parseSeats 80 = .ok (.goto 15, 3) := by decide +kernel
theorem dX3_parseSeats_83 : decode cX3_parseSeats 83 = .ok (.iload_n 3, 1) := by decide +kernel
theorem dX3_parseSeats_84 : decode cX3_parseSeats 84 = .ok (.bipush 59, 2) := by decide +kernel
theorem dX3_parseSeats_86 : decode cX3_parseSeats 86 = .ok (.if_icmp .ne 15, 3) := by decide +kernel
theorem dX3_parseSeats_89 : decode cX3_parseSeats 89 = .ok (.iload_n 1, 1) := by decide +kernel
theorem dX3_parseSeats_90 : decode cX3_parseSeats 90 = .ok (.ifCond .eq 11, 3) := by decide +kernel
theorem dX3_parseSeats_93 : decode cX3_parseSeats 93 = .ok (.iconst 0, 1) := by decide +kernel
theorem dX3_parseSeats_94 : decode cX3_parseSeats 94 = .ok (.istore_n 1, 1) := by decide +kernel
theorem dX3_parseSeats_95 : decode cX3_parseSeats 95 = .ok (.iinc 2 1, 3) := by decide +kernel
theorem dX3_parseSeats_98 : decode cX3_parseSeats 98 = .ok (.goto (-84), 3) := by decide +kernel
theorem dX3_parseSeats_101 : decode cX3_parseSeats 101 = .ok (.aload_n 0, 1) := by decide +kernel
theorem dX3_parseSeats_102 : decode cX3_parseSeats 102 = .ok (.getfield 20, 3) := by decide +kernel
theorem dX3_parseSeats_105 : decode cX3_parseSeats 105 = .ok (.iconst 0, 1) := by decide +kernel
theorem dX3_parseSeats_106 : decode cX3_parseSeats 106 = .ok (.iload_n 2, 1) := by decide +kernel
theorem dX3_parseSeats_107 : decode cX3_parseSeats 107 = .ok (.aload_n 0, 1) := by decide +kernel
theorem dX3_parseSeats_108 : decode cX3_parseSeats 108 = .ok (.getfield 16, 3) := by decide +kernel
theorem dX3_parseSeats_111 : decode cX3_parseSeats 111 = .ok (.iconst 0, 1) := by decide +kernel
theorem dX3_parseSeats_112 : decode cX3_parseSeats 112 = .ok (.iaload, 1) := by decide +kernel
theorem dX3_parseSeats_113 : decode cX3_parseSeats 113 = .ok (.if_icmp .ne 11, 3) := by decide +kernel
theorem dX3_parseSeats_116 : decode cX3_parseSeats 116 = .ok (.iload_n 1, 1) := by decide +kernel
theorem dX3_parseSeats_117 : decode cX3_parseSeats 117 = .ok (.ifCond .eq 7, 3) := by decide +kernel
theorem dX3_parseSeats_120 : decode cX3_parseSeats 120 = .ok (.iconst (-1), 1) := by decide +kernel
theorem dX3_parseSeats_121 : decode cX3_parseSeats 121 = .ok (.goto 4, 3) := by decide +kernel
theorem dX3_parseSeats_124 : decode cX3_parseSeats 124 = .ok (.iload_n 2, 1) := by decide +kernel
theorem dX3_parseSeats_125 : decode cX3_parseSeats 125 = .ok (.iastore, 1) := by decide +kernel
theorem dX3_parseSeats_126 : decode cX3_parseSeats 126 = .ok (.aload_n 0, 1) := by decide +kernel
theorem dX3_parseSeats_127 : decode cX3_parseSeats 127 = .ok (.getfield 20, 3) := by decide +kernel
theorem dX3_parseSeats_130 : decode cX3_parseSeats 130 = .ok (.iconst 0, 1) := by decide +kernel
theorem dX3_parseSeats_131 : decode cX3_parseSeats 131 = .ok (.iaload, 1) := by decide +kernel
theorem dX3_parseSeats_132 : decode cX3_parseSeats 132 = .ok (.iconst (-1), 1) := by decide +kernel
theorem dX3_parseSeats_133 : decode cX3_parseSeats 133 = .ok (.if_icmp .eq 13, 3) := by decide +kernel
theorem dX3_parseSeats_136 : decode cX3_parseSeats 136 = .ok (.aload_n 0, 1) := by decide +kernel
theorem dX3_parseSeats_137 : decode cX3_parseSeats 137 = .ok (.iconst 0, 1) := by decide +kernel
theorem dX3_parseSeats_138 : decode cX3_parseSeats 138 = .ok (.putfield 47, 3) := by decide +kernel
theorem dX3_parseSeats_141 : decode cX3_parseSeats 141 = .ok (.aload_n 0, 1) := by decide +kernel
theorem dX3_parseSeats_142 : decode cX3_parseSeats 142 = .ok (.iconst 0, 1) := by decide +kernel
theorem dX3_parseSeats_143 : decode cX3_parseSeats 143 = .ok (.putfield 51, 3) := by decide +kernel
theorem dX3_parseSeats_146 : decode cX3_parseSeats 146 = .ok (.return_, 1) := by decide +kernel
theorem dX3_addSeat_0 : decode cX3_addSeat 0 = .ok (.aload_n 0, 1) := by decide +kernel
theorem dX3_addSeat_1 : decode cX3_addSeat 1 = .ok (.getfield 47, 3) := by decide +kernel
theorem dX3_addSeat_4 : decode cX3_addSeat 4 = .ok (.ifCond .ne 11, 3) := by decide +kernel
theorem dX3_addSeat_7 : decode cX3_addSeat 7 = .ok (.aload_n 0, 1) := by decide +kernel
theorem dX3_addSeat_8 : decode cX3_addSeat 8 = .ok (.getfield 29, 3) := by decide +kernel
theorem dX3_addSeat_11 : decode cX3_addSeat 11 = .ok (.iconst 0, 1) := by decide +kernel
theorem dX3_addSeat_12 : decode cX3_addSeat 12 = .ok (.invokestatic 62, 3) := by decide +kernel
theorem dX3_addSeat_15 : decode cX3_addSeat 15 = .ok (.aload_n 0, 1) := by decide +kernel
theorem dX3_addSeat_16 : decode cX3_addSeat 16 = .ok (.getfield 23, 3) := by decide +kernel
theorem dX3_addSeat_19 : decode cX3_addSeat 19 = .ok (.aload_n 0, 1) := by decide +kernel
theorem dX3_addSeat_20 : decode cX3_addSeat 20 = .ok (.getfield 47, 3) := by decide +kernel
theorem dX3_addSeat_23 : decode cX3_addSeat 23 = .ok (.iload_n 1, 1) := by decide +kernel
theorem dX3_addSeat_24 : decode cX3_addSeat 24 = .ok (.iastore, 1) := by decide +kernel
theorem dX3_addSeat_25 : decode cX3_addSeat 25 = .ok (.aload_n 0, 1) := by decide +kernel
theorem dX3_addSeat_26 : decode cX3_addSeat 26 = .ok (.getfield 26, 3) := by decide +kernel
theorem dX3_addSeat_29 : decode cX3_addSeat 29 = .ok (.aload_n 0, 1) := by decide +kernel
theorem dX3_addSeat_30 : decode cX3_addSeat 30 = .ok (.getfield 47, 3) := by decide +kernel
theorem dX3_addSeat_33 : decode cX3_addSeat 33 = .ok (.aload_n 0, 1) := by decide +kernel
theorem dX3_addSeat_34 : decode cX3_addSeat 34 = .ok (.getfield 51, 3) := by decide +kernel
theorem dX3_addSeat_37 : decode cX3_addSeat 37 = .ok (.iconst 1, 1) := by decide +kernel
theorem dX3_addSeat_38 : decode cX3_addSeat 38 = .ok (.isub, 1) := by decide +kernel
theorem dX3_addSeat_39 : decode cX3_addSeat 39 = .ok (.iastore, 1) := by decide +kernel
theorem dX3_addSeat_40 : decode cX3_addSeat 40 = .ok (.aload_n 0, 1) := by decide +kernel
theorem dX3_addSeat_41 : decode cX3_addSeat 41 = .ok (.getfield 29, 3) := by decide +kernel
theorem dX3_addSeat_44 : decode cX3_addSeat 44 = .ok (.iload_n 1, 1) := by decide +kernel
theorem dX3_addSeat_45 : decode cX3_addSeat 45 = .ok (.dup2, 1) := by decide +kernel
theorem dX3_addSeat_46 : decode cX3_addSeat 46 = .ok (.iaload, 1) := by decide +kernel
theorem dX3_addSeat_47 : decode cX3_addSeat 47 = .ok (.iconst 1, 1) := by decide +kernel
theorem dX3_addSeat_48 : decode cX3_addSeat 48 = .ok (.aload_n 0, 1) := by decide +kernel
theorem dX3_addSeat_49 : decode cX3_addSeat 49 = .ok (.getfield 47, 3) := by decide +kernel
theorem dX3_addSeat_52 : decode cX3_addSeat 52 = .ok (.ishl, 1) := by decide +kernel
theorem dX3_addSeat_53 : decode cX3_addSeat 53 = .ok (.ior, 1) := by decide +kernel
theorem dX3_addSeat_54 : decode cX3_addSeat 54 = .ok (.iastore, 1) := by decide +kernel
theorem dX3_addSeat_55 : decode cX3_addSeat 55 = .ok (.aload_n 0, 1) := by decide +kernel
theorem dX3_addSeat_56 : decode cX3_addSeat 56 = .ok (.dup, 1) := by decide +kernel
theorem dX3_addSeat_57 : decode cX3_addSeat 57 = .ok (.getfield 47, 3) := by decide +kernel
theorem dX3_addSeat_60 : decode cX3_addSeat 60 = .ok (.iconst 1, 1) := by decide +kernel
theorem dX3_addSeat_61 : decode cX3_addSeat 61 = .ok (.iadd, 1) := by decide +kernel
theorem dX3_addSeat_62 : decode cX3_addSeat 62 = .ok (.putfield 47, 3) := by decide +kernel
theorem dX3_addSeat_65 : decode cX3_addSeat 65 = .ok (.return_, 1) := by decide +kernel
theorem dX3_parsePeople_0 : decode cX3_parsePeople 0 = .ok (.aload_n 0, 1) := by decide +kernel
theorem dX3_parsePeople_1 : decode cX3_parsePeople 1 = .ok (.iconst 0, 1) := by decide +kernel
theorem dX3_parsePeople_2 : decode cX3_parsePeople 2 = .ok (.putfield 68, 3) := by decide +kernel
theorem dX3_parsePeople_5 : decode cX3_parsePeople 5 = .ok (.iconst (-1), 1) := by decide +kernel
theorem dX3_parsePeople_6 : decode cX3_parsePeople 6 = .ok (.istore_n 1, 1) := by decide +kernel
theorem dX3_parsePeople_7 : decode cX3_parsePeople 7 = .ok (.iconst 0, 1) := by decide +kernel
theorem dX3_parsePeople_8 : decode cX3_parsePeople 8 = .ok (.istore_n 2, 1) := by decide +kernel
theorem dX3_parsePeople_9 : decode cX3_parsePeople 9 = .ok (.iload_n 2, 1) := by decide +kernel
theorem dX3_parsePeople_10 : decode cX3_parsePeople 10 = .ok (.aload_n 0, 1) := by decide +kernel
theorem dX3_parsePeople_11 : decode cX3_parsePeople 11 = .ok (.getfield 16, 3) := by decide +kernel
theorem dX3_parsePeople_14 : decode cX3_parsePeople 14 = .ok (.iconst 1, 1) := by decide +kernel
theorem dX3_parsePeople_15 : decode cX3_parsePeople 15 = .ok (.iaload, 1) := by decide +kernel
theorem dX3_parsePeople_16 : decode cX3_parsePeople 16 = .ok (.if_icmp .ge 110, 3) := by decide +kernel
theorem dX3_parsePeople_19 : decode cX3_parsePeople 19 = .ok (.aload_n 0, 1) := by decide +kernel
theorem dX3_parsePeople_20 : decode cX3_parsePeople 20 = .ok (.getfield 11, 3) := by decide +kernel
theorem dX3_parsePeople_23 : decode cX3_parsePeople 23 = .ok (.iconst 1, 1) := by decide +kernel
theorem dX3_parsePeople_24 : decode cX3_parsePeople 24 = .ok (.aaload, 1) := by decide +kernel
theorem dX3_parsePeople_25 : decode cX3_parsePeople 25 = .ok (.iload_n 2, 1) := by decide +kernel
theorem dX3_parsePeople_26 : decode cX3_parsePeople 26 = .ok (.iaload, 1) := by decide +kernel
theorem dX3_parsePeople_27 : decode cX3_parsePeople 27 = .ok (.istore_n 3, 1) := by decide +kernel
theorem dX3_parsePeople_28 : decode cX3_parsePeople 28 = .ok (.iload_n 1, 1) := by decide +kernel
theorem dX3_parsePeople_29 : decode cX3_parsePeople 29 = .ok (.iconst (-1), 1) := by decide +kernel
theorem dX3_parsePeople_30 : decode cX3_parsePeople 30 = .ok (.if_icmp .ne 42, 3) := by decide +kernel
theorem dX3_parsePeople_33 : decode cX3_parsePeople 33 = .ok (.aload_n 0, 1) := by decide +kernel
theorem dX3_parsePeople_34 : decode cX3_parsePeople 34 = .ok (.getfield 68, 3) := by decide +kernel
theorem dX3_parsePeople_37 : decode cX3_parsePeople 37 = .ok (.aload_n 0, 1) := by decide +kernel
theorem dX3_parsePeople_38 : decode cX3_parsePeople 38 = .ok (.getfield 47, 3) := by decide +kernel
theorem dX3_parsePeople_41 : decode cX3_parsePeople 41 = .ok (.if_icmp .ge 85, 3) := by decide +kernel
theorem dX3_parsePeople_44 : decode cX3_parsePeople 44 = .ok (.iload_n 3, 1) := by decide +kernel
theorem dX3_parsePeople_45 : decode cX3_parsePeople 45 = .ok (.bipush 48, 2) := by decide +kernel
theorem dX3_parsePeople_47 : decode cX3_parsePeople 47 = .ok (.if_icmp .lt 79, 3) := by decide +kernel
theorem dX3_parsePeople_50 : decode cX3_parsePeople 50 = .ok (.iload_n 3, 1) := by decide +kernel
theorem dX3_parsePeople_51 : decode cX3_parsePeople 51 = .ok (.bipush 48, 2) := by decide +kernel
theorem dX3_parsePeople_53 : decode cX3_parsePeople 53 = .ok (.aload_n 0, 1) := by decide +kernel
theorem dX3_parsePeople_54 : decode cX3_parsePeople 54 = .ok (.getfield 47, 3) := by decide +kernel
theorem dX3_parsePeople_57 : decode cX3_parsePeople 57 = .ok (.iadd, 1) := by decide +kernel
theorem dX3_parsePeople_58 : decode cX3_parsePeople 58 = .ok (.if_icmp .lt 6, 3) := by decide +kernel
theorem dX3_parsePeople_61 : decode cX3_parsePeople 61 = .ok (.goto 65, 3) := by decide +kernel
theorem dX3_parsePeople_64 : decode cX3_parsePeople 64 = .ok (.iload_n 3, 1) := by decide +kernel
theorem dX3_parsePeople_65 : decode cX3_parsePeople 65 = .ok (.bipush 48, 2) := by decide +kernel
theorem dX3_parsePeople_67 : decode cX3_parsePeople 67 = .ok (.isub, 1) := by decide +kernel
theorem dX3_parsePeople_68 : decode cX3_parsePeople 68 = .ok (.istore_n 1, 1) := by decide +kernel
theorem dX3_parsePeople_69 : decode cX3_parsePeople 69 = .ok (.goto 51, 3) := by decide +kernel
theorem dX3_parsePeople_72 : decode cX3_parsePeople 72 = .ok (.iload_n 3, 1) := by decide +kernel
theorem dX3_parsePeople_73 : decode cX3_parsePeople 73 = .ok (.invokestatic 71, 3) := by decide +kernel
theorem dX3_parsePeople_76 : decode cX3_parsePeople 76 = .ok (.istore 4, 2) := by decide +kernel
theorem dX3_parsePeople_78 : decode cX3_parsePeople 78 = .ok (.iload 4, 2) := by decide +kernel
theorem dX3_parsePeople_80 : decode cX3_parsePeople 80 = .ok (.iconst (-1), 1) := by decide +kernel
theorem dX3_parsePeople_81 : decode cX3_parsePeople 81 = .ok (.if_icmp .ne 6, 3) := by decide +kernel
theorem dX3_parsePeople_84 : decode cX3_parsePeople 84 = .ok (.goto 42, 3) := by decide +kernel
theorem dX3_parsePeople_87 : decode cX3_parsePeople 87 = .ok (.aload_n 0, 1) := by decide +kernel
theorem dX3_parsePeople_88 : decode cX3_parsePeople 88 = .ok (.getfield 32, 3) := by decide +kernel
theorem dX3_parsePeople_91 : decode cX3_parsePeople 91 = .ok (.aload_n 0, 1) := by decide +kernel
theorem dX3_parsePeople_92 : decode cX3_parsePeople 92 = .ok (.getfield 68, 3) := by decide +kernel
theorem dX3_parsePeople_95 : decode cX3_parsePeople 95 = .ok (.iload_n 1, 1) := by decide +kernel
theorem dX3_parsePeople_96 : decode cX3_parsePeople 96 = .ok (.iastore, 1) := by decide +kernel
theorem dX3_parsePeople_97 : decode cX3_parsePeople 97 = .ok (.aload_n 0, 1) := by decide +kernel
theorem dX3_parsePeople_98 : decode cX3_parsePeople 98 = .ok (.getfield 35, 3) := by decide +kernel
theorem dX3_parsePeople_101 : decode cX3_parsePeople 101 = .ok (.aload_n 0, 1) := by decide +kernel
theorem dX3_parsePeople_102 : decode cX3_parsePeople 102 = .ok (.getfield 68, 3) := by decide +kernel
theorem dX3_parsePeople_105 : decode cX3_parsePeople 105 = .ok (.iload 4, 2) := by decide +kernel
theorem dX3_parsePeople_107 : decode cX3_parsePeople 107 = .ok (.iastore, 1) := by decide +kernel
theorem dX3_parsePeople_108 : decode cX3_parsePeople 108 = .ok (.aload_n 0, 1) := by decide +kernel
theorem dX3_parsePeople_109 : decode cX3_parsePeople 109 = .ok (.dup, 1) := by decide +kernel
theorem dX3_parsePeople_110 : decode cX3_parsePeople 110 = .ok (.getfield 68, 3) := by decide +kernel
theorem dX3_parsePeople_113 : decode cX3_parsePeople 113 = .ok (.iconst 1, 1) := by decide +kernel
theorem dX3_parsePeople_114 : decode cX3_parsePeople 114 = .ok (.iadd, 1) := by decide +kernel
theorem dX3_parsePeople_115 : decode cX3_parsePeople 115 = .ok (.putfield 68, 3) := by decide +kernel
theorem dX3_parsePeople_118 : decode cX3_parsePeople 118 = .ok (.iconst (-1), 1) := by decide +kernel
theorem dX3_parsePeople_119 : decode cX3_parsePeople 119 = .ok (.istore_n 1, 1) := by decide +kernel
theorem dX3_parsePeople_120 : decode cX3_parsePeople 120 = .ok (.iinc 2 1, 3) := by decide +kernel
theorem dX3_parsePeople_123 : decode cX3_parsePeople 123 = .ok (.goto (-114), 3) := by decide +kernel
theorem dX3_parsePeople_126 : decode cX3_parsePeople 126 = .ok (.aload_n 0, 1) := by decide +kernel
theorem dX3_parsePeople_127 : decode cX3_parsePeople 127 = .ok (.getfield 20, 3) := by decide +kernel
theorem dX3_parsePeople_130 : decode cX3_parsePeople 130 = .ok (.iconst 1, 1) := by decide +kernel
theorem dX3_parsePeople_131 : decode cX3_parsePeople 131 = .ok (.iload_n 2, 1) := by decide +kernel
theorem dX3_parsePeople_132 : decode cX3_parsePeople 132 = .ok (.aload_n 0, 1) := by decide +kernel
theorem dX3_parsePeople_133 : decode cX3_parsePeople 133 = .ok (.getfield 16, 3) := by decide +kernel
theorem dX3_parsePeople_136 : decode cX3_parsePeople 136 = .ok (.iconst 1, 1) := by decide +kernel
theorem dX3_parsePeople_137 : decode cX3_parsePeople 137 = .ok (.iaload, 1) := by decide +kernel
theorem dX3_parsePeople_138 : decode cX3_parsePeople 138 = .ok (.if_icmp .ne 12, 3) := by decide +kernel
theorem dX3_parsePeople_141 : decode cX3_parsePeople 141 = .ok (.iload_n 1, 1) := by decide +kernel
theorem dX3_parsePeople_142 : decode cX3_parsePeople 142 = .ok (.iconst (-1), 1) := by decide +kernel
theorem dX3_parsePeople_143 : decode cX3_parsePeople 143 = .ok (.if_icmp .ne 7, 3) := by decide +kernel
theorem dX3_parsePeople_146 : decode cX3_parsePeople 146 = .ok (.iconst (-1), 1) := by decide +kernel
theorem dX3_parsePeople_147 : decode cX3_parsePeople 147 = .ok (.goto 4, 3) := by decide +kernel
theorem dX3_parsePeople_150 : decode cX3_parsePeople 150 = .ok (.iload_n 2, 1) := by decide +kernel
theorem dX3_parsePeople_151 : decode cX3_parsePeople 151 = .ok (.iastore, 1) := by decide +kernel
theorem dX3_parsePeople_152 : decode cX3_parsePeople 152 = .ok (.aload_n 0, 1) := by decide +kernel
theorem dX3_parsePeople_153 : decode cX3_parsePeople 153 = .ok (.getfield 20, 3) := by decide +kernel
theorem dX3_parsePeople_156 : decode cX3_parsePeople 156 = .ok (.iconst 1, 1) := by decide +kernel
theorem dX3_parsePeople_157 : decode cX3_parsePeople 157 = .ok (.iaload, 1) := by decide +kernel
theorem dX3_parsePeople_158 : decode cX3_parsePeople 158 = .ok (.iconst (-1), 1) := by decide +kernel
theorem dX3_parsePeople_159 : decode cX3_parsePeople 159 = .ok (.if_icmp .eq 8, 3) := by decide +kernel
theorem dX3_parsePeople_162 : decode cX3_parsePeople 162 = .ok (.aload_n 0, 1) := by decide +kernel
theorem dX3_parsePeople_163 : decode cX3_parsePeople 163 = .ok (.iconst 0, 1) := by decide +kernel
theorem dX3_parsePeople_164 : decode cX3_parsePeople 164 = .ok (.putfield 68, 3) := by decide +kernel
theorem dX3_parsePeople_167 : decode cX3_parsePeople 167 = .ok (.return_, 1) := by decide +kernel
theorem dX3_sortOf_0 : decode cX3_sortOf 0 = .ok (.iload_n 0, 1) := by decide +kernel
theorem dX3_sortOf_1 : decode cX3_sortOf 1 = .ok (.lookupswitch 41 #[(97, 39), (109, 37), (119, 35)], 35) := by decide +kernel
theorem dX3_sortOf_36 : decode cX3_sortOf 36 = .ok (.iconst 0, 1) := by decide +kernel
theorem dX3_sortOf_37 : decode cX3_sortOf 37 = .ok (.ireturn, 1) := by decide +kernel
theorem dX3_sortOf_38 : decode cX3_sortOf 38 = .ok (.iconst 1, 1) := by decide +kernel
theorem dX3_sortOf_39 : decode cX3_sortOf 39 = .ok (.ireturn, 1) := by decide +kernel
theorem dX3_sortOf_40 : decode cX3_sortOf 40 = .ok (.iconst 2, 1) := by decide +kernel
theorem dX3_sortOf_41 : decode cX3_sortOf 41 = .ok (.ireturn, 1) := by decide +kernel
theorem dX3_sortOf_42 : decode cX3_sortOf 42 = .ok (.iconst (-1), 1) := by decide +kernel
theorem dX3_sortOf_43 : decode cX3_sortOf 43 = .ok (.ireturn, 1) := by decide +kernel
theorem dX3_kindOf_0 : decode cX3_kindOf 0 = .ok (.iload_n 0, 1) := by decide +kernel
theorem dX3_kindOf_1 : decode cX3_kindOf 1 = .ok (.tableswitch 55 108 115 #[49, 55, 51, 47, 55, 55, 55, 53], 47) := by decide +kernel
theorem dX3_kindOf_48 : decode cX3_kindOf 48 = .ok (.iconst 0, 1) := by decide +kernel
theorem dX3_kindOf_49 : decode cX3_kindOf 49 = .ok (.ireturn, 1) := by decide +kernel
theorem dX3_kindOf_50 : decode cX3_kindOf 50 = .ok (.iconst 1, 1) := by decide +kernel
theorem dX3_kindOf_51 : decode cX3_kindOf 51 = .ok (.ireturn, 1) := by decide +kernel
theorem dX3_kindOf_52 : decode cX3_kindOf 52 = .ok (.iconst 2, 1) := by decide +kernel
theorem dX3_kindOf_53 : decode cX3_kindOf 53 = .ok (.ireturn, 1) := by decide +kernel
theorem dX3_kindOf_54 : decode cX3_kindOf 54 = .ok (.iconst 3, 1) := by decide +kernel
theorem dX3_kindOf_55 : decode cX3_kindOf 55 = .ok (.ireturn, 1) := by decide +kernel
theorem dX3_kindOf_56 : decode cX3_kindOf 56 = .ok (.iconst (-1), 1) := by decide +kernel
theorem dX3_kindOf_57 : decode cX3_kindOf 57 = .ok (.ireturn, 1) := by decide +kernel
theorem dX3_allSeats_0 : decode cX3_allSeats 0 = .ok (.iconst 1, 1) := by decide +kernel
theorem dX3_allSeats_1 : decode cX3_allSeats 1 = .ok (.aload_n 0, 1) := by decide +kernel
theorem dX3_allSeats_2 : decode cX3_allSeats 2 = .ok (.getfield 47, 3) := by decide +kernel
theorem dX3_allSeats_5 : decode cX3_allSeats 5 = .ok (.ishl, 1) := by decide +kernel
theorem dX3_allSeats_6 : decode cX3_allSeats 6 = .ok (.iconst 1, 1) := by decide +kernel
theorem dX3_allSeats_7 : decode cX3_allSeats 7 = .ok (.isub, 1) := by decide +kernel
theorem dX3_allSeats_8 : decode cX3_allSeats 8 = .ok (.ireturn, 1) := by decide +kernel
theorem dX3_ownersOf_0 : decode cX3_ownersOf 0 = .ok (.iconst 0, 1) := by decide +kernel
theorem dX3_ownersOf_1 : decode cX3_ownersOf 1 = .ok (.istore_n 2, 1) := by decide +kernel
theorem dX3_ownersOf_2 : decode cX3_ownersOf 2 = .ok (.iconst 0, 1) := by decide +kernel
theorem dX3_ownersOf_3 : decode cX3_ownersOf 3 = .ok (.istore_n 3, 1) := by decide +kernel
theorem dX3_ownersOf_4 : decode cX3_ownersOf 4 = .ok (.iload_n 3, 1) := by decide +kernel
theorem dX3_ownersOf_5 : decode cX3_ownersOf 5 = .ok (.aload_n 0, 1) := by decide +kernel
theorem dX3_ownersOf_6 : decode cX3_ownersOf 6 = .ok (.getfield 68, 3) := by decide +kernel
theorem dX3_ownersOf_9 : decode cX3_ownersOf 9 = .ok (.if_icmp .ge 25, 3) := by decide +kernel
theorem dX3_ownersOf_12 : decode cX3_ownersOf 12 = .ok (.aload_n 0, 1) := by decide +kernel
theorem dX3_ownersOf_13 : decode cX3_ownersOf 13 = .ok (.getfield 32, 3) := by decide +kernel
theorem dX3_ownersOf_16 : decode cX3_ownersOf 16 = .ok (.iload_n 3, 1) := by decide +kernel
theorem dX3_ownersOf_17 : decode cX3_ownersOf 17 = .ok (.iaload, 1) := by decide +kernel
theorem dX3_ownersOf_18 : decode cX3_ownersOf 18 = .ok (.iload_n 1, 1) := by decide +kernel
theorem dX3_ownersOf_19 : decode cX3_ownersOf 19 = .ok (.if_icmp .ne 9, 3) := by decide +kernel
theorem dX3_ownersOf_22 : decode cX3_ownersOf 22 = .ok (.iload_n 2, 1) := by decide +kernel
theorem dX3_ownersOf_23 : decode cX3_ownersOf 23 = .ok (.iconst 1, 1) := by decide +kernel
theorem dX3_ownersOf_24 : decode cX3_ownersOf 24 = .ok (.iload_n 3, 1) := by decide +kernel
theorem dX3_ownersOf_25 : decode cX3_ownersOf 25 = .ok (.ishl, 1) := by decide +kernel
theorem dX3_ownersOf_26 : decode cX3_ownersOf 26 = .ok (.ior, 1) := by decide +kernel
theorem dX3_ownersOf_27 : decode cX3_ownersOf 27 = .ok (.istore_n 2, 1) := by decide +kernel
theorem dX3_ownersOf_28 : decode cX3_ownersOf 28 = .ok (.iinc 3 1, 3) := by decide +kernel
theorem dX3_ownersOf_31 : decode cX3_ownersOf 31 = .ok (.goto (-27), 3) := by decide +kernel
theorem dX3_ownersOf_34 : decode cX3_ownersOf 34 = .ok (.iload_n 2, 1) := by decide +kernel
theorem dX3_ownersOf_35 : decode cX3_ownersOf 35 = .ok (.ireturn, 1) := by decide +kernel
theorem dX3_countLost_0 : decode cX3_countLost 0 = .ok (.iconst 0, 1) := by decide +kernel
theorem dX3_countLost_1 : decode cX3_countLost 1 = .ok (.istore_n 1, 1) := by decide +kernel
theorem dX3_countLost_2 : decode cX3_countLost 2 = .ok (.iconst 0, 1) := by decide +kernel
theorem dX3_countLost_3 : decode cX3_countLost 3 = .ok (.istore_n 2, 1) := by decide +kernel
theorem dX3_countLost_4 : decode cX3_countLost 4 = .ok (.iload_n 2, 1) := by decide +kernel
theorem dX3_countLost_5 : decode cX3_countLost 5 = .ok (.aload_n 0, 1) := by decide +kernel
theorem dX3_countLost_6 : decode cX3_countLost 6 = .ok (.getfield 68, 3) := by decide +kernel
theorem dX3_countLost_9 : decode cX3_countLost 9 = .ok (.if_icmp .ge 27, 3) := by decide +kernel
theorem dX3_countLost_12 : decode cX3_countLost 12 = .ok (.iload_n 1, 1) := by decide +kernel
theorem dX3_countLost_13 : decode cX3_countLost 13 = .ok (.aload_n 0, 1) := by decide +kernel
theorem dX3_countLost_14 : decode cX3_countLost 14 = .ok (.getfield 35, 3) := by decide +kernel
theorem dX3_countLost_17 : decode cX3_countLost 17 = .ok (.iload_n 2, 1) := by decide +kernel
theorem dX3_countLost_18 : decode cX3_countLost 18 = .ok (.iaload, 1) := by decide +kernel
theorem dX3_countLost_19 : decode cX3_countLost 19 = .ok (.iconst 1, 1) := by decide +kernel
theorem dX3_countLost_20 : decode cX3_countLost 20 = .ok (.if_icmp .ne 7, 3) := by decide +kernel
theorem dX3_countLost_23 : decode cX3_countLost 23 = .ok (.iconst 1, 1) := by decide +kernel
theorem dX3_countLost_24 : decode cX3_countLost 24 = .ok (.goto 4, 3) := by decide +kernel
theorem dX3_countLost_27 : decode cX3_countLost 27 = .ok (.iconst 0, 1) := by decide +kernel
theorem dX3_countLost_28 : decode cX3_countLost 28 = .ok (.iadd, 1) := by decide +kernel
theorem dX3_countLost_29 : decode cX3_countLost 29 = .ok (.istore_n 1, 1) := by decide +kernel
theorem dX3_countLost_30 : decode cX3_countLost 30 = .ok (.iinc 2 1, 3) := by decide +kernel
theorem dX3_countLost_33 : decode cX3_countLost 33 = .ok (.goto (-29), 3) := by decide +kernel
theorem dX3_countLost_36 : decode cX3_countLost 36 = .ok (.iload_n 1, 1) := by decide +kernel
theorem dX3_countLost_37 : decode cX3_countLost 37 = .ok (.ireturn, 1) := by decide +kernel
theorem dX3_countUnowned_0 : decode cX3_countUnowned 0 = .ok (.iconst 0, 1) := by decide +kernel
theorem dX3_countUnowned_1 : decode cX3_countUnowned 1 = .ok (.istore_n 1, 1) := by decide +kernel
theorem dX3_countUnowned_2 : decode cX3_countUnowned 2 = .ok (.iconst 0, 1) := by decide +kernel
theorem dX3_countUnowned_3 : decode cX3_countUnowned 3 = .ok (.istore_n 2, 1) := by decide +kernel
theorem dX3_countUnowned_4 : decode cX3_countUnowned 4 = .ok (.iload_n 2, 1) := by decide +kernel
theorem dX3_countUnowned_5 : decode cX3_countUnowned 5 = .ok (.aload_n 0, 1) := by decide +kernel
theorem dX3_countUnowned_6 : decode cX3_countUnowned 6 = .ok (.getfield 47, 3) := by decide +kernel
theorem dX3_countUnowned_9 : decode cX3_countUnowned 9 = .ok (.if_icmp .ge 25, 3) := by decide +kernel
theorem dX3_countUnowned_12 : decode cX3_countUnowned 12 = .ok (.iload_n 1, 1) := by decide +kernel
theorem dX3_countUnowned_13 : decode cX3_countUnowned 13 = .ok (.aload_n 0, 1) := by decide +kernel
theorem dX3_countUnowned_14 : decode cX3_countUnowned 14 = .ok (.iload_n 2, 1) := by decide +kernel
theorem dX3_countUnowned_15 : decode cX3_countUnowned 15 = .ok (.invokevirtual 74, 3) := by decide +kernel
theorem dX3_countUnowned_18 : decode cX3_countUnowned 18 = .ok (.ifCond .ne 7, 3) := by decide +kernel
theorem dX3_countUnowned_21 : decode cX3_countUnowned 21 = .ok (.iconst 1, 1) := by decide +kernel
theorem dX3_countUnowned_22 : decode cX3_countUnowned 22 = .ok (.goto 4, 3) := by decide +kernel
theorem dX3_countUnowned_25 : decode cX3_countUnowned 25 = .ok (.iconst 0, 1) := by decide +kernel
theorem dX3_countUnowned_26 : decode cX3_countUnowned 26 = .ok (.iadd, 1) := by decide +kernel
theorem dX3_countUnowned_27 : decode cX3_countUnowned 27 = .ok (.istore_n 1, 1) := by decide +kernel
theorem dX3_countUnowned_28 : decode cX3_countUnowned 28 = .ok (.iinc 2 1, 3) := by decide +kernel
theorem dX3_countUnowned_31 : decode cX3_countUnowned 31 = .ok (.goto (-27), 3) := by decide +kernel
theorem dX3_countUnowned_34 : decode cX3_countUnowned 34 = .ok (.iload_n 1, 1) := by decide +kernel
theorem dX3_countUnowned_35 : decode cX3_countUnowned 35 = .ok (.ireturn, 1) := by decide +kernel
theorem dX3_choices_0 : decode cX3_choices 0 = .ok (.aload_n 0, 1) := by decide +kernel
theorem dX3_choices_1 : decode cX3_choices 1 = .ok (.invokevirtual 77, 3) := by decide +kernel
theorem dX3_choices_4 : decode cX3_choices 4 = .ok (.iload_n 1, 1) := by decide +kernel
theorem dX3_choices_5 : decode cX3_choices 5 = .ok (.iconst (-1), 1) := by decide +kernel
theorem dX3_choices_6 : decode cX3_choices 6 = .ok (.ixor, 1) := by decide +kernel
theorem dX3_choices_7 : decode cX3_choices 7 = .ok (.iand, 1) := by decide +kernel
theorem dX3_choices_8 : decode cX3_choices 8 = .ok (.istore 4, 2) := by decide +kernel
theorem dX3_choices_10 : decode cX3_choices 10 = .ok (.iload_n 3, 1) := by decide +kernel
theorem dX3_choices_11 : decode cX3_choices 11 = .ok (.iconst 1, 1) := by decide +kernel
theorem dX3_choices_12 : decode cX3_choices 12 = .ok (.if_icmp .eq 16, 3) := by decide +kernel
theorem dX3_choices_15 : decode cX3_choices 15 = .ok (.iload 4, 2) := by decide +kernel
theorem dX3_choices_17 : decode cX3_choices 17 = .ok (.iload_n 2, 1) := by decide +kernel
theorem dX3_choices_18 : decode cX3_choices 18 = .ok (.invokestatic 81, 3) := by decide +kernel
theorem dX3_choices_21 : decode cX3_choices 21 = .ok (.ifCond .eq 7, 3) := by decide +kernel
theorem dX3_choices_24 : decode cX3_choices 24 = .ok (.iconst 1, 1) := by decide +kernel
theorem dX3_choices_25 : decode cX3_choices 25 = .ok (.iload_n 2, 1) := by decide +kernel
theorem dX3_choices_26 : decode cX3_choices 26 = .ok (.ishl, 1) := by decide +kernel
theorem dX3_choices_27 : decode cX3_choices 27 = .ok (.ireturn, 1) := by decide +kernel
theorem dX3_choices_28 : decode cX3_choices 28 = .ok (.iload_n 3, 1) := by decide +kernel
theorem dX3_choices_29 : decode cX3_choices 29 = .ok (.iconst 2, 1) := by decide +kernel
theorem dX3_choices_30 : decode cX3_choices 30 = .ok (.if_icmp .ne 11, 3) := by decide +kernel
theorem dX3_choices_33 : decode cX3_choices 33 = .ok (.aload_n 0, 1) := by decide +kernel
theorem dX3_choices_34 : decode cX3_choices 34 = .ok (.iload 4, 2) := by decide +kernel
theorem dX3_choices_36 : decode cX3_choices 36 = .ok (.iload_n 2, 1) := by decide +kernel
theorem dX3_choices_37 : decode cX3_choices 37 = .ok (.invokevirtual 85, 3) := by decide +kernel
theorem dX3_choices_40 : decode cX3_choices 40 = .ok (.ireturn, 1) := by decide +kernel
theorem dX3_choices_41 : decode cX3_choices 41 = .ok (.iload_n 3, 1) := by decide +kernel
theorem dX3_choices_42 : decode cX3_choices 42 = .ok (.iconst 3, 1) := by decide +kernel
theorem dX3_choices_43 : decode cX3_choices 43 = .ok (.if_icmp .ne 20, 3) := by decide +kernel
theorem dX3_choices_46 : decode cX3_choices 46 = .ok (.iload 4, 2) := by decide +kernel
theorem dX3_choices_48 : decode cX3_choices 48 = .ok (.aload_n 0, 1) := by decide +kernel
theorem dX3_choices_49 : decode cX3_choices 49 = .ok (.getfield 29, 3) := by decide +kernel
theorem dX3_choices_52 : decode cX3_choices 52 = .ok (.aload_n 0, 1) := by decide +kernel
theorem dX3_choices_53 : decode cX3_choices 53 = .ok (.getfield 23, 3) := by decide +kernel
theorem dX3_choices_56 : decode cX3_choices 56 = .ok (.iload_n 2, 1) := by decide +kernel
theorem dX3_choices_57 : decode cX3_choices 57 = .ok (.iaload, 1) := by decide +kernel
theorem dX3_choices_58 : decode cX3_choices 58 = .ok (.iaload, 1) := by decide +kernel
theorem dX3_choices_59 : decode cX3_choices 59 = .ok (.iand, 1) := by decide +kernel
theorem dX3_choices_60 : decode cX3_choices 60 = .ok (.goto 5, 3) := by decide +kernel
theorem dX3_choices_63 : decode cX3_choices 63 = .ok (.iload 4, 2) := by decide +kernel
theorem dX3_choices_65 : decode cX3_choices 65 = .ok (.istore 5, 2) := by decide +kernel
theorem dX3_choices_67 : decode cX3_choices 67 = .ok (.iload 5, 2) := by decide +kernel
theorem dX3_choices_69 : decode cX3_choices 69 = .ok (.ifCond .eq 8, 3) := by decide +kernel
theorem dX3_choices_72 : decode cX3_choices 72 = .ok (.iload 5, 2) := by decide +kernel
theorem dX3_choices_74 : decode cX3_choices 74 = .ok (.goto 5, 3) := by decide +kernel
theorem dX3_choices_77 : decode cX3_choices 77 = .ok (.iload 4, 2) := by decide +kernel
theorem dX3_choices_79 : decode cX3_choices 79 = .ok (.ireturn, 1) := by decide +kernel
theorem dX3_nextFree_0 : decode cX3_nextFree 0 = .ok (.iconst 1, 1) := by decide +kernel
theorem dX3_nextFree_1 : decode cX3_nextFree 1 = .ok (.istore_n 3, 1) := by decide +kernel
theorem dX3_nextFree_2 : decode cX3_nextFree 2 = .ok (.iload_n 3, 1) := by decide +kernel
theorem dX3_nextFree_3 : decode cX3_nextFree 3 = .ok (.aload_n 0, 1) := by decide +kernel
theorem dX3_nextFree_4 : decode cX3_nextFree 4 = .ok (.getfield 47, 3) := by decide +kernel
theorem dX3_nextFree_7 : decode cX3_nextFree 7 = .ok (.if_icmp .ge 49, 3) := by decide +kernel
theorem dX3_nextFree_10 : decode cX3_nextFree 10 = .ok (.iload_n 2, 1) := by decide +kernel
theorem dX3_nextFree_11 : decode cX3_nextFree 11 = .ok (.iload_n 3, 1) := by decide +kernel
theorem dX3_nextFree_12 : decode cX3_nextFree 12 = .ok (.iadd, 1) := by decide +kernel
theorem dX3_nextFree_13 : decode cX3_nextFree 13 = .ok (.istore 4, 2) := by decide +kernel
theorem dX3_nextFree_15 : decode cX3_nextFree 15 = .ok (.iconst 1, 1) := by decide +kernel
theorem dX3_nextFree_16 : decode cX3_nextFree 16 = .ok (.iload 4, 2) := by decide +kernel
theorem dX3_nextFree_18 : decode cX3_nextFree 18 = .ok (.aload_n 0, 1) := by decide +kernel
theorem dX3_nextFree_19 : decode cX3_nextFree 19 = .ok (.getfield 47, 3) := by decide +kernel
theorem dX3_nextFree_22 : decode cX3_nextFree 22 = .ok (.if_icmp .lt 13, 3) := by decide +kernel
theorem dX3_nextFree_25 : decode cX3_nextFree 25 = .ok (.iload 4, 2) := by decide +kernel
theorem dX3_nextFree_27 : decode cX3_nextFree 27 = .ok (.aload_n 0, 1) := by decide +kernel
theorem dX3_nextFree_28 : decode cX3_nextFree 28 = .ok (.getfield 47, 3) := by decide +kernel
theorem dX3_nextFree_31 : decode cX3_nextFree 31 = .ok (.isub, 1) := by decide +kernel
theorem dX3_nextFree_32 : decode cX3_nextFree 32 = .ok (.goto 5, 3) := by decide +kernel
theorem dX3_nextFree_35 : decode cX3_nextFree 35 = .ok (.iload 4, 2) := by decide +kernel
theorem dX3_nextFree_37 : decode cX3_nextFree 37 = .ok (.ishl, 1) := by decide +kernel
theorem dX3_nextFree_38 : decode cX3_nextFree 38 = .ok (.istore 5, 2) := by decide +kernel
theorem dX3_nextFree_40 : decode cX3_nextFree 40 = .ok (.iload_n 1, 1) := by decide +kernel
theorem dX3_nextFree_41 : decode cX3_nextFree 41 = .ok (.iload 5, 2) := by decide +kernel
theorem dX3_nextFree_43 : decode cX3_nextFree 43 = .ok (.iand, 1) := by decide +kernel
theorem dX3_nextFree_44 : decode cX3_nextFree 44 = .ok (.ifCond .eq 6, 3) := by decide +kernel
theorem dX3_nextFree_47 : decode cX3_nextFree 47 = .ok (.iload 5, 2) := by decide +kernel
theorem dX3_nextFree_49 : decode cX3_nextFree 49 = .ok (.ireturn, 1) := by decide +kernel
theorem dX3_nextFree_50 : decode cX3_nextFree 50 = .ok (.iinc 3 1, 3) := by decide +kernel
theorem dX3_nextFree_53 : decode cX3_nextFree 53 = .ok (.goto (-51), 3) := by decide +kernel
theorem dX3_nextFree_56 : decode cX3_nextFree 56 = .ok (.iconst 0, 1) := by decide +kernel
theorem dX3_nextFree_57 : decode cX3_nextFree 57 = .ok (.ireturn, 1) := by decide +kernel
theorem dX3_passedOver_0 : decode cX3_passedOver 0 = .ok (.iload_n 2, 1) := by decide +kernel
theorem dX3_passedOver_1 : decode cX3_passedOver 1 = .ok (.iload_n 1, 1) := by decide +kernel
theorem dX3_passedOver_2 : decode cX3_passedOver 2 = .ok (.if_icmp .lt 9, 3) := by decide +kernel
theorem dX3_passedOver_5 : decode cX3_passedOver 5 = .ok (.iload_n 2, 1) := by decide +kernel
theorem dX3_passedOver_6 : decode cX3_passedOver 6 = .ok (.iload_n 1, 1) := by decide +kernel
theorem dX3_passedOver_7 : decode cX3_passedOver 7 = .ok (.isub, 1) := by decide +kernel
theorem dX3_passedOver_8 : decode cX3_passedOver 8 = .ok (.goto 11, 3) := by decide +kernel
theorem dX3_passedOver_11 : decode cX3_passedOver 11 = .ok (.iload_n 2, 1) := by decide +kernel
theorem dX3_passedOver_12 : decode cX3_passedOver 12 = .ok (.iload_n 1, 1) := by decide +kernel
theorem dX3_passedOver_13 : decode cX3_passedOver 13 = .ok (.isub, 1) := by decide +kernel
theorem dX3_passedOver_14 : decode cX3_passedOver 14 = .ok (.aload_n 0, 1) := by decide +kernel
theorem dX3_passedOver_15 : decode cX3_passedOver 15 = .ok (.getfield 47, 3) := by decide +kernel
theorem dX3_passedOver_18 : decode cX3_passedOver 18 = .ok (.iadd, 1) := by decide +kernel
theorem dX3_passedOver_19 : decode cX3_passedOver 19 = .ok (.ireturn, 1) := by decide +kernel
theorem dX3_firstWhoCannot_0 : decode cX3_firstWhoCannot 0 = .ok (.iconst 0, 1) := by decide +kernel
theorem dX3_firstWhoCannot_1 : decode cX3_firstWhoCannot 1 = .ok (.istore_n 2, 1) := by decide +kernel
theorem dX3_firstWhoCannot_2 : decode cX3_firstWhoCannot 2 = .ok (.iconst 0, 1) := by decide +kernel
theorem dX3_firstWhoCannot_3 : decode cX3_firstWhoCannot 3 = .ok (.istore_n 3, 1) := by decide +kernel
theorem dX3_firstWhoCannot_4 : decode cX3_firstWhoCannot 4 = .ok (.iload_n 3, 1) := by decide +kernel
theorem dX3_firstWhoCannot_5 : decode cX3_firstWhoCannot 5 = .ok (.aload_n 0, 1) := by decide +kernel
theorem dX3_firstWhoCannot_6 : decode cX3_firstWhoCannot 6 = .ok (.getfield 68, 3) := by decide +kernel
theorem dX3_firstWhoCannot_9 : decode cX3_firstWhoCannot 9 = .ok (.if_icmp .ge 50, 3) := by decide +kernel
theorem dX3_firstWhoCannot_12 : decode cX3_firstWhoCannot 12 = .ok (.aload_n 0, 1) := by decide +kernel
theorem dX3_firstWhoCannot_13 : decode cX3_firstWhoCannot 13 = .ok (.iload_n 2, 1) := by decide +kernel
theorem dX3_firstWhoCannot_14 : decode cX3_firstWhoCannot 14 = .ok (.aload_n 0, 1) := by decide +kernel
theorem dX3_firstWhoCannot_15 : decode cX3_firstWhoCannot 15 = .ok (.getfield 32, 3) := by decide +kernel
theorem dX3_firstWhoCannot_18 : decode cX3_firstWhoCannot 18 = .ok (.iload_n 3, 1) := by decide +kernel
theorem dX3_firstWhoCannot_19 : decode cX3_firstWhoCannot 19 = .ok (.iaload, 1) := by decide +kernel
theorem dX3_firstWhoCannot_20 : decode cX3_firstWhoCannot 20 = .ok (.aload_n 0, 1) := by decide +kernel
theorem dX3_firstWhoCannot_21 : decode cX3_firstWhoCannot 21 = .ok (.getfield 35, 3) := by decide +kernel
theorem dX3_firstWhoCannot_24 : decode cX3_firstWhoCannot 24 = .ok (.iload_n 3, 1) := by decide +kernel
theorem dX3_firstWhoCannot_25 : decode cX3_firstWhoCannot 25 = .ok (.iaload, 1) := by decide +kernel
theorem dX3_firstWhoCannot_26 : decode cX3_firstWhoCannot 26 = .ok (.invokevirtual 89, 3) := by decide +kernel
theorem dX3_firstWhoCannot_29 : decode cX3_firstWhoCannot 29 = .ok (.istore 4, 2) := by decide +kernel
theorem dX3_firstWhoCannot_31 : decode cX3_firstWhoCannot 31 = .ok (.aload_n 0, 1) := by decide +kernel
theorem dX3_firstWhoCannot_32 : decode cX3_firstWhoCannot 32 = .ok (.iload 4, 2) := by decide +kernel
theorem dX3_firstWhoCannot_34 : decode cX3_firstWhoCannot 34 = .ok (.aload_n 1, 1) := by decide +kernel
theorem dX3_firstWhoCannot_35 : decode cX3_firstWhoCannot 35 = .ok (.iload_n 3, 1) := by decide +kernel
theorem dX3_firstWhoCannot_36 : decode cX3_firstWhoCannot 36 = .ok (.iaload, 1) := by decide +kernel
theorem dX3_firstWhoCannot_37 : decode cX3_firstWhoCannot 37 = .ok (.invokevirtual 93, 3) := by decide +kernel
theorem dX3_firstWhoCannot_40 : decode cX3_firstWhoCannot 40 = .ok (.ifCond .ne 5, 3) := by decide +kernel
theorem dX3_firstWhoCannot_43 : decode cX3_firstWhoCannot 43 = .ok (.iload_n 3, 1) := by decide +kernel
theorem dX3_firstWhoCannot_44 : decode cX3_firstWhoCannot 44 = .ok (.ireturn, 1) := by decide +kernel
theorem dX3_firstWhoCannot_45 : decode cX3_firstWhoCannot 45 = .ok (.iload_n 2, 1) := by decide +kernel
theorem dX3_firstWhoCannot_46 : decode cX3_firstWhoCannot 46 = .ok (.iconst 1, 1) := by decide +kernel
theorem dX3_firstWhoCannot_47 : decode cX3_firstWhoCannot 47 = .ok (.aload_n 1, 1) := by decide +kernel
theorem dX3_firstWhoCannot_48 : decode cX3_firstWhoCannot 48 = .ok (.iload_n 3, 1) := by decide +kernel
theorem dX3_firstWhoCannot_49 : decode cX3_firstWhoCannot 49 = .ok (.iaload, 1) := by decide +kernel
theorem dX3_firstWhoCannot_50 : decode cX3_firstWhoCannot 50 = .ok (.ishl, 1) := by decide +kernel
theorem dX3_firstWhoCannot_51 : decode cX3_firstWhoCannot 51 = .ok (.ior, 1) := by decide +kernel
theorem dX3_firstWhoCannot_52 : decode cX3_firstWhoCannot 52 = .ok (.istore_n 2, 1) := by decide +kernel
theorem dX3_firstWhoCannot_53 : decode cX3_firstWhoCannot 53 = .ok (.iinc 3 1, 3) := by decide +kernel
theorem dX3_firstWhoCannot_56 : decode cX3_firstWhoCannot 56 = .ok (.goto (-52), 3) := by decide +kernel
theorem dX3_firstWhoCannot_59 : decode cX3_firstWhoCannot 59 = .ok (.iconst (-1), 1) := by decide +kernel
theorem dX3_firstWhoCannot_60 : decode cX3_firstWhoCannot 60 = .ok (.ireturn, 1) := by decide +kernel
theorem dX3_chanceOf_0 : decode cX3_chanceOf 0 = .ok (.iconst 0, 1) := by decide +kernel
theorem dX3_chanceOf_1 : decode cX3_chanceOf 1 = .ok (.istore_n 2, 1) := by decide +kernel
theorem dX3_chanceOf_2 : decode cX3_chanceOf 2 = .ok (.ldc2_w 96, 3) := by decide +kernel
theorem dX3_chanceOf_5 : decode cX3_chanceOf 5 = .ok (.lstore_n 3, 1) := by decide +kernel
theorem dX3_chanceOf_6 : decode cX3_chanceOf 6 = .ok (.iconst 0, 1) := by decide +kernel
theorem dX3_chanceOf_7 : decode cX3_chanceOf 7 = .ok (.istore 5, 2) := by decide +kernel
theorem dX3_chanceOf_9 : decode cX3_chanceOf 9 = .ok (.iload 5, 2) := by decide +kernel
theorem dX3_chanceOf_11 : decode cX3_chanceOf 11 = .ok (.aload_n 0, 1) := by decide +kernel
theorem dX3_chanceOf_12 : decode cX3_chanceOf 12 = .ok (.getfield 68, 3) := by decide +kernel
theorem dX3_chanceOf_15 : decode cX3_chanceOf 15 = .ok (.if_icmp .ge 72, 3) := by decide +kernel
theorem dX3_chanceOf_18 : decode cX3_chanceOf 18 = .ok (.aload_n 0, 1) := by decide +kernel
theorem dX3_chanceOf_19 : decode cX3_chanceOf 19 = .ok (.iload_n 2, 1) := by decide +kernel
theorem dX3_chanceOf_20 : decode cX3_chanceOf 20 = .ok (.aload_n 0, 1) := by decide +kernel
theorem dX3_chanceOf_21 : decode cX3_chanceOf 21 = .ok (.getfield 32, 3) := by decide +kernel
theorem dX3_chanceOf_24 : decode cX3_chanceOf 24 = .ok (.iload 5, 2) := by decide +kernel
theorem dX3_chanceOf_26 : decode cX3_chanceOf 26 = .ok (.iaload, 1) := by decide +kernel
theorem dX3_chanceOf_27 : decode cX3_chanceOf 27 = .ok (.aload_n 0, 1) := by decide +kernel
theorem dX3_chanceOf_28 : decode cX3_chanceOf 28 = .ok (.getfield 35, 3) := by decide +kernel
theorem dX3_chanceOf_31 : decode cX3_chanceOf 31 = .ok (.iload 5, 2) := by decide +kernel
theorem dX3_chanceOf_33 : decode cX3_chanceOf 33 = .ok (.iaload, 1) := by decide +kernel
theorem dX3_chanceOf_34 : decode cX3_chanceOf 34 = .ok (.invokevirtual 89, 3) := by decide +kernel
theorem dX3_chanceOf_37 : decode cX3_chanceOf 37 = .ok (.istore 6, 2) := by decide +kernel
theorem dX3_chanceOf_39 : decode cX3_chanceOf 39 = .ok (.iload 6, 2) := by decide +kernel
theorem dX3_chanceOf_41 : decode cX3_chanceOf 41 = .ok (.invokestatic 98, 3) := by decide +kernel
theorem dX3_chanceOf_44 : decode cX3_chanceOf 44 = .ok (.istore 7, 2) := by decide +kernel
theorem dX3_chanceOf_46 : decode cX3_chanceOf 46 = .ok (.iload 7, 2) := by decide +kernel
theorem dX3_chanceOf_48 : decode cX3_chanceOf 48 = .ok (.ifCond .eq 16, 3) := by decide +kernel
theorem dX3_chanceOf_51 : decode cX3_chanceOf 51 = .ok (.aload_n 0, 1) := by decide +kernel
theorem dX3_chanceOf_52 : decode cX3_chanceOf 52 = .ok (.iload 6, 2) := by decide +kernel
theorem dX3_chanceOf_54 : decode cX3_chanceOf 54 = .ok (.aload_n 1, 1) := by decide +kernel
theorem dX3_chanceOf_55 : decode cX3_chanceOf 55 = .ok (.iload 5, 2) := by decide +kernel
theorem dX3_chanceOf_57 : decode cX3_chanceOf 57 = .ok (.iaload, 1) := by decide +kernel
theorem dX3_chanceOf_58 : decode cX3_chanceOf 58 = .ok (.invokevirtual 93, 3) := by decide +kernel
theorem dX3_chanceOf_61 : decode cX3_chanceOf 61 = .ok (.ifCond .ne 5, 3) := by decide +kernel
theorem dX3_chanceOf_64 : decode cX3_chanceOf 64 = .ok (.lconst 0, 1) := by decide +kernel
theorem dX3_chanceOf_65 : decode cX3_chanceOf 65 = .ok (.lreturn, 1) := by decide +kernel
theorem dX3_chanceOf_66 : decode cX3_chanceOf 66 = .ok (.lload_n 3, 1) := by decide +kernel
theorem dX3_chanceOf_67 : decode cX3_chanceOf 67 = .ok (.iload 7, 2) := by decide +kernel
theorem dX3_chanceOf_69 : decode cX3_chanceOf 69 = .ok (.i2l, 1) := by decide +kernel
theorem dX3_chanceOf_70 : decode cX3_chanceOf 70 = .ok (.ldiv, 1) := by decide +kernel
theorem dX3_chanceOf_71 : decode cX3_chanceOf 71 = .ok (.lstore_n 3, 1) := by decide +kernel
theorem dX3_chanceOf_72 : decode cX3_chanceOf 72 = .ok (.iload_n 2, 1) := by decide +kernel
theorem dX3_chanceOf_73 : decode cX3_chanceOf 73 = .ok (.iconst 1, 1) := by decide +kernel
theorem dX3_chanceOf_74 : decode cX3_chanceOf 74 = .ok (.aload_n 1, 1) := by decide +kernel
theorem dX3_chanceOf_75 : decode cX3_chanceOf 75 = .ok (.iload 5, 2) := by decide +kernel
theorem dX3_chanceOf_77 : decode cX3_chanceOf 77 = .ok (.iaload, 1) := by decide +kernel
theorem dX3_chanceOf_78 : decode cX3_chanceOf 78 = .ok (.ishl, 1) := by decide +kernel
theorem dX3_chanceOf_79 : decode cX3_chanceOf 79 = .ok (.ior, 1) := by decide +kernel
theorem dX3_chanceOf_80 : decode cX3_chanceOf 80 = .ok (.istore_n 2, 1) := by decide +kernel
theorem dX3_chanceOf_81 : decode cX3_chanceOf 81 = .ok (.iinc 5 1, 3) := by decide +kernel
theorem dX3_chanceOf_84 : decode cX3_chanceOf 84 = .ok (.goto (-75), 3) := by decide +kernel
theorem dX3_chanceOf_87 : decode cX3_chanceOf 87 = .ok (.lload_n 3, 1) := by decide +kernel
theorem dX3_chanceOf_88 : decode cX3_chanceOf 88 = .ok (.lreturn, 1) := by decide +kernel
theorem dX3_isIn_0 : decode cX3_isIn 0 = .ok (.iload_n 2, 1) := by decide +kernel
theorem dX3_isIn_1 : decode cX3_isIn 1 = .ok (.ifCond .lt 23, 3) := by decide +kernel
theorem dX3_isIn_4 : decode cX3_isIn 4 = .ok (.iload_n 2, 1) := by decide +kernel
theorem dX3_isIn_5 : decode cX3_isIn 5 = .ok (.aload_n 0, 1) := by decide +kernel
theorem dX3_isIn_6 : decode cX3_isIn 6 = .ok (.getfield 47, 3) := by decide +kernel
theorem dX3_isIn_9 : decode cX3_isIn 9 = .ok (.if_icmp .ge 15, 3) := by decide +kernel
theorem dX3_isIn_12 : decode cX3_isIn 12 = .ok (.iload_n 1, 1) := by decide +kernel
theorem dX3_isIn_13 : decode cX3_isIn 13 = .ok (.iload_n 2, 1) := by decide +kernel
theorem dX3_isIn_14 : decode cX3_isIn 14 = .ok (.invokestatic 81, 3) := by decide +kernel
theorem dX3_isIn_17 : decode cX3_isIn 17 = .ok (.ifCond .eq 7, 3) := by decide +kernel
theorem dX3_isIn_20 : decode cX3_isIn 20 = .ok (.iconst 1, 1) := by decide +kernel
theorem dX3_isIn_21 : decode cX3_isIn 21 = .ok (.goto 4, 3) := by decide +kernel
theorem dX3_isIn_24 : decode cX3_isIn 24 = .ok (.iconst 0, 1) := by decide +kernel
theorem dX3_isIn_25 : decode cX3_isIn 25 = .ok (.ireturn, 1) := by decide +kernel
theorem dX3_has_0 : decode cX3_has 0 = .ok (.iload_n 0, 1) := by decide +kernel
theorem dX3_has_1 : decode cX3_has 1 = .ok (.iload_n 1, 1) := by decide +kernel
theorem dX3_has_2 : decode cX3_has 2 = .ok (.ishr, 1) := by decide +kernel
theorem dX3_has_3 : decode cX3_has 3 = .ok (.iconst 1, 1) := by decide +kernel
theorem dX3_has_4 : decode cX3_has 4 = .ok (.iand, 1) := by decide +kernel
theorem dX3_has_5 : decode cX3_has 5 = .ok (.iconst 1, 1) := by decide +kernel
theorem dX3_has_6 : decode cX3_has 6 = .ok (.if_icmp .ne 7, 3) := by decide +kernel
theorem dX3_has_9 : decode cX3_has 9 = .ok (.iconst 1, 1) := by decide +kernel
theorem dX3_has_10 : decode cX3_has 10 = .ok (.goto 4, 3) := by decide +kernel
theorem dX3_has_13 : decode cX3_has 13 = .ok (.iconst 0, 1) := by decide +kernel
theorem dX3_has_14 : decode cX3_has 14 = .ok (.ireturn, 1) := by decide +kernel
theorem dX4_init_0 : decode cX4_init 0 = .ok (.aload_n 0, 1) := by decide +kernel
theorem dX4_init_1 : decode cX4_init 1 = .ok (.invokespecial 3, 3) := by decide +kernel
theorem dX4_init_4 : decode cX4_init 4 = .ok (.aload_n 0, 1) := by decide +kernel
theorem dX4_init_5 : decode cX4_init 5 = .ok (.bipush 8, 2) := by decide +kernel
theorem dX4_init_7 : decode cX4_init 7 = .ok (.newarray .int, 2) := by decide +kernel
theorem dX4_init_9 : decode cX4_init 9 = .ok (.putfield 9, 3) := by decide +kernel
theorem dX4_init_12 : decode cX4_init 12 = .ok (.aload_n 0, 1) := by decide +kernel
theorem dX4_init_13 : decode cX4_init 13 = .ok (.aload_n 1, 1) := by decide +kernel
theorem dX4_init_14 : decode cX4_init 14 = .ok (.putfield 15, 3) := by decide +kernel
theorem dX4_init_17 : decode cX4_init 17 = .ok (.return_, 1) := by decide +kernel
theorem dX4_follow_0 : decode cX4_follow 0 = .ok (.aload_n 0, 1) := by decide +kernel
theorem dX4_follow_1 : decode cX4_follow 1 = .ok (.aload_n 1, 1) := by decide +kernel
theorem dX4_follow_2 : decode cX4_follow 2 = .ok (.invokevirtual 19, 3) := by decide +kernel
theorem dX4_follow_5 : decode cX4_follow 5 = .ok (.ifCond .ne 5, 3) := by decide +kernel
theorem dX4_follow_8 : decode cX4_follow 8 = .ok (.iconst 0, 1) := by decide +kernel
theorem dX4_follow_9 : decode cX4_follow 9 = .ok (.ireturn, 1) := by decide +kernel
theorem dX4_follow_10 : decode cX4_follow 10 = .ok (.iconst 0, 1) := by decide +kernel
theorem dX4_follow_11 : decode cX4_follow 11 = .ok (.istore_n 2, 1) := by decide +kernel
theorem dX4_follow_12 : decode cX4_follow 12 = .ok (.iload_n 2, 1) := by decide +kernel
theorem dX4_follow_13 : decode cX4_follow 13 = .ok (.aload_n 0, 1) := by decide +kernel
theorem dX4_follow_14 : decode cX4_follow 14 = .ok (.getfield 15, 3) := by decide +kernel
theorem dX4_follow_17 : decode cX4_follow 17 = .ok (.getfield 23, 3) := by decide +kernel
theorem dX4_follow_20 : decode cX4_follow 20 = .ok (.if_icmp .ge 26, 3) := by decide +kernel
theorem dX4_follow_23 : decode cX4_follow 23 = .ok (.aload_n 0, 1) := by decide +kernel
theorem dX4_follow_24 : decode cX4_follow 24 = .ok (.getfield 9, 3) := by decide +kernel
theorem dX4_follow_27 : decode cX4_follow 27 = .ok (.aload_n 1, 1) := by decide +kernel
theorem dX4_follow_28 : decode cX4_follow 28 = .ok (.iload_n 2, 1) := by decide +kernel
theorem dX4_follow_29 : decode cX4_follow 29 = .ok (.iaload, 1) := by decide +kernel
theorem dX4_follow_30 : decode cX4_follow 30 = .ok (.aload_n 0, 1) := by decide +kernel
theorem dX4_follow_31 : decode cX4_follow 31 = .ok (.getfield 15, 3) := by decide +kernel
theorem dX4_follow_34 : decode cX4_follow 34 = .ok (.getfield 29, 3) := by decide +kernel
theorem dX4_follow_37 : decode cX4_follow 37 = .ok (.iload_n 2, 1) := by decide +kernel
theorem dX4_follow_38 : decode cX4_follow 38 = .ok (.iaload, 1) := by decide +kernel
theorem dX4_follow_39 : decode cX4_follow 39 = .ok (.iastore, 1) := by decide +kernel
theorem dX4_follow_40 : decode cX4_follow 40 = .ok (.iinc 2 1, 3) := by decide +kernel
theorem dX4_follow_43 : decode cX4_follow 43 = .ok (.goto (-31), 3) := by decide +kernel
theorem dX4_follow_46 : decode cX4_follow 46 = .ok (.aload_n 0, 1) := by decide +kernel
theorem dX4_follow_47 : decode cX4_follow 47 = .ok (.invokevirtual 32, 3) := by decide +kernel
theorem dX4_follow_50 : decode cX4_follow 50 = .ok (.iconst 1, 1) := by decide +kernel
theorem dX4_follow_51 : decode cX4_follow 51 = .ok (.ireturn, 1) := by decide +kernel
theorem dX4_isWhole_0 : decode cX4_isWhole 0 = .ok (.iconst 0, 1) := by decide +kernel
theorem dX4_isWhole_1 : decode cX4_isWhole 1 = .ok (.istore_n 2, 1) := by decide +kernel
theorem dX4_isWhole_2 : decode cX4_isWhole 2 = .ok (.iconst 0, 1) := by decide +kernel
theorem dX4_isWhole_3 : decode cX4_isWhole 3 = .ok (.istore_n 3, 1) := by decide +kernel
theorem dX4_isWhole_4 : decode cX4_isWhole 4 = .ok (.iconst 0, 1) := by decide +kernel
theorem dX4_isWhole_5 : decode cX4_isWhole 5 = .ok (.istore 4, 2) := by decide +kernel
theorem dX4_isWhole_7 : decode cX4_isWhole 7 = .ok (.iload 4, 2) := by decide +kernel
theorem dX4_isWhole_9 : decode cX4_isWhole 9 = .ok (.aload_n 0, 1) := by decide +kernel
theorem dX4_isWhole_10 : decode cX4_isWhole 10 = .ok (.getfield 15, 3) := by decide +kernel
theorem dX4_isWhole_13 : decode cX4_isWhole 13 = .ok (.getfield 23, 3) := by decide +kernel
theorem dX4_isWhole_16 : decode cX4_isWhole 16 = .ok (.if_icmp .ge 56, 3) := by decide +kernel
theorem dX4_isWhole_19 : decode cX4_isWhole 19 = .ok (.aload_n 1, 1) := by decide +kernel
theorem dX4_isWhole_20 : decode cX4_isWhole 20 = .ok (.iload 4, 2) := by decide +kernel
theorem dX4_isWhole_22 : decode cX4_isWhole 22 = .ok (.iaload, 1) := by decide +kernel
theorem dX4_isWhole_23 : decode cX4_isWhole 23 = .ok (.ifCond .lt 17, 3) := by decide +kernel
theorem dX4_isWhole_26 : decode cX4_isWhole 26 = .ok (.aload_n 1, 1) := by decide +kernel
theorem dX4_isWhole_27 : decode cX4_isWhole 27 = .ok (.iload 4, 2) := by decide +kernel
theorem dX4_isWhole_29 : decode cX4_isWhole 29 = .ok (.iaload, 1) := by decide +kernel
theorem dX4_isWhole_30 : decode cX4_isWhole 30 = .ok (.aload_n 0, 1) := by decide +kernel
theorem dX4_isWhole_31 : decode cX4_isWhole 31 = .ok (.getfield 15, 3) := by decide +kernel
theorem dX4_isWhole_34 : decode cX4_isWhole 34 = .ok (.getfield 35, 3) := by decide +kernel
theorem dX4_isWhole_37 : decode cX4_isWhole 37 = .ok (.if_icmp .lt 5, 3) := by decide +kernel
theorem dX4_isWhole_40 : decode cX4_isWhole 40 = .ok (.iconst 0, 1) := by decide +kernel
theorem dX4_isWhole_41 : decode cX4_isWhole 41 = .ok (.ireturn, 1) := by decide +kernel
theorem dX4_isWhole_42 : decode cX4_isWhole 42 = .ok (.iload_n 2, 1) := by decide +kernel
theorem dX4_isWhole_43 : decode cX4_isWhole 43 = .ok (.iconst 1, 1) := by decide +kernel
theorem dX4_isWhole_44 : decode cX4_isWhole 44 = .ok (.aload_n 1, 1) := by decide +kernel
theorem dX4_isWhole_45 : decode cX4_isWhole 45 = .ok (.iload 4, 2) := by decide +kernel
theorem dX4_isWhole_47 : decode cX4_isWhole 47 = .ok (.iaload, 1) := by decide +kernel
theorem dX4_isWhole_48 : decode cX4_isWhole 48 = .ok (.ishl, 1) := by decide +kernel
theorem dX4_isWhole_49 : decode cX4_isWhole 49 = .ok (.ior, 1) := by decide +kernel
theorem dX4_isWhole_50 : decode cX4_isWhole 50 = .ok (.istore_n 2, 1) := by decide +kernel
theorem dX4_isWhole_51 : decode cX4_isWhole 51 = .ok (.iload_n 3, 1) := by decide +kernel
theorem dX4_isWhole_52 : decode cX4_isWhole 52 = .ok (.iconst 1, 1) := by decide +kernel
theorem dX4_isWhole_53 : decode cX4_isWhole 53 = .ok (.aload_n 0, 1) := by decide +kernel
theorem dX4_isWhole_54 : decode cX4_isWhole 54 = .ok (.getfield 15, 3) := by decide +kernel
theorem dX4_isWhole_57 : decode cX4_isWhole 57 = .ok (.getfield 29, 3) := by decide +kernel
theorem dX4_isWhole_60 : decode cX4_isWhole 60 = .ok (.iload 4, 2) := by decide +kernel
theorem dX4_isWhole_62 : decode cX4_isWhole 62 = .ok (.iaload, 1) := by decide +kernel
theorem dX4_isWhole_63 : decode cX4_isWhole 63 = .ok (.ishl, 1) := by decide +kernel
theorem dX4_isWhole_64 : decode cX4_isWhole 64 = .ok (.ior, 1) := by decide +kernel
theorem dX4_isWhole_65 : decode cX4_isWhole 65 = .ok (.istore_n 3, 1) := by decide +kernel
theorem dX4_isWhole_66 : decode cX4_isWhole 66 = .ok (.iinc 4 1, 3) := by decide +kernel
theorem dX4_isWhole_69 : decode cX4_isWhole 69 = .ok (.goto (-62), 3) := by decide +kernel
theorem dX4_isWhole_72 : decode cX4_isWhole 72 = .ok (.iload_n 2, 1) := by decide +kernel
theorem dX4_isWhole_73 : decode cX4_isWhole 73 = .ok (.aload_n 0, 1) := by decide +kernel
theorem dX4_isWhole_74 : decode cX4_isWhole 74 = .ok (.getfield 15, 3) := by decide +kernel
theorem dX4_isWhole_77 : decode cX4_isWhole 77 = .ok (.invokevirtual 38, 3) := by decide +kernel
theorem dX4_isWhole_80 : decode cX4_isWhole 80 = .ok (.if_icmp .ne 18, 3) := by decide +kernel
theorem dX4_isWhole_83 : decode cX4_isWhole 83 = .ok (.iload_n 3, 1) := by decide +kernel
theorem dX4_isWhole_84 : decode cX4_isWhole 84 = .ok (.aload_n 0, 1) := by decide +kernel
theorem dX4_isWhole_85 : decode cX4_isWhole 85 = .ok (.getfield 15, 3) := by decide +kernel
theorem dX4_isWhole_88 : decode cX4_isWhole 88 = .ok (.invokevirtual 38, 3) := by decide +kernel
theorem dX4_isWhole_91 : decode cX4_isWhole 91 = .ok (.if_icmp .ne 7, 3) := by decide +kernel
theorem dX4_isWhole_94 : decode cX4_isWhole 94 = .ok (.iconst 1, 1) := by decide +kernel
theorem dX4_isWhole_95 : decode cX4_isWhole 95 = .ok (.goto 4, 3) := by decide +kernel
theorem dX4_isWhole_98 : decode cX4_isWhole 98 = .ok (.iconst 0, 1) := by decide +kernel
theorem dX4_isWhole_99 : decode cX4_isWhole 99 = .ok (.ireturn, 1) := by decide +kernel
theorem dX4_countRings_0 : decode cX4_countRings 0 = .ok (.aload_n 0, 1) := by decide +kernel
theorem dX4_countRings_1 : decode cX4_countRings 1 = .ok (.iconst 0, 1) := by decide +kernel
theorem dX4_countRings_2 : decode cX4_countRings 2 = .ok (.putfield 42, 3) := by decide +kernel
theorem dX4_countRings_5 : decode cX4_countRings 5 = .ok (.aload_n 0, 1) := by decide +kernel
theorem dX4_countRings_6 : decode cX4_countRings 6 = .ok (.iconst 0, 1) := by decide +kernel
theorem dX4_countRings_7 : decode cX4_countRings 7 = .ok (.putfield 45, 3) := by decide +kernel
theorem dX4_countRings_10 : decode cX4_countRings 10 = .ok (.aload_n 0, 1) := by decide +kernel
theorem dX4_countRings_11 : decode cX4_countRings 11 = .ok (.iconst 0, 1) := by decide +kernel
theorem dX4_countRings_12 : decode cX4_countRings 12 = .ok (.putfield 48, 3) := by decide +kernel
theorem dX4_countRings_15 : decode cX4_countRings 15 = .ok (.iconst 0, 1) := by decide +kernel
theorem dX4_countRings_16 : decode cX4_countRings 16 = .ok (.istore_n 1, 1) := by decide +kernel
theorem dX4_countRings_17 : decode cX4_countRings 17 = .ok (.iconst 0, 1) := by decide +kernel
theorem dX4_countRings_18 : decode cX4_countRings 18 = .ok (.istore_n 2, 1) := by decide +kernel
theorem dX4_countRings_19 : decode cX4_countRings 19 = .ok (.iload_n 2, 1) := by decide +kernel
theorem dX4_countRings_20 : decode cX4_countRings 20 = .ok (.aload_n 0, 1) := by decide +kernel
theorem dX4_countRings_21 : decode cX4_countRings 21 = .ok (.getfield 15, 3) := by decide +kernel
theorem dX4_countRings_24 : decode cX4_countRings 24 = .ok (.getfield 35, 3) := by decide +kernel
theorem dX4_countRings_27 : decode cX4_countRings 27 = .ok (.if_icmp .ge 95, 3) := by decide +kernel
theorem dX4_countRings_30 : decode cX4_countRings 30 = .ok (.iconst 0, 1) := by decide +kernel
theorem dX4_countRings_31 : decode cX4_countRings 31 = .ok (.istore_n 3, 1) := by decide +kernel
theorem dX4_countRings_32 : decode cX4_countRings 32 = .ok (.iload_n 2, 1) := by decide +kernel
theorem dX4_countRings_33 : decode cX4_countRings 33 = .ok (.istore 4, 2) := by decide +kernel
theorem dX4_countRings_35 : decode cX4_countRings 35 = .ok (.iload_n 3, 1) := by decide +kernel
theorem dX4_countRings_36 : decode cX4_countRings 36 = .ok (.aload_n 0, 1) := by decide +kernel
theorem dX4_countRings_37 : decode cX4_countRings 37 = .ok (.getfield 15, 3) := by decide +kernel
theorem dX4_countRings_40 : decode cX4_countRings 40 = .ok (.getfield 35, 3) := by decide +kernel
theorem dX4_countRings_43 : decode cX4_countRings 43 = .ok (.if_icmp .ge 34, 3) := by decide +kernel
theorem dX4_countRings_46 : decode cX4_countRings 46 = .ok (.iload_n 1, 1) := by decide +kernel
theorem dX4_countRings_47 : decode cX4_countRings 47 = .ok (.iload 4, 2) := by decide +kernel
theorem dX4_countRings_49 : decode cX4_countRings 49 = .ok (.invokestatic 51, 3) := by decide +kernel
theorem dX4_countRings_52 : decode cX4_countRings 52 = .ok (.ifCond .ne 25, 3) := by decide +kernel
theorem dX4_countRings_55 : decode cX4_countRings 55 = .ok (.iload_n 1, 1) := by decide +kernel
theorem dX4_countRings_56 : decode cX4_countRings 56 = .ok (.iconst 1, 1) := by decide +kernel
theorem dX4_countRings_57 : decode cX4_countRings 57 = .ok (.iload 4, 2) := by decide +kernel
theorem dX4_countRings_59 : decode cX4_countRings 59 = .ok (.ishl, 1) := by decide +kernel
theorem dX4_countRings_60 : decode cX4_countRings 60 = .ok (.ior, 1) := by decide +kernel
theorem dX4_countRings_61 : decode cX4_countRings 61 = .ok (.istore_n 1, 1) := by decide +kernel
theorem dX4_countRings_62 : decode cX4_countRings 62 = .ok (.aload_n 0, 1) := by decide +kernel
theorem dX4_countRings_63 : decode cX4_countRings 63 = .ok (.getfield 9, 3) := by decide +kernel
theorem dX4_countRings_66 : decode cX4_countRings 66 = .ok (.iload 4, 2) := by decide +kernel
theorem dX4_countRings_68 : decode cX4_countRings 68 = .ok (.iaload, 1) := by decide +kernel
theorem dX4_countRings_69 : decode cX4_countRings 69 = .ok (.istore 4, 2) := by decide +kernel
theorem dX4_countRings_71 : decode cX4_countRings 71 = .ok (.iinc 3 1, 3) := by decide +kernel
theorem dX4_countRings_74 : decode cX4_countRings 74 = .ok (.goto (-39), 3) := by decide +kernel
theorem dX4_countRings_77 : decode cX4_countRings 77 = .ok (.iload_n 3, 1) := by decide +kernel
theorem dX4_countRings_78 : decode cX4_countRings 78 = .ok (.iconst 1, 1) := by decide +kernel
theorem dX4_countRings_79 : decode cX4_countRings 79 = .ok (.if_icmp .le 37, 3) := by decide +kernel
theorem dX4_countRings_82 : decode cX4_countRings 82 = .ok (.aload_n 0, 1) := by decide +kernel
theorem dX4_countRings_83 : decode cX4_countRings 83 = .ok (.dup, 1) := by decide +kernel
theorem dX4_countRings_84 : decode cX4_countRings 84 = .ok (.getfield 42, 3) := by decide +kernel
theorem dX4_countRings_87 : decode cX4_countRings 87 = .ok (.iconst 1, 1) := by decide +kernel
theorem dX4_countRings_88 : decode cX4_countRings 88 = .ok (.iadd, 1) := by decide +kernel
theorem dX4_countRings_89 : decode cX4_countRings 89 = .ok (.putfield 42, 3) := by decide +kernel
theorem dX4_countRings_92 : decode cX4_countRings 92 = .ok (.aload_n 0, 1) := by decide +kernel
theorem dX4_countRings_93 : decode cX4_countRings 93 = .ok (.dup, 1) := by decide +kernel
theorem dX4_countRings_94 : decode cX4_countRings 94 = .ok (.getfield 45, 3) := by decide +kernel
theorem dX4_countRings_97 : decode cX4_countRings 97 = .ok (.iload_n 3, 1) := by decide +kernel
theorem dX4_countRings_98 : decode cX4_countRings 98 = .ok (.iconst 1, 1) := by decide +kernel
theorem dX4_countRings_99 : decode cX4_countRings 99 = .ok (.isub, 1) := by decide +kernel
theorem dX4_countRings_100 : decode cX4_countRings 100 = .ok (.iadd, 1) := by decide +kernel
theorem dX4_countRings_101 : decode cX4_countRings 101 = .ok (.putfield 45, 3) := by decide +kernel
theorem dX4_countRings_104 : decode cX4_countRings 104 = .ok (.aload_n 0, 1) := by decide +kernel
theorem dX4_countRings_105 : decode cX4_countRings 105 = .ok (.aload_n 0, 1) := by decide +kernel
theorem dX4_countRings_106 : decode cX4_countRings 106 = .ok (.getfield 48, 3) := by decide +kernel
theorem dX4_countRings_109 : decode cX4_countRings 109 = .ok (.iload_n 3, 1) := by decide +kernel
theorem dX4_countRings_110 : decode cX4_countRings 110 = .ok (.invokestatic 55, 3) := by decide +kernel
theorem dX4_countRings_113 : decode cX4_countRings 113 = .ok (.putfield 48, 3) := by decide +kernel
theorem dX4_countRings_116 : decode cX4_countRings 116 = .ok (.iinc 2 1, 3) := by decide +kernel
theorem dX4_countRings_119 : decode cX4_countRings 119 = .ok (.goto (-100), 3) := by decide +kernel
theorem dX4_countRings_122 : decode cX4_countRings 122 = .ok (.return_, 1) := by decide +kernel
theorem dX4_rounds_0 : decode cX4_rounds 0 = .ok (.aload_n 0, 1) := by decide +kernel
theorem dX4_rounds_1 : decode cX4_rounds 1 = .ok (.getfield 48, 3) := by decide +kernel
theorem dX4_rounds_4 : decode cX4_rounds 4 = .ok (.iconst 2, 1) := by decide +kernel
theorem dX4_rounds_5 : decode cX4_rounds 5 = .ok (.if_icmp .ge 5, 3) := by decide +kernel
theorem dX4_rounds_8 : decode cX4_rounds 8 = .ok (.iconst 0, 1) := by decide +kernel
theorem dX4_rounds_9 : decode cX4_rounds 9 = .ok (.ireturn, 1) := by decide +kernel
theorem dX4_rounds_10 : decode cX4_rounds 10 = .ok (.aload_n 0, 1) := by decide +kernel
theorem dX4_rounds_11 : decode cX4_rounds 11 = .ok (.getfield 48, 3) := by decide +kernel
theorem dX4_rounds_14 : decode cX4_rounds 14 = .ok (.iconst 2, 1) := by decide +kernel
theorem dX4_rounds_15 : decode cX4_rounds 15 = .ok (.if_icmp .ne 7, 3) := by decide +kernel
theorem dX4_rounds_18 : decode cX4_rounds 18 = .ok (.iconst 1, 1) := by decide +kernel
theorem dX4_rounds_19 : decode cX4_rounds 19 = .ok (.goto 4, 3) := by decide +kernel
theorem dX4_rounds_22 : decode cX4_rounds 22 = .ok (.iconst 2, 1) := by decide +kernel
theorem dX4_rounds_23 : decode cX4_rounds 23 = .ok (.ireturn, 1) := by decide +kernel
theorem dX5_init_0 : decode cX5_init 0 = .ok (.aload_n 0, 1) := by decide +kernel
theorem dX5_init_1 : decode cX5_init 1 = .ok (.invokespecial 3, 3) := by decide +kernel
theorem dX5_init_4 : decode cX5_init 4 = .ok (.aload_n 0, 1) := by decide +kernel
theorem dX5_init_5 : decode cX5_init 5 = .ok (.bipush 60, 2) := by decide +kernel
theorem dX5_init_7 : decode cX5_init 7 = .ok (.newarray .int, 2) := by decide +kernel
theorem dX5_init_9 : decode cX5_init 9 = .ok (.putfield 9, 3) := by decide +kernel
theorem dX5_init_12 : decode cX5_init 12 = .ok (.aload_n 0, 1) := by decide +kernel
theorem dX5_init_13 : decode cX5_init 13 = .ok (.iconst (-1), 1) := by decide +kernel
theorem dX5_init_14 : decode cX5_init 14 = .ok (.putfield 15, 3) := by decide +kernel
theorem dX5_init_17 : decode cX5_init 17 = .ok (.return_, 1) := by decide +kernel
theorem dX5_renew_0 : decode cX5_renew 0 = .ok (.aload_n 0, 1) := by decide +kernel
theorem dX5_renew_1 : decode cX5_renew 1 = .ok (.iload_n 1, 1) := by decide +kernel
theorem dX5_renew_2 : decode cX5_renew 2 = .ok (.putfield 19, 3) := by decide +kernel
theorem dX5_renew_5 : decode cX5_renew 5 = .ok (.aload_n 0, 1) := by decide +kernel
theorem dX5_renew_6 : decode cX5_renew 6 = .ok (.iload_n 2, 1) := by decide +kernel
theorem dX5_renew_7 : decode cX5_renew 7 = .ok (.putfield 15, 3) := by decide +kernel
theorem dX5_renew_10 : decode cX5_renew 10 = .ok (.aload_n 0, 1) := by decide +kernel
theorem dX5_renew_11 : decode cX5_renew 11 = .ok (.getfield 9, 3) := by decide +kernel
theorem dX5_renew_14 : decode cX5_renew 14 = .ok (.iconst 0, 1) := by decide +kernel
theorem dX5_renew_15 : decode cX5_renew 15 = .ok (.invokestatic 22, 3) := by decide +kernel
theorem dX5_renew_18 : decode cX5_renew 18 = .ok (.return_, 1) := by decide +kernel
theorem dX5_holds_0 : decode cX5_holds 0 = .ok (.iload_n 1, 1) := by decide +kernel
theorem dX5_holds_1 : decode cX5_holds 1 = .ok (.ifCond .lt 21, 3) := by decide +kernel
theorem dX5_holds_4 : decode cX5_holds 4 = .ok (.iload_n 2, 1) := by decide +kernel
theorem dX5_holds_5 : decode cX5_holds 5 = .ok (.ifCond .lt 17, 3) := by decide +kernel
theorem dX5_holds_8 : decode cX5_holds 8 = .ok (.iload_n 1, 1) := by decide +kernel
theorem dX5_holds_9 : decode cX5_holds 9 = .ok (.aload_n 0, 1) := by decide +kernel
theorem dX5_holds_10 : decode cX5_holds 10 = .ok (.getfield 15, 3) := by decide +kernel
theorem dX5_holds_13 : decode cX5_holds 13 = .ok (.iload_n 2, 1) := by decide +kernel
theorem dX5_holds_14 : decode cX5_holds 14 = .ok (.isub, 1) := by decide +kernel
theorem dX5_holds_15 : decode cX5_holds 15 = .ok (.if_icmp .gt 7, 3) := by decide +kernel
theorem dX5_holds_18 : decode cX5_holds 18 = .ok (.iconst 1, 1) := by decide +kernel
theorem dX5_holds_19 : decode cX5_holds 19 = .ok (.goto 4, 3) := by decide +kernel
theorem dX5_holds_22 : decode cX5_holds 22 = .ok (.iconst 0, 1) := by decide +kernel
theorem dX5_holds_23 : decode cX5_holds 23 = .ok (.ireturn, 1) := by decide +kernel
theorem dX5_put_0 : decode cX5_put 0 = .ok (.aload_n 0, 1) := by decide +kernel
theorem dX5_put_1 : decode cX5_put 1 = .ok (.getfield 19, 3) := by decide +kernel
theorem dX5_put_4 : decode cX5_put 4 = .ok (.ifCond .ne 14, 3) := by decide +kernel
theorem dX5_put_7 : decode cX5_put 7 = .ok (.aload_n 0, 1) := by decide +kernel
theorem dX5_put_8 : decode cX5_put 8 = .ok (.getfield 9, 3) := by decide +kernel
theorem dX5_put_11 : decode cX5_put 11 = .ok (.iload_n 1, 1) := by decide +kernel
theorem dX5_put_12 : decode cX5_put 12 = .ok (.iload_n 2, 1) := by decide +kernel
theorem dX5_put_13 : decode cX5_put 13 = .ok (.i2b, 1) := by decide +kernel
theorem dX5_put_14 : decode cX5_put 14 = .ok (.iastore, 1) := by decide +kernel
theorem dX5_put_15 : decode cX5_put 15 = .ok (.goto 29, 3) := by decide +kernel
theorem dX5_put_18 : decode cX5_put 18 = .ok (.aload_n 0, 1) := by decide +kernel
theorem dX5_put_19 : decode cX5_put 19 = .ok (.getfield 19, 3) := by decide +kernel
theorem dX5_put_22 : decode cX5_put 22 = .ok (.iconst 1, 1) := by decide +kernel
theorem dX5_put_23 : decode cX5_put 23 = .ok (.if_icmp .ne 14, 3) := by decide +kernel
theorem dX5_put_26 : decode cX5_put 26 = .ok (.aload_n 0, 1) := by decide +kernel
theorem dX5_put_27 : decode cX5_put 27 = .ok (.getfield 9, 3) := by decide +kernel
theorem dX5_put_30 : decode cX5_put 30 = .ok (.iload_n 1, 1) := by decide +kernel
theorem dX5_put_31 : decode cX5_put 31 = .ok (.iload_n 2, 1) := by decide +kernel
theorem dX5_put_32 : decode cX5_put 32 = .ok (.i2s, 1) := by decide +kernel
theorem dX5_put_33 : decode cX5_put 33 = .ok (.iastore, 1) := by decide +kernel
theorem dX5_put_34 : decode cX5_put 34 = .ok (.goto 10, 3) := by decide +kernel
theorem dX5_put_37 : decode cX5_put 37 = .ok (.aload_n 0, 1) := by decide +kernel
theorem dX5_put_38 : decode cX5_put 38 = .ok (.getfield 9, 3) := by decide +kernel
theorem dX5_put_41 : decode cX5_put 41 = .ok (.iload_n 1, 1) := by decide +kernel
theorem dX5_put_42 : decode cX5_put 42 = .ok (.iload_n 2, 1) := by decide +kernel
theorem dX5_put_43 : decode cX5_put 43 = .ok (.iastore, 1) := by decide +kernel
theorem dX5_put_44 : decode cX5_put 44 = .ok (.return_, 1) := by decide +kernel
theorem dX6_init_0 : decode cX6_init 0 = .ok (.aload_n 0, 1) := by decide +kernel
theorem dX6_init_1 : decode cX6_init 1 = .ok (.invokespecial 3, 3) := by decide +kernel
theorem dX6_init_4 : decode cX6_init 4 = .ok (.aload_n 0, 1) := by decide +kernel
theorem dX6_init_5 : decode cX6_init 5 = .ok (.bipush 8, 2) := by decide +kernel
theorem dX6_init_7 : decode cX6_init 7 = .ok (.newarray .long, 2) := by decide +kernel
theorem dX6_init_9 : decode cX6_init 9 = .ok (.putfield 9, 3) := by decide +kernel
theorem dX6_init_12 : decode cX6_init 12 = .ok (.aload_n 0, 1) := by decide +kernel
theorem dX6_init_13 : decode cX6_init 13 = .ok (.bipush 8, 2) := by decide +kernel
theorem dX6_init_15 : decode cX6_init 15 = .ok (.newarray .int, 2) := by decide +kernel
theorem dX6_init_17 : decode cX6_init 17 = .ok (.putfield 15, 3) := by decide +kernel
theorem dX6_init_20 : decode cX6_init 20 = .ok (.aload_n 0, 1) := by decide +kernel
theorem dX6_init_21 : decode cX6_init 21 = .ok (.bipush 8, 2) := by decide +kernel
theorem dX6_init_23 : decode cX6_init 23 = .ok (.newarray .int, 2) := by decide +kernel
theorem dX6_init_25 : decode cX6_init 25 = .ok (.putfield 19, 3) := by decide +kernel
theorem dX6_init_28 : decode cX6_init 28 = .ok (.aload_n 0, 1) := by decide +kernel
theorem dX6_init_29 : decode cX6_init 29 = .ok (.bipush 8, 2) := by decide +kernel
theorem dX6_init_31 : decode cX6_init 31 = .ok (.newarray .int, 2) := by decide +kernel
theorem dX6_init_33 : decode cX6_init 33 = .ok (.putfield 22, 3) := by decide +kernel
theorem dX6_init_36 : decode cX6_init 36 = .ok (.aload_n 0, 1) := by decide +kernel
theorem dX6_init_37 : decode cX6_init 37 = .ok (.bipush 8, 2) := by decide +kernel
theorem dX6_init_39 : decode cX6_init 39 = .ok (.newarray .int, 2) := by decide +kernel
theorem dX6_init_41 : decode cX6_init 41 = .ok (.putfield 25, 3) := by decide +kernel
theorem dX6_init_44 : decode cX6_init 44 = .ok (.aload_n 0, 1) := by decide +kernel
theorem dX6_init_45 : decode cX6_init 45 = .ok (.bipush 64, 2) := by decide +kernel
theorem dX6_init_47 : decode cX6_init 47 = .ok (.newarray .int, 2) := by decide +kernel
theorem dX6_init_49 : decode cX6_init 49 = .ok (.putfield 28, 3) := by decide +kernel
theorem dX6_init_52 : decode cX6_init 52 = .ok (.aload_n 0, 1) := by decide +kernel
theorem dX6_init_53 : decode cX6_init 53 = .ok (.sipush 256, 3) := by decide +kernel
theorem dX6_init_56 : decode cX6_init 56 = .ok (.newarray .long, 2) := by decide +kernel
theorem dX6_init_58 : decode cX6_init 58 = .ok (.putfield 31, 3) := by decide +kernel
theorem dX6_init_61 : decode cX6_init 61 = .ok (.aload_n 0, 1) := by decide +kernel
theorem dX6_init_62 : decode cX6_init 62 = .ok (.aload_n 1, 1) := by decide +kernel
theorem dX6_init_63 : decode cX6_init 63 = .ok (.putfield 34, 3) := by decide +kernel
theorem dX6_init_66 : decode cX6_init 66 = .ok (.return_, 1) := by decide +kernel
theorem dX6_mayTell_0 : decode cX6_mayTell 0 = .ok (.iload_n 1, 1) := by decide +kernel
theorem dX6_mayTell_1 : decode cX6_mayTell 1 = .ok (.iconst (-1), 1) := by decide +kernel
theorem dX6_mayTell_2 : decode cX6_mayTell 2 = .ok (.if_icmp .lt 23, 3) := by decide +kernel
theorem dX6_mayTell_5 : decode cX6_mayTell 5 = .ok (.iload_n 1, 1) := by decide +kernel
theorem dX6_mayTell_6 : decode cX6_mayTell 6 = .ok (.bipush 8, 2) := by decide +kernel
theorem dX6_mayTell_8 : decode cX6_mayTell 8 = .ok (.if_icmp .ge 17, 3) := by decide +kernel
theorem dX6_mayTell_11 : decode cX6_mayTell 11 = .ok (.iload_n 2, 1) := by decide +kernel
theorem dX6_mayTell_12 : decode cX6_mayTell 12 = .ok (.ifCond .lt 13, 3) := by decide +kernel
theorem dX6_mayTell_15 : decode cX6_mayTell 15 = .ok (.iload_n 2, 1) := by decide +kernel
theorem dX6_mayTell_16 : decode cX6_mayTell 16 = .ok (.bipush 8, 2) := by decide +kernel
theorem dX6_mayTell_18 : decode cX6_mayTell 18 = .ok (.if_icmp .ge 7, 3) := by decide +kernel
theorem dX6_mayTell_21 : decode cX6_mayTell 21 = .ok (.iconst 1, 1) := by decide +kernel
theorem dX6_mayTell_22 : decode cX6_mayTell 22 = .ok (.goto 4, 3) := by decide +kernel
theorem dX6_mayTell_25 : decode cX6_mayTell 25 = .ok (.iconst 0, 1) := by decide +kernel
theorem dX6_mayTell_26 : decode cX6_mayTell 26 = .ok (.ireturn, 1) := by decide +kernel
theorem dX6_tell_0 : decode cX6_tell 0 = .ok (.aload_n 0, 1) := by decide +kernel
theorem dX6_tell_1 : decode cX6_tell 1 = .ok (.getfield 38, 3) := by decide +kernel
theorem dX6_tell_4 : decode cX6_tell 4 = .ok (.bipush 8, 2) := by decide +kernel
theorem dX6_tell_6 : decode cX6_tell 6 = .ok (.if_icmp .ge 38, 3) := by decide +kernel
theorem dX6_tell_9 : decode cX6_tell 9 = .ok (.aload_n 0, 1) := by decide +kernel
theorem dX6_tell_10 : decode cX6_tell 10 = .ok (.getfield 15, 3) := by decide +kernel
theorem dX6_tell_13 : decode cX6_tell 13 = .ok (.aload_n 0, 1) := by decide +kernel
theorem dX6_tell_14 : decode cX6_tell 14 = .ok (.getfield 38, 3) := by decide +kernel
theorem dX6_tell_17 : decode cX6_tell 17 = .ok (.iload_n 1, 1) := by decide +kernel
theorem dX6_tell_18 : decode cX6_tell 18 = .ok (.iastore, 1) := by decide +kernel
theorem dX6_tell_19 : decode cX6_tell 19 = .ok (.aload_n 0, 1) := by decide +kernel
theorem dX6_tell_20 : decode cX6_tell 20 = .ok (.getfield 19, 3) := by decide +kernel
theorem dX6_tell_23 : decode cX6_tell 23 = .ok (.aload_n 0, 1) := by decide +kernel
theorem dX6_tell_24 : decode cX6_tell 24 = .ok (.getfield 38, 3) := by decide +kernel
theorem dX6_tell_27 : decode cX6_tell 27 = .ok (.iload_n 2, 1) := by decide +kernel
theorem dX6_tell_28 : decode cX6_tell 28 = .ok (.iastore, 1) := by decide +kernel
theorem dX6_tell_29 : decode cX6_tell 29 = .ok (.aload_n 0, 1) := by decide +kernel
theorem dX6_tell_30 : decode cX6_tell 30 = .ok (.dup, 1) := by decide +kernel
theorem dX6_tell_31 : decode cX6_tell 31 = .ok (.getfield 38, 3) := by decide +kernel
theorem dX6_tell_34 : decode cX6_tell 34 = .ok (.iconst 1, 1) := by decide +kernel
theorem dX6_tell_35 : decode cX6_tell 35 = .ok (.iadd, 1) := by decide +kernel
theorem dX6_tell_36 : decode cX6_tell 36 = .ok (.putfield 38, 3) := by decide +kernel
theorem dX6_tell_39 : decode cX6_tell 39 = .ok (.aload_n 0, 1) := by decide +kernel
theorem dX6_tell_40 : decode cX6_tell 40 = .ok (.iconst 0, 1) := by decide +kernel
theorem dX6_tell_41 : decode cX6_tell 41 = .ok (.putfield 42, 3) := by decide +kernel
theorem dX6_tell_44 : decode cX6_tell 44 = .ok (.return_, 1) := by decide +kernel
theorem dX6_clear_0 : decode cX6_clear 0 = .ok (.aload_n 0, 1) := by decide +kernel
theorem dX6_clear_1 : decode cX6_clear 1 = .ok (.iconst 0, 1) := by decide +kernel
theorem dX6_clear_2 : decode cX6_clear 2 = .ok (.putfield 38, 3) := by decide +kernel
theorem dX6_clear_5 : decode cX6_clear 5 = .ok (.aload_n 0, 1) := by decide +kernel
theorem dX6_clear_6 : decode cX6_clear 6 = .ok (.iconst 0, 1) := by decide +kernel
theorem dX6_clear_7 : decode cX6_clear 7 = .ok (.putfield 42, 3) := by decide +kernel
theorem dX6_clear_10 : decode cX6_clear 10 = .ok (.return_, 1) := by decide +kernel
theorem dX6_refresh_0 : decode cX6_refresh 0 = .ok (.aload_n 0, 1) := by decide +kernel
theorem dX6_refresh_1 : decode cX6_refresh 1 = .ok (.getfield 42, 3) := by decide +kernel
theorem dX6_refresh_4 : decode cX6_refresh 4 = .ok (.ifCond .eq 4, 3) := by decide +kernel
theorem dX6_refresh_7 : decode cX6_refresh 7 = .ok (.return_, 1) := by decide +kernel
theorem dX6_refresh_8 : decode cX6_refresh 8 = .ok (.aload_n 0, 1) := by decide +kernel
theorem dX6_refresh_9 : decode cX6_refresh 9 = .ok (.getfield 9, 3) := by decide +kernel
theorem dX6_refresh_12 : decode cX6_refresh 12 = .ok (.lconst 0, 1) := by decide +kernel
theorem dX6_refresh_13 : decode cX6_refresh 13 = .ok (.invokestatic 46, 3) := by decide +kernel
theorem dX6_refresh_16 : decode cX6_refresh 16 = .ok (.aload_n 0, 1) := by decide +kernel
theorem dX6_refresh_17 : decode cX6_refresh 17 = .ok (.getfield 28, 3) := by decide +kernel
theorem dX6_refresh_20 : decode cX6_refresh 20 = .ok (.iconst 0, 1) := by decide +kernel
theorem dX6_refresh_21 : decode cX6_refresh 21 = .ok (.invokestatic 52, 3) := by decide +kernel
theorem dX6_refresh_24 : decode cX6_refresh 24 = .ok (.aload_n 0, 1) := by decide +kernel
theorem dX6_refresh_25 : decode cX6_refresh 25 = .ok (.iconst 0, 1) := by decide +kernel
theorem dX6_refresh_26 : decode cX6_refresh 26 = .ok (.putfield 55, 3) := by decide +kernel
theorem dX6_refresh_29 : decode cX6_refresh 29 = .ok (.aload_n 0, 1) := by decide +kernel
theorem dX6_refresh_30 : decode cX6_refresh 30 = .ok (.lconst 0, 1) := by decide +kernel
theorem dX6_refresh_31 : decode cX6_refresh 31 = .ok (.putfield 58, 3) := by decide +kernel
theorem dX6_refresh_34 : decode cX6_refresh 34 = .ok (.aload_n 0, 1) := by decide +kernel
theorem dX6_refresh_35 : decode cX6_refresh 35 = .ok (.invokevirtual 62, 3) := by decide +kernel
theorem dX6_refresh_38 : decode cX6_refresh 38 = .ok (.iconst 0, 1) := by decide +kernel
theorem dX6_refresh_39 : decode cX6_refresh 39 = .ok (.istore_n 1, 1) := by decide +kernel
theorem dX6_refresh_40 : decode cX6_refresh 40 = .ok (.iload_n 1, 1) := by decide +kernel
theorem dX6_refresh_41 : decode cX6_refresh 41 = .ok (.aload_n 0, 1) := by decide +kernel
theorem dX6_refresh_42 : decode cX6_refresh 42 = .ok (.getfield 34, 3) := by decide +kernel
theorem dX6_refresh_45 : decode cX6_refresh 45 = .ok (.getfield 65, 3) := by decide +kernel
theorem dX6_refresh_48 : decode cX6_refresh 48 = .ok (.if_icmp .ge 26, 3) := by decide +kernel
theorem dX6_refresh_51 : decode cX6_refresh 51 = .ok (.aload_n 0, 1) := by decide +kernel
theorem dX6_refresh_52 : decode cX6_refresh 52 = .ok (.getfield 34, 3) := by decide +kernel
theorem dX6_refresh_55 : decode cX6_refresh 55 = .ok (.getfield 70, 3) := by decide +kernel
theorem dX6_refresh_58 : decode cX6_refresh 58 = .ok (.iload_n 1, 1) := by decide +kernel
theorem dX6_refresh_59 : decode cX6_refresh 59 = .ok (.iaload, 1) := by decide +kernel
theorem dX6_refresh_60 : decode cX6_refresh 60 = .ok (.ifCond .ne 8, 3) := by decide +kernel
theorem dX6_refresh_63 : decode cX6_refresh 63 = .ok (.aload_n 0, 1) := by decide +kernel
theorem dX6_refresh_64 : decode cX6_refresh 64 = .ok (.iload_n 1, 1) := by decide +kernel
theorem dX6_refresh_65 : decode cX6_refresh 65 = .ok (.invokevirtual 71, 3) := by decide +kernel
theorem dX6_refresh_68 : decode cX6_refresh 68 = .ok (.iinc 1 1, 3) := by decide +kernel
theorem dX6_refresh_71 : decode cX6_refresh 71 = .ok (.goto (-31), 3) := by decide +kernel
theorem dX6_refresh_74 : decode cX6_refresh 74 = .ok (.aload_n 0, 1) := by decide +kernel
theorem dX6_refresh_75 : decode cX6_refresh 75 = .ok (.iconst 1, 1) := by decide +kernel
theorem dX6_refresh_76 : decode cX6_refresh 76 = .ok (.putfield 42, 3) := by decide +kernel
theorem dX6_refresh_79 : decode cX6_refresh 79 = .ok (.return_, 1) := by decide +kernel
theorem dX6_narrow_0 : decode cX6_narrow 0 = .ok (.aload_n 0, 1) := by decide +kernel
theorem dX6_narrow_1 : decode cX6_narrow 1 = .ok (.getfield 22, 3) := by decide +kernel
theorem dX6_narrow_4 : decode cX6_narrow 4 = .ok (.aload_n 0, 1) := by decide +kernel
theorem dX6_narrow_5 : decode cX6_narrow 5 = .ok (.getfield 34, 3) := by decide +kernel
theorem dX6_narrow_8 : decode cX6_narrow 8 = .ok (.invokevirtual 75, 3) := by decide +kernel
theorem dX6_narrow_11 : decode cX6_narrow 11 = .ok (.invokestatic 52, 3) := by decide +kernel
theorem dX6_narrow_14 : decode cX6_narrow 14 = .ok (.iconst 0, 1) := by decide +kernel
theorem dX6_narrow_15 : decode cX6_narrow 15 = .ok (.istore_n 1, 1) := by decide +kernel
theorem dX6_narrow_16 : decode cX6_narrow 16 = .ok (.iload_n 1, 1) := by decide +kernel
theorem dX6_narrow_17 : decode cX6_narrow 17 = .ok (.aload_n 0, 1) := by decide +kernel
theorem dX6_narrow_18 : decode cX6_narrow 18 = .ok (.getfield 38, 3) := by decide +kernel
theorem dX6_narrow_21 : decode cX6_narrow 21 = .ok (.if_icmp .ge 97, 3) := by decide +kernel
theorem dX6_narrow_24 : decode cX6_narrow 24 = .ok (.aload_n 0, 1) := by decide +kernel
theorem dX6_narrow_25 : decode cX6_narrow 25 = .ok (.getfield 15, 3) := by decide +kernel
theorem dX6_narrow_28 : decode cX6_narrow 28 = .ok (.iload_n 1, 1) := by decide +kernel
theorem dX6_narrow_29 : decode cX6_narrow 29 = .ok (.iaload, 1) := by decide +kernel
theorem dX6_narrow_30 : decode cX6_narrow 30 = .ok (.aload_n 0, 1) := by decide +kernel
theorem dX6_narrow_31 : decode cX6_narrow 31 = .ok (.getfield 34, 3) := by decide +kernel
theorem dX6_narrow_34 : decode cX6_narrow 34 = .ok (.getfield 65, 3) := by decide +kernel
theorem dX6_narrow_37 : decode cX6_narrow 37 = .ok (.if_icmp .ge 19, 3) := by decide +kernel
theorem dX6_narrow_40 : decode cX6_narrow 40 = .ok (.aload_n 0, 1) := by decide +kernel
theorem dX6_narrow_41 : decode cX6_narrow 41 = .ok (.getfield 19, 3) := by decide +kernel
theorem dX6_narrow_44 : decode cX6_narrow 44 = .ok (.iload_n 1, 1) := by decide +kernel
theorem dX6_narrow_45 : decode cX6_narrow 45 = .ok (.iaload, 1) := by decide +kernel
theorem dX6_narrow_46 : decode cX6_narrow 46 = .ok (.aload_n 0, 1) := by decide +kernel
theorem dX6_narrow_47 : decode cX6_narrow 47 = .ok (.getfield 34, 3) := by decide +kernel
theorem dX6_narrow_50 : decode cX6_narrow 50 = .ok (.getfield 79, 3) := by decide +kernel
theorem dX6_narrow_53 : decode cX6_narrow 53 = .ok (.if_icmp .lt 14, 3) := by decide +kernel
theorem dX6_narrow_56 : decode cX6_narrow 56 = .ok (.aload_n 0, 1) := by decide +kernel
theorem dX6_narrow_57 : decode cX6_narrow 57 = .ok (.getfield 22, 3) := by decide +kernel
theorem dX6_narrow_60 : decode cX6_narrow 60 = .ok (.iconst 0, 1) := by decide +kernel
theorem dX6_narrow_61 : decode cX6_narrow 61 = .ok (.invokestatic 52, 3) := by decide +kernel
theorem dX6_narrow_64 : decode cX6_narrow 64 = .ok (.goto 48, 3) := by decide +kernel
theorem dX6_narrow_67 : decode cX6_narrow 67 = .ok (.aload_n 0, 1) := by decide +kernel
theorem dX6_narrow_68 : decode cX6_narrow 68 = .ok (.getfield 15, 3) := by decide +kernel
theorem dX6_narrow_71 : decode cX6_narrow 71 = .ok (.iload_n 1, 1) := by decide +kernel
theorem dX6_narrow_72 : decode cX6_narrow 72 = .ok (.iaload, 1) := by decide +kernel
theorem dX6_narrow_73 : decode cX6_narrow 73 = .ok (.iconst (-1), 1) := by decide +kernel
theorem dX6_narrow_74 : decode cX6_narrow 74 = .ok (.if_icmp .ne 16, 3) := by decide +kernel
theorem dX6_narrow_77 : decode cX6_narrow 77 = .ok (.aload_n 0, 1) := by decide +kernel
theorem dX6_narrow_78 : decode cX6_narrow 78 = .ok (.aload_n 0, 1) := by decide +kernel
theorem dX6_narrow_79 : decode cX6_narrow 79 = .ok (.getfield 19, 3) := by decide +kernel
theorem dX6_narrow_82 : decode cX6_narrow 82 = .ok (.iload_n 1, 1) := by decide +kernel
theorem dX6_narrow_83 : decode cX6_narrow 83 = .ok (.iaload, 1) := by decide +kernel
theorem dX6_narrow_84 : decode cX6_narrow 84 = .ok (.invokevirtual 82, 3) := by decide +kernel
theorem dX6_narrow_87 : decode cX6_narrow 87 = .ok (.goto 25, 3) := by decide +kernel
theorem dX6_narrow_90 : decode cX6_narrow 90 = .ok (.aload_n 0, 1) := by decide +kernel
theorem dX6_narrow_91 : decode cX6_narrow 91 = .ok (.getfield 22, 3) := by decide +kernel
theorem dX6_narrow_94 : decode cX6_narrow 94 = .ok (.aload_n 0, 1) := by decide +kernel
theorem dX6_narrow_95 : decode cX6_narrow 95 = .ok (.getfield 15, 3) := by decide +kernel
theorem dX6_narrow_98 : decode cX6_narrow 98 = .ok (.iload_n 1, 1) := by decide +kernel
theorem dX6_narrow_99 : decode cX6_narrow 99 = .ok (.iaload, 1) := by decide +kernel
theorem dX6_narrow_100 : decode cX6_narrow 100 = .ok (.dup2, 1) := by decide +kernel
theorem dX6_narrow_101 : decode cX6_narrow 101 = .ok (.iaload, 1) := by decide +kernel
theorem dX6_narrow_102 : decode cX6_narrow 102 = .ok (.iconst 1, 1) := by decide +kernel
theorem dX6_narrow_103 : decode cX6_narrow 103 = .ok (.aload_n 0, 1) := by decide +kernel
theorem dX6_narrow_104 : decode cX6_narrow 104 = .ok (.getfield 19, 3) := by decide +kernel
theorem dX6_narrow_107 : decode cX6_narrow 107 = .ok (.iload_n 1, 1) := by decide +kernel
theorem dX6_narrow_108 : decode cX6_narrow 108 = .ok (.iaload, 1) := by decide +kernel
theorem dX6_narrow_109 : decode cX6_narrow 109 = .ok (.ishl, 1) := by decide +kernel
theorem dX6_narrow_110 : decode cX6_narrow 110 = .ok (.iand, 1) := by decide +kernel
theorem dX6_narrow_111 : decode cX6_narrow 111 = .ok (.iastore, 1) := by decide +kernel
theorem dX6_narrow_112 : decode cX6_narrow 112 = .ok (.iinc 1 1, 3) := by decide +kernel
theorem dX6_narrow_115 : decode cX6_narrow 115 = .ok (.goto (-99), 3) := by decide +kernel
theorem dX6_narrow_118 : decode cX6_narrow 118 = .ok (.return_, 1) := by decide +kernel
theorem dX6_forbid_0 : decode cX6_forbid 0 = .ok (.iconst 0, 1) := by decide +kernel
theorem dX6_forbid_1 : decode cX6_forbid 1 = .ok (.istore_n 2, 1) := by decide +kernel
theorem dX6_forbid_2 : decode cX6_forbid 2 = .ok (.iload_n 2, 1) := by decide +kernel
theorem dX6_forbid_3 : decode cX6_forbid 3 = .ok (.bipush 8, 2) := by decide +kernel
theorem dX6_forbid_5 : decode cX6_forbid 5 = .ok (.if_icmp .ge 23, 3) := by decide +kernel
theorem dX6_forbid_8 : decode cX6_forbid 8 = .ok (.aload_n 0, 1) := by decide +kernel
theorem dX6_forbid_9 : decode cX6_forbid 9 = .ok (.getfield 22, 3) := by decide +kernel
theorem dX6_forbid_12 : decode cX6_forbid 12 = .ok (.iload_n 2, 1) := by decide +kernel
theorem dX6_forbid_13 : decode cX6_forbid 13 = .ok (.dup2, 1) := by decide +kernel
theorem dX6_forbid_14 : decode cX6_forbid 14 = .ok (.iaload, 1) := by decide +kernel
theorem dX6_forbid_15 : decode cX6_forbid 15 = .ok (.iconst 1, 1) := by decide +kernel
theorem dX6_forbid_16 : decode cX6_forbid 16 = .ok (.iload_n 1, 1) := by decide +kernel
theorem dX6_forbid_17 : decode cX6_forbid 17 = .ok (.ishl, 1) := by decide +kernel
theorem dX6_forbid_18 : decode cX6_forbid 18 = .ok (.iconst (-1), 1) := by decide +kernel
theorem dX6_forbid_19 : decode cX6_forbid 19 = .ok (.ixor, 1) := by decide +kernel
theorem dX6_forbid_20 : decode cX6_forbid 20 = .ok (.iand, 1) := by decide +kernel
theorem dX6_forbid_21 : decode cX6_forbid 21 = .ok (.iastore, 1) := by decide +kernel
theorem dX6_forbid_22 : decode cX6_forbid 22 = .ok (.iinc 2 1, 3) := by decide +kernel
theorem dX6_forbid_25 : decode cX6_forbid 25 = .ok (.goto (-23), 3) := by decide +kernel
theorem dX6_forbid_28 : decode cX6_forbid 28 = .ok (.return_, 1) := by decide +kernel
theorem dX6_suspect_0 : decode cX6_suspect 0 = .ok (.aload_n 0, 1) := by decide +kernel
theorem dX6_suspect_1 : decode cX6_suspect 1 = .ok (.getfield 34, 3) := by decide +kernel
theorem dX6_suspect_4 : decode cX6_suspect 4 = .ok (.getfield 70, 3) := by decide +kernel
theorem dX6_suspect_7 : decode cX6_suspect 7 = .ok (.iconst 0, 1) := by decide +kernel
theorem dX6_suspect_8 : decode cX6_suspect 8 = .ok (.aload_n 0, 1) := by decide +kernel
theorem dX6_suspect_9 : decode cX6_suspect 9 = .ok (.getfield 25, 3) := by decide +kernel
theorem dX6_suspect_12 : decode cX6_suspect 12 = .ok (.iconst 0, 1) := by decide +kernel
theorem dX6_suspect_13 : decode cX6_suspect 13 = .ok (.bipush 8, 2) := by decide +kernel
theorem dX6_suspect_15 : decode cX6_suspect 15 = .ok (.invokestatic 85, 3) := by decide +kernel
theorem dX6_suspect_18 : decode cX6_suspect 18 = .ok (.aload_n 0, 1) := by decide +kernel
theorem dX6_suspect_19 : decode cX6_suspect 19 = .ok (.getfield 25, 3) := by decide +kernel
theorem dX6_suspect_22 : decode cX6_suspect 22 = .ok (.iload_n 1, 1) := by decide +kernel
theorem dX6_suspect_23 : decode cX6_suspect 23 = .ok (.iconst 1, 1) := by decide +kernel
theorem dX6_suspect_24 : decode cX6_suspect 24 = .ok (.iastore, 1) := by decide +kernel
theorem dX6_suspect_25 : decode cX6_suspect 25 = .ok (.aload_n 0, 1) := by decide +kernel
theorem dX6_suspect_26 : decode cX6_suspect 26 = .ok (.invokevirtual 91, 3) := by decide +kernel
theorem dX6_suspect_29 : decode cX6_suspect 29 = .ok (.aload_n 0, 1) := by decide +kernel
theorem dX6_suspect_30 : decode cX6_suspect 30 = .ok (.getfield 9, 3) := by decide +kernel
theorem dX6_suspect_33 : decode cX6_suspect 33 = .ok (.iload_n 1, 1) := by decide +kernel
theorem dX6_suspect_34 : decode cX6_suspect 34 = .ok (.aload_n 0, 1) := by decide +kernel
theorem dX6_suspect_35 : decode cX6_suspect 35 = .ok (.invokevirtual 94, 3) := by decide +kernel
theorem dX6_suspect_38 : decode cX6_suspect 38 = .ok (.lastore, 1) := by decide +kernel
theorem dX6_suspect_39 : decode cX6_suspect 39 = .ok (.aload_n 0, 1) := by decide +kernel
theorem dX6_suspect_40 : decode cX6_suspect 40 = .ok (.dup, 1) := by decide +kernel
theorem dX6_suspect_41 : decode cX6_suspect 41 = .ok (.getfield 58, 3) := by decide +kernel
theorem dX6_suspect_44 : decode cX6_suspect 44 = .ok (.aload_n 0, 1) := by decide +kernel
theorem dX6_suspect_45 : decode cX6_suspect 45 = .ok (.getfield 9, 3) := by decide +kernel
theorem dX6_suspect_48 : decode cX6_suspect 48 = .ok (.iload_n 1, 1) := by decide +kernel
theorem dX6_suspect_49 : decode cX6_suspect 49 = .ok (.laload, 1) := by decide +kernel
theorem dX6_suspect_50 : decode cX6_suspect 50 = .ok (.ladd, 1) := by decide +kernel
theorem dX6_suspect_51 : decode cX6_suspect 51 = .ok (.putfield 58, 3) := by decide +kernel
theorem dX6_suspect_54 : decode cX6_suspect 54 = .ok (.aload_n 0, 1) := by decide +kernel
theorem dX6_suspect_55 : decode cX6_suspect 55 = .ok (.getfield 9, 3) := by decide +kernel
theorem dX6_suspect_58 : decode cX6_suspect 58 = .ok (.iload_n 1, 1) := by decide +kernel
theorem dX6_suspect_59 : decode cX6_suspect 59 = .ok (.laload, 1) := by decide +kernel
theorem dX6_suspect_60 : decode cX6_suspect 60 = .ok (.lconst 0, 1) := by decide +kernel
theorem dX6_suspect_61 : decode cX6_suspect 61 = .ok (.lcmp, 1) := by decide +kernel
theorem dX6_suspect_62 : decode cX6_suspect 62 = .ok (.ifCond .eq 20, 3) := by decide +kernel
theorem dX6_suspect_65 : decode cX6_suspect 65 = .ok (.aload_n 0, 1) := by decide +kernel
theorem dX6_suspect_66 : decode cX6_suspect 66 = .ok (.dup, 1) := by decide +kernel
theorem dX6_suspect_67 : decode cX6_suspect 67 = .ok (.getfield 55, 3) := by decide +kernel
theorem dX6_suspect_70 : decode cX6_suspect 70 = .ok (.iconst 1, 1) := by decide +kernel
theorem dX6_suspect_71 : decode cX6_suspect 71 = .ok (.iload_n 1, 1) := by decide +kernel
theorem dX6_suspect_72 : decode cX6_suspect 72 = .ok (.ishl, 1) := by decide +kernel
theorem dX6_suspect_73 : decode cX6_suspect 73 = .ok (.ior, 1) := by decide +kernel
theorem dX6_suspect_74 : decode cX6_suspect 74 = .ok (.putfield 55, 3) := by decide +kernel
theorem dX6_suspect_77 : decode cX6_suspect 77 = .ok (.aload_n 0, 1) := by decide +kernel
theorem dX6_suspect_78 : decode cX6_suspect 78 = .ok (.iload_n 1, 1) := by decide +kernel
theorem dX6_suspect_79 : decode cX6_suspect 79 = .ok (.invokevirtual 98, 3) := by decide +kernel
theorem dX6_suspect_82 : decode cX6_suspect 82 = .ok (.return_, 1) := by decide +kernel
theorem dX6_walkForward_0 : decode cX6_walkForward 0 = .ok (.aload_n 0, 1) := by decide +kernel
theorem dX6_walkForward_1 : decode cX6_walkForward 1 = .ok (.getfield 31, 3) := by decide +kernel
theorem dX6_walkForward_4 : decode cX6_walkForward 4 = .ok (.lconst 0, 1) := by decide +kernel
theorem dX6_walkForward_5 : decode cX6_walkForward 5 = .ok (.invokestatic 46, 3) := by decide +kernel
theorem dX6_walkForward_8 : decode cX6_walkForward 8 = .ok (.aload_n 0, 1) := by decide +kernel
theorem dX6_walkForward_9 : decode cX6_walkForward 9 = .ok (.getfield 31, 3) := by decide +kernel
theorem dX6_walkForward_12 : decode cX6_walkForward 12 = .ok (.iconst 0, 1) := by decide +kernel
theorem dX6_walkForward_13 : decode cX6_walkForward 13 = .ok (.ldc2_w 101, 3) := by decide +kernel
theorem dX6_walkForward_16 : decode cX6_walkForward 16 = .ok (.lastore, 1) := by decide +kernel
