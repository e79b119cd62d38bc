theorem dX8_copy_21 : decode cX8_copy 21 = .ok (.iload_n 1, 1) := by decide +kernel
theorem dX8_copy_22 : decode cX8_copy 22 = .ok (.iaload, 1) := by decide +kernel
theorem dX8_copy_23 : decode cX8_copy 23 = .ok (.ifCond .lt 12, 3) := by decide +kernel
theorem dX8_copy_26 : decode cX8_copy 26 = .ok (.aload_n 0, 1) := by decide +kernel
theorem dX8_copy_27 : decode cX8_copy 27 = .ok (.getfield 7, 3) := by decide +kernel
theorem dX8_copy_30 : decode cX8_copy 30 = .ok (.iload_n 3, 1) := by decide +kernel
theorem dX8_copy_31 : decode cX8_copy 31 = .ok (.iaload, 1) := by decide +kernel
theorem dX8_copy_32 : decode cX8_copy 32 = .ok (.ifCond .ge 9, 3) := by decide +kernel
theorem dX8_copy_35 : decode cX8_copy 35 = .ok (.aload_n 0, 1) := by decide +kernel
theorem dX8_copy_36 : decode cX8_copy 36 = .ok (.iconst 1, 1) := by decide +kernel
theorem dX8_copy_37 : decode cX8_copy 37 = .ok (.invokevirtual 95, 3) := by decide +kernel
theorem dX8_copy_40 : decode cX8_copy 40 = .ok (.ireturn, 1) := by decide +kernel
theorem dX8_copy_41 : decode cX8_copy 41 = .ok (.aload_n 0, 1) := by decide +kernel
theorem dX8_copy_42 : decode cX8_copy 42 = .ok (.getfield 7, 3) := by decide +kernel
theorem dX8_copy_45 : decode cX8_copy 45 = .ok (.iload_n 1, 1) := by decide +kernel
theorem dX8_copy_46 : decode cX8_copy 46 = .ok (.iaload, 1) := by decide +kernel
theorem dX8_copy_47 : decode cX8_copy 47 = .ok (.aload_n 0, 1) := by decide +kernel
theorem dX8_copy_48 : decode cX8_copy 48 = .ok (.getfield 7, 3) := by decide +kernel
theorem dX8_copy_51 : decode cX8_copy 51 = .ok (.iload_n 3, 1) := by decide +kernel
theorem dX8_copy_52 : decode cX8_copy 52 = .ok (.iaload, 1) := by decide +kernel
theorem dX8_copy_53 : decode cX8_copy 53 = .ok (.if_icmp .eq 9, 3) := by decide +kernel
theorem dX8_copy_56 : decode cX8_copy 56 = .ok (.aload_n 0, 1) := by decide +kernel
theorem dX8_copy_57 : decode cX8_copy 57 = .ok (.iconst 4, 1) := by decide +kernel
theorem dX8_copy_58 : decode cX8_copy 58 = .ok (.invokevirtual 95, 3) := by decide +kernel
theorem dX8_copy_61 : decode cX8_copy 61 = .ok (.ireturn, 1) := by decide +kernel
theorem dX8_copy_62 : decode cX8_copy 62 = .ok (.iload_n 2, 1) := by decide +kernel
theorem dX8_copy_63 : decode cX8_copy 63 = .ok (.ifCond .lt 48, 3) := by decide +kernel
theorem dX8_copy_66 : decode cX8_copy 66 = .ok (.iload 4, 2) := by decide +kernel
theorem dX8_copy_68 : decode cX8_copy 68 = .ok (.ifCond .lt 43, 3) := by decide +kernel
theorem dX8_copy_71 : decode cX8_copy 71 = .ok (.iload 5, 2) := by decide +kernel
theorem dX8_copy_73 : decode cX8_copy 73 = .ok (.ifCond .lt 38, 3) := by decide +kernel
theorem dX8_copy_76 : decode cX8_copy 76 = .ok (.iload_n 2, 1) := by decide +kernel
theorem dX8_copy_77 : decode cX8_copy 77 = .ok (.i2l, 1) := by decide +kernel
theorem dX8_copy_78 : decode cX8_copy 78 = .ok (.iload 5, 2) := by decide +kernel
theorem dX8_copy_80 : decode cX8_copy 80 = .ok (.i2l, 1) := by decide +kernel
theorem dX8_copy_81 : decode cX8_copy 81 = .ok (.ladd, 1) := by decide +kernel
theorem dX8_copy_82 : decode cX8_copy 82 = .ok (.aload_n 0, 1) := by decide +kernel
theorem dX8_copy_83 : decode cX8_copy 83 = .ok (.getfield 13, 3) := by decide +kernel
theorem dX8_copy_86 : decode cX8_copy 86 = .ok (.iload_n 1, 1) := by decide +kernel
theorem dX8_copy_87 : decode cX8_copy 87 = .ok (.iaload, 1) := by decide +kernel
theorem dX8_copy_88 : decode cX8_copy 88 = .ok (.i2l, 1) := by decide +kernel
theorem dX8_copy_89 : decode cX8_copy 89 = .ok (.lcmp, 1) := by decide +kernel
theorem dX8_copy_90 : decode cX8_copy 90 = .ok (.ifCond .gt 21, 3) := by decide +kernel
theorem dX8_copy_93 : decode cX8_copy 93 = .ok (.iload 4, 2) := by decide +kernel
theorem dX8_copy_95 : decode cX8_copy 95 = .ok (.i2l, 1) := by decide +kernel
theorem dX8_copy_96 : decode cX8_copy 96 = .ok (.iload 5, 2) := by decide +kernel
theorem dX8_copy_98 : decode cX8_copy 98 = .ok (.i2l, 1) := by decide +kernel
theorem dX8_copy_99 : decode cX8_copy 99 = .ok (.ladd, 1) := by decide +kernel
theorem dX8_copy_100 : decode cX8_copy 100 = .ok (.aload_n 0, 1) := by decide +kernel
theorem dX8_copy_101 : decode cX8_copy 101 = .ok (.getfield 13, 3) := by decide +kernel
theorem dX8_copy_104 : decode cX8_copy 104 = .ok (.iload_n 3, 1) := by decide +kernel
theorem dX8_copy_105 : decode cX8_copy 105 = .ok (.iaload, 1) := by decide +kernel
theorem dX8_copy_106 : decode cX8_copy 106 = .ok (.i2l, 1) := by decide +kernel
theorem dX8_copy_107 : decode cX8_copy 107 = .ok (.lcmp, 1) := by decide +kernel
theorem dX8_copy_108 : decode cX8_copy 108 = .ok (.ifCond .le 9, 3) := by decide +kernel
theorem dX8_copy_111 : decode cX8_copy 111 = .ok (.aload_n 0, 1) := by decide +kernel
theorem dX8_copy_112 : decode cX8_copy 112 = .ok (.iconst 2, 1) := by decide +kernel
theorem dX8_copy_113 : decode cX8_copy 113 = .ok (.invokevirtual 95, 3) := by decide +kernel
theorem dX8_copy_116 : decode cX8_copy 116 = .ok (.ireturn, 1) := by decide +kernel
theorem dX8_copy_117 : decode cX8_copy 117 = .ok (.iconst 0, 1) := by decide +kernel
theorem dX8_copy_118 : decode cX8_copy 118 = .ok (.istore 6, 2) := by decide +kernel
theorem dX8_copy_120 : decode cX8_copy 120 = .ok (.iload 6, 2) := by decide +kernel
theorem dX8_copy_122 : decode cX8_copy 122 = .ok (.iload 5, 2) := by decide +kernel
theorem dX8_copy_124 : decode cX8_copy 124 = .ok (.if_icmp .ge 30, 3) := by decide +kernel
theorem dX8_copy_127 : decode cX8_copy 127 = .ok (.aload_n 0, 1) := by decide +kernel
theorem dX8_copy_128 : decode cX8_copy 128 = .ok (.getfield 19, 3) := by decide +kernel
theorem dX8_copy_131 : decode cX8_copy 131 = .ok (.iload 6, 2) := by decide +kernel
theorem dX8_copy_133 : decode cX8_copy 133 = .ok (.aload_n 0, 1) := by decide +kernel
theorem dX8_copy_134 : decode cX8_copy 134 = .ok (.getfield 16, 3) := by decide +kernel
theorem dX8_copy_137 : decode cX8_copy 137 = .ok (.bipush 60, 2) := by decide +kernel
theorem dX8_copy_139 : decode cX8_copy 139 = .ok (.iload_n 1, 1) := by decide +kernel
theorem dX8_copy_140 : decode cX8_copy 140 = .ok (.imul, 1) := by decide +kernel
theorem dX8_copy_141 : decode cX8_copy 141 = .ok (.iload_n 2, 1) := by decide +kernel
theorem dX8_copy_142 : decode cX8_copy 142 = .ok (.iadd, 1) := by decide +kernel
theorem dX8_copy_143 : decode cX8_copy 143 = .ok (.iload 6, 2) := by decide +kernel
theorem dX8_copy_145 : decode cX8_copy 145 = .ok (.iadd, 1) := by decide +kernel
theorem dX8_copy_146 : decode cX8_copy 146 = .ok (.iaload, 1) := by decide +kernel
theorem dX8_copy_147 : decode cX8_copy 147 = .ok (.iastore, 1) := by decide +kernel
theorem dX8_copy_148 : decode cX8_copy 148 = .ok (.iinc 6 1, 3) := by decide +kernel
theorem dX8_copy_151 : decode cX8_copy 151 = .ok (.goto (-31), 3) := by decide +kernel
theorem dX8_copy_154 : decode cX8_copy 154 = .ok (.iconst 0, 1) := by decide +kernel
theorem dX8_copy_155 : decode cX8_copy 155 = .ok (.istore 6, 2) := by decide +kernel
theorem dX8_copy_157 : decode cX8_copy 157 = .ok (.iload 6, 2) := by decide +kernel
theorem dX8_copy_159 : decode cX8_copy 159 = .ok (.iload 5, 2) := by decide +kernel
theorem dX8_copy_161 : decode cX8_copy 161 = .ok (.if_icmp .ge 31, 3) := by decide +kernel
theorem dX8_copy_164 : decode cX8_copy 164 = .ok (.aload_n 0, 1) := by decide +kernel
theorem dX8_copy_165 : decode cX8_copy 165 = .ok (.getfield 16, 3) := by decide +kernel
theorem dX8_copy_168 : decode cX8_copy 168 = .ok (.bipush 60, 2) := by decide +kernel
theorem dX8_copy_170 : decode cX8_copy 170 = .ok (.iload_n 3, 1) := by decide +kernel
theorem dX8_copy_171 : decode cX8_copy 171 = .ok (.imul, 1) := by decide +kernel
theorem dX8_copy_172 : decode cX8_copy 172 = .ok (.iload 4, 2) := by decide +kernel
theorem dX8_copy_174 : decode cX8_copy 174 = .ok (.iadd, 1) := by decide +kernel
theorem dX8_copy_175 : decode cX8_copy 175 = .ok (.iload 6, 2) := by decide +kernel
theorem dX8_copy_177 : decode cX8_copy 177 = .ok (.iadd, 1) := by decide +kernel
theorem dX8_copy_178 : decode cX8_copy 178 = .ok (.aload_n 0, 1) := by decide +kernel
theorem dX8_copy_179 : decode cX8_copy 179 = .ok (.getfield 19, 3) := by decide +kernel
theorem dX8_copy_182 : decode cX8_copy 182 = .ok (.iload 6, 2) := by decide +kernel
theorem dX8_copy_184 : decode cX8_copy 184 = .ok (.iaload, 1) := by decide +kernel
theorem dX8_copy_185 : decode cX8_copy 185 = .ok (.iastore, 1) := by decide +kernel
theorem dX8_copy_186 : decode cX8_copy 186 = .ok (.iinc 6 1, 3) := by decide +kernel
theorem dX8_copy_189 : decode cX8_copy 189 = .ok (.goto (-32), 3) := by decide +kernel
theorem dX8_copy_192 : decode cX8_copy 192 = .ok (.iconst 1, 1) := by decide +kernel
theorem dX8_copy_193 : decode cX8_copy 193 = .ok (.ireturn, 1) := by decide +kernel
theorem dX8_type_0 : decode cX8_type 0 = .ok (.iload_n 1, 1) := by decide +kernel
theorem dX8_type_1 : decode cX8_type 1 = .ok (.invokestatic 108, 3) := by decide +kernel
theorem dX8_type_4 : decode cX8_type 4 = .ok (.ifCond .eq 15, 3) := by decide +kernel
theorem dX8_type_7 : decode cX8_type 7 = .ok (.iload_n 2, 1) := by decide +kernel
theorem dX8_type_8 : decode cX8_type 8 = .ok (.i2l, 1) := by decide +kernel
theorem dX8_type_9 : decode cX8_type 9 = .ok (.lconst 0, 1) := by decide +kernel
theorem dX8_type_10 : decode cX8_type 10 = .ok (.ldc2_w 111, 3) := by decide +kernel
theorem dX8_type_13 : decode cX8_type 13 = .ok (.invokestatic 80, 3) := by decide +kernel
theorem dX8_type_16 : decode cX8_type 16 = .ok (.ifCond .ne 6, 3) := by decide +kernel
theorem dX8_type_19 : decode cX8_type 19 = .ok (.bipush (-2), 2) := by decide +kernel
theorem dX8_type_21 : decode cX8_type 21 = .ok (.ireturn, 1) := by decide +kernel
theorem dX8_type_22 : decode cX8_type 22 = .ok (.aload_n 0, 1) := by decide +kernel
theorem dX8_type_23 : decode cX8_type 23 = .ok (.getfield 25, 3) := by decide +kernel
theorem dX8_type_26 : decode cX8_type 26 = .ok (.iload_n 1, 1) := by decide +kernel
theorem dX8_type_27 : decode cX8_type 27 = .ok (.iaload, 1) := by decide +kernel
theorem dX8_type_28 : decode cX8_type 28 = .ok (.bipush 20, 2) := by decide +kernel
theorem dX8_type_30 : decode cX8_type 30 = .ok (.if_icmp .ne 6, 3) := by decide +kernel
theorem dX8_type_33 : decode cX8_type 33 = .ok (.bipush (-4), 2) := by decide +kernel
theorem dX8_type_35 : decode cX8_type 35 = .ok (.ireturn, 1) := by decide +kernel
theorem dX8_type_36 : decode cX8_type 36 = .ok (.aload_n 0, 1) := by decide +kernel
theorem dX8_type_37 : decode cX8_type 37 = .ok (.getfield 22, 3) := by decide +kernel
theorem dX8_type_40 : decode cX8_type 40 = .ok (.bipush 20, 2) := by decide +kernel
theorem dX8_type_42 : decode cX8_type 42 = .ok (.iload_n 1, 1) := by decide +kernel
theorem dX8_type_43 : decode cX8_type 43 = .ok (.imul, 1) := by decide +kernel
theorem dX8_type_44 : decode cX8_type 44 = .ok (.aload_n 0, 1) := by decide +kernel
theorem dX8_type_45 : decode cX8_type 45 = .ok (.getfield 25, 3) := by decide +kernel
theorem dX8_type_48 : decode cX8_type 48 = .ok (.iload_n 1, 1) := by decide +kernel
theorem dX8_type_49 : decode cX8_type 49 = .ok (.iaload, 1) := by decide +kernel
theorem dX8_type_50 : decode cX8_type 50 = .ok (.iadd, 1) := by decide +kernel
theorem dX8_type_51 : decode cX8_type 51 = .ok (.iload_n 2, 1) := by decide +kernel
theorem dX8_type_52 : decode cX8_type 52 = .ok (.iastore, 1) := by decide +kernel
theorem dX8_type_53 : decode cX8_type 53 = .ok (.aload_n 0, 1) := by decide +kernel
theorem dX8_type_54 : decode cX8_type 54 = .ok (.getfield 25, 3) := by decide +kernel
theorem dX8_type_57 : decode cX8_type 57 = .ok (.iload_n 1, 1) := by decide +kernel
theorem dX8_type_58 : decode cX8_type 58 = .ok (.dup2, 1) := by decide +kernel
theorem dX8_type_59 : decode cX8_type 59 = .ok (.iaload, 1) := by decide +kernel
theorem dX8_type_60 : decode cX8_type 60 = .ok (.iconst 1, 1) := by decide +kernel
theorem dX8_type_61 : decode cX8_type 61 = .ok (.iadd, 1) := by decide +kernel
theorem dX8_type_62 : decode cX8_type 62 = .ok (.iastore, 1) := by decide +kernel
theorem dX8_type_63 : decode cX8_type 63 = .ok (.aload_n 0, 1) := by decide +kernel
theorem dX8_type_64 : decode cX8_type 64 = .ok (.getfield 25, 3) := by decide +kernel
theorem dX8_type_67 : decode cX8_type 67 = .ok (.iload_n 1, 1) := by decide +kernel
theorem dX8_type_68 : decode cX8_type 68 = .ok (.iaload, 1) := by decide +kernel
theorem dX8_type_69 : decode cX8_type 69 = .ok (.ireturn, 1) := by decide +kernel
theorem dX8_wipe_0 : decode cX8_wipe 0 = .ok (.iload_n 1, 1) := by decide +kernel
theorem dX8_wipe_1 : decode cX8_wipe 1 = .ok (.invokestatic 108, 3) := by decide +kernel
theorem dX8_wipe_4 : decode cX8_wipe 4 = .ok (.ifCond .ne 6, 3) := by decide +kernel
theorem dX8_wipe_7 : decode cX8_wipe 7 = .ok (.bipush (-2), 2) := by decide +kernel
theorem dX8_wipe_9 : decode cX8_wipe 9 = .ok (.ireturn, 1) := by decide +kernel
theorem dX8_wipe_10 : decode cX8_wipe 10 = .ok (.aload_n 0, 1) := by decide +kernel
theorem dX8_wipe_11 : decode cX8_wipe 11 = .ok (.getfield 25, 3) := by decide +kernel
theorem dX8_wipe_14 : decode cX8_wipe 14 = .ok (.iload_n 1, 1) := by decide +kernel
theorem dX8_wipe_15 : decode cX8_wipe 15 = .ok (.iaload, 1) := by decide +kernel
theorem dX8_wipe_16 : decode cX8_wipe 16 = .ok (.istore_n 2, 1) := by decide +kernel
theorem dX8_wipe_17 : decode cX8_wipe 17 = .ok (.aload_n 0, 1) := by decide +kernel
theorem dX8_wipe_18 : decode cX8_wipe 18 = .ok (.getfield 25, 3) := by decide +kernel
theorem dX8_wipe_21 : decode cX8_wipe 21 = .ok (.iload_n 1, 1) := by decide +kernel
theorem dX8_wipe_22 : decode cX8_wipe 22 = .ok (.iconst 0, 1) := by decide +kernel
theorem dX8_wipe_23 : decode cX8_wipe 23 = .ok (.iastore, 1) := by decide +kernel
theorem dX8_wipe_24 : decode cX8_wipe 24 = .ok (.iload_n 2, 1) := by decide +kernel
theorem dX8_wipe_25 : decode cX8_wipe 25 = .ok (.ireturn, 1) := by decide +kernel
theorem dX8_here_0 : decode cX8_here 0 = .ok (.aload_n 0, 1) := by decide +kernel
theorem dX8_here_1 : decode cX8_here 1 = .ok (.getfield 113, 3) := by decide +kernel
theorem dX8_here_4 : decode cX8_here 4 = .ok (.aload_n 0, 1) := by decide +kernel
theorem dX8_here_5 : decode cX8_here 5 = .ok (.getfield 25, 3) := by decide +kernel
theorem dX8_here_8 : decode cX8_here 8 = .ok (.iload_n 1, 1) := by decide +kernel
theorem dX8_here_9 : decode cX8_here 9 = .ok (.iaload, 1) := by decide +kernel
theorem dX8_here_10 : decode cX8_here 10 = .ok (.if_icmp .ge 20, 3) := by decide +kernel
theorem dX8_here_13 : decode cX8_here 13 = .ok (.aload_n 0, 1) := by decide +kernel
theorem dX8_here_14 : decode cX8_here 14 = .ok (.getfield 22, 3) := by decide +kernel
theorem dX8_here_17 : decode cX8_here 17 = .ok (.bipush 20, 2) := by decide +kernel
theorem dX8_here_19 : decode cX8_here 19 = .ok (.iload_n 1, 1) := by decide +kernel
theorem dX8_here_20 : decode cX8_here 20 = .ok (.imul, 1) := by decide +kernel
theorem dX8_here_21 : decode cX8_here 21 = .ok (.aload_n 0, 1) := by decide +kernel
theorem dX8_here_22 : decode cX8_here 22 = .ok (.getfield 113, 3) := by decide +kernel
theorem dX8_here_25 : decode cX8_here 25 = .ok (.iadd, 1) := by decide +kernel
theorem dX8_here_26 : decode cX8_here 26 = .ok (.iaload, 1) := by decide +kernel
theorem dX8_here_27 : decode cX8_here 27 = .ok (.goto 4, 3) := by decide +kernel
theorem dX8_here_30 : decode cX8_here 30 = .ok (.iconst (-1), 1) := by decide +kernel
theorem dX8_here_31 : decode cX8_here 31 = .ok (.ireturn, 1) := by decide +kernel
theorem dX8_noSeats_0 : decode cX8_noSeats 0 = .ok (.aload_n 0, 1) := by decide +kernel
theorem dX8_noSeats_1 : decode cX8_noSeats 1 = .ok (.iconst 0, 1) := by decide +kernel
theorem dX8_noSeats_2 : decode cX8_noSeats 2 = .ok (.putfield 116, 3) := by decide +kernel
theorem dX8_noSeats_5 : decode cX8_noSeats 5 = .ok (.aload_n 0, 1) := by decide +kernel
theorem dX8_noSeats_6 : decode cX8_noSeats 6 = .ok (.iconst 0, 1) := by decide +kernel
theorem dX8_noSeats_7 : decode cX8_noSeats 7 = .ok (.putfield 119, 3) := by decide +kernel
theorem dX8_noSeats_10 : decode cX8_noSeats 10 = .ok (.aload_n 0, 1) := by decide +kernel
theorem dX8_noSeats_11 : decode cX8_noSeats 11 = .ok (.getfield 113, 3) := by decide +kernel
theorem dX8_noSeats_14 : decode cX8_noSeats 14 = .ok (.ireturn, 1) := by decide +kernel
theorem dX8_readsSeats_0 : decode cX8_readsSeats 0 = .ok (.aload_n 0, 1) := by decide +kernel
theorem dX8_readsSeats_1 : decode cX8_readsSeats 1 = .ok (.iconst 0, 1) := by decide +kernel
theorem dX8_readsSeats_2 : decode cX8_readsSeats 2 = .ok (.putfield 113, 3) := by decide +kernel
theorem dX8_readsSeats_5 : decode cX8_readsSeats 5 = .ok (.aload_n 0, 1) := by decide +kernel
theorem dX8_readsSeats_6 : decode cX8_readsSeats 6 = .ok (.iconst 0, 1) := by decide +kernel
theorem dX8_readsSeats_7 : decode cX8_readsSeats 7 = .ok (.putfield 116, 3) := by decide +kernel
theorem dX8_readsSeats_10 : decode cX8_readsSeats 10 = .ok (.aload_n 0, 1) := by decide +kernel
theorem dX8_readsSeats_11 : decode cX8_readsSeats 11 = .ok (.iconst 0, 1) := by decide +kernel
theorem dX8_readsSeats_12 : decode cX8_readsSeats 12 = .ok (.putfield 119, 3) := by decide +kernel
theorem dX8_readsSeats_15 : decode cX8_readsSeats 15 = .ok (.iconst 1, 1) := by decide +kernel
theorem dX8_readsSeats_16 : decode cX8_readsSeats 16 = .ok (.istore_n 1, 1) := by decide +kernel
theorem dX8_readsSeats_17 : decode cX8_readsSeats 17 = .ok (.iconst 1, 1) := by decide +kernel
theorem dX8_readsSeats_18 : decode cX8_readsSeats 18 = .ok (.istore_n 2, 1) := by decide +kernel
theorem dX8_readsSeats_19 : decode cX8_readsSeats 19 = .ok (.iload_n 1, 1) := by decide +kernel
theorem dX8_readsSeats_20 : decode cX8_readsSeats 20 = .ok (.ifCond .eq 172, 3) := by decide +kernel
theorem dX8_readsSeats_23 : decode cX8_readsSeats 23 = .ok (.aload_n 0, 1) := by decide +kernel
theorem dX8_readsSeats_24 : decode cX8_readsSeats 24 = .ok (.iconst 0, 1) := by decide +kernel
theorem dX8_readsSeats_25 : decode cX8_readsSeats 25 = .ok (.invokevirtual 122, 3) := by decide +kernel
theorem dX8_readsSeats_28 : decode cX8_readsSeats 28 = .ok (.istore_n 3, 1) := by decide +kernel
theorem dX8_readsSeats_29 : decode cX8_readsSeats 29 = .ok (.iload_n 3, 1) := by decide +kernel
theorem dX8_readsSeats_30 : decode cX8_readsSeats 30 = .ok (.bipush 119, 2) := by decide +kernel
theorem dX8_readsSeats_32 : decode cX8_readsSeats 32 = .ok (.if_icmp .ne 7, 3) := by decide +kernel
theorem dX8_readsSeats_35 : decode cX8_readsSeats 35 = .ok (.iconst 0, 1) := by decide +kernel
theorem dX8_readsSeats_36 : decode cX8_readsSeats 36 = .ok (.goto 24, 3) := by decide +kernel
theorem dX8_readsSeats_39 : decode cX8_readsSeats 39 = .ok (.iload_n 3, 1) := by decide +kernel
theorem dX8_readsSeats_40 : decode cX8_readsSeats 40 = .ok (.bipush 109, 2) := by decide +kernel
theorem dX8_readsSeats_42 : decode cX8_readsSeats 42 = .ok (.if_icmp .ne 7, 3) := by decide +kernel
theorem dX8_readsSeats_45 : decode cX8_readsSeats 45 = .ok (.iconst 1, 1) := by decide +kernel
theorem dX8_readsSeats_46 : decode cX8_readsSeats 46 = .ok (.goto 14, 3) := by decide +kernel
theorem dX8_readsSeats_49 : decode cX8_readsSeats 49 = .ok (.iload_n 3, 1) := by decide +kernel
theorem dX8_readsSeats_50 : decode cX8_readsSeats 50 = .ok (.bipush 97, 2) := by decide +kernel
theorem dX8_readsSeats_52 : decode cX8_readsSeats 52 = .ok (.if_icmp .ne 7, 3) := by decide +kernel
theorem dX8_readsSeats_55 : decode cX8_readsSeats 55 = .ok (.iconst 2, 1) := by decide +kernel
theorem dX8_readsSeats_56 : decode cX8_readsSeats 56 = .ok (.goto 4, 3) := by decide +kernel
theorem dX8_readsSeats_59 : decode cX8_readsSeats 59 = .ok (.iconst (-1), 1) := by decide +kernel
theorem dX8_readsSeats_60 : decode cX8_readsSeats 60 = .ok (.istore 4, 2) := by decide +kernel
theorem dX8_readsSeats_62 : decode cX8_readsSeats 62 = .ok (.iload 4, 2) := by decide +kernel
theorem dX8_readsSeats_64 : decode cX8_readsSeats 64 = .ok (.iconst (-1), 1) := by decide +kernel
theorem dX8_readsSeats_65 : decode cX8_readsSeats 65 = .ok (.if_icmp .eq 71, 3) := by decide +kernel
theorem dX8_readsSeats_68 : decode cX8_readsSeats 68 = .ok (.aload_n 0, 1) := by decide +kernel
theorem dX8_readsSeats_69 : decode cX8_readsSeats 69 = .ok (.getfield 116, 3) := by decide +kernel
theorem dX8_readsSeats_72 : decode cX8_readsSeats 72 = .ok (.bipush 8, 2) := by decide +kernel
theorem dX8_readsSeats_74 : decode cX8_readsSeats 74 = .ok (.if_icmp .ge 62, 3) := by decide +kernel
theorem dX8_readsSeats_77 : decode cX8_readsSeats 77 = .ok (.aload_n 0, 1) := by decide +kernel
theorem dX8_readsSeats_78 : decode cX8_readsSeats 78 = .ok (.dup, 1) := by decide +kernel
theorem dX8_readsSeats_79 : decode cX8_readsSeats 79 = .ok (.getfield 119, 3) := by decide +kernel
theorem dX8_readsSeats_82 : decode cX8_readsSeats 82 = .ok (.iload_n 2, 1) := by decide +kernel
theorem dX8_readsSeats_83 : decode cX8_readsSeats 83 = .ok (.ifCond .eq 7, 3) := by decide +kernel
theorem dX8_readsSeats_86 : decode cX8_readsSeats 86 = .ok (.iconst 1, 1) := by decide +kernel
theorem dX8_readsSeats_87 : decode cX8_readsSeats 87 = .ok (.goto 4, 3) := by decide +kernel
theorem dX8_readsSeats_90 : decode cX8_readsSeats 90 = .ok (.iconst 0, 1) := by decide +kernel
theorem dX8_readsSeats_91 : decode cX8_readsSeats 91 = .ok (.iadd, 1) := by decide +kernel
theorem dX8_readsSeats_92 : decode cX8_readsSeats 92 = .ok (.putfield 119, 3) := by decide +kernel
theorem dX8_readsSeats_95 : decode cX8_readsSeats 95 = .ok (.aload_n 0, 1) := by decide +kernel
theorem dX8_readsSeats_96 : decode cX8_readsSeats 96 = .ok (.getfield 28, 3) := by decide +kernel
theorem dX8_readsSeats_99 : decode cX8_readsSeats 99 = .ok (.aload_n 0, 1) := by decide +kernel
theorem dX8_readsSeats_100 : decode cX8_readsSeats 100 = .ok (.getfield 116, 3) := by decide +kernel
theorem dX8_readsSeats_103 : decode cX8_readsSeats 103 = .ok (.iload 4, 2) := by decide +kernel
theorem dX8_readsSeats_105 : decode cX8_readsSeats 105 = .ok (.iastore, 1) := by decide +kernel
theorem dX8_readsSeats_106 : decode cX8_readsSeats 106 = .ok (.aload_n 0, 1) := by decide +kernel
theorem dX8_readsSeats_107 : decode cX8_readsSeats 107 = .ok (.getfield 31, 3) := by decide +kernel
theorem dX8_readsSeats_110 : decode cX8_readsSeats 110 = .ok (.aload_n 0, 1) := by decide +kernel
theorem dX8_readsSeats_111 : decode cX8_readsSeats 111 = .ok (.getfield 116, 3) := by decide +kernel
theorem dX8_readsSeats_114 : decode cX8_readsSeats 114 = .ok (.aload_n 0, 1) := by decide +kernel
theorem dX8_readsSeats_115 : decode cX8_readsSeats 115 = .ok (.getfield 119, 3) := by decide +kernel
theorem dX8_readsSeats_118 : decode cX8_readsSeats 118 = .ok (.iconst 1, 1) := by decide +kernel
theorem dX8_readsSeats_119 : decode cX8_readsSeats 119 = .ok (.isub, 1) := by decide +kernel
theorem dX8_readsSeats_120 : decode cX8_readsSeats 120 = .ok (.iastore, 1) := by decide +kernel
theorem dX8_readsSeats_121 : decode cX8_readsSeats 121 = .ok (.aload_n 0, 1) := by decide +kernel
theorem dX8_readsSeats_122 : decode cX8_readsSeats 122 = .ok (.dup, 1) := by decide +kernel
theorem dX8_readsSeats_123 : decode cX8_readsSeats 123 = .ok (.getfield 116, 3) := by decide +kernel
theorem dX8_readsSeats_126 : decode cX8_readsSeats 126 = .ok (.iconst 1, 1) := by decide +kernel
theorem dX8_readsSeats_127 : decode cX8_readsSeats 127 = .ok (.iadd, 1) := by decide +kernel
theorem dX8_readsSeats_128 : decode cX8_readsSeats 128 = .ok (.putfield 116, 3) := by decide +kernel
theorem dX8_readsSeats_131 : decode cX8_readsSeats 131 = .ok (.iconst 0, 1) := by decide +kernel
theorem dX8_readsSeats_132 : decode cX8_readsSeats 132 = .ok (.istore_n 2, 1) := by decide +kernel
theorem dX8_readsSeats_133 : decode cX8_readsSeats 133 = .ok (.goto 23, 3) := by decide +kernel
theorem dX8_readsSeats_136 : decode cX8_readsSeats 136 = .ok (.iload_n 3, 1) := by decide +kernel
theorem dX8_readsSeats_137 : decode cX8_readsSeats 137 = .ok (.bipush 59, 2) := by decide +kernel
theorem dX8_readsSeats_139 : decode cX8_readsSeats 139 = .ok (.if_icmp .ne 12, 3) := by decide +kernel
theorem dX8_readsSeats_142 : decode cX8_readsSeats 142 = .ok (.iload_n 2, 1) := by decide +kernel
theorem dX8_readsSeats_143 : decode cX8_readsSeats 143 = .ok (.ifCond .ne 8, 3) := by decide +kernel
theorem dX8_readsSeats_146 : decode cX8_readsSeats 146 = .ok (.iconst 1, 1) := by decide +kernel
theorem dX8_readsSeats_147 : decode cX8_readsSeats 147 = .ok (.istore_n 2, 1) := by decide +kernel
theorem dX8_readsSeats_148 : decode cX8_readsSeats 148 = .ok (.goto 8, 3) := by decide +kernel
theorem dX8_readsSeats_151 : decode cX8_readsSeats 151 = .ok (.aload_n 0, 1) := by decide +kernel
theorem dX8_readsSeats_152 : decode cX8_readsSeats 152 = .ok (.invokevirtual 125, 3) := by decide +kernel
theorem dX8_readsSeats_155 : decode cX8_readsSeats 155 = .ok (.ireturn, 1) := by decide +kernel
theorem dX8_readsSeats_156 : decode cX8_readsSeats 156 = .ok (.aload_n 0, 1) := by decide +kernel
theorem dX8_readsSeats_157 : decode cX8_readsSeats 157 = .ok (.dup, 1) := by decide +kernel
theorem dX8_readsSeats_158 : decode cX8_readsSeats 158 = .ok (.getfield 113, 3) := by decide +kernel
theorem dX8_readsSeats_161 : decode cX8_readsSeats 161 = .ok (.iconst 1, 1) := by decide +kernel
theorem dX8_readsSeats_162 : decode cX8_readsSeats 162 = .ok (.iadd, 1) := by decide +kernel
theorem dX8_readsSeats_163 : decode cX8_readsSeats 163 = .ok (.putfield 113, 3) := by decide +kernel
theorem dX8_readsSeats_166 : decode cX8_readsSeats 166 = .ok (.aload_n 0, 1) := by decide +kernel
theorem dX8_readsSeats_167 : decode cX8_readsSeats 167 = .ok (.getfield 113, 3) := by decide +kernel
theorem dX8_readsSeats_170 : decode cX8_readsSeats 170 = .ok (.aload_n 0, 1) := by decide +kernel
theorem dX8_readsSeats_171 : decode cX8_readsSeats 171 = .ok (.getfield 25, 3) := by decide +kernel
theorem dX8_readsSeats_174 : decode cX8_readsSeats 174 = .ok (.iconst 0, 1) := by decide +kernel
theorem dX8_readsSeats_175 : decode cX8_readsSeats 175 = .ok (.iaload, 1) := by decide +kernel
theorem dX8_readsSeats_176 : decode cX8_readsSeats 176 = .ok (.if_icmp .lt 7, 3) := by decide +kernel
theorem dX8_readsSeats_179 : decode cX8_readsSeats 179 = .ok (.iload_n 2, 1) := by decide +kernel
theorem dX8_readsSeats_180 : decode cX8_readsSeats 180 = .ok (.ifCond .eq 7, 3) := by decide +kernel
theorem dX8_readsSeats_183 : decode cX8_readsSeats 183 = .ok (.iconst 1, 1) := by decide +kernel
theorem dX8_readsSeats_184 : decode cX8_readsSeats 184 = .ok (.goto 4, 3) := by decide +kernel
theorem dX8_readsSeats_187 : decode cX8_readsSeats 187 = .ok (.iconst 0, 1) := by decide +kernel
theorem dX8_readsSeats_188 : decode cX8_readsSeats 188 = .ok (.istore_n 1, 1) := by decide +kernel
theorem dX8_readsSeats_189 : decode cX8_readsSeats 189 = .ok (.goto (-170), 3) := by decide +kernel
theorem dX8_readsSeats_192 : decode cX8_readsSeats 192 = .ok (.iconst (-1), 1) := by decide +kernel
theorem dX8_readsSeats_193 : decode cX8_readsSeats 193 = .ok (.ireturn, 1) := by decide +kernel
theorem dX8_kindOf_0 : decode cX8_kindOf 0 = .ok (.iload_n 0, 1) := by decide +kernel
theorem dX8_kindOf_1 : decode cX8_kindOf 1 = .ok (.bipush 111, 2) := by decide +kernel
theorem dX8_kindOf_3 : decode cX8_kindOf 3 = .ok (.if_icmp .ne 7, 3) := by decide +kernel
theorem dX8_kindOf_6 : decode cX8_kindOf 6 = .ok (.iconst 0, 1) := by decide +kernel
theorem dX8_kindOf_7 : decode cX8_kindOf 7 = .ok (.goto 34, 3) := by decide +kernel
theorem dX8_kindOf_10 : decode cX8_kindOf 10 = .ok (.iload_n 0, 1) := by decide +kernel
theorem dX8_kindOf_11 : decode cX8_kindOf 11 = .ok (.bipush 108, 2) := by decide +kernel
theorem dX8_kindOf_13 : decode cX8_kindOf 13 = .ok (.if_icmp .ne 7, 3) := by decide +kernel
theorem dX8_kindOf_16 : decode cX8_kindOf 16 = .ok (.iconst 1, 1) := by decide +kernel
theorem dX8_kindOf_17 : decode cX8_kindOf 17 = .ok (.goto 24, 3) := by decide +kernel
theorem dX8_kindOf_20 : decode cX8_kindOf 20 = .ok (.iload_n 0, 1) := by decide +kernel
theorem dX8_kindOf_21 : decode cX8_kindOf 21 = .ok (.bipush 110, 2) := by decide +kernel
theorem dX8_kindOf_23 : decode cX8_kindOf 23 = .ok (.if_icmp .ne 7, 3) := by decide +kernel
theorem dX8_kindOf_26 : decode cX8_kindOf 26 = .ok (.iconst 2, 1) := by decide +kernel
theorem dX8_kindOf_27 : decode cX8_kindOf 27 = .ok (.goto 14, 3) := by decide +kernel
theorem dX8_kindOf_30 : decode cX8_kindOf 30 = .ok (.iload_n 0, 1) := by decide +kernel
theorem dX8_kindOf_31 : decode cX8_kindOf 31 = .ok (.bipush 115, 2) := by decide +kernel
theorem dX8_kindOf_33 : decode cX8_kindOf 33 = .ok (.if_icmp .ne 7, 3) := by decide +kernel
theorem dX8_kindOf_36 : decode cX8_kindOf 36 = .ok (.iconst 3, 1) := by decide +kernel
theorem dX8_kindOf_37 : decode cX8_kindOf 37 = .ok (.goto 4, 3) := by decide +kernel
theorem dX8_kindOf_40 : decode cX8_kindOf 40 = .ok (.iconst (-1), 1) := by decide +kernel
theorem dX8_kindOf_41 : decode cX8_kindOf 41 = .ok (.ireturn, 1) := by decide +kernel
theorem dX8_nobody_0 : decode cX8_nobody 0 = .ok (.aload_n 0, 1) := by decide +kernel
theorem dX8_nobody_1 : decode cX8_nobody 1 = .ok (.iconst 0, 1) := by decide +kernel
theorem dX8_nobody_2 : decode cX8_nobody 2 = .ok (.putfield 129, 3) := by decide +kernel
theorem dX8_nobody_5 : decode cX8_nobody 5 = .ok (.aload_n 0, 1) := by decide +kernel
theorem dX8_nobody_6 : decode cX8_nobody 6 = .ok (.getfield 113, 3) := by decide +kernel
theorem dX8_nobody_9 : decode cX8_nobody 9 = .ok (.ireturn, 1) := by decide +kernel
theorem dX8_readsPeople_0 : decode cX8_readsPeople 0 = .ok (.aload_n 0, 1) := by decide +kernel
theorem dX8_readsPeople_1 : decode cX8_readsPeople 1 = .ok (.iconst 0, 1) := by decide +kernel
theorem dX8_readsPeople_2 : decode cX8_readsPeople 2 = .ok (.putfield 113, 3) := by decide +kernel
theorem dX8_readsPeople_5 : decode cX8_readsPeople 5 = .ok (.aload_n 0, 1) := by decide +kernel
theorem dX8_readsPeople_6 : decode cX8_readsPeople 6 = .ok (.iconst 0, 1) := by decide +kernel
theorem dX8_readsPeople_7 : decode cX8_readsPeople 7 = .ok (.putfield 129, 3) := by decide +kernel
theorem dX8_readsPeople_10 : decode cX8_readsPeople 10 = .ok (.aload_n 0, 1) := by decide +kernel
theorem dX8_readsPeople_11 : decode cX8_readsPeople 11 = .ok (.getfield 113, 3) := by decide +kernel
theorem dX8_readsPeople_14 : decode cX8_readsPeople 14 = .ok (.aload_n 0, 1) := by decide +kernel
theorem dX8_readsPeople_15 : decode cX8_readsPeople 15 = .ok (.getfield 25, 3) := by decide +kernel
theorem dX8_readsPeople_18 : decode cX8_readsPeople 18 = .ok (.iconst 1, 1) := by decide +kernel
theorem dX8_readsPeople_19 : decode cX8_readsPeople 19 = .ok (.iaload, 1) := by decide +kernel
theorem dX8_readsPeople_20 : decode cX8_readsPeople 20 = .ok (.if_icmp .ge 116, 3) := by decide +kernel
theorem dX8_readsPeople_23 : decode cX8_readsPeople 23 = .ok (.aload_n 0, 1) := by decide +kernel
theorem dX8_readsPeople_24 : decode cX8_readsPeople 24 = .ok (.iconst 1, 1) := by decide +kernel
theorem dX8_readsPeople_25 : decode cX8_readsPeople 25 = .ok (.invokevirtual 122, 3) := by decide +kernel
theorem dX8_readsPeople_28 : decode cX8_readsPeople 28 = .ok (.bipush 48, 2) := by decide +kernel
theorem dX8_readsPeople_30 : decode cX8_readsPeople 30 = .ok (.isub, 1) := by decide +kernel
theorem dX8_readsPeople_31 : decode cX8_readsPeople 31 = .ok (.istore_n 1, 1) := by decide +kernel
theorem dX8_readsPeople_32 : decode cX8_readsPeople 32 = .ok (.aload_n 0, 1) := by decide +kernel
theorem dX8_readsPeople_33 : decode cX8_readsPeople 33 = .ok (.getfield 129, 3) := by decide +kernel
theorem dX8_readsPeople_36 : decode cX8_readsPeople 36 = .ok (.aload_n 0, 1) := by decide +kernel
theorem dX8_readsPeople_37 : decode cX8_readsPeople 37 = .ok (.getfield 116, 3) := by decide +kernel
theorem dX8_readsPeople_40 : decode cX8_readsPeople 40 = .ok (.if_icmp .eq 19, 3) := by decide +kernel
theorem dX8_readsPeople_43 : decode cX8_readsPeople 43 = .ok (.iload_n 1, 1) := by decide +kernel
theorem dX8_readsPeople_44 : decode cX8_readsPeople 44 = .ok (.i2l, 1) := by decide +kernel
theorem dX8_readsPeople_45 : decode cX8_readsPeople 45 = .ok (.lconst 0, 1) := by decide +kernel
theorem dX8_readsPeople_46 : decode cX8_readsPeople 46 = .ok (.aload_n 0, 1) := by decide +kernel
theorem dX8_readsPeople_47 : decode cX8_readsPeople 47 = .ok (.getfield 116, 3) := by decide +kernel
theorem dX8_readsPeople_50 : decode cX8_readsPeople 50 = .ok (.iconst 1, 1) := by decide +kernel
theorem dX8_readsPeople_51 : decode cX8_readsPeople 51 = .ok (.isub, 1) := by decide +kernel
theorem dX8_readsPeople_52 : decode cX8_readsPeople 52 = .ok (.i2l, 1) := by decide +kernel
theorem dX8_readsPeople_53 : decode cX8_readsPeople 53 = .ok (.invokestatic 80, 3) := by decide +kernel
theorem dX8_readsPeople_56 : decode cX8_readsPeople 56 = .ok (.ifCond .ne 8, 3) := by decide +kernel
theorem dX8_readsPeople_59 : decode cX8_readsPeople 59 = .ok (.aload_n 0, 1) := by decide +kernel
theorem dX8_readsPeople_60 : decode cX8_readsPeople 60 = .ok (.invokevirtual 132, 3) := by decide +kernel
theorem dX8_readsPeople_63 : decode cX8_readsPeople 63 = .ok (.ireturn, 1) := by decide +kernel
theorem dX8_readsPeople_64 : decode cX8_readsPeople 64 = .ok (.aload_n 0, 1) := by decide +kernel
theorem dX8_readsPeople_65 : decode cX8_readsPeople 65 = .ok (.dup, 1) := by decide +kernel
theorem dX8_readsPeople_66 : decode cX8_readsPeople 66 = .ok (.getfield 113, 3) := by decide +kernel
theorem dX8_readsPeople_69 : decode cX8_readsPeople 69 = .ok (.iconst 1, 1) := by decide +kernel
theorem dX8_readsPeople_70 : decode cX8_readsPeople 70 = .ok (.iadd, 1) := by decide +kernel
theorem dX8_readsPeople_71 : decode cX8_readsPeople 71 = .ok (.putfield 113, 3) := by decide +kernel
theorem dX8_readsPeople_74 : decode cX8_readsPeople 74 = .ok (.aload_n 0, 1) := by decide +kernel
theorem dX8_readsPeople_75 : decode cX8_readsPeople 75 = .ok (.iconst 1, 1) := by decide +kernel
theorem dX8_readsPeople_76 : decode cX8_readsPeople 76 = .ok (.invokevirtual 122, 3) := by decide +kernel
theorem dX8_readsPeople_79 : decode cX8_readsPeople 79 = .ok (.invokestatic 135, 3) := by decide +kernel
theorem dX8_readsPeople_82 : decode cX8_readsPeople 82 = .ok (.istore_n 2, 1) := by decide +kernel
theorem dX8_readsPeople_83 : decode cX8_readsPeople 83 = .ok (.iload_n 2, 1) := by decide +kernel
theorem dX8_readsPeople_84 : decode cX8_readsPeople 84 = .ok (.iconst (-1), 1) := by decide +kernel
theorem dX8_readsPeople_85 : decode cX8_readsPeople 85 = .ok (.if_icmp .ne 8, 3) := by decide +kernel
theorem dX8_readsPeople_88 : decode cX8_readsPeople 88 = .ok (.aload_n 0, 1) := by decide +kernel
theorem dX8_readsPeople_89 : decode cX8_readsPeople 89 = .ok (.invokevirtual 132, 3) := by decide +kernel
theorem dX8_readsPeople_92 : decode cX8_readsPeople 92 = .ok (.ireturn, 1) := by decide +kernel
theorem dX8_readsPeople_93 : decode cX8_readsPeople 93 = .ok (.aload_n 0, 1) := by decide +kernel
theorem dX8_readsPeople_94 : decode cX8_readsPeople 94 = .ok (.dup, 1) := by decide +kernel
theorem dX8_readsPeople_95 : decode cX8_readsPeople 95 = .ok (.getfield 113, 3) := by decide +kernel
theorem dX8_readsPeople_98 : decode cX8_readsPeople 98 = .ok (.iconst 1, 1) := by decide +kernel
theorem dX8_readsPeople_99 : decode cX8_readsPeople 99 = .ok (.iadd, 1) := by decide +kernel
theorem dX8_readsPeople_100 : decode cX8_readsPeople 100 = .ok (.putfield 113, 3) := by decide +kernel
theorem dX8_readsPeople_103 : decode cX8_readsPeople 103 = .ok (.aload_n 0, 1) := by decide +kernel
theorem dX8_readsPeople_104 : decode cX8_readsPeople 104 = .ok (.getfield 34, 3) := by decide +kernel
theorem dX8_readsPeople_107 : decode cX8_readsPeople 107 = .ok (.aload_n 0, 1) := by decide +kernel
theorem dX8_readsPeople_108 : decode cX8_readsPeople 108 = .ok (.getfield 129, 3) := by decide +kernel
theorem dX8_readsPeople_111 : decode cX8_readsPeople 111 = .ok (.iload_n 1, 1) := by decide +kernel
theorem dX8_readsPeople_112 : decode cX8_readsPeople 112 = .ok (.iastore, 1) := by decide +kernel
theorem dX8_readsPeople_113 : decode cX8_readsPeople 113 = .ok (.aload_n 0, 1) := by decide +kernel
theorem dX8_readsPeople_114 : decode cX8_readsPeople 114 = .ok (.getfield 37, 3) := by decide +kernel
theorem dX8_readsPeople_117 : decode cX8_readsPeople 117 = .ok (.aload_n 0, 1) := by decide +kernel
theorem dX8_readsPeople_118 : decode cX8_readsPeople 118 = .ok (.getfield 129, 3) := by decide +kernel
theorem dX8_readsPeople_121 : decode cX8_readsPeople 121 = .ok (.iload_n 2, 1) := by decide +kernel
theorem dX8_readsPeople_122 : decode cX8_readsPeople 122 = .ok (.iastore, 1) := by decide +kernel
theorem dX8_readsPeople_123 : decode cX8_readsPeople 123 = .ok (.aload_n 0, 1) := by decide +kernel
theorem dX8_readsPeople_124 : decode cX8_readsPeople 124 = .ok (.dup, 1) := by decide +kernel
theorem dX8_readsPeople_125 : decode cX8_readsPeople 125 = .ok (.getfield 129, 3) := by decide +kernel
theorem dX8_readsPeople_128 : decode cX8_readsPeople 128 = .ok (.iconst 1, 1) := by decide +kernel
theorem dX8_readsPeople_129 : decode cX8_readsPeople 129 = .ok (.iadd, 1) := by decide +kernel
theorem dX8_readsPeople_130 : decode cX8_readsPeople 130 = .ok (.putfield 129, 3) := by decide +kernel
theorem dX8_readsPeople_133 : decode cX8_readsPeople 133 = .ok (.goto (-123), 3) := by decide +kernel
theorem dX8_readsPeople_136 : decode cX8_readsPeople 136 = .ok (.iconst (-1), 1) := by decide +kernel
theorem dX8_readsPeople_137 : decode cX8_readsPeople 137 = .ok (.ireturn, 1) := by decide +kernel
theorem dX8_find_0 : decode cX8_find 0 = .ok (.aload_n 0, 1) := by decide +kernel
theorem dX8_find_1 : decode cX8_find 1 = .ok (.invokevirtual 138, 3) := by decide +kernel
theorem dX8_find_4 : decode cX8_find 4 = .ok (.pop, 1) := by decide +kernel
theorem dX8_find_5 : decode cX8_find 5 = .ok (.aload_n 0, 1) := by decide +kernel
theorem dX8_find_6 : decode cX8_find 6 = .ok (.invokevirtual 141, 3) := by decide +kernel
theorem dX8_find_9 : decode cX8_find 9 = .ok (.pop, 1) := by decide +kernel
theorem dX8_find_10 : decode cX8_find 10 = .ok (.return_, 1) := by decide +kernel
theorem dX8_faultOf_0 : decode cX8_faultOf 0 = .ok (.aload_n 0, 1) := by decide +kernel
theorem dX8_faultOf_1 : decode cX8_faultOf 1 = .ok (.invokevirtual 138, 3) := by decide +kernel
theorem dX8_faultOf_4 : decode cX8_faultOf 4 = .ok (.istore_n 2, 1) := by decide +kernel
theorem dX8_faultOf_5 : decode cX8_faultOf 5 = .ok (.aload_n 0, 1) := by decide +kernel
theorem dX8_faultOf_6 : decode cX8_faultOf 6 = .ok (.invokevirtual 141, 3) := by decide +kernel
theorem dX8_faultOf_9 : decode cX8_faultOf 9 = .ok (.istore_n 3, 1) := by decide +kernel
theorem dX8_faultOf_10 : decode cX8_faultOf 10 = .ok (.iload_n 1, 1) := by decide +kernel
theorem dX8_faultOf_11 : decode cX8_faultOf 11 = .ok (.ifCond .ne 7, 3) := by decide +kernel
theorem dX8_faultOf_14 : decode cX8_faultOf 14 = .ok (.iload_n 2, 1) := by decide +kernel
theorem dX8_faultOf_15 : decode cX8_faultOf 15 = .ok (.goto 4, 3) := by decide +kernel
theorem dX8_faultOf_18 : decode cX8_faultOf 18 = .ok (.iload_n 3, 1) := by decide +kernel
theorem dX8_faultOf_19 : decode cX8_faultOf 19 = .ok (.ireturn, 1) := by decide +kernel
theorem dX8_fault_0 : decode cX8_fault 0 = .ok (.iload_n 1, 1) := by decide +kernel
theorem dX8_fault_1 : decode cX8_fault 1 = .ok (.invokestatic 108, 3) := by decide +kernel
theorem dX8_fault_4 : decode cX8_fault 4 = .ok (.ifCond .eq 11, 3) := by decide +kernel
theorem dX8_fault_7 : decode cX8_fault 7 = .ok (.aload_n 0, 1) := by decide +kernel
theorem dX8_fault_8 : decode cX8_fault 8 = .ok (.iload_n 1, 1) := by decide +kernel
theorem dX8_fault_9 : decode cX8_fault 9 = .ok (.invokevirtual 144, 3) := by decide +kernel
theorem dX8_fault_12 : decode cX8_fault 12 = .ok (.goto 5, 3) := by decide +kernel
theorem dX8_fault_15 : decode cX8_fault 15 = .ok (.bipush (-2), 2) := by decide +kernel
theorem dX8_fault_17 : decode cX8_fault 17 = .ok (.ireturn, 1) := by decide +kernel
theorem dX8_isSeat_0 : decode cX8_isSeat 0 = .ok (.aload_n 0, 1) := by decide +kernel
theorem dX8_isSeat_1 : decode cX8_isSeat 1 = .ok (.invokevirtual 147, 3) := by decide +kernel
theorem dX8_isSeat_4 : decode cX8_isSeat 4 = .ok (.iload_n 1, 1) := by decide +kernel
theorem dX8_isSeat_5 : decode cX8_isSeat 5 = .ok (.i2l, 1) := by decide +kernel
theorem dX8_isSeat_6 : decode cX8_isSeat 6 = .ok (.lconst 0, 1) := by decide +kernel
theorem dX8_isSeat_7 : decode cX8_isSeat 7 = .ok (.aload_n 0, 1) := by decide +kernel
theorem dX8_isSeat_8 : decode cX8_isSeat 8 = .ok (.getfield 116, 3) := by decide +kernel
theorem dX8_isSeat_11 : decode cX8_isSeat 11 = .ok (.iconst 1, 1) := by decide +kernel
theorem dX8_isSeat_12 : decode cX8_isSeat 12 = .ok (.isub, 1) := by decide +kernel
theorem dX8_isSeat_13 : decode cX8_isSeat 13 = .ok (.i2l, 1) := by decide +kernel
theorem dX8_isSeat_14 : decode cX8_isSeat 14 = .ok (.invokestatic 80, 3) := by decide +kernel
theorem dX8_isSeat_17 : decode cX8_isSeat 17 = .ok (.ireturn, 1) := by decide +kernel
theorem dX8_isPerson_0 : decode cX8_isPerson 0 = .ok (.aload_n 0, 1) := by decide +kernel
theorem dX8_isPerson_1 : decode cX8_isPerson 1 = .ok (.invokevirtual 147, 3) := by decide +kernel
theorem dX8_isPerson_4 : decode cX8_isPerson 4 = .ok (.iload_n 1, 1) := by decide +kernel
theorem dX8_isPerson_5 : decode cX8_isPerson 5 = .ok (.i2l, 1) := by decide +kernel
theorem dX8_isPerson_6 : decode cX8_isPerson 6 = .ok (.lconst 0, 1) := by decide +kernel
theorem dX8_isPerson_7 : decode cX8_isPerson 7 = .ok (.aload_n 0, 1) := by decide +kernel
theorem dX8_isPerson_8 : decode cX8_isPerson 8 = .ok (.getfield 129, 3) := by decide +kernel
theorem dX8_isPerson_11 : decode cX8_isPerson 11 = .ok (.iconst 1, 1) := by decide +kernel
theorem dX8_isPerson_12 : decode cX8_isPerson 12 = .ok (.isub, 1) := by decide +kernel
theorem dX8_isPerson_13 : decode cX8_isPerson 13 = .ok (.i2l, 1) := by decide +kernel
theorem dX8_isPerson_14 : decode cX8_isPerson 14 = .ok (.invokestatic 80, 3) := by decide +kernel
theorem dX8_isPerson_17 : decode cX8_isPerson 17 = .ok (.ireturn, 1) := by decide +kernel
theorem dX8_ownersOf_0 : decode cX8_ownersOf 0 = .ok (.iconst 0, 1) := by decide +kernel
theorem dX8_ownersOf_1 : decode cX8_ownersOf 1 = .ok (.istore_n 2, 1) := by decide +kernel
theorem dX8_ownersOf_2 : decode cX8_ownersOf 2 = .ok (.iconst 0, 1) := by decide +kernel
theorem dX8_ownersOf_3 : decode cX8_ownersOf 3 = .ok (.istore_n 3, 1) := by decide +kernel
theorem dX8_ownersOf_4 : decode cX8_ownersOf 4 = .ok (.iload_n 3, 1) := by decide +kernel
theorem dX8_ownersOf_5 : decode cX8_ownersOf 5 = .ok (.aload_n 0, 1) := by decide +kernel
theorem dX8_ownersOf_6 : decode cX8_ownersOf 6 = .ok (.getfield 129, 3) := by decide +kernel
theorem dX8_ownersOf_9 : decode cX8_ownersOf 9 = .ok (.if_icmp .ge 29, 3) := by decide +kernel
theorem dX8_ownersOf_12 : decode cX8_ownersOf 12 = .ok (.iload_n 2, 1) := by decide +kernel
theorem dX8_ownersOf_13 : decode cX8_ownersOf 13 = .ok (.aload_n 0, 1) := by decide +kernel
theorem dX8_ownersOf_14 : decode cX8_ownersOf 14 = .ok (.getfield 34, 3) := by decide +kernel
theorem dX8_ownersOf_17 : decode cX8_ownersOf 17 = .ok (.iload_n 3, 1) := by decide +kernel
theorem dX8_ownersOf_18 : decode cX8_ownersOf 18 = .ok (.iaload, 1) := by decide +kernel
theorem dX8_ownersOf_19 : decode cX8_ownersOf 19 = .ok (.iload_n 1, 1) := by decide +kernel
theorem dX8_ownersOf_20 : decode cX8_ownersOf 20 = .ok (.if_icmp .ne 9, 3) := by decide +kernel
theorem dX8_ownersOf_23 : decode cX8_ownersOf 23 = .ok (.iconst 1, 1) := by decide +kernel
theorem dX8_ownersOf_24 : decode cX8_ownersOf 24 = .ok (.iload_n 3, 1) := by decide +kernel
theorem dX8_ownersOf_25 : decode cX8_ownersOf 25 = .ok (.ishl, 1) := by decide +kernel
theorem dX8_ownersOf_26 : decode cX8_ownersOf 26 = .ok (.goto 4, 3) := by decide +kernel
theorem dX8_ownersOf_29 : decode cX8_ownersOf 29 = .ok (.iconst 0, 1) := by decide +kernel
theorem dX8_ownersOf_30 : decode cX8_ownersOf 30 = .ok (.ior, 1) := by decide +kernel
theorem dX8_ownersOf_31 : decode cX8_ownersOf 31 = .ok (.istore_n 2, 1) := by decide +kernel
theorem dX8_ownersOf_32 : decode cX8_ownersOf 32 = .ok (.iinc 3 1, 3) := by decide +kernel
theorem dX8_ownersOf_35 : decode cX8_ownersOf 35 = .ok (.goto (-31), 3) := by decide +kernel
theorem dX8_ownersOf_38 : decode cX8_ownersOf 38 = .ok (.iload_n 2, 1) := by decide +kernel
theorem dX8_ownersOf_39 : decode cX8_ownersOf 39 = .ok (.ireturn, 1) := by decide +kernel
theorem dX8_seatOf_0 : decode cX8_seatOf 0 = .ok (.iload_n 2, 1) := by decide +kernel
theorem dX8_seatOf_1 : decode cX8_seatOf 1 = .ok (.ifCond .ne 12, 3) := by decide +kernel
theorem dX8_seatOf_4 : decode cX8_seatOf 4 = .ok (.aload_n 0, 1) := by decide +kernel
theorem dX8_seatOf_5 : decode cX8_seatOf 5 = .ok (.getfield 28, 3) := by decide +kernel
theorem dX8_seatOf_8 : decode cX8_seatOf 8 = .ok (.iload_n 1, 1) := by decide +kernel
theorem dX8_seatOf_9 : decode cX8_seatOf 9 = .ok (.iaload, 1) := by decide +kernel
theorem dX8_seatOf_10 : decode cX8_seatOf 10 = .ok (.goto 22, 3) := by decide +kernel
theorem dX8_seatOf_13 : decode cX8_seatOf 13 = .ok (.iload_n 2, 1) := by decide +kernel
theorem dX8_seatOf_14 : decode cX8_seatOf 14 = .ok (.iconst 1, 1) := by decide +kernel
theorem dX8_seatOf_15 : decode cX8_seatOf 15 = .ok (.if_icmp .ne 12, 3) := by decide +kernel
theorem dX8_seatOf_18 : decode cX8_seatOf 18 = .ok (.aload_n 0, 1) := by decide +kernel
theorem dX8_seatOf_19 : decode cX8_seatOf 19 = .ok (.getfield 31, 3) := by decide +kernel
theorem dX8_seatOf_22 : decode cX8_seatOf 22 = .ok (.iload_n 1, 1) := by decide +kernel
theorem dX8_seatOf_23 : decode cX8_seatOf 23 = .ok (.iaload, 1) := by decide +kernel
theorem dX8_seatOf_24 : decode cX8_seatOf 24 = .ok (.goto 8, 3) := by decide +kernel
theorem dX8_seatOf_27 : decode cX8_seatOf 27 = .ok (.aload_n 0, 1) := by decide +kernel
theorem dX8_seatOf_28 : decode cX8_seatOf 28 = .ok (.iload_n 1, 1) := by decide +kernel
theorem dX8_seatOf_29 : decode cX8_seatOf 29 = .ok (.invokevirtual 150, 3) := by decide +kernel
theorem dX8_seatOf_32 : decode cX8_seatOf 32 = .ok (.ireturn, 1) := by decide +kernel
theorem dX8_seat_0 : decode cX8_seat 0 = .ok (.aload_n 0, 1) := by decide +kernel
theorem dX8_seat_1 : decode cX8_seat 1 = .ok (.iload_n 1, 1) := by decide +kernel
theorem dX8_seat_2 : decode cX8_seat 2 = .ok (.invokevirtual 153, 3) := by decide +kernel
theorem dX8_seat_5 : decode cX8_seat 5 = .ok (.ifCond .eq 24, 3) := by decide +kernel
theorem dX8_seat_8 : decode cX8_seat 8 = .ok (.iload_n 2, 1) := by decide +kernel
theorem dX8_seat_9 : decode cX8_seat 9 = .ok (.i2l, 1) := by decide +kernel
theorem dX8_seat_10 : decode cX8_seat 10 = .ok (.lconst 0, 1) := by decide +kernel
theorem dX8_seat_11 : decode cX8_seat 11 = .ok (.ldc2_w 93, 3) := by decide +kernel
theorem dX8_seat_14 : decode cX8_seat 14 = .ok (.invokestatic 80, 3) := by decide +kernel
theorem dX8_seat_17 : decode cX8_seat 17 = .ok (.ifCond .eq 12, 3) := by decide +kernel
theorem dX8_seat_20 : decode cX8_seat 20 = .ok (.aload_n 0, 1) := by decide +kernel
theorem dX8_seat_21 : decode cX8_seat 21 = .ok (.iload_n 1, 1) := by decide +kernel
theorem dX8_seat_22 : decode cX8_seat 22 = .ok (.iload_n 2, 1) := by decide +kernel
theorem dX8_seat_23 : decode cX8_seat 23 = .ok (.invokevirtual 156, 3) := by decide +kernel
theorem dX8_seat_26 : decode cX8_seat 26 = .ok (.goto 5, 3) := by decide +kernel
theorem dX8_seat_29 : decode cX8_seat 29 = .ok (.bipush (-2), 2) := by decide +kernel
theorem dX8_seat_31 : decode cX8_seat 31 = .ok (.ireturn, 1) := by decide +kernel
theorem dX8_person_0 : decode cX8_person 0 = .ok (.aload_n 0, 1) := by decide +kernel
theorem dX8_person_1 : decode cX8_person 1 = .ok (.iload_n 1, 1) := by decide +kernel
theorem dX8_person_2 : decode cX8_person 2 = .ok (.invokevirtual 159, 3) := by decide +kernel
theorem dX8_person_5 : decode cX8_person 5 = .ok (.ifCond .eq 32, 3) := by decide +kernel
theorem dX8_person_8 : decode cX8_person 8 = .ok (.iload_n 2, 1) := by decide +kernel
theorem dX8_person_9 : decode cX8_person 9 = .ok (.invokestatic 108, 3) := by decide +kernel
theorem dX8_person_12 : decode cX8_person 12 = .ok (.ifCond .eq 25, 3) := by decide +kernel
theorem dX8_person_15 : decode cX8_person 15 = .ok (.iload_n 2, 1) := by decide +kernel
theorem dX8_person_16 : decode cX8_person 16 = .ok (.ifCond .ne 12, 3) := by decide +kernel
theorem dX8_person_19 : decode cX8_person 19 = .ok (.aload_n 0, 1) := by decide +kernel
theorem dX8_person_20 : decode cX8_person 20 = .ok (.getfield 34, 3) := by decide +kernel
theorem dX8_person_23 : decode cX8_person 23 = .ok (.iload_n 1, 1) := by decide +kernel
theorem dX8_person_24 : decode cX8_person 24 = .ok (.iaload, 1) := by decide +kernel
theorem dX8_person_25 : decode cX8_person 25 = .ok (.goto 14, 3) := by decide +kernel
theorem dX8_person_28 : decode cX8_person 28 = .ok (.aload_n 0, 1) := by decide +kernel
theorem dX8_person_29 : decode cX8_person 29 = .ok (.getfield 37, 3) := by decide +kernel
theorem dX8_person_32 : decode cX8_person 32 = .ok (.iload_n 1, 1) := by decide +kernel
theorem dX8_person_33 : decode cX8_person 33 = .ok (.iaload, 1) := by decide +kernel
theorem dX8_person_34 : decode cX8_person 34 = .ok (.goto 5, 3) := by decide +kernel
theorem dX8_person_37 : decode cX8_person 37 = .ok (.bipush (-2), 2) := by decide +kernel
theorem dX8_person_39 : decode cX8_person 39 = .ok (.ireturn, 1) := by decide +kernel
theorem dX8_whole_0 : decode cX8_whole 0 = .ok (.iconst 1, 1) := by decide +kernel
theorem dX8_whole_1 : decode cX8_whole 1 = .ok (.aload_n 0, 1) := by decide +kernel
theorem dX8_whole_2 : decode cX8_whole 2 = .ok (.getfield 116, 3) := by decide +kernel
theorem dX8_whole_5 : decode cX8_whole 5 = .ok (.ishl, 1) := by decide +kernel
theorem dX8_whole_6 : decode cX8_whole 6 = .ok (.iconst 1, 1) := by decide +kernel
theorem dX8_whole_7 : decode cX8_whole 7 = .ok (.isub, 1) := by decide +kernel
theorem dX8_whole_8 : decode cX8_whole 8 = .ok (.ireturn, 1) := by decide +kernel
theorem dX8_ofSort_0 : decode cX8_ofSort 0 = .ok (.iconst 0, 1) := by decide +kernel
theorem dX8_ofSort_1 : decode cX8_ofSort 1 = .ok (.istore_n 2, 1) := by decide +kernel
theorem dX8_ofSort_2 : decode cX8_ofSort 2 = .ok (.iconst 0, 1) := by decide +kernel
theorem dX8_ofSort_3 : decode cX8_ofSort 3 = .ok (.istore_n 3, 1) := by decide +kernel
theorem dX8_ofSort_4 : decode cX8_ofSort 4 = .ok (.iload_n 3, 1) := by decide +kernel
theorem dX8_ofSort_5 : decode cX8_ofSort 5 = .ok (.aload_n 0, 1) := by decide +kernel
theorem dX8_ofSort_6 : decode cX8_ofSort 6 = .ok (.getfield 116, 3) := by decide +kernel
theorem dX8_ofSort_9 : decode cX8_ofSort 9 = .ok (.if_icmp .ge 29, 3) := by decide +kernel
theorem dX8_ofSort_12 : decode cX8_ofSort 12 = .ok (.iload_n 2, 1) := by decide +kernel
theorem dX8_ofSort_13 : decode cX8_ofSort 13 = .ok (.aload_n 0, 1) := by decide +kernel
theorem dX8_ofSort_14 : decode cX8_ofSort 14 = .ok (.getfield 28, 3) := by decide +kernel
theorem dX8_ofSort_17 : decode cX8_ofSort 17 = .ok (.iload_n 3, 1) := by decide +kernel
theorem dX8_ofSort_18 : decode cX8_ofSort 18 = .ok (.iaload, 1) := by decide +kernel
theorem dX8_ofSort_19 : decode cX8_ofSort 19 = .ok (.iload_n 1, 1) := by decide +kernel
theorem dX8_ofSort_20 : decode cX8_ofSort 20 = .ok (.if_icmp .ne 9, 3) := by decide +kernel
theorem dX8_ofSort_23 : decode cX8_ofSort 23 = .ok (.iconst 1, 1) := by decide +kernel
theorem dX8_ofSort_24 : decode cX8_ofSort 24 = .ok (.iload_n 3, 1) := by decide +kernel
theorem dX8_ofSort_25 : decode cX8_ofSort 25 = .ok (.ishl, 1) := by decide +kernel
theorem dX8_ofSort_26 : decode cX8_ofSort 26 = .ok (.goto 4, 3) := by decide +kernel
theorem dX8_ofSort_29 : decode cX8_ofSort 29 = .ok (.iconst 0, 1) := by decide +kernel
theorem dX8_ofSort_30 : decode cX8_ofSort 30 = .ok (.ior, 1) := by decide +kernel
theorem dX8_ofSort_31 : decode cX8_ofSort 31 = .ok (.istore_n 2, 1) := by decide +kernel
theorem dX8_ofSort_32 : decode cX8_ofSort 32 = .ok (.iinc 3 1, 3) := by decide +kernel
theorem dX8_ofSort_35 : decode cX8_ofSort 35 = .ok (.goto (-31), 3) := by decide +kernel
theorem dX8_ofSort_38 : decode cX8_ofSort 38 = .ok (.iload_n 2, 1) := by decide +kernel
theorem dX8_ofSort_39 : decode cX8_ofSort 39 = .ok (.ireturn, 1) := by decide +kernel
theorem dX8_nextFree_0 : decode cX8_nextFree 0 = .ok (.iload_n 1, 1) := by decide +kernel
theorem dX8_nextFree_1 : decode cX8_nextFree 1 = .ok (.istore_n 3, 1) := by decide +kernel
theorem dX8_nextFree_2 : decode cX8_nextFree 2 = .ok (.iload_n 2, 1) := by decide +kernel
theorem dX8_nextFree_3 : decode cX8_nextFree 3 = .ok (.iload_n 3, 1) := by decide +kernel
theorem dX8_nextFree_4 : decode cX8_nextFree 4 = .ok (.invokestatic 162, 3) := by decide +kernel
theorem dX8_nextFree_7 : decode cX8_nextFree 7 = .ok (.ifCond .ne 15, 3) := by decide +kernel
theorem dX8_nextFree_10 : decode cX8_nextFree 10 = .ok (.iload_n 3, 1) := by decide +kernel
theorem dX8_nextFree_11 : decode cX8_nextFree 11 = .ok (.iconst 1, 1) := by decide +kernel
theorem dX8_nextFree_12 : decode cX8_nextFree 12 = .ok (.iadd, 1) := by decide +kernel
theorem dX8_nextFree_13 : decode cX8_nextFree 13 = .ok (.aload_n 0, 1) := by decide +kernel
theorem dX8_nextFree_14 : decode cX8_nextFree 14 = .ok (.getfield 116, 3) := by decide +kernel
theorem dX8_nextFree_17 : decode cX8_nextFree 17 = .ok (.irem, 1) := by decide +kernel
theorem dX8_nextFree_18 : decode cX8_nextFree 18 = .ok (.istore_n 3, 1) := by decide +kernel
theorem dX8_nextFree_19 : decode cX8_nextFree 19 = .ok (.goto (-17), 3) := by decide +kernel
theorem dX8_nextFree_22 : decode cX8_nextFree 22 = .ok (.iload_n 3, 1) := by decide +kernel
theorem dX8_nextFree_23 : decode cX8_nextFree 23 = .ok (.ireturn, 1) := by decide +kernel
theorem dX8_choices_0 : decode cX8_choices 0 = .ok (.aload_n 0, 1) := by decide +kernel
theorem dX8_choices_1 : decode cX8_choices 1 = .ok (.invokevirtual 166, 3) := by decide +kernel
theorem dX8_choices_4 : decode cX8_choices 4 = .ok (.iload_n 3, 1) := by decide +kernel
theorem dX8_choices_5 : decode cX8_choices 5 = .ok (.iconst (-1), 1) := by decide +kernel
theorem dX8_choices_6 : decode cX8_choices 6 = .ok (.ixor, 1) := by decide +kernel
theorem dX8_choices_7 : decode cX8_choices 7 = .ok (.iand, 1) := by decide +kernel
theorem dX8_choices_8 : decode cX8_choices 8 = .ok (.istore 4, 2) := by decide +kernel
theorem dX8_choices_10 : decode cX8_choices 10 = .ok (.iload_n 2, 1) := by decide +kernel
theorem dX8_choices_11 : decode cX8_choices 11 = .ok (.iconst 1, 1) := by decide +kernel
theorem dX8_choices_12 : decode cX8_choices 12 = .ok (.if_icmp .ne 6, 3) := by decide +kernel
theorem dX8_choices_15 : decode cX8_choices 15 = .ok (.iload 4, 2) := by decide +kernel
theorem dX8_choices_17 : decode cX8_choices 17 = .ok (.ireturn, 1) := by decide +kernel
theorem dX8_choices_18 : decode cX8_choices 18 = .ok (.iload 4, 2) := by decide +kernel
theorem dX8_choices_20 : decode cX8_choices 20 = .ok (.aload_n 0, 1) := by decide +kernel
theorem dX8_choices_21 : decode cX8_choices 21 = .ok (.getfield 34, 3) := by decide +kernel
theorem dX8_choices_24 : decode cX8_choices 24 = .ok (.iload_n 1, 1) := by decide +kernel
theorem dX8_choices_25 : decode cX8_choices 25 = .ok (.iaload, 1) := by decide +kernel
theorem dX8_choices_26 : decode cX8_choices 26 = .ok (.invokestatic 162, 3) := by decide +kernel
theorem dX8_choices_29 : decode cX8_choices 29 = .ok (.ifCond .eq 12, 3) := by decide +kernel
theorem dX8_choices_32 : decode cX8_choices 32 = .ok (.iconst 1, 1) := by decide +kernel
theorem dX8_choices_33 : decode cX8_choices 33 = .ok (.aload_n 0, 1) := by decide +kernel
theorem dX8_choices_34 : decode cX8_choices 34 = .ok (.getfield 34, 3) := by decide +kernel
theorem dX8_choices_37 : decode cX8_choices 37 = .ok (.iload_n 1, 1) := by decide +kernel
theorem dX8_choices_38 : decode cX8_choices 38 = .ok (.iaload, 1) := by decide +kernel
theorem dX8_choices_39 : decode cX8_choices 39 = .ok (.ishl, 1) := by decide +kernel
theorem dX8_choices_40 : decode cX8_choices 40 = .ok (.ireturn, 1) := by decide +kernel
theorem dX8_choices_41 : decode cX8_choices 41 = .ok (.iload_n 2, 1) := by decide +kernel
theorem dX8_choices_42 : decode cX8_choices 42 = .ok (.iconst 2, 1) := by decide +kernel
theorem dX8_choices_43 : decode cX8_choices 43 = .ok (.if_icmp .ne 18, 3) := by decide +kernel
theorem dX8_choices_46 : decode cX8_choices 46 = .ok (.iconst 1, 1) := by decide +kernel
theorem dX8_choices_47 : decode cX8_choices 47 = .ok (.aload_n 0, 1) := by decide +kernel
theorem dX8_choices_48 : decode cX8_choices 48 = .ok (.aload_n 0, 1) := by decide +kernel
theorem dX8_choices_49 : decode cX8_choices 49 = .ok (.getfield 34, 3) := by decide +kernel
theorem dX8_choices_52 : decode cX8_choices 52 = .ok (.iload_n 1, 1) := by decide +kernel
theorem dX8_choices_53 : decode cX8_choices 53 = .ok (.iaload, 1) := by decide +kernel
theorem dX8_choices_54 : decode cX8_choices 54 = .ok (.iload 4, 2) := by decide +kernel
theorem dX8_choices_56 : decode cX8_choices 56 = .ok (.invokevirtual 169, 3) := by decide +kernel
theorem dX8_choices_59 : decode cX8_choices 59 = .ok (.ishl, 1) := by decide +kernel
theorem dX8_choices_60 : decode cX8_choices 60 = .ok (.ireturn, 1) := by decide +kernel
theorem dX8_choices_61 : decode cX8_choices 61 = .ok (.iload_n 2, 1) := by decide +kernel
theorem dX8_choices_62 : decode cX8_choices 62 = .ok (.iconst 3, 1) := by decide +kernel
theorem dX8_choices_63 : decode cX8_choices 63 = .ok (.if_icmp .ne 24, 3) := by decide +kernel
theorem dX8_choices_66 : decode cX8_choices 66 = .ok (.iload 4, 2) := by decide +kernel
theorem dX8_choices_68 : decode cX8_choices 68 = .ok (.aload_n 0, 1) := by decide +kernel
theorem dX8_choices_69 : decode cX8_choices 69 = .ok (.aload_n 0, 1) := by decide +kernel
theorem dX8_choices_70 : decode cX8_choices 70 = .ok (.getfield 28, 3) := by decide +kernel
theorem dX8_choices_73 : decode cX8_choices 73 = .ok (.aload_n 0, 1) := by decide +kernel
theorem dX8_choices_74 : decode cX8_choices 74 = .ok (.getfield 34, 3) := by decide +kernel
theorem dX8_choices_77 : decode cX8_choices 77 = .ok (.iload_n 1, 1) := by decide +kernel
theorem dX8_choices_78 : decode cX8_choices 78 = .ok (.iaload, 1) := by decide +kernel
theorem dX8_choices_79 : decode cX8_choices 79 = .ok (.iaload, 1) := by decide +kernel
theorem dX8_choices_80 : decode cX8_choices 80 = .ok (.invokevirtual 172, 3) := by decide +kernel
theorem dX8_choices_83 : decode cX8_choices 83 = .ok (.iand, 1) := by decide +kernel
theorem dX8_choices_84 : decode cX8_choices 84 = .ok (.goto 4, 3) := by decide +kernel
theorem dX8_choices_87 : decode cX8_choices 87 = .ok (.iconst 0, 1) := by decide +kernel
theorem dX8_choices_88 : decode cX8_choices 88 = .ok (.istore 5, 2) := by decide +kernel
theorem dX8_choices_90 : decode cX8_choices 90 = .ok (.iload 5, 2) := by decide +kernel
theorem dX8_choices_92 : decode cX8_choices 92 = .ok (.ifCond .eq 8, 3) := by decide +kernel
theorem dX8_choices_95 : decode cX8_choices 95 = .ok (.iload 5, 2) := by decide +kernel
theorem dX8_choices_97 : decode cX8_choices 97 = .ok (.goto 5, 3) := by decide +kernel
theorem dX8_choices_100 : decode cX8_choices 100 = .ok (.iload 4, 2) := by decide +kernel
theorem dX8_choices_102 : decode cX8_choices 102 = .ok (.ireturn, 1) := by decide +kernel
theorem dX8_partsOf_0 : decode cX8_partsOf 0 = .ok (.iload_n 0, 1) := by decide +kernel
theorem dX8_partsOf_1 : decode cX8_partsOf 1 = .ok (.bipush 8, 2) := by decide +kernel
theorem dX8_partsOf_3 : decode cX8_partsOf 3 = .ok (.if_icmp .ne 9, 3) := by decide +kernel
theorem dX8_partsOf_6 : decode cX8_partsOf 6 = .ok (.ldc2_w 175, 3) := by decide +kernel
theorem dX8_partsOf_9 : decode cX8_partsOf 9 = .ok (.goto 50, 3) := by decide +kernel
theorem dX8_partsOf_12 : decode cX8_partsOf 12 = .ok (.iload_n 0, 1) := by decide +kernel
theorem dX8_partsOf_13 : decode cX8_partsOf 13 = .ok (.bipush 7, 2) := by decide +kernel
theorem dX8_partsOf_15 : decode cX8_partsOf 15 = .ok (.if_icmp .ne 9, 3) := by decide +kernel
theorem dX8_partsOf_18 : decode cX8_partsOf 18 = .ok (.ldc2_w 177, 3) := by decide +kernel
theorem dX8_partsOf_21 : decode cX8_partsOf 21 = .ok (.goto 38, 3) := by decide +kernel
theorem dX8_partsOf_24 : decode cX8_partsOf 24 = .ok (.iload_n 0, 1) := by decide +kernel
theorem dX8_partsOf_25 : decode cX8_partsOf 25 = .ok (.iconst 4, 1) := by decide +kernel
theorem dX8_partsOf_26 : decode cX8_partsOf 26 = .ok (.if_icmp .le 9, 3) := by decide +kernel
theorem dX8_partsOf_29 : decode cX8_partsOf 29 = .ok (.ldc2_w 179, 3) := by decide +kernel
theorem dX8_partsOf_32 : decode cX8_partsOf 32 = .ok (.goto 27, 3) := by decide +kernel
theorem dX8_partsOf_35 : decode cX8_partsOf 35 = .ok (.iload_n 0, 1) := by decide +kernel
theorem dX8_partsOf_36 : decode cX8_partsOf 36 = .ok (.iconst 4, 1) := by decide +kernel
theorem dX8_partsOf_37 : decode cX8_partsOf 37 = .ok (.if_icmp .ne 9, 3) := by decide +kernel
theorem dX8_partsOf_40 : decode cX8_partsOf 40 = .ok (.ldc2_w 181, 3) := by decide +kernel
theorem dX8_partsOf_43 : decode cX8_partsOf 43 = .ok (.goto 16, 3) := by decide +kernel
theorem dX8_partsOf_46 : decode cX8_partsOf 46 = .ok (.iload_n 0, 1) := by decide +kernel
theorem dX8_partsOf_47 : decode cX8_partsOf 47 = .ok (.iconst 3, 1) := by decide +kernel
theorem dX8_partsOf_48 : decode cX8_partsOf 48 = .ok (.if_icmp .ne 9, 3) := by decide +kernel
theorem dX8_partsOf_51 : decode cX8_partsOf 51 = .ok (.ldc2_w 183, 3) := by decide +kernel
theorem dX8_partsOf_54 : decode cX8_partsOf 54 = .ok (.goto 5, 3) := by decide +kernel
theorem dX8_partsOf_57 : decode cX8_partsOf 57 = .ok (.iload_n 0, 1) := by decide +kernel
theorem dX8_partsOf_58 : decode cX8_partsOf 58 = .ok (.i2l, 1) := by decide +kernel
theorem dX8_partsOf_59 : decode cX8_partsOf 59 = .ok (.lreturn, 1) := by decide +kernel
theorem dX8_begins_0 : decode cX8_begins 0 = .ok (.iconst 0, 1) := by decide +kernel
theorem dX8_begins_1 : decode cX8_begins 1 = .ok (.istore_n 1, 1) := by decide +kernel
theorem dX8_begins_2 : decode cX8_begins 2 = .ok (.iload_n 1, 1) := by decide +kernel
theorem dX8_begins_3 : decode cX8_begins 3 = .ok (.sipush 256, 3) := by decide +kernel
theorem dX8_begins_6 : decode cX8_begins 6 = .ok (.if_icmp .ge 24, 3) := by decide +kernel
theorem dX8_begins_9 : decode cX8_begins 9 = .ok (.aload_n 0, 1) := by decide +kernel
theorem dX8_begins_10 : decode cX8_begins 10 = .ok (.getfield 40, 3) := by decide +kernel
theorem dX8_begins_13 : decode cX8_begins 13 = .ok (.iload_n 1, 1) := by decide +kernel
theorem dX8_begins_14 : decode cX8_begins 14 = .ok (.iload_n 1, 1) := by decide +kernel
theorem dX8_begins_15 : decode cX8_begins 15 = .ok (.ifCond .ne 7, 3) := by decide +kernel
theorem dX8_begins_18 : decode cX8_begins 18 = .ok (.lconst 1, 1) := by decide +kernel
theorem dX8_begins_19 : decode cX8_begins 19 = .ok (.goto 4, 3) := by decide +kernel
theorem dX8_begins_22 : decode cX8_begins 22 = .ok (.lconst 0, 1) := by decide +kernel
theorem dX8_begins_23 : decode cX8_begins 23 = .ok (.lastore, 1) := by decide +kernel
theorem dX8_begins_24 : decode cX8_begins 24 = .ok (.iinc 1 1, 3) := by decide +kernel
theorem dX8_begins_27 : decode cX8_begins 27 = .ok (.goto (-25), 3) := by decide +kernel
theorem dX8_begins_30 : decode cX8_begins 30 = .ok (.aload_n 0, 1) := by decide +kernel
theorem dX8_begins_31 : decode cX8_begins 31 = .ok (.lconst 1, 1) := by decide +kernel
theorem dX8_begins_32 : decode cX8_begins 32 = .ok (.putfield 185, 3) := by decide +kernel
theorem dX8_begins_35 : decode cX8_begins 35 = .ok (.return_, 1) := by decide +kernel
theorem dX8_kindNow_0 : decode cX8_kindNow 0 = .ok (.iload_n 1, 1) := by decide +kernel
theorem dX8_kindNow_1 : decode cX8_kindNow 1 = .ok (.aload_n 0, 1) := by decide +kernel
theorem dX8_kindNow_2 : decode cX8_kindNow 2 = .ok (.getfield 47, 3) := by decide +kernel
theorem dX8_kindNow_5 : decode cX8_kindNow 5 = .ok (.if_icmp .ne 7, 3) := by decide +kernel
theorem dX8_kindNow_8 : decode cX8_kindNow 8 = .ok (.iconst 1, 1) := by decide +kernel
theorem dX8_kindNow_9 : decode cX8_kindNow 9 = .ok (.goto 9, 3) := by decide +kernel
theorem dX8_kindNow_12 : decode cX8_kindNow 12 = .ok (.aload_n 0, 1) := by decide +kernel
theorem dX8_kindNow_13 : decode cX8_kindNow 13 = .ok (.getfield 37, 3) := by decide +kernel
theorem dX8_kindNow_16 : decode cX8_kindNow 16 = .ok (.iload_n 1, 1) := by decide +kernel
theorem dX8_kindNow_17 : decode cX8_kindNow 17 = .ok (.iaload, 1) := by decide +kernel
theorem dX8_kindNow_18 : decode cX8_kindNow 18 = .ok (.ireturn, 1) := by decide +kernel
theorem dX8_noBounds_0 : decode cX8_noBounds 0 = .ok (.aload_n 0, 1) := by decide +kernel
theorem dX8_noBounds_1 : decode cX8_noBounds 1 = .ok (.iconst (-1), 1) := by decide +kernel
theorem dX8_noBounds_2 : decode cX8_noBounds 2 = .ok (.putfield 47, 3) := by decide +kernel
theorem dX8_noBounds_5 : decode cX8_noBounds 5 = .ok (.aload_n 0, 1) := by decide +kernel
theorem dX8_noBounds_6 : decode cX8_noBounds 6 = .ok (.iconst (-1), 1) := by decide +kernel
theorem dX8_noBounds_7 : decode cX8_noBounds 7 = .ok (.putfield 51, 3) := by decide +kernel
theorem dX8_noBounds_10 : decode cX8_noBounds 10 = .ok (.aload_n 0, 1) := by decide +kernel
theorem dX8_noBounds_11 : decode cX8_noBounds 11 = .ok (.iconst 0, 1) := by decide +kernel
theorem dX8_noBounds_12 : decode cX8_noBounds 12 = .ok (.putfield 189, 3) := by decide +kernel
theorem dX8_noBounds_15 : decode cX8_noBounds 15 = .ok (.iconst 0, 1) := by decide +kernel
theorem dX8_noBounds_16 : decode cX8_noBounds 16 = .ok (.istore_n 1, 1) := by decide +kernel
theorem dX8_noBounds_17 : decode cX8_noBounds 17 = .ok (.iload_n 1, 1) := by decide +kernel
theorem dX8_noBounds_18 : decode cX8_noBounds 18 = .ok (.bipush 8, 2) := by decide +kernel
theorem dX8_noBounds_20 : decode cX8_noBounds 20 = .ok (.if_icmp .ge 16, 3) := by decide +kernel
theorem dX8_noBounds_23 : decode cX8_noBounds 23 = .ok (.aload_n 0, 1) := by decide +kernel
theorem dX8_noBounds_24 : decode cX8_noBounds 24 = .ok (.getfield 54, 3) := by decide +kernel
theorem dX8_noBounds_27 : decode cX8_noBounds 27 = .ok (.iload_n 1, 1) := by decide +kernel
theorem dX8_noBounds_28 : decode cX8_noBounds 28 = .ok (.iconst (-1), 1) := by decide +kernel
theorem dX8_noBounds_29 : decode cX8_noBounds 29 = .ok (.iastore, 1) := by decide +kernel
theorem dX8_noBounds_30 : decode cX8_noBounds 30 = .ok (.iinc 1 1, 3) := by decide +kernel
theorem dX8_noBounds_33 : decode cX8_noBounds 33 = .ok (.goto (-16), 3) := by decide +kernel
theorem dX8_noBounds_36 : decode cX8_noBounds 36 = .ok (.return_, 1) := by decide +kernel
theorem dX8_mayBe_0 : decode cX8_mayBe 0 = .ok (.aload_n 0, 1) := by decide +kernel
theorem dX8_mayBe_1 : decode cX8_mayBe 1 = .ok (.getfield 189, 3) := by decide +kernel
theorem dX8_mayBe_4 : decode cX8_mayBe 4 = .ok (.iload_n 2, 1) := by decide +kernel
theorem dX8_mayBe_5 : decode cX8_mayBe 5 = .ok (.invokestatic 162, 3) := by decide +kernel
theorem dX8_mayBe_8 : decode cX8_mayBe 8 = .ok (.ifCond .ne 43, 3) := by decide +kernel
theorem dX8_mayBe_11 : decode cX8_mayBe 11 = .ok (.aload_n 0, 1) := by decide +kernel
theorem dX8_mayBe_12 : decode cX8_mayBe 12 = .ok (.getfield 54, 3) := by decide +kernel
theorem dX8_mayBe_15 : decode cX8_mayBe 15 = .ok (.iload_n 1, 1) := by decide +kernel
theorem dX8_mayBe_16 : decode cX8_mayBe 16 = .ok (.iaload, 1) := by decide +kernel
theorem dX8_mayBe_17 : decode cX8_mayBe 17 = .ok (.iconst (-1), 1) := by decide +kernel
theorem dX8_mayBe_18 : decode cX8_mayBe 18 = .ok (.if_icmp .eq 13, 3) := by decide +kernel
theorem dX8_mayBe_21 : decode cX8_mayBe 21 = .ok (.aload_n 0, 1) := by decide +kernel
theorem dX8_mayBe_22 : decode cX8_mayBe 22 = .ok (.getfield 54, 3) := by decide +kernel
theorem dX8_mayBe_25 : decode cX8_mayBe 25 = .ok (.iload_n 1, 1) := by decide +kernel
theorem dX8_mayBe_26 : decode cX8_mayBe 26 = .ok (.iaload, 1) := by decide +kernel
theorem dX8_mayBe_27 : decode cX8_mayBe 27 = .ok (.iload_n 2, 1) := by decide +kernel
theorem dX8_mayBe_28 : decode cX8_mayBe 28 = .ok (.if_icmp .ne 23, 3) := by decide +kernel
theorem dX8_mayBe_31 : decode cX8_mayBe 31 = .ok (.aload_n 0, 1) := by decide +kernel
theorem dX8_mayBe_32 : decode cX8_mayBe 32 = .ok (.getfield 51, 3) := by decide +kernel
theorem dX8_mayBe_35 : decode cX8_mayBe 35 = .ok (.iload_n 1, 1) := by decide +kernel
theorem dX8_mayBe_36 : decode cX8_mayBe 36 = .ok (.if_icmp .ne 11, 3) := by decide +kernel
theorem dX8_mayBe_39 : decode cX8_mayBe 39 = .ok (.aload_n 0, 1) := by decide +kernel
theorem dX8_mayBe_40 : decode cX8_mayBe 40 = .ok (.getfield 192, 3) := by decide +kernel
theorem dX8_mayBe_43 : decode cX8_mayBe 43 = .ok (.iload_n 2, 1) := by decide +kernel
theorem dX8_mayBe_44 : decode cX8_mayBe 44 = .ok (.if_icmp .ne 7, 3) := by decide +kernel
theorem dX8_mayBe_47 : decode cX8_mayBe 47 = .ok (.iconst 1, 1) := by decide +kernel
theorem dX8_mayBe_48 : decode cX8_mayBe 48 = .ok (.goto 4, 3) := by decide +kernel
theorem dX8_mayBe_51 : decode cX8_mayBe 51 = .ok (.iconst 0, 1) := by decide +kernel
theorem dX8_mayBe_52 : decode cX8_mayBe 52 = .ok (.ireturn, 1) := by decide +kernel
theorem dX8_sits_0 : decode cX8_sits 0 = .ok (.aload_n 0, 1) := by decide +kernel
theorem dX8_sits_1 : decode cX8_sits 1 = .ok (.getfield 116, 3) := by decide +kernel
theorem dX8_sits_4 : decode cX8_sits 4 = .ok (.iload_n 2, 1) := by decide +kernel
theorem dX8_sits_5 : decode cX8_sits 5 = .ok (.isub, 1) := by decide +kernel
theorem dX8_sits_6 : decode cX8_sits 6 = .ok (.invokestatic 195, 3) := by decide +kernel
theorem dX8_sits_9 : decode cX8_sits 9 = .ok (.lstore_n 3, 1) := by decide +kernel
theorem dX8_sits_10 : decode cX8_sits 10 = .ok (.iconst 0, 1) := by decide +kernel
theorem dX8_sits_11 : decode cX8_sits 11 = .ok (.istore 5, 2) := by decide +kernel
theorem dX8_sits_13 : decode cX8_sits 13 = .ok (.iload 5, 2) := by decide +kernel
theorem dX8_sits_15 : decode cX8_sits 15 = .ok (.aload_n 0, 1) := by decide +kernel
theorem dX8_sits_16 : decode cX8_sits 16 = .ok (.invokevirtual 166, 3) := by decide +kernel
theorem dX8_sits_19 : decode cX8_sits 19 = .ok (.if_icmp .gt 17, 3) := by decide +kernel
theorem dX8_sits_22 : decode cX8_sits 22 = .ok (.aload_n 0, 1) := by decide +kernel
theorem dX8_sits_23 : decode cX8_sits 23 = .ok (.getfield 44, 3) := by decide +kernel
theorem dX8_sits_26 : decode cX8_sits 26 = .ok (.iload 5, 2) := by decide +kernel
theorem dX8_sits_28 : decode cX8_sits 28 = .ok (.lconst 0, 1) := by decide +kernel
theorem dX8_sits_29 : decode cX8_sits 29 = .ok (.lastore, 1) := by decide +kernel
theorem dX8_sits_30 : decode cX8_sits 30 = .ok (.iinc 5 1, 3) := by decide +kernel
theorem dX8_sits_33 : decode cX8_sits 33 = .ok (.goto (-20), 3) := by decide +kernel
theorem dX8_sits_36 : decode cX8_sits 36 = .ok (.iconst 0, 1) := by decide +kernel
theorem dX8_sits_37 : decode cX8_sits 37 = .ok (.istore 5, 2) := by decide +kernel
theorem dX8_sits_39 : decode cX8_sits 39 = .ok (.iload 5, 2) := by decide +kernel
theorem dX8_sits_41 : decode cX8_sits 41 = .ok (.aload_n 0, 1) := by decide +kernel
theorem dX8_sits_42 : decode cX8_sits 42 = .ok (.invokevirtual 166, 3) := by decide +kernel
theorem dX8_sits_45 : decode cX8_sits 45 = .ok (.if_icmp .gt 108, 3) := by decide +kernel
theorem dX8_sits_48 : decode cX8_sits 48 = .ok (.aload_n 0, 1) := by decide +kernel
theorem dX8_sits_49 : decode cX8_sits 49 = .ok (.getfield 40, 3) := by decide +kernel
theorem dX8_sits_52 : decode cX8_sits 52 = .ok (.iload 5, 2) := by decide +kernel
theorem dX8_sits_54 : decode cX8_sits 54 = .ok (.laload, 1) := by decide +kernel
theorem dX8_sits_55 : decode cX8_sits 55 = .ok (.lconst 0, 1) := by decide +kernel
theorem dX8_sits_56 : decode cX8_sits 56 = .ok (.lcmp, 1) := by decide +kernel
theorem dX8_sits_57 : decode cX8_sits 57 = .ok (.ifCond .le 90, 3) := by decide +kernel
theorem dX8_sits_60 : decode cX8_sits 60 = .ok (.aload_n 0, 1) := by decide +kernel
theorem dX8_sits_61 : decode cX8_sits 61 = .ok (.iload_n 1, 1) := by decide +kernel
theorem dX8_sits_62 : decode cX8_sits 62 = .ok (.aload_n 0, 1) := by decide +kernel
theorem dX8_sits_63 : decode cX8_sits 63 = .ok (.iload_n 1, 1) := by decide +kernel
theorem dX8_sits_64 : decode cX8_sits 64 = .ok (.invokevirtual 199, 3) := by decide +kernel
theorem dX8_sits_67 : decode cX8_sits 67 = .ok (.iload 5, 2) := by decide +kernel
theorem dX8_sits_69 : decode cX8_sits 69 = .ok (.invokevirtual 202, 3) := by decide +kernel
theorem dX8_sits_72 : decode cX8_sits 72 = .ok (.istore 6, 2) := by decide +kernel
theorem dX8_sits_74 : decode cX8_sits 74 = .ok (.aload_n 0, 1) := by decide +kernel
theorem dX8_sits_75 : decode cX8_sits 75 = .ok (.getfield 40, 3) := by decide +kernel
theorem dX8_sits_78 : decode cX8_sits 78 = .ok (.iload 5, 2) := by decide +kernel
theorem dX8_sits_80 : decode cX8_sits 80 = .ok (.laload, 1) := by decide +kernel
theorem dX8_sits_81 : decode cX8_sits 81 = .ok (.lload_n 3, 1) := by decide +kernel
theorem dX8_sits_82 : decode cX8_sits 82 = .ok (.iload 6, 2) := by decide +kernel
theorem dX8_sits_84 : decode cX8_sits 84 = .ok (.invokestatic 205, 3) := by decide +kernel
theorem dX8_sits_87 : decode cX8_sits 87 = .ok (.i2l, 1) := by decide +kernel
theorem dX8_sits_88 : decode cX8_sits 88 = .ok (.ldiv, 1) := by decide +kernel
theorem dX8_sits_89 : decode cX8_sits 89 = .ok (.lmul, 1) := by decide +kernel
theorem dX8_sits_90 : decode cX8_sits 90 = .ok (.lstore 7, 2) := by decide +kernel
theorem dX8_sits_92 : decode cX8_sits 92 = .ok (.iconst 0, 1) := by decide +kernel
theorem dX8_sits_93 : decode cX8_sits 93 = .ok (.istore 9, 2) := by decide +kernel
theorem dX8_sits_95 : decode cX8_sits 95 = .ok (.iload 9, 2) := by decide +kernel
theorem dX8_sits_97 : decode cX8_sits 97 = .ok (.aload_n 0, 1) := by decide +kernel
theorem dX8_sits_98 : decode cX8_sits 98 = .ok (.getfield 116, 3) := by decide +kernel
theorem dX8_sits_101 : decode cX8_sits 101 = .ok (.if_icmp .ge 46, 3) := by decide +kernel
theorem dX8_sits_104 : decode cX8_sits 104 = .ok (.iload 6, 2) := by decide +kernel
theorem dX8_sits_106 : decode cX8_sits 106 = .ok (.iload 9, 2) := by decide +kernel
theorem dX8_sits_108 : decode cX8_sits 108 = .ok (.invokestatic 162, 3) := by decide +kernel
theorem dX8_sits_111 : decode cX8_sits 111 = .ok (.ifCond .eq 30, 3) := by decide +kernel
theorem dX8_sits_114 : decode cX8_sits 114 = .ok (.aload_n 0, 1) := by decide +kernel
theorem dX8_sits_115 : decode cX8_sits 115 = .ok (.iload_n 1, 1) := by decide +kernel
theorem dX8_sits_116 : decode cX8_sits 116 = .ok (.iload 9, 2) := by decide +kernel
theorem dX8_sits_118 : decode cX8_sits 118 = .ok (.invokevirtual 208, 3) := by decide +kernel
theorem dX8_sits_121 : decode cX8_sits 121 = .ok (.ifCond .eq 20, 3) := by decide +kernel
theorem dX8_sits_124 : decode cX8_sits 124 = .ok (.aload_n 0, 1) := by decide +kernel
theorem dX8_sits_125 : decode cX8_sits 125 = .ok (.getfield 44, 3) := by decide +kernel
theorem dX8_sits_128 : decode cX8_sits 128 = .ok (.iload 5, 2) := by decide +kernel
theorem dX8_sits_130 : decode cX8_sits 130 = .ok (.iconst 1, 1) := by decide +kernel
theorem dX8_sits_131 : decode cX8_sits 131 = .ok (.iload 9, 2) := by decide +kernel
theorem dX8_sits_133 : decode cX8_sits 133 = .ok (.ishl, 1) := by decide +kernel
theorem dX8_sits_134 : decode cX8_sits 134 = .ok (.ior, 1) := by decide +kernel
theorem dX8_sits_135 : decode cX8_sits 135 = .ok (.dup2, 1) := by decide +kernel
theorem dX8_sits_136 : decode cX8_sits 136 = .ok (.laload, 1) := by decide +kernel
theorem dX8_sits_137 : decode cX8_sits 137 = .ok (.lload 7, 2) := by decide +kernel
theorem dX8_sits_139 : decode cX8_sits 139 = .ok (.ladd, 1) := by decide +kernel
theorem dX8_sits_140 : decode cX8_sits 140 = .ok (.lastore, 1) := by decide +kernel
theorem dX8_sits_141 : decode cX8_sits 141 = .ok (.iinc 9 1, 3) := by decide +kernel
theorem dX8_sits_144 : decode cX8_sits 144 = .ok (.goto (-49), 3) := by decide +kernel
theorem dX8_sits_147 : decode cX8_sits 147 = .ok (.iinc 5 1, 3) := by decide +kernel
theorem dX8_sits_150 : decode cX8_sits 150 = .ok (.goto (-111), 3) := by decide +kernel
theorem dX8_sits_153 : decode cX8_sits 153 = .ok (.iconst 0, 1) := by decide +kernel
theorem dX8_sits_154 : decode cX8_sits 154 = .ok (.istore 5, 2) := by decide +kernel
theorem dX8_sits_156 : decode cX8_sits 156 = .ok (.iload 5, 2) := by decide +kernel
theorem dX8_sits_158 : decode cX8_sits 158 = .ok (.aload_n 0, 1) := by decide +kernel
theorem dX8_sits_159 : decode cX8_sits 159 = .ok (.invokevirtual 166, 3) := by decide +kernel
theorem dX8_sits_162 : decode cX8_sits 162 = .ok (.if_icmp .gt 23, 3) := by decide +kernel
theorem dX8_sits_165 : decode cX8_sits 165 = .ok (.aload_n 0, 1) := by decide +kernel
theorem dX8_sits_166 : decode cX8_sits 166 = .ok (.getfield 40, 3) := by decide +kernel
theorem dX8_sits_169 : decode cX8_sits 169 = .ok (.iload 5, 2) := by decide +kernel
theorem dX8_sits_171 : decode cX8_sits 171 = .ok (.aload_n 0, 1) := by decide +kernel
theorem dX8_sits_172 : decode cX8_sits 172 = .ok (.getfield 44, 3) := by decide +kernel
theorem dX8_sits_175 : decode cX8_sits 175 = .ok (.iload 5, 2) := by decide +kernel
theorem dX8_sits_177 : decode cX8_sits 177 = .ok (.laload, 1) := by decide +kernel
theorem dX8_sits_178 : decode cX8_sits 178 = .ok (.lastore, 1) := by decide +kernel
theorem dX8_sits_179 : decode cX8_sits 179 = .ok (.iinc 5 1, 3) := by decide +kernel
theorem dX8_sits_182 : decode cX8_sits 182 = .ok (.goto (-26), 3) := by decide +kernel
theorem dX8_sits_185 : decode cX8_sits 185 = .ok (.aload_n 0, 1) := by decide +kernel
theorem dX8_sits_186 : decode cX8_sits 186 = .ok (.dup, 1) := by decide +kernel
theorem dX8_sits_187 : decode cX8_sits 187 = .ok (.getfield 185, 3) := by decide +kernel
theorem dX8_sits_190 : decode cX8_sits 190 = .ok (.lload_n 3, 1) := by decide +kernel
theorem dX8_sits_191 : decode cX8_sits 191 = .ok (.lmul, 1) := by decide +kernel
theorem dX8_sits_192 : decode cX8_sits 192 = .ok (.putfield 185, 3) := by decide +kernel
theorem dX8_sits_195 : decode cX8_sits 195 = .ok (.return_, 1) := by decide +kernel
theorem dX8_firstSit_0 : decode cX8_firstSit 0 = .ok (.aload_n 0, 1) := by decide +kernel
theorem dX8_firstSit_1 : decode cX8_firstSit 1 = .ok (.invokevirtual 211, 3) := by decide +kernel
theorem dX8_firstSit_4 : decode cX8_firstSit 4 = .ok (.aload_n 0, 1) := by decide +kernel
theorem dX8_firstSit_5 : decode cX8_firstSit 5 = .ok (.invokevirtual 214, 3) := by decide +kernel
theorem dX8_firstSit_8 : decode cX8_firstSit 8 = .ok (.iconst 0, 1) := by decide +kernel
theorem dX8_firstSit_9 : decode cX8_firstSit 9 = .ok (.istore_n 2, 1) := by decide +kernel
theorem dX8_firstSit_10 : decode cX8_firstSit 10 = .ok (.iload_n 2, 1) := by decide +kernel
theorem dX8_firstSit_11 : decode cX8_firstSit 11 = .ok (.iload_n 1, 1) := by decide +kernel
theorem dX8_firstSit_12 : decode cX8_firstSit 12 = .ok (.if_icmp .ge 15, 3) := by decide +kernel
theorem dX8_firstSit_15 : decode cX8_firstSit 15 = .ok (.aload_n 0, 1) := by decide +kernel
theorem dX8_firstSit_16 : decode cX8_firstSit 16 = .ok (.iload_n 2, 1) := by decide +kernel
theorem dX8_firstSit_17 : decode cX8_firstSit 17 = .ok (.iload_n 2, 1) := by decide +kernel
theorem dX8_firstSit_18 : decode cX8_firstSit 18 = .ok (.invokevirtual 217, 3) := by decide +kernel
theorem dX8_firstSit_21 : decode cX8_firstSit 21 = .ok (.iinc 2 1, 3) := by decide +kernel
theorem dX8_firstSit_24 : decode cX8_firstSit 24 = .ok (.goto (-14), 3) := by decide +kernel
theorem dX8_firstSit_27 : decode cX8_firstSit 27 = .ok (.return_, 1) := by decide +kernel
theorem dX8_nextOn_0 : decode cX8_nextOn 0 = .ok (.aload_n 0, 1) := by decide +kernel
theorem dX8_nextOn_1 : decode cX8_nextOn 1 = .ok (.getfield 116, 3) := by decide +kernel
theorem dX8_nextOn_4 : decode cX8_nextOn 4 = .ok (.iload_n 3, 1) := by decide +kernel
theorem dX8_nextOn_5 : decode cX8_nextOn 5 = .ok (.isub, 1) := by decide +kernel
theorem dX8_nextOn_6 : decode cX8_nextOn 6 = .ok (.invokestatic 195, 3) := by decide +kernel
theorem dX8_nextOn_9 : decode cX8_nextOn 9 = .ok (.lstore 4, 2) := by decide +kernel
theorem dX8_nextOn_11 : decode cX8_nextOn 11 = .ok (.lconst 0, 1) := by decide +kernel
theorem dX8_nextOn_12 : decode cX8_nextOn 12 = .ok (.lstore 6, 2) := by decide +kernel
theorem dX8_nextOn_14 : decode cX8_nextOn 14 = .ok (.iconst 0, 1) := by decide +kernel
theorem dX8_nextOn_15 : decode cX8_nextOn 15 = .ok (.istore 8, 2) := by decide +kernel
theorem dX8_nextOn_17 : decode cX8_nextOn 17 = .ok (.iload 8, 2) := by decide +kernel
theorem dX8_nextOn_19 : decode cX8_nextOn 19 = .ok (.aload_n 0, 1) := by decide +kernel
theorem dX8_nextOn_20 : decode cX8_nextOn 20 = .ok (.invokevirtual 166, 3) := by decide +kernel
theorem dX8_nextOn_23 : decode cX8_nextOn 23 = .ok (.if_icmp .gt 70, 3) := by decide +kernel
theorem dX8_nextOn_26 : decode cX8_nextOn 26 = .ok (.aload_n 0, 1) := by decide +kernel
theorem dX8_nextOn_27 : decode cX8_nextOn 27 = .ok (.getfield 40, 3) := by decide +kernel
theorem dX8_nextOn_30 : decode cX8_nextOn 30 = .ok (.iload 8, 2) := by decide +kernel
theorem dX8_nextOn_32 : decode cX8_nextOn 32 = .ok (.laload, 1) := by decide +kernel
theorem dX8_nextOn_33 : decode cX8_nextOn 33 = .ok (.lconst 0, 1) := by decide +kernel
theorem dX8_nextOn_34 : decode cX8_nextOn 34 = .ok (.lcmp, 1) := by decide +kernel
theorem dX8_nextOn_35 : decode cX8_nextOn 35 = .ok (.ifCond .le 52, 3) := by decide +kernel
theorem dX8_nextOn_38 : decode cX8_nextOn 38 = .ok (.aload_n 0, 1) := by decide +kernel
theorem dX8_nextOn_39 : decode cX8_nextOn 39 = .ok (.iload_n 1, 1) := by decide +kernel
theorem dX8_nextOn_40 : decode cX8_nextOn 40 = .ok (.aload_n 0, 1) := by decide +kernel
theorem dX8_nextOn_41 : decode cX8_nextOn 41 = .ok (.iload_n 1, 1) := by decide +kernel
theorem dX8_nextOn_42 : decode cX8_nextOn 42 = .ok (.invokevirtual 199, 3) := by decide +kernel
theorem dX8_nextOn_45 : decode cX8_nextOn 45 = .ok (.iload 8, 2) := by decide +kernel
theorem dX8_nextOn_47 : decode cX8_nextOn 47 = .ok (.invokevirtual 202, 3) := by decide +kernel
theorem dX8_nextOn_50 : decode cX8_nextOn 50 = .ok (.istore 9, 2) := by decide +kernel
theorem dX8_nextOn_52 : decode cX8_nextOn 52 = .ok (.lload 6, 2) := by decide +kernel
theorem dX8_nextOn_54 : decode cX8_nextOn 54 = .ok (.iload 9, 2) := by decide +kernel
theorem dX8_nextOn_56 : decode cX8_nextOn 56 = .ok (.iload_n 2, 1) := by decide +kernel
theorem dX8_nextOn_57 : decode cX8_nextOn 57 = .ok (.invokestatic 162, 3) := by decide +kernel
theorem dX8_nextOn_60 : decode cX8_nextOn 60 = .ok (.ifCond .eq 23, 3) := by decide +kernel
theorem dX8_nextOn_63 : decode cX8_nextOn 63 = .ok (.aload_n 0, 1) := by decide +kernel
theorem dX8_nextOn_64 : decode cX8_nextOn 64 = .ok (.getfield 40, 3) := by decide +kernel
theorem dX8_nextOn_67 : decode cX8_nextOn 67 = .ok (.iload 8, 2) := by decide +kernel
theorem dX8_nextOn_69 : decode cX8_nextOn 69 = .ok (.laload, 1) := by decide +kernel
theorem dX8_nextOn_70 : decode cX8_nextOn 70 = .ok (.lload 4, 2) := by decide +kernel
theorem dX8_nextOn_72 : decode cX8_nextOn 72 = .ok (.iload 9, 2) := by decide +kernel
theorem dX8_nextOn_74 : decode cX8_nextOn 74 = .ok (.invokestatic 205, 3) := by decide +kernel
theorem dX8_nextOn_77 : decode cX8_nextOn 77 = .ok (.i2l, 1) := by decide +kernel
theorem dX8_nextOn_78 : decode cX8_nextOn 78 = .ok (.ldiv, 1) := by decide +kernel
theorem dX8_nextOn_79 : decode cX8_nextOn 79 = .ok (.lmul, 1) := by decide +kernel
theorem dX8_nextOn_80 : decode cX8_nextOn 80 = .ok (.goto 4, 3) := by decide +kernel
theorem dX8_nextOn_83 : decode cX8_nextOn 83 = .ok (.lconst 0, 1) := by decide +kernel
theorem dX8_nextOn_84 : decode cX8_nextOn 84 = .ok (.ladd, 1) := by decide +kernel
theorem dX8_nextOn_85 : decode cX8_nextOn 85 = .ok (.lstore 6, 2) := by decide +kernel
theorem dX8_nextOn_87 : decode cX8_nextOn 87 = .ok (.iinc 8 1, 3) := by decide +kernel
theorem dX8_nextOn_90 : decode cX8_nextOn 90 = .ok (.goto (-73), 3) := by decide +kernel
theorem dX8_nextOn_93 : decode cX8_nextOn 93 = .ok (.lload 6, 2) := by decide +kernel
theorem dX8_nextOn_95 : decode cX8_nextOn 95 = .ok (.lreturn, 1) := by decide +kernel
theorem dX8_likelyOf_0 : decode cX8_likelyOf 0 = .ok (.aload_n 0, 1) := by decide +kernel
theorem dX8_likelyOf_1 : decode cX8_likelyOf 1 = .ok (.iload_n 1, 1) := by decide +kernel
theorem dX8_likelyOf_2 : decode cX8_likelyOf 2 = .ok (.invokevirtual 221, 3) := by decide +kernel
theorem dX8_likelyOf_5 : decode cX8_likelyOf 5 = .ok (.aload_n 0, 1) := by decide +kernel
theorem dX8_likelyOf_6 : decode cX8_likelyOf 6 = .ok (.iload_n 1, 1) := by decide +kernel
theorem dX8_likelyOf_7 : decode cX8_likelyOf 7 = .ok (.iload_n 2, 1) := by decide +kernel
theorem dX8_likelyOf_8 : decode cX8_likelyOf 8 = .ok (.iload_n 1, 1) := by decide +kernel
theorem dX8_likelyOf_9 : decode cX8_likelyOf 9 = .ok (.invokevirtual 225, 3) := by decide +kernel
theorem dX8_likelyOf_12 : decode cX8_likelyOf 12 = .ok (.aload_n 0, 1) := by decide +kernel
theorem dX8_likelyOf_13 : decode cX8_likelyOf 13 = .ok (.getfield 185, 3) := by decide +kernel
theorem dX8_likelyOf_16 : decode cX8_likelyOf 16 = .ok (.aload_n 0, 1) := by decide +kernel
theorem dX8_likelyOf_17 : decode cX8_likelyOf 17 = .ok (.getfield 116, 3) := by decide +kernel
theorem dX8_likelyOf_20 : decode cX8_likelyOf 20 = .ok (.iload_n 1, 1) := by decide +kernel
theorem dX8_likelyOf_21 : decode cX8_likelyOf 21 = .ok (.isub, 1) := by decide +kernel
theorem dX8_likelyOf_22 : decode cX8_likelyOf 22 = .ok (.invokestatic 195, 3) := by decide +kernel
theorem dX8_likelyOf_25 : decode cX8_likelyOf 25 = .ok (.lmul, 1) := by decide +kernel
theorem dX8_likelyOf_26 : decode cX8_likelyOf 26 = .ok (.iload_n 3, 1) := by decide +kernel
theorem dX8_likelyOf_27 : decode cX8_likelyOf 27 = .ok (.invokestatic 229, 3) := by decide +kernel
theorem dX8_likelyOf_30 : decode cX8_likelyOf 30 = .ok (.lreturn, 1) := by decide +kernel
theorem dX8_likely_0 : decode cX8_likely 0 = .ok (.aload_n 0, 1) := by decide +kernel
theorem dX8_likely_1 : decode cX8_likely 1 = .ok (.iload_n 1, 1) := by decide +kernel
theorem dX8_likely_2 : decode cX8_likely 2 = .ok (.invokevirtual 159, 3) := by decide +kernel
theorem dX8_likely_5 : decode cX8_likely 5 = .ok (.ifCond .eq 28, 3) := by decide +kernel
theorem dX8_likely_8 : decode cX8_likely 8 = .ok (.aload_n 0, 1) := by decide +kernel
theorem dX8_likely_9 : decode cX8_likely 9 = .ok (.iload_n 2, 1) := by decide +kernel
theorem dX8_likely_10 : decode cX8_likely 10 = .ok (.invokevirtual 153, 3) := by decide +kernel
theorem dX8_likely_13 : decode cX8_likely 13 = .ok (.ifCond .eq 20, 3) := by decide +kernel
theorem dX8_likely_16 : decode cX8_likely 16 = .ok (.iload_n 3, 1) := by decide +kernel
theorem dX8_likely_17 : decode cX8_likely 17 = .ok (.invokestatic 108, 3) := by decide +kernel
theorem dX8_likely_20 : decode cX8_likely 20 = .ok (.ifCond .eq 13, 3) := by decide +kernel
theorem dX8_likely_23 : decode cX8_likely 23 = .ok (.aload_n 0, 1) := by decide +kernel
theorem dX8_likely_24 : decode cX8_likely 24 = .ok (.iload_n 1, 1) := by decide +kernel
theorem dX8_likely_25 : decode cX8_likely 25 = .ok (.iload_n 2, 1) := by decide +kernel
theorem dX8_likely_26 : decode cX8_likely 26 = .ok (.iload_n 3, 1) := by decide +kernel
theorem dX8_likely_27 : decode cX8_likely 27 = .ok (.invokevirtual 233, 3) := by decide +kernel
theorem dX8_likely_30 : decode cX8_likely 30 = .ok (.goto 8, 3) := by decide +kernel
theorem dX8_likely_33 : decode cX8_likely 33 = .ok (.bipush (-2), 2) := by decide +kernel
theorem dX8_likely_35 : decode cX8_likely 35 = .ok (.invokestatic 236, 3) := by decide +kernel
theorem dX8_likely_38 : decode cX8_likely 38 = .ok (.lreturn, 1) := by decide +kernel
theorem dX8_takenOf_0 : decode cX8_takenOf 0 = .ok (.aload_n 0, 1) := by decide +kernel
theorem dX8_takenOf_1 : decode cX8_takenOf 1 = .ok (.iload_n 1, 1) := by decide +kernel
theorem dX8_takenOf_2 : decode cX8_takenOf 2 = .ok (.invokevirtual 221, 3) := by decide +kernel
theorem dX8_takenOf_5 : decode cX8_takenOf 5 = .ok (.aload_n 0, 1) := by decide +kernel
theorem dX8_takenOf_6 : decode cX8_takenOf 6 = .ok (.getfield 40, 3) := by decide +kernel
theorem dX8_takenOf_9 : decode cX8_takenOf 9 = .ok (.iload_n 2, 1) := by decide +kernel
theorem dX8_takenOf_10 : decode cX8_takenOf 10 = .ok (.laload, 1) := by decide +kernel
theorem dX8_takenOf_11 : decode cX8_takenOf 11 = .ok (.aload_n 0, 1) := by decide +kernel
theorem dX8_takenOf_12 : decode cX8_takenOf 12 = .ok (.getfield 185, 3) := by decide +kernel
theorem dX8_takenOf_15 : decode cX8_takenOf 15 = .ok (.iload_n 3, 1) := by decide +kernel
theorem dX8_takenOf_16 : decode cX8_takenOf 16 = .ok (.invokestatic 229, 3) := by decide +kernel
theorem dX8_takenOf_19 : decode cX8_takenOf 19 = .ok (.lreturn, 1) := by decide +kernel
theorem dX8_taken_0 : decode cX8_taken 0 = .ok (.aload_n 0, 1) := by decide +kernel
theorem dX8_taken_1 : decode cX8_taken 1 = .ok (.invokevirtual 147, 3) := by decide +kernel
theorem dX8_taken_4 : decode cX8_taken 4 = .ok (.iload_n 1, 1) := by decide +kernel
theorem dX8_taken_5 : decode cX8_taken 5 = .ok (.i2l, 1) := by decide +kernel
theorem dX8_taken_6 : decode cX8_taken 6 = .ok (.lconst 0, 1) := by decide +kernel
theorem dX8_taken_7 : decode cX8_taken 7 = .ok (.aload_n 0, 1) := by decide +kernel
theorem dX8_taken_8 : decode cX8_taken 8 = .ok (.getfield 129, 3) := by decide +kernel
theorem dX8_taken_11 : decode cX8_taken 11 = .ok (.i2l, 1) := by decide +kernel
theorem dX8_taken_12 : decode cX8_taken 12 = .ok (.invokestatic 80, 3) := by decide +kernel
theorem dX8_taken_15 : decode cX8_taken 15 = .ok (.ifCond .eq 34, 3) := by decide +kernel
theorem dX8_taken_18 : decode cX8_taken 18 = .ok (.iload_n 2, 1) := by decide +kernel
theorem dX8_taken_19 : decode cX8_taken 19 = .ok (.i2l, 1) := by decide +kernel
theorem dX8_taken_20 : decode cX8_taken 20 = .ok (.lconst 0, 1) := by decide +kernel
theorem dX8_taken_21 : decode cX8_taken 21 = .ok (.aload_n 0, 1) := by decide +kernel
theorem dX8_taken_22 : decode cX8_taken 22 = .ok (.invokevirtual 166, 3) := by decide +kernel
theorem dX8_taken_25 : decode cX8_taken 25 = .ok (.i2l, 1) := by decide +kernel
theorem dX8_taken_26 : decode cX8_taken 26 = .ok (.invokestatic 80, 3) := by decide +kernel
theorem dX8_taken_29 : decode cX8_taken 29 = .ok (.ifCond .eq 20, 3) := by decide +kernel
theorem dX8_taken_32 : decode cX8_taken 32 = .ok (.iload_n 3, 1) := by decide +kernel
theorem dX8_taken_33 : decode cX8_taken 33 = .ok (.invokestatic 108, 3) := by decide +kernel
theorem dX8_taken_36 : decode cX8_taken 36 = .ok (.ifCond .eq 13, 3) := by decide +kernel
theorem dX8_taken_39 : decode cX8_taken 39 = .ok (.aload_n 0, 1) := by decide +kernel
theorem dX8_taken_40 : decode cX8_taken 40 = .ok (.iload_n 1, 1) := by decide +kernel
theorem dX8_taken_41 : decode cX8_taken 41 = .ok (.iload_n 2, 1) := by decide +kernel
theorem dX8_taken_42 : decode cX8_taken 42 = .ok (.iload_n 3, 1) := by decide +kernel
theorem dX8_taken_43 : decode cX8_taken 43 = .ok (.invokevirtual 239, 3) := by decide +kernel
theorem dX8_taken_46 : decode cX8_taken 46 = .ok (.goto 8, 3) := by decide +kernel
theorem dX8_taken_49 : decode cX8_taken 49 = .ok (.bipush (-2), 2) := by decide +kernel
theorem dX8_taken_51 : decode cX8_taken 51 = .ok (.invokestatic 236, 3) := by decide +kernel
theorem dX8_taken_54 : decode cX8_taken 54 = .ok (.lreturn, 1) := by decide +kernel
theorem dX8_rightByOrder_0 : decode cX8_rightByOrder 0 = .ok (.aload_n 0, 1) := by decide +kernel
theorem dX8_rightByOrder_1 : decode cX8_rightByOrder 1 = .ok (.invokevirtual 211, 3) := by decide +kernel
theorem dX8_rightByOrder_4 : decode cX8_rightByOrder 4 = .ok (.aload_n 0, 1) := by decide +kernel
theorem dX8_rightByOrder_5 : decode cX8_rightByOrder 5 = .ok (.invokevirtual 214, 3) := by decide +kernel
theorem dX8_rightByOrder_8 : decode cX8_rightByOrder 8 = .ok (.lconst 0, 1) := by decide +kernel
theorem dX8_rightByOrder_9 : decode cX8_rightByOrder 9 = .ok (.lstore_n 2, 1) := by decide +kernel
theorem dX8_rightByOrder_10 : decode cX8_rightByOrder 10 = .ok (.iconst 0, 1) := by decide +kernel
theorem dX8_rightByOrder_11 : decode cX8_rightByOrder 11 = .ok (.istore 4, 2) := by decide +kernel
theorem dX8_rightByOrder_13 : decode cX8_rightByOrder 13 = .ok (.iload 4, 2) := by decide +kernel
theorem dX8_rightByOrder_15 : decode cX8_rightByOrder 15 = .ok (.iload_n 1, 1) := by decide +kernel
theorem dX8_rightByOrder_16 : decode cX8_rightByOrder 16 = .ok (.if_icmp .ge 59, 3) := by decide +kernel
theorem dX8_rightByOrder_19 : decode cX8_rightByOrder 19 = .ok (.aload_n 0, 1) := by decide +kernel
theorem dX8_rightByOrder_20 : decode cX8_rightByOrder 20 = .ok (.getfield 57, 3) := by decide +kernel
theorem dX8_rightByOrder_23 : decode cX8_rightByOrder 23 = .ok (.iload 4, 2) := by decide +kernel
theorem dX8_rightByOrder_25 : decode cX8_rightByOrder 25 = .ok (.iaload, 1) := by decide +kernel
theorem dX8_rightByOrder_26 : decode cX8_rightByOrder 26 = .ok (.istore 5, 2) := by decide +kernel
theorem dX8_rightByOrder_28 : decode cX8_rightByOrder 28 = .ok (.aload_n 0, 1) := by decide +kernel
theorem dX8_rightByOrder_29 : decode cX8_rightByOrder 29 = .ok (.getfield 116, 3) := by decide +kernel
theorem dX8_rightByOrder_32 : decode cX8_rightByOrder 32 = .ok (.iload 4, 2) := by decide +kernel
theorem dX8_rightByOrder_34 : decode cX8_rightByOrder 34 = .ok (.isub, 1) := by decide +kernel
theorem dX8_rightByOrder_35 : decode cX8_rightByOrder 35 = .ok (.invokestatic 195, 3) := by decide +kernel
theorem dX8_rightByOrder_38 : decode cX8_rightByOrder 38 = .ok (.lstore 6, 2) := by decide +kernel
theorem dX8_rightByOrder_40 : decode cX8_rightByOrder 40 = .ok (.lload_n 2, 1) := by decide +kernel
theorem dX8_rightByOrder_41 : decode cX8_rightByOrder 41 = .ok (.lload 6, 2) := by decide +kernel
theorem dX8_rightByOrder_43 : decode cX8_rightByOrder 43 = .ok (.lmul, 1) := by decide +kernel
theorem dX8_rightByOrder_44 : decode cX8_rightByOrder 44 = .ok (.aload_n 0, 1) := by decide +kernel
theorem dX8_rightByOrder_45 : decode cX8_rightByOrder 45 = .ok (.iload 5, 2) := by decide +kernel
theorem dX8_rightByOrder_47 : decode cX8_rightByOrder 47 = .ok (.aload_n 0, 1) := by decide +kernel
theorem dX8_rightByOrder_48 : decode cX8_rightByOrder 48 = .ok (.getfield 34, 3) := by decide +kernel
theorem dX8_rightByOrder_51 : decode cX8_rightByOrder 51 = .ok (.iload 5, 2) := by decide +kernel
theorem dX8_rightByOrder_53 : decode cX8_rightByOrder 53 = .ok (.iaload, 1) := by decide +kernel
theorem dX8_rightByOrder_54 : decode cX8_rightByOrder 54 = .ok (.iload 4, 2) := by decide +kernel
theorem dX8_rightByOrder_56 : decode cX8_rightByOrder 56 = .ok (.invokevirtual 225, 3) := by decide +kernel
theorem dX8_rightByOrder_59 : decode cX8_rightByOrder 59 = .ok (.ladd, 1) := by decide +kernel
theorem dX8_rightByOrder_60 : decode cX8_rightByOrder 60 = .ok (.lstore_n 2, 1) := by decide +kernel
theorem dX8_rightByOrder_61 : decode cX8_rightByOrder 61 = .ok (.aload_n 0, 1) := by decide +kernel
theorem dX8_rightByOrder_62 : decode cX8_rightByOrder 62 = .ok (.iload 5, 2) := by decide +kernel
theorem dX8_rightByOrder_64 : decode cX8_rightByOrder 64 = .ok (.iload 4, 2) := by decide +kernel
theorem dX8_rightByOrder_66 : decode cX8_rightByOrder 66 = .ok (.invokevirtual 217, 3) := by decide +kernel
theorem dX8_rightByOrder_69 : decode cX8_rightByOrder 69 = .ok (.iinc 4 1, 3) := by decide +kernel
theorem dX8_rightByOrder_72 : decode cX8_rightByOrder 72 = .ok (.goto (-59), 3) := by decide +kernel
theorem dX8_rightByOrder_75 : decode cX8_rightByOrder 75 = .ok (.lload_n 2, 1) := by decide +kernel
theorem dX8_rightByOrder_76 : decode cX8_rightByOrder 76 = .ok (.lreturn, 1) := by decide +kernel
theorem dX8_asTheyCome_0 : decode cX8_asTheyCome 0 = .ok (.iconst 0, 1) := by decide +kernel
theorem dX8_asTheyCome_1 : decode cX8_asTheyCome 1 = .ok (.istore_n 1, 1) := by decide +kernel
theorem dX8_asTheyCome_2 : decode cX8_asTheyCome 2 = .ok (.iload_n 1, 1) := by decide +kernel
theorem dX8_asTheyCome_3 : decode cX8_asTheyCome 3 = .ok (.aload_n 0, 1) := by decide +kernel
theorem dX8_asTheyCome_4 : decode cX8_asTheyCome 4 = .ok (.getfield 129, 3) := by decide +kernel
theorem dX8_asTheyCome_7 : decode cX8_asTheyCome 7 = .ok (.if_icmp .ge 16, 3) := by decide +kernel
theorem dX8_asTheyCome_10 : decode cX8_asTheyCome 10 = .ok (.aload_n 0, 1) := by decide +kernel
theorem dX8_asTheyCome_11 : decode cX8_asTheyCome 11 = .ok (.getfield 57, 3) := by decide +kernel
theorem dX8_asTheyCome_14 : decode cX8_asTheyCome 14 = .ok (.iload_n 1, 1) := by decide +kernel
theorem dX8_asTheyCome_15 : decode cX8_asTheyCome 15 = .ok (.iload_n 1, 1) := by decide +kernel
theorem dX8_asTheyCome_16 : decode cX8_asTheyCome 16 = .ok (.iastore, 1) := by decide +kernel
theorem dX8_asTheyCome_17 : decode cX8_asTheyCome 17 = .ok (.iinc 1 1, 3) := by decide +kernel
theorem dX8_asTheyCome_20 : decode cX8_asTheyCome 20 = .ok (.goto (-18), 3) := by decide +kernel
theorem dX8_asTheyCome_23 : decode cX8_asTheyCome 23 = .ok (.return_, 1) := by decide +kernel
theorem dX8_meanOf_0 : decode cX8_meanOf 0 = .ok (.aload_n 0, 1) := by decide +kernel
theorem dX8_meanOf_1 : decode cX8_meanOf 1 = .ok (.invokevirtual 242, 3) := by decide +kernel
theorem dX8_meanOf_4 : decode cX8_meanOf 4 = .ok (.aload_n 0, 1) := by decide +kernel
theorem dX8_meanOf_5 : decode cX8_meanOf 5 = .ok (.aload_n 0, 1) := by decide +kernel
theorem dX8_meanOf_6 : decode cX8_meanOf 6 = .ok (.getfield 129, 3) := by decide +kernel
theorem dX8_meanOf_9 : decode cX8_meanOf 9 = .ok (.invokevirtual 245, 3) := by decide +kernel
theorem dX8_meanOf_12 : decode cX8_meanOf 12 = .ok (.lstore_n 2, 1) := by decide +kernel
theorem dX8_meanOf_13 : decode cX8_meanOf 13 = .ok (.aload_n 0, 1) := by decide +kernel
theorem dX8_meanOf_14 : decode cX8_meanOf 14 = .ok (.getfield 129, 3) := by decide +kernel
theorem dX8_meanOf_17 : decode cX8_meanOf 17 = .ok (.i2l, 1) := by decide +kernel
theorem dX8_meanOf_18 : decode cX8_meanOf 18 = .ok (.aload_n 0, 1) := by decide +kernel
theorem dX8_meanOf_19 : decode cX8_meanOf 19 = .ok (.getfield 185, 3) := by decide +kernel
theorem dX8_meanOf_22 : decode cX8_meanOf 22 = .ok (.lmul, 1) := by decide +kernel
theorem dX8_meanOf_23 : decode cX8_meanOf 23 = .ok (.lload_n 2, 1) := by decide +kernel
theorem dX8_meanOf_24 : decode cX8_meanOf 24 = .ok (.lsub, 1) := by decide +kernel
theorem dX8_meanOf_25 : decode cX8_meanOf 25 = .ok (.aload_n 0, 1) := by decide +kernel
theorem dX8_meanOf_26 : decode cX8_meanOf 26 = .ok (.getfield 185, 3) := by decide +kernel
theorem dX8_meanOf_29 : decode cX8_meanOf 29 = .ok (.iload_n 1, 1) := by decide +kernel
theorem dX8_meanOf_30 : decode cX8_meanOf 30 = .ok (.invokestatic 229, 3) := by decide +kernel
theorem dX8_meanOf_33 : decode cX8_meanOf 33 = .ok (.lreturn, 1) := by decide +kernel
theorem dX8_justOf_0 : decode cX8_justOf 0 = .ok (.aload_n 0, 1) := by decide +kernel
theorem dX8_justOf_1 : decode cX8_justOf 1 = .ok (.invokevirtual 211, 3) := by decide +kernel
theorem dX8_justOf_4 : decode cX8_justOf 4 = .ok (.iconst 0, 1) := by decide +kernel
theorem dX8_justOf_5 : decode cX8_justOf 5 = .ok (.istore_n 3, 1) := by decide +kernel
theorem dX8_justOf_6 : decode cX8_justOf 6 = .ok (.iload_n 3, 1) := by decide +kernel
theorem dX8_justOf_7 : decode cX8_justOf 7 = .ok (.sipush 2304, 3) := by decide +kernel
theorem dX8_justOf_10 : decode cX8_justOf 10 = .ok (.if_icmp .ge 24, 3) := by decide +kernel
theorem dX8_justOf_13 : decode cX8_justOf 13 = .ok (.aload_n 0, 1) := by decide +kernel
theorem dX8_justOf_14 : decode cX8_justOf 14 = .ok (.getfield 63, 3) := by decide +kernel
theorem dX8_justOf_17 : decode cX8_justOf 17 = .ok (.iload_n 3, 1) := by decide +kernel
theorem dX8_justOf_18 : decode cX8_justOf 18 = .ok (.iload_n 3, 1) := by decide +kernel
theorem dX8_justOf_19 : decode cX8_justOf 19 = .ok (.ifCond .ne 7, 3) := by decide +kernel
theorem dX8_justOf_22 : decode cX8_justOf 22 = .ok (.lconst 1, 1) := by decide +kernel
theorem dX8_justOf_23 : decode cX8_justOf 23 = .ok (.goto 4, 3) := by decide +kernel
theorem dX8_justOf_26 : decode cX8_justOf 26 = .ok (.lconst 0, 1) := by decide +kernel
theorem dX8_justOf_27 : decode cX8_justOf 27 = .ok (.lastore, 1) := by decide +kernel
theorem dX8_justOf_28 : decode cX8_justOf 28 = .ok (.iinc 3 1, 3) := by decide +kernel
theorem dX8_justOf_31 : decode cX8_justOf 31 = .ok (.goto (-25), 3) := by decide +kernel
theorem dX8_justOf_34 : decode cX8_justOf 34 = .ok (.lconst 1, 1) := by decide +kernel
theorem dX8_justOf_35 : decode cX8_justOf 35 = .ok (.lstore_n 3, 1) := by decide +kernel
theorem dX8_justOf_36 : decode cX8_justOf 36 = .ok (.iconst 0, 1) := by decide +kernel
theorem dX8_justOf_37 : decode cX8_justOf 37 = .ok (.istore 5, 2) := by decide +kernel
theorem dX8_justOf_39 : decode cX8_justOf 39 = .ok (.iload 5, 2) := by decide +kernel
theorem dX8_justOf_41 : decode cX8_justOf 41 = .ok (.aload_n 0, 1) := by decide +kernel
theorem dX8_justOf_42 : decode cX8_justOf 42 = .ok (.getfield 129, 3) := by decide +kernel
theorem dX8_justOf_45 : decode cX8_justOf 45 = .ok (.if_icmp .ge 222, 3) := by decide +kernel
theorem dX8_justOf_48 : decode cX8_justOf 48 = .ok (.aload_n 0, 1) := by decide +kernel
theorem dX8_justOf_49 : decode cX8_justOf 49 = .ok (.getfield 116, 3) := by decide +kernel
theorem dX8_justOf_52 : decode cX8_justOf 52 = .ok (.iload 5, 2) := by decide +kernel
theorem dX8_justOf_54 : decode cX8_justOf 54 = .ok (.isub, 1) := by decide +kernel
theorem dX8_justOf_55 : decode cX8_justOf 55 = .ok (.invokestatic 195, 3) := by decide +kernel
theorem dX8_justOf_58 : decode cX8_justOf 58 = .ok (.lstore 6, 2) := by decide +kernel
theorem dX8_justOf_60 : decode cX8_justOf 60 = .ok (.lload_n 3, 1) := by decide +kernel
theorem dX8_justOf_61 : decode cX8_justOf 61 = .ok (.lload 6, 2) := by decide +kernel
theorem dX8_justOf_63 : decode cX8_justOf 63 = .ok (.lmul, 1) := by decide +kernel
theorem dX8_justOf_64 : decode cX8_justOf 64 = .ok (.lstore_n 3, 1) := by decide +kernel
theorem dX8_justOf_65 : decode cX8_justOf 65 = .ok (.iconst 0, 1) := by decide +kernel
theorem dX8_justOf_66 : decode cX8_justOf 66 = .ok (.istore 8, 2) := by decide +kernel
theorem dX8_justOf_68 : decode cX8_justOf 68 = .ok (.iload 8, 2) := by decide +kernel
theorem dX8_justOf_70 : decode cX8_justOf 70 = .ok (.sipush 2304, 3) := by decide +kernel
theorem dX8_justOf_73 : decode cX8_justOf 73 = .ok (.if_icmp .ge 17, 3) := by decide +kernel
theorem dX8_justOf_76 : decode cX8_justOf 76 = .ok (.aload_n 0, 1) := by decide +kernel
theorem dX8_justOf_77 : decode cX8_justOf 77 = .ok (.getfield 66, 3) := by decide +kernel
theorem dX8_justOf_80 : decode cX8_justOf 80 = .ok (.iload 8, 2) := by decide +kernel
theorem dX8_justOf_82 : decode cX8_justOf 82 = .ok (.lconst 0, 1) := by decide +kernel
theorem dX8_justOf_83 : decode cX8_justOf 83 = .ok (.lastore, 1) := by decide +kernel
theorem dX8_justOf_84 : decode cX8_justOf 84 = .ok (.iinc 8 1, 3) := by decide +kernel
theorem dX8_justOf_87 : decode cX8_justOf 87 = .ok (.goto (-19), 3) := by decide +kernel
theorem dX8_justOf_90 : decode cX8_justOf 90 = .ok (.iconst 0, 1) := by decide +kernel
theorem dX8_justOf_91 : decode cX8_justOf 91 = .ok (.istore 8, 2) := by decide +kernel
theorem dX8_justOf_93 : decode cX8_justOf 93 = .ok (.iload 8, 2) := by decide +kernel
theorem dX8_justOf_95 : decode cX8_justOf 95 = .ok (.sipush 2304, 3) := by decide +kernel
theorem dX8_justOf_98 : decode cX8_justOf 98 = .ok (.if_icmp .ge 132, 3) := by decide +kernel
theorem dX8_justOf_101 : decode cX8_justOf 101 = .ok (.aload_n 0, 1) := by decide +kernel
theorem dX8_justOf_102 : decode cX8_justOf 102 = .ok (.getfield 63, 3) := by decide +kernel
theorem dX8_justOf_105 : decode cX8_justOf 105 = .ok (.iload 8, 2) := by decide +kernel
theorem dX8_justOf_107 : decode cX8_justOf 107 = .ok (.laload, 1) := by decide +kernel
theorem dX8_justOf_108 : decode cX8_justOf 108 = .ok (.lconst 0, 1) := by decide +kernel
theorem dX8_justOf_109 : decode cX8_justOf 109 = .ok (.lcmp, 1) := by decide +kernel
theorem dX8_justOf_110 : decode cX8_justOf 110 = .ok (.ifCond .le 114, 3) := by decide +kernel
theorem dX8_justOf_113 : decode cX8_justOf 113 = .ok (.iload 8, 2) := by decide +kernel
theorem dX8_justOf_115 : decode cX8_justOf 115 = .ok (.bipush 9, 2) := by decide +kernel
theorem dX8_justOf_117 : decode cX8_justOf 117 = .ok (.idiv, 1) := by decide +kernel
theorem dX8_justOf_118 : decode cX8_justOf 118 = .ok (.istore 9, 2) := by decide +kernel
theorem dX8_justOf_120 : decode cX8_justOf 120 = .ok (.aload_n 0, 1) := by decide +kernel
theorem dX8_justOf_121 : decode cX8_justOf 121 = .ok (.iload 5, 2) := by decide +kernel
theorem dX8_justOf_123 : decode cX8_justOf 123 = .ok (.aload_n 0, 1) := by decide +kernel
theorem dX8_justOf_124 : decode cX8_justOf 124 = .ok (.getfield 37, 3) := by decide +kernel
theorem dX8_justOf_127 : decode cX8_justOf 127 = .ok (.iload 5, 2) := by decide +kernel
theorem dX8_justOf_129 : decode cX8_justOf 129 = .ok (.iaload, 1) := by decide +kernel
theorem dX8_justOf_130 : decode cX8_justOf 130 = .ok (.iload 9, 2) := by decide +kernel
theorem dX8_justOf_132 : decode cX8_justOf 132 = .ok (.invokevirtual 202, 3) := by decide +kernel
theorem dX8_justOf_135 : decode cX8_justOf 135 = .ok (.istore 10, 2) := by decide +kernel
theorem dX8_justOf_137 : decode cX8_justOf 137 = .ok (.iconst 0, 1) := by decide +kernel
theorem dX8_justOf_138 : decode cX8_justOf 138 = .ok (.istore 11, 2) := by decide +kernel
theorem dX8_justOf_140 : decode cX8_justOf 140 = .ok (.iload 11, 2) := by decide +kernel
theorem dX8_justOf_142 : decode cX8_justOf 142 = .ok (.aload_n 0, 1) := by decide +kernel
theorem dX8_justOf_143 : decode cX8_justOf 143 = .ok (.getfield 116, 3) := by decide +kernel
theorem dX8_justOf_146 : decode cX8_justOf 146 = .ok (.if_icmp .ge 78, 3) := by decide +kernel
theorem dX8_justOf_149 : decode cX8_justOf 149 = .ok (.iload 10, 2) := by decide +kernel
theorem dX8_justOf_151 : decode cX8_justOf 151 = .ok (.iload 11, 2) := by decide +kernel
theorem dX8_justOf_153 : decode cX8_justOf 153 = .ok (.invokestatic 162, 3) := by decide +kernel
theorem dX8_justOf_156 : decode cX8_justOf 156 = .ok (.ifCond .eq 62, 3) := by decide +kernel
theorem dX8_justOf_159 : decode cX8_justOf 159 = .ok (.aload_n 0, 1) := by decide +kernel
theorem dX8_justOf_160 : decode cX8_justOf 160 = .ok (.getfield 66, 3) := by decide +kernel
theorem dX8_justOf_163 : decode cX8_justOf 163 = .ok (.bipush 9, 2) := by decide +kernel
theorem dX8_justOf_165 : decode cX8_justOf 165 = .ok (.iload 9, 2) := by decide +kernel
theorem dX8_justOf_167 : decode cX8_justOf 167 = .ok (.iconst 1, 1) := by decide +kernel
theorem dX8_justOf_168 : decode cX8_justOf 168 = .ok (.iload 11, 2) := by decide +kernel
theorem dX8_justOf_170 : decode cX8_justOf 170 = .ok (.ishl, 1) := by decide +kernel
theorem dX8_justOf_171 : decode cX8_justOf 171 = .ok (.ior, 1) := by decide +kernel
theorem dX8_justOf_172 : decode cX8_justOf 172 = .ok (.imul, 1) := by decide +kernel
theorem dX8_justOf_173 : decode cX8_justOf 173 = .ok (.iload 8, 2) := by decide +kernel
theorem dX8_justOf_175 : decode cX8_justOf 175 = .ok (.bipush 9, 2) := by decide +kernel
theorem dX8_justOf_177 : decode cX8_justOf 177 = .ok (.irem, 1) := by decide +kernel
theorem dX8_justOf_178 : decode cX8_justOf 178 = .ok (.iadd, 1) := by decide +kernel
theorem dX8_justOf_179 : decode cX8_justOf 179 = .ok (.iload 11, 2) := by decide +kernel
theorem dX8_justOf_181 : decode cX8_justOf 181 = .ok (.aload_n 0, 1) := by decide +kernel
theorem dX8_justOf_182 : decode cX8_justOf 182 = .ok (.getfield 34, 3) := by decide +kernel
theorem dX8_justOf_185 : decode cX8_justOf 185 = .ok (.iload 5, 2) := by decide +kernel
theorem dX8_justOf_187 : decode cX8_justOf 187 = .ok (.iaload, 1) := by decide +kernel
theorem dX8_justOf_188 : decode cX8_justOf 188 = .ok (.if_icmp .ne 7, 3) := by decide +kernel
theorem dX8_justOf_191 : decode cX8_justOf 191 = .ok (.iconst 0, 1) := by decide +kernel
theorem dX8_justOf_192 : decode cX8_justOf 192 = .ok (.goto 4, 3) := by decide +kernel
theorem dX8_justOf_195 : decode cX8_justOf 195 = .ok (.iconst 1, 1) := by decide +kernel
theorem dX8_justOf_196 : decode cX8_justOf 196 = .ok (.iadd, 1) := by decide +kernel
theorem dX8_justOf_197 : decode cX8_justOf 197 = .ok (.dup2, 1) := by decide +kernel
theorem dX8_justOf_198 : decode cX8_justOf 198 = .ok (.laload, 1) := by decide +kernel
theorem dX8_justOf_199 : decode cX8_justOf 199 = .ok (.aload_n 0, 1) := by decide +kernel
theorem dX8_justOf_200 : decode cX8_justOf 200 = .ok (.getfield 63, 3) := by decide +kernel
theorem dX8_justOf_203 : decode cX8_justOf 203 = .ok (.iload 8, 2) := by decide +kernel
theorem dX8_justOf_205 : decode cX8_justOf 205 = .ok (.laload, 1) := by decide +kernel
theorem dX8_justOf_206 : decode cX8_justOf 206 = .ok (.lload 6, 2) := by decide +kernel
theorem dX8_justOf_208 : decode cX8_justOf 208 = .ok (.iload 10, 2) := by decide +kernel
theorem dX8_justOf_210 : decode cX8_justOf 210 = .ok (.invokestatic 205, 3) := by decide +kernel
theorem dX8_justOf_213 : decode cX8_justOf 213 = .ok (.i2l, 1) := by decide +kernel
theorem dX8_justOf_214 : decode cX8_justOf 214 = .ok (.ldiv, 1) := by decide +kernel
theorem dX8_justOf_215 : decode cX8_justOf 215 = .ok (.lmul, 1) := by decide +kernel
theorem dX8_justOf_216 : decode cX8_justOf 216 = .ok (.ladd, 1) := by decide +kernel
theorem dX8_justOf_217 : decode cX8_justOf 217 = .ok (.lastore, 1) := by decide +kernel
theorem dX8_justOf_218 : decode cX8_justOf 218 = .ok (.iinc 11 1, 3) := by decide +kernel
theorem dX8_justOf_221 : decode cX8_justOf 221 = .ok (.goto (-81), 3) := by decide +kernel
theorem dX8_justOf_224 : decode cX8_justOf 224 = .ok (.iinc 8 1, 3) := by decide +kernel
theorem dX8_justOf_227 : decode cX8_justOf 227 = .ok (.goto (-134), 3) := by decide +kernel
theorem dX8_justOf_230 : decode cX8_justOf 230 = .ok (.iconst 0, 1) := by decide +kernel
theorem dX8_justOf_231 : decode cX8_justOf 231 = .ok (.istore 8, 2) := by decide +kernel
theorem dX8_justOf_233 : decode cX8_justOf 233 = .ok (.iload 8, 2) := by decide +kernel
theorem dX8_justOf_235 : decode cX8_justOf 235 = .ok (.sipush 2304, 3) := by decide +kernel
theorem dX8_justOf_238 : decode cX8_justOf 238 = .ok (.if_icmp .ge 23, 3) := by decide +kernel
theorem dX8_justOf_241 : decode cX8_justOf 241 = .ok (.aload_n 0, 1) := by decide +kernel
theorem dX8_justOf_242 : decode cX8_justOf 242 = .ok (.getfield 63, 3) := by decide +kernel
theorem dX8_justOf_245 : decode cX8_justOf 245 = .ok (.iload 8, 2) := by decide +kernel
theorem dX8_justOf_247 : decode cX8_justOf 247 = .ok (.aload_n 0, 1) := by decide +kernel
theorem dX8_justOf_248 : decode cX8_justOf 248 = .ok (.getfield 66, 3) := by decide +kernel
theorem dX8_justOf_251 : decode cX8_justOf 251 = .ok (.iload 8, 2) := by decide +kernel
theorem dX8_justOf_253 : decode cX8_justOf 253 = .ok (.laload, 1) := by decide +kernel
theorem dX8_justOf_254 : decode cX8_justOf 254 = .ok (.lastore, 1) := by decide +kernel
theorem dX8_justOf_255 : decode cX8_justOf 255 = .ok (.iinc 8 1, 3) := by decide +kernel
theorem dX8_justOf_258 : decode cX8_justOf 258 = .ok (.goto (-25), 3) := by decide +kernel
theorem dX8_justOf_261 : decode cX8_justOf 261 = .ok (.iinc 5 1, 3) := by decide +kernel
theorem dX8_justOf_264 : decode cX8_justOf 264 = .ok (.goto (-225), 3) := by decide +kernel
theorem dX8_justOf_267 : decode cX8_justOf 267 = .ok (.lconst 0, 1) := by decide +kernel
theorem dX8_justOf_268 : decode cX8_justOf 268 = .ok (.lstore 5, 2) := by decide +kernel
theorem dX8_justOf_270 : decode cX8_justOf 270 = .ok (.iconst 0, 1) := by decide +kernel
theorem dX8_justOf_271 : decode cX8_justOf 271 = .ok (.istore 7, 2) := by decide +kernel
theorem dX8_justOf_273 : decode cX8_justOf 273 = .ok (.iload 7, 2) := by decide +kernel
theorem dX8_justOf_275 : decode cX8_justOf 275 = .ok (.sipush 2304, 3) := by decide +kernel
theorem dX8_justOf_278 : decode cX8_justOf 278 = .ok (.if_icmp .ge 34, 3) := by decide +kernel
theorem dX8_justOf_281 : decode cX8_justOf 281 = .ok (.lload 5, 2) := by decide +kernel
theorem dX8_justOf_283 : decode cX8_justOf 283 = .ok (.iload 7, 2) := by decide +kernel
theorem dX8_justOf_285 : decode cX8_justOf 285 = .ok (.bipush 9, 2) := by decide +kernel
theorem dX8_justOf_287 : decode cX8_justOf 287 = .ok (.irem, 1) := by decide +kernel
theorem dX8_justOf_288 : decode cX8_justOf 288 = .ok (.iload_n 1, 1) := by decide +kernel
theorem dX8_justOf_289 : decode cX8_justOf 289 = .ok (.if_icmp .ne 13, 3) := by decide +kernel
theorem dX8_justOf_292 : decode cX8_justOf 292 = .ok (.aload_n 0, 1) := by decide +kernel
theorem dX8_justOf_293 : decode cX8_justOf 293 = .ok (.getfield 63, 3) := by decide +kernel
theorem dX8_justOf_296 : decode cX8_justOf 296 = .ok (.iload 7, 2) := by decide +kernel
theorem dX8_justOf_298 : decode cX8_justOf 298 = .ok (.laload, 1) := by decide +kernel
theorem dX8_justOf_299 : decode cX8_justOf 299 = .ok (.goto 4, 3) := by decide +kernel
theorem dX8_justOf_302 : decode cX8_justOf 302 = .ok (.lconst 0, 1) := by decide +kernel
theorem dX8_justOf_303 : decode cX8_justOf 303 = .ok (.ladd, 1) := by decide +kernel
theorem dX8_justOf_304 : decode cX8_justOf 304 = .ok (.lstore 5, 2) := by decide +kernel
theorem dX8_justOf_306 : decode cX8_justOf 306 = .ok (.iinc 7 1, 3) := by decide +kernel
theorem dX8_justOf_309 : decode cX8_justOf 309 = .ok (.goto (-36), 3) := by decide +kernel
theorem dX8_justOf_312 : decode cX8_justOf 312 = .ok (.lload 5, 2) := by decide +kernel
theorem dX8_justOf_314 : decode cX8_justOf 314 = .ok (.lload_n 3, 1) := by decide +kernel
theorem dX8_justOf_315 : decode cX8_justOf 315 = .ok (.iload_n 2, 1) := by decide +kernel
theorem dX8_justOf_316 : decode cX8_justOf 316 = .ok (.invokestatic 229, 3) := by decide +kernel
theorem dX8_justOf_319 : decode cX8_justOf 319 = .ok (.lreturn, 1) := by decide +kernel
theorem dX8_wrong_0 : decode cX8_wrong 0 = .ok (.aload_n 0, 1) := by decide +kernel
theorem dX8_wrong_1 : decode cX8_wrong 1 = .ok (.invokevirtual 147, 3) := by decide +kernel
theorem dX8_wrong_4 : decode cX8_wrong 4 = .ok (.iload_n 1, 1) := by decide +kernel
theorem dX8_wrong_5 : decode cX8_wrong 5 = .ok (.i2l, 1) := by decide +kernel
theorem dX8_wrong_6 : decode cX8_wrong 6 = .ok (.ldc2_w 248, 3) := by decide +kernel
theorem dX8_wrong_9 : decode cX8_wrong 9 = .ok (.aload_n 0, 1) := by decide +kernel
theorem dX8_wrong_10 : decode cX8_wrong 10 = .ok (.getfield 129, 3) := by decide +kernel
theorem dX8_wrong_13 : decode cX8_wrong 13 = .ok (.i2l, 1) := by decide +kernel
theorem dX8_wrong_14 : decode cX8_wrong 14 = .ok (.invokestatic 80, 3) := by decide +kernel
theorem dX8_wrong_17 : decode cX8_wrong 17 = .ok (.ifCond .eq 10, 3) := by decide +kernel
theorem dX8_wrong_20 : decode cX8_wrong 20 = .ok (.iload_n 2, 1) := by decide +kernel
theorem dX8_wrong_21 : decode cX8_wrong 21 = .ok (.invokestatic 108, 3) := by decide +kernel
theorem dX8_wrong_24 : decode cX8_wrong 24 = .ok (.ifCond .ne 9, 3) := by decide +kernel
theorem dX8_wrong_27 : decode cX8_wrong 27 = .ok (.bipush (-2), 2) := by decide +kernel
theorem dX8_wrong_29 : decode cX8_wrong 29 = .ok (.invokestatic 236, 3) := by decide +kernel
theorem dX8_wrong_32 : decode cX8_wrong 32 = .ok (.lreturn, 1) := by decide +kernel
theorem dX8_wrong_33 : decode cX8_wrong 33 = .ok (.iload_n 1, 1) := by decide +kernel
theorem dX8_wrong_34 : decode cX8_wrong 34 = .ok (.iconst (-1), 1) := by decide +kernel
theorem dX8_wrong_35 : decode cX8_wrong 35 = .ok (.if_icmp .ne 11, 3) := by decide +kernel
theorem dX8_wrong_38 : decode cX8_wrong 38 = .ok (.aload_n 0, 1) := by decide +kernel
theorem dX8_wrong_39 : decode cX8_wrong 39 = .ok (.iload_n 2, 1) := by decide +kernel
theorem dX8_wrong_40 : decode cX8_wrong 40 = .ok (.invokevirtual 250, 3) := by decide +kernel
theorem dX8_wrong_43 : decode cX8_wrong 43 = .ok (.goto 9, 3) := by decide +kernel
theorem dX8_wrong_46 : decode cX8_wrong 46 = .ok (.aload_n 0, 1) := by decide +kernel
theorem dX8_wrong_47 : decode cX8_wrong 47 = .ok (.iload_n 1, 1) := by decide +kernel
theorem dX8_wrong_48 : decode cX8_wrong 48 = .ok (.iload_n 2, 1) := by decide +kernel
theorem dX8_wrong_49 : decode cX8_wrong 49 = .ok (.invokevirtual 253, 3) := by decide +kernel
theorem dX8_wrong_52 : decode cX8_wrong 52 = .ok (.lreturn, 1) := by decide +kernel
theorem dX8_leftOf_0 : decode cX8_leftOf 0 = .ok (.aload_n 0, 1) := by decide +kernel
theorem dX8_leftOf_1 : decode cX8_leftOf 1 = .ok (.aload_n 0, 1) := by decide +kernel
theorem dX8_leftOf_2 : decode cX8_leftOf 2 = .ok (.getfield 129, 3) := by decide +kernel
theorem dX8_leftOf_5 : decode cX8_leftOf 5 = .ok (.invokevirtual 221, 3) := by decide +kernel
theorem dX8_leftOf_8 : decode cX8_leftOf 8 = .ok (.lconst 0, 1) := by decide +kernel
theorem dX8_leftOf_9 : decode cX8_leftOf 9 = .ok (.lstore_n 3, 1) := by decide +kernel
theorem dX8_leftOf_10 : decode cX8_leftOf 10 = .ok (.iconst 0, 1) := by decide +kernel
theorem dX8_leftOf_11 : decode cX8_leftOf 11 = .ok (.istore 5, 2) := by decide +kernel
theorem dX8_leftOf_13 : decode cX8_leftOf 13 = .ok (.iload 5, 2) := by decide +kernel
theorem dX8_leftOf_15 : decode cX8_leftOf 15 = .ok (.aload_n 0, 1) := by decide +kernel
theorem dX8_leftOf_16 : decode cX8_leftOf 16 = .ok (.invokevirtual 166, 3) := by decide +kernel
theorem dX8_leftOf_19 : decode cX8_leftOf 19 = .ok (.if_icmp .gt 32, 3) := by decide +kernel
theorem dX8_leftOf_22 : decode cX8_leftOf 22 = .ok (.lload_n 3, 1) := by decide +kernel
theorem dX8_leftOf_23 : decode cX8_leftOf 23 = .ok (.iload 5, 2) := by decide +kernel
theorem dX8_leftOf_25 : decode cX8_leftOf 25 = .ok (.iload_n 1, 1) := by decide +kernel
theorem dX8_leftOf_26 : decode cX8_leftOf 26 = .ok (.invokestatic 162, 3) := by decide +kernel
theorem dX8_leftOf_29 : decode cX8_leftOf 29 = .ok (.ifCond .eq 7, 3) := by decide +kernel
theorem dX8_leftOf_32 : decode cX8_leftOf 32 = .ok (.lconst 0, 1) := by decide +kernel
theorem dX8_leftOf_33 : decode cX8_leftOf 33 = .ok (.goto 10, 3) := by decide +kernel
theorem dX8_leftOf_36 : decode cX8_leftOf 36 = .ok (.aload_n 0, 1) := by decide +kernel
theorem dX8_leftOf_37 : decode cX8_leftOf 37 = .ok (.getfield 40, 3) := by decide +kernel
theorem dX8_leftOf_40 : decode cX8_leftOf 40 = .ok (.iload 5, 2) := by decide +kernel
theorem dX8_leftOf_42 : decode cX8_leftOf 42 = .ok (.laload, 1) := by decide +kernel
theorem dX8_leftOf_43 : decode cX8_leftOf 43 = .ok (.ladd, 1) := by decide +kernel
theorem dX8_leftOf_44 : decode cX8_leftOf 44 = .ok (.lstore_n 3, 1) := by decide +kernel
theorem dX8_leftOf_45 : decode cX8_leftOf 45 = .ok (.iinc 5 1, 3) := by decide +kernel
theorem dX8_leftOf_48 : decode cX8_leftOf 48 = .ok (.goto (-35), 3) := by decide +kernel
theorem dX8_leftOf_51 : decode cX8_leftOf 51 = .ok (.lload_n 3, 1) := by decide +kernel
theorem dX8_leftOf_52 : decode cX8_leftOf 52 = .ok (.aload_n 0, 1) := by decide +kernel
theorem dX8_leftOf_53 : decode cX8_leftOf 53 = .ok (.getfield 185, 3) := by decide +kernel
theorem dX8_leftOf_56 : decode cX8_leftOf 56 = .ok (.iload_n 2, 1) := by decide +kernel
theorem dX8_leftOf_57 : decode cX8_leftOf 57 = .ok (.invokestatic 229, 3) := by decide +kernel
theorem dX8_leftOf_60 : decode cX8_leftOf 60 = .ok (.lreturn, 1) := by decide +kernel
theorem dX8_left_0 : decode cX8_left 0 = .ok (.aload_n 0, 1) := by decide +kernel
theorem dX8_left_1 : decode cX8_left 1 = .ok (.iload_n 1, 1) := by decide +kernel
theorem dX8_left_2 : decode cX8_left 2 = .ok (.invokevirtual 153, 3) := by decide +kernel
theorem dX8_left_5 : decode cX8_left 5 = .ok (.ifCond .eq 19, 3) := by decide +kernel
theorem dX8_left_8 : decode cX8_left 8 = .ok (.iload_n 2, 1) := by decide +kernel
theorem dX8_left_9 : decode cX8_left 9 = .ok (.invokestatic 108, 3) := by decide +kernel
theorem dX8_left_12 : decode cX8_left 12 = .ok (.ifCond .eq 12, 3) := by decide +kernel
theorem dX8_left_15 : decode cX8_left 15 = .ok (.aload_n 0, 1) := by decide +kernel
theorem dX8_left_16 : decode cX8_left 16 = .ok (.iload_n 1, 1) := by decide +kernel
theorem dX8_left_17 : decode cX8_left 17 = .ok (.iload_n 2, 1) := by decide +kernel
theorem dX8_left_18 : decode cX8_left 18 = .ok (.invokevirtual 257, 3) := by decide +kernel
theorem dX8_left_21 : decode cX8_left 21 = .ok (.goto 8, 3) := by decide +kernel
theorem dX8_left_24 : decode cX8_left 24 = .ok (.bipush (-2), 2) := by decide +kernel
theorem dX8_left_26 : decode cX8_left 26 = .ok (.invokestatic 236, 3) := by decide +kernel
theorem dX8_left_29 : decode cX8_left 29 = .ok (.lreturn, 1) := by decide +kernel
theorem dX8_looksNow_0 : decode cX8_looksNow 0 = .ok (.aload_n 0, 1) := by decide +kernel
theorem dX8_looksNow_1 : decode cX8_looksNow 1 = .ok (.invokevirtual 211, 3) := by decide +kernel
theorem dX8_looksNow_4 : decode cX8_looksNow 4 = .ok (.aload_n 0, 1) := by decide +kernel
theorem dX8_looksNow_5 : decode cX8_looksNow 5 = .ok (.invokevirtual 214, 3) := by decide +kernel
theorem dX8_looksNow_8 : decode cX8_looksNow 8 = .ok (.lconst 0, 1) := by decide +kernel
theorem dX8_looksNow_9 : decode cX8_looksNow 9 = .ok (.lstore_n 2, 1) := by decide +kernel
theorem dX8_looksNow_10 : decode cX8_looksNow 10 = .ok (.iconst 0, 1) := by decide +kernel
theorem dX8_looksNow_11 : decode cX8_looksNow 11 = .ok (.istore 4, 2) := by decide +kernel
theorem dX8_looksNow_13 : decode cX8_looksNow 13 = .ok (.iload 4, 2) := by decide +kernel
theorem dX8_looksNow_15 : decode cX8_looksNow 15 = .ok (.aload_n 0, 1) := by decide +kernel
theorem dX8_looksNow_16 : decode cX8_looksNow 16 = .ok (.getfield 129, 3) := by decide +kernel
theorem dX8_looksNow_19 : decode cX8_looksNow 19 = .ok (.if_icmp .ge 142, 3) := by decide +kernel
theorem dX8_looksNow_22 : decode cX8_looksNow 22 = .ok (.lconst 0, 1) := by decide +kernel
theorem dX8_looksNow_23 : decode cX8_looksNow 23 = .ok (.lstore 5, 2) := by decide +kernel
theorem dX8_looksNow_25 : decode cX8_looksNow 25 = .ok (.iconst 0, 1) := by decide +kernel
theorem dX8_looksNow_26 : decode cX8_looksNow 26 = .ok (.istore 7, 2) := by decide +kernel
theorem dX8_looksNow_28 : decode cX8_looksNow 28 = .ok (.iload 7, 2) := by decide +kernel
theorem dX8_looksNow_30 : decode cX8_looksNow 30 = .ok (.aload_n 0, 1) := by decide +kernel
theorem dX8_looksNow_31 : decode cX8_looksNow 31 = .ok (.invokevirtual 166, 3) := by decide +kernel
theorem dX8_looksNow_34 : decode cX8_looksNow 34 = .ok (.if_icmp .gt 93, 3) := by decide +kernel
theorem dX8_looksNow_37 : decode cX8_looksNow 37 = .ok (.aload_n 0, 1) := by decide +kernel
theorem dX8_looksNow_38 : decode cX8_looksNow 38 = .ok (.getfield 40, 3) := by decide +kernel
theorem dX8_looksNow_41 : decode cX8_looksNow 41 = .ok (.iload 7, 2) := by decide +kernel
theorem dX8_looksNow_43 : decode cX8_looksNow 43 = .ok (.laload, 1) := by decide +kernel
theorem dX8_looksNow_44 : decode cX8_looksNow 44 = .ok (.lconst 0, 1) := by decide +kernel
theorem dX8_looksNow_45 : decode cX8_looksNow 45 = .ok (.lcmp, 1) := by decide +kernel
theorem dX8_looksNow_46 : decode cX8_looksNow 46 = .ok (.ifCond .le 75, 3) := by decide +kernel
theorem dX8_looksNow_49 : decode cX8_looksNow 49 = .ok (.aload_n 0, 1) := by decide +kernel
theorem dX8_looksNow_50 : decode cX8_looksNow 50 = .ok (.getfield 37, 3) := by decide +kernel
theorem dX8_looksNow_53 : decode cX8_looksNow 53 = .ok (.iload 4, 2) := by decide +kernel
theorem dX8_looksNow_55 : decode cX8_looksNow 55 = .ok (.iaload, 1) := by decide +kernel
theorem dX8_looksNow_56 : decode cX8_looksNow 56 = .ok (.iconst 2, 1) := by decide +kernel
theorem dX8_looksNow_57 : decode cX8_looksNow 57 = .ok (.if_icmp .ne 64, 3) := by decide +kernel
theorem dX8_looksNow_60 : decode cX8_looksNow 60 = .ok (.aload_n 0, 1) := by decide +kernel
theorem dX8_looksNow_61 : decode cX8_looksNow 61 = .ok (.aload_n 0, 1) := by decide +kernel
theorem dX8_looksNow_62 : decode cX8_looksNow 62 = .ok (.getfield 34, 3) := by decide +kernel
theorem dX8_looksNow_65 : decode cX8_looksNow 65 = .ok (.iload 4, 2) := by decide +kernel
theorem dX8_looksNow_67 : decode cX8_looksNow 67 = .ok (.iaload, 1) := by decide +kernel
theorem dX8_looksNow_68 : decode cX8_looksNow 68 = .ok (.aload_n 0, 1) := by decide +kernel
theorem dX8_looksNow_69 : decode cX8_looksNow 69 = .ok (.invokevirtual 166, 3) := by decide +kernel
theorem dX8_looksNow_72 : decode cX8_looksNow 72 = .ok (.iload 7, 2) := by decide +kernel
theorem dX8_looksNow_74 : decode cX8_looksNow 74 = .ok (.iconst (-1), 1) := by decide +kernel
theorem dX8_looksNow_75 : decode cX8_looksNow 75 = .ok (.ixor, 1) := by decide +kernel
theorem dX8_looksNow_76 : decode cX8_looksNow 76 = .ok (.iand, 1) := by decide +kernel
theorem dX8_looksNow_77 : decode cX8_looksNow 77 = .ok (.invokevirtual 169, 3) := by decide +kernel
theorem dX8_looksNow_80 : decode cX8_looksNow 80 = .ok (.aload_n 0, 1) := by decide +kernel
theorem dX8_looksNow_81 : decode cX8_looksNow 81 = .ok (.getfield 34, 3) := by decide +kernel
theorem dX8_looksNow_84 : decode cX8_looksNow 84 = .ok (.iload 4, 2) := by decide +kernel
theorem dX8_looksNow_86 : decode cX8_looksNow 86 = .ok (.iaload, 1) := by decide +kernel
theorem dX8_looksNow_87 : decode cX8_looksNow 87 = .ok (.isub, 1) := by decide +kernel
theorem dX8_looksNow_88 : decode cX8_looksNow 88 = .ok (.istore 8, 2) := by decide +kernel
theorem dX8_looksNow_90 : decode cX8_looksNow 90 = .ok (.lload 5, 2) := by decide +kernel
theorem dX8_looksNow_92 : decode cX8_looksNow 92 = .ok (.aload_n 0, 1) := by decide +kernel
theorem dX8_looksNow_93 : decode cX8_looksNow 93 = .ok (.getfield 40, 3) := by decide +kernel
theorem dX8_looksNow_96 : decode cX8_looksNow 96 = .ok (.iload 7, 2) := by decide +kernel
theorem dX8_looksNow_98 : decode cX8_looksNow 98 = .ok (.laload, 1) := by decide +kernel
theorem dX8_looksNow_99 : decode cX8_looksNow 99 = .ok (.iload 8, 2) := by decide +kernel
theorem dX8_looksNow_101 : decode cX8_looksNow 101 = .ok (.ifCond .ge 13, 3) := by decide +kernel
theorem dX8_looksNow_104 : decode cX8_looksNow 104 = .ok (.iload 8, 2) := by decide +kernel
theorem dX8_looksNow_106 : decode cX8_looksNow 106 = .ok (.aload_n 0, 1) := by decide +kernel
theorem dX8_looksNow_107 : decode cX8_looksNow 107 = .ok (.getfield 116, 3) := by decide +kernel
theorem dX8_looksNow_110 : decode cX8_looksNow 110 = .ok (.iadd, 1) := by decide +kernel
theorem dX8_looksNow_111 : decode cX8_looksNow 111 = .ok (.goto 5, 3) := by decide +kernel
theorem dX8_looksNow_114 : decode cX8_looksNow 114 = .ok (.iload 8, 2) := by decide +kernel
theorem dX8_looksNow_116 : decode cX8_looksNow 116 = .ok (.i2l, 1) := by decide +kernel
theorem dX8_looksNow_117 : decode cX8_looksNow 117 = .ok (.lmul, 1) := by decide +kernel
theorem dX8_looksNow_118 : decode cX8_looksNow 118 = .ok (.ladd, 1) := by decide +kernel
theorem dX8_looksNow_119 : decode cX8_looksNow 119 = .ok (.lstore 5, 2) := by decide +kernel
theorem dX8_looksNow_121 : decode cX8_looksNow 121 = .ok (.iinc 7 1, 3) := by decide +kernel
theorem dX8_looksNow_124 : decode cX8_looksNow 124 = .ok (.goto (-96), 3) := by decide +kernel
theorem dX8_looksNow_127 : decode cX8_looksNow 127 = .ok (.aload_n 0, 1) := by decide +kernel
theorem dX8_looksNow_128 : decode cX8_looksNow 128 = .ok (.getfield 116, 3) := by decide +kernel
theorem dX8_looksNow_131 : decode cX8_looksNow 131 = .ok (.iload 4, 2) := by decide +kernel
theorem dX8_looksNow_133 : decode cX8_looksNow 133 = .ok (.isub, 1) := by decide +kernel
theorem dX8_looksNow_134 : decode cX8_looksNow 134 = .ok (.invokestatic 195, 3) := by decide +kernel
theorem dX8_looksNow_137 : decode cX8_looksNow 137 = .ok (.lstore 7, 2) := by decide +kernel
theorem dX8_looksNow_139 : decode cX8_looksNow 139 = .ok (.lload_n 2, 1) := by decide +kernel
theorem dX8_looksNow_140 : decode cX8_looksNow 140 = .ok (.lload 5, 2) := by decide +kernel
theorem dX8_looksNow_142 : decode cX8_looksNow 142 = .ok (.ladd, 1) := by decide +kernel
theorem dX8_looksNow_143 : decode cX8_looksNow 143 = .ok (.lload 7, 2) := by decide +kernel
theorem dX8_looksNow_145 : decode cX8_looksNow 145 = .ok (.lmul, 1) := by decide +kernel
theorem dX8_looksNow_146 : decode cX8_looksNow 146 = .ok (.lstore_n 2, 1) := by decide +kernel
theorem dX8_looksNow_147 : decode cX8_looksNow 147 = .ok (.aload_n 0, 1) := by decide +kernel
theorem dX8_looksNow_148 : decode cX8_looksNow 148 = .ok (.iload 4, 2) := by decide +kernel
theorem dX8_looksNow_150 : decode cX8_looksNow 150 = .ok (.iload 4, 2) := by decide +kernel
theorem dX8_looksNow_152 : decode cX8_looksNow 152 = .ok (.invokevirtual 217, 3) := by decide +kernel
theorem dX8_looksNow_155 : decode cX8_looksNow 155 = .ok (.iinc 4 1, 3) := by decide +kernel
theorem dX8_looksNow_158 : decode cX8_looksNow 158 = .ok (.goto (-145), 3) := by decide +kernel
theorem dX8_looksNow_161 : decode cX8_looksNow 161 = .ok (.lload_n 2, 1) := by decide +kernel
theorem dX8_looksNow_162 : decode cX8_looksNow 162 = .ok (.aload_n 0, 1) := by decide +kernel
theorem dX8_looksNow_163 : decode cX8_looksNow 163 = .ok (.getfield 185, 3) := by decide +kernel
theorem dX8_looksNow_166 : decode cX8_looksNow 166 = .ok (.iload_n 1, 1) := by decide +kernel
theorem dX8_looksNow_167 : decode cX8_looksNow 167 = .ok (.invokestatic 229, 3) := by decide +kernel
theorem dX8_looksNow_170 : decode cX8_looksNow 170 = .ok (.lreturn, 1) := by decide +kernel
theorem dX8_looks_0 : decode cX8_looks 0 = .ok (.aload_n 0, 1) := by decide +kernel
theorem dX8_looks_1 : decode cX8_looks 1 = .ok (.invokevirtual 147, 3) := by decide +kernel
theorem dX8_looks_4 : decode cX8_looks 4 = .ok (.iload_n 1, 1) := by decide +kernel
theorem dX8_looks_5 : decode cX8_looks 5 = .ok (.invokestatic 108, 3) := by decide +kernel
theorem dX8_looks_8 : decode cX8_looks 8 = .ok (.ifCond .eq 11, 3) := by decide +kernel
theorem dX8_looks_11 : decode cX8_looks 11 = .ok (.aload_n 0, 1) := by decide +kernel
theorem dX8_looks_12 : decode cX8_looks 12 = .ok (.iload_n 1, 1) := by decide +kernel
theorem dX8_looks_13 : decode cX8_looks 13 = .ok (.invokevirtual 260, 3) := by decide +kernel
theorem dX8_looks_16 : decode cX8_looks 16 = .ok (.goto 8, 3) := by decide +kernel
theorem dX8_looks_19 : decode cX8_looks 19 = .ok (.bipush (-2), 2) := by decide +kernel
theorem dX8_looks_21 : decode cX8_looks 21 = .ok (.invokestatic 236, 3) := by decide +kernel
theorem dX8_looks_24 : decode cX8_looks 24 = .ok (.lreturn, 1) := by decide +kernel
theorem dX8_noSitting_0 : decode cX8_noSitting 0 = .ok (.iload_n 1, 1) := by decide +kernel
theorem dX8_noSitting_1 : decode cX8_noSitting 1 = .ok (.invokestatic 89, 3) := by decide +kernel
theorem dX8_noSitting_4 : decode cX8_noSitting 4 = .ok (.ifCond .ne 6, 3) := by decide +kernel
theorem dX8_noSitting_7 : decode cX8_noSitting 7 = .ok (.bipush (-2), 2) := by decide +kernel
theorem dX8_noSitting_9 : decode cX8_noSitting 9 = .ok (.ireturn, 1) := by decide +kernel
theorem dX8_noSitting_10 : decode cX8_noSitting 10 = .ok (.aload_n 0, 1) := by decide +kernel
theorem dX8_noSitting_11 : decode cX8_noSitting 11 = .ok (.getfield 7, 3) := by decide +kernel
theorem dX8_noSitting_14 : decode cX8_noSitting 14 = .ok (.iload_n 1, 1) := by decide +kernel
theorem dX8_noSitting_15 : decode cX8_noSitting 15 = .ok (.iaload, 1) := by decide +kernel
theorem dX8_noSitting_16 : decode cX8_noSitting 16 = .ok (.ifCond .ge 9, 3) := by decide +kernel
theorem dX8_noSitting_19 : decode cX8_noSitting 19 = .ok (.aload_n 0, 1) := by decide +kernel
theorem dX8_noSitting_20 : decode cX8_noSitting 20 = .ok (.iconst 1, 1) := by decide +kernel
theorem dX8_noSitting_21 : decode cX8_noSitting 21 = .ok (.invokevirtual 95, 3) := by decide +kernel
theorem dX8_noSitting_24 : decode cX8_noSitting 24 = .ok (.ireturn, 1) := by decide +kernel
theorem dX8_noSitting_25 : decode cX8_noSitting 25 = .ok (.aload_n 0, 1) := by decide +kernel
theorem dX8_noSitting_26 : decode cX8_noSitting 26 = .ok (.invokevirtual 147, 3) := by decide +kernel
theorem dX8_noSitting_29 : decode cX8_noSitting 29 = .ok (.aload_n 0, 1) := by decide +kernel
theorem dX8_noSitting_30 : decode cX8_noSitting 30 = .ok (.getfield 13, 3) := by decide +kernel
theorem dX8_noSitting_33 : decode cX8_noSitting 33 = .ok (.iload_n 1, 1) := by decide +kernel
theorem dX8_noSitting_34 : decode cX8_noSitting 34 = .ok (.iaload, 1) := by decide +kernel
theorem dX8_noSitting_35 : decode cX8_noSitting 35 = .ok (.aload_n 0, 1) := by decide +kernel
theorem dX8_noSitting_36 : decode cX8_noSitting 36 = .ok (.getfield 129, 3) := by decide +kernel
theorem dX8_noSitting_39 : decode cX8_noSitting 39 = .ok (.if_icmp .ge 8, 3) := by decide +kernel
theorem dX8_noSitting_42 : decode cX8_noSitting 42 = .ok (.bipush (-3), 2) := by decide +kernel
theorem dX8_noSitting_44 : decode cX8_noSitting 44 = .ok (.goto 4, 3) := by decide +kernel
theorem dX8_noSitting_47 : decode cX8_noSitting 47 = .ok (.iconst 0, 1) := by decide +kernel
theorem dX8_noSitting_48 : decode cX8_noSitting 48 = .ok (.ireturn, 1) := by decide +kernel
theorem dX8_isSeatNow_0 : decode cX8_isSeatNow 0 = .ok (.iload_n 1, 1) := by decide +kernel
theorem dX8_isSeatNow_1 : decode cX8_isSeatNow 1 = .ok (.i2l, 1) := by decide +kernel
theorem dX8_isSeatNow_2 : decode cX8_isSeatNow 2 = .ok (.lconst 0, 1) := by decide +kernel
theorem dX8_isSeatNow_3 : decode cX8_isSeatNow 3 = .ok (.aload_n 0, 1) := by decide +kernel
theorem dX8_isSeatNow_4 : decode cX8_isSeatNow 4 = .ok (.getfield 116, 3) := by decide +kernel
theorem dX8_isSeatNow_7 : decode cX8_isSeatNow 7 = .ok (.iconst 1, 1) := by decide +kernel
theorem dX8_isSeatNow_8 : decode cX8_isSeatNow 8 = .ok (.isub, 1) := by decide +kernel
theorem dX8_isSeatNow_9 : decode cX8_isSeatNow 9 = .ok (.i2l, 1) := by decide +kernel
theorem dX8_isSeatNow_10 : decode cX8_isSeatNow 10 = .ok (.invokestatic 80, 3) := by decide +kernel
theorem dX8_isSeatNow_13 : decode cX8_isSeatNow 13 = .ok (.ireturn, 1) := by decide +kernel
theorem dX8_judged_0 : decode cX8_judged 0 = .ok (.aload_n 0, 1) := by decide +kernel
theorem dX8_judged_1 : decode cX8_judged 1 = .ok (.iload_n 1, 1) := by decide +kernel
theorem dX8_judged_2 : decode cX8_judged 2 = .ok (.invokevirtual 263, 3) := by decide +kernel
theorem dX8_judged_5 : decode cX8_judged 5 = .ok (.istore_n 2, 1) := by decide +kernel
theorem dX8_judged_6 : decode cX8_judged 6 = .ok (.iload_n 2, 1) := by decide +kernel
theorem dX8_judged_7 : decode cX8_judged 7 = .ok (.ifCond .eq 5, 3) := by decide +kernel
theorem dX8_judged_10 : decode cX8_judged 10 = .ok (.iload_n 2, 1) := by decide +kernel
theorem dX8_judged_11 : decode cX8_judged 11 = .ok (.ireturn, 1) := by decide +kernel
theorem dX8_judged_12 : decode cX8_judged 12 = .ok (.iconst 0, 1) := by decide +kernel
theorem dX8_judged_13 : decode cX8_judged 13 = .ok (.istore_n 3, 1) := by decide +kernel
theorem dX8_judged_14 : decode cX8_judged 14 = .ok (.iconst 0, 1) := by decide +kernel
theorem dX8_judged_15 : decode cX8_judged 15 = .ok (.istore 4, 2) := by decide +kernel
theorem dX8_judged_17 : decode cX8_judged 17 = .ok (.iload 4, 2) := by decide +kernel
theorem dX8_judged_19 : decode cX8_judged 19 = .ok (.aload_n 0, 1) := by decide +kernel
theorem dX8_judged_20 : decode cX8_judged 20 = .ok (.getfield 129, 3) := by decide +kernel
theorem dX8_judged_23 : decode cX8_judged 23 = .ok (.if_icmp .ge 64, 3) := by decide +kernel
theorem dX8_judged_26 : decode cX8_judged 26 = .ok (.aload_n 0, 1) := by decide +kernel
theorem dX8_judged_27 : decode cX8_judged 27 = .ok (.getfield 16, 3) := by decide +kernel
theorem dX8_judged_30 : decode cX8_judged 30 = .ok (.bipush 60, 2) := by decide +kernel
theorem dX8_judged_32 : decode cX8_judged 32 = .ok (.iload_n 1, 1) := by decide +kernel
theorem dX8_judged_33 : decode cX8_judged 33 = .ok (.imul, 1) := by decide +kernel
theorem dX8_judged_34 : decode cX8_judged 34 = .ok (.iload 4, 2) := by decide +kernel
theorem dX8_judged_36 : decode cX8_judged 36 = .ok (.iadd, 1) := by decide +kernel
theorem dX8_judged_37 : decode cX8_judged 37 = .ok (.iaload, 1) := by decide +kernel
theorem dX8_judged_38 : decode cX8_judged 38 = .ok (.istore 5, 2) := by decide +kernel
theorem dX8_judged_40 : decode cX8_judged 40 = .ok (.aload_n 0, 1) := by decide +kernel
theorem dX8_judged_41 : decode cX8_judged 41 = .ok (.iload 5, 2) := by decide +kernel
theorem dX8_judged_43 : decode cX8_judged 43 = .ok (.invokevirtual 266, 3) := by decide +kernel
theorem dX8_judged_46 : decode cX8_judged 46 = .ok (.ifCond .eq 25, 3) := by decide +kernel
theorem dX8_judged_49 : decode cX8_judged 49 = .ok (.aload_n 0, 1) := by decide +kernel
theorem dX8_judged_50 : decode cX8_judged 50 = .ok (.iload 4, 2) := by decide +kernel
theorem dX8_judged_52 : decode cX8_judged 52 = .ok (.aload_n 0, 1) := by decide +kernel
theorem dX8_judged_53 : decode cX8_judged 53 = .ok (.getfield 37, 3) := by decide +kernel
theorem dX8_judged_56 : decode cX8_judged 56 = .ok (.iload 4, 2) := by decide +kernel
theorem dX8_judged_58 : decode cX8_judged 58 = .ok (.iaload, 1) := by decide +kernel
theorem dX8_judged_59 : decode cX8_judged 59 = .ok (.iload_n 3, 1) := by decide +kernel
theorem dX8_judged_60 : decode cX8_judged 60 = .ok (.invokevirtual 202, 3) := by decide +kernel
theorem dX8_judged_63 : decode cX8_judged 63 = .ok (.iload 5, 2) := by decide +kernel
theorem dX8_judged_65 : decode cX8_judged 65 = .ok (.invokestatic 162, 3) := by decide +kernel
theorem dX8_judged_68 : decode cX8_judged 68 = .ok (.ifCond .ne 6, 3) := by decide +kernel
theorem dX8_judged_71 : decode cX8_judged 71 = .ok (.iload 4, 2) := by decide +kernel
theorem dX8_judged_73 : decode cX8_judged 73 = .ok (.ireturn, 1) := by decide +kernel
theorem dX8_judged_74 : decode cX8_judged 74 = .ok (.iload_n 3, 1) := by decide +kernel
theorem dX8_judged_75 : decode cX8_judged 75 = .ok (.iconst 1, 1) := by decide +kernel
theorem dX8_judged_76 : decode cX8_judged 76 = .ok (.iload 5, 2) := by decide +kernel
theorem dX8_judged_78 : decode cX8_judged 78 = .ok (.ishl, 1) := by decide +kernel
theorem dX8_judged_79 : decode cX8_judged 79 = .ok (.ior, 1) := by decide +kernel
theorem dX8_judged_80 : decode cX8_judged 80 = .ok (.istore_n 3, 1) := by decide +kernel
theorem dX8_judged_81 : decode cX8_judged 81 = .ok (.iinc 4 1, 3) := by decide +kernel
theorem dX8_judged_84 : decode cX8_judged 84 = .ok (.goto (-67), 3) := by decide +kernel
theorem dX8_judged_87 : decode cX8_judged 87 = .ok (.iconst (-1), 1) := by decide +kernel
theorem dX8_judged_88 : decode cX8_judged 88 = .ok (.ireturn, 1) := by decide +kernel
theorem dX8_sittingOf_0 : decode cX8_sittingOf 0 = .ok (.iconst 0, 1) := by decide +kernel
theorem dX8_sittingOf_1 : decode cX8_sittingOf 1 = .ok (.istore_n 3, 1) := by decide +kernel
theorem dX8_sittingOf_2 : decode cX8_sittingOf 2 = .ok (.lconst 1, 1) := by decide +kernel
theorem dX8_sittingOf_3 : decode cX8_sittingOf 3 = .ok (.lstore 4, 2) := by decide +kernel
theorem dX8_sittingOf_5 : decode cX8_sittingOf 5 = .ok (.iconst 0, 1) := by decide +kernel
theorem dX8_sittingOf_6 : decode cX8_sittingOf 6 = .ok (.istore 6, 2) := by decide +kernel
theorem dX8_sittingOf_8 : decode cX8_sittingOf 8 = .ok (.iload 6, 2) := by decide +kernel
theorem dX8_sittingOf_10 : decode cX8_sittingOf 10 = .ok (.aload_n 0, 1) := by decide +kernel
theorem dX8_sittingOf_11 : decode cX8_sittingOf 11 = .ok (.getfield 129, 3) := by decide +kernel
theorem dX8_sittingOf_14 : decode cX8_sittingOf 14 = .ok (.if_icmp .ge 86, 3) := by decide +kernel
theorem dX8_sittingOf_17 : decode cX8_sittingOf 17 = .ok (.aload_n 0, 1) := by decide +kernel
theorem dX8_sittingOf_18 : decode cX8_sittingOf 18 = .ok (.getfield 16, 3) := by decide +kernel
theorem dX8_sittingOf_21 : decode cX8_sittingOf 21 = .ok (.bipush 60, 2) := by decide +kernel
theorem dX8_sittingOf_23 : decode cX8_sittingOf 23 = .ok (.iload_n 1, 1) := by decide +kernel
theorem dX8_sittingOf_24 : decode cX8_sittingOf 24 = .ok (.imul, 1) := by decide +kernel
theorem dX8_sittingOf_25 : decode cX8_sittingOf 25 = .ok (.iload 6, 2) := by decide +kernel
theorem dX8_sittingOf_27 : decode cX8_sittingOf 27 = .ok (.iadd, 1) := by decide +kernel
theorem dX8_sittingOf_28 : decode cX8_sittingOf 28 = .ok (.iaload, 1) := by decide +kernel
theorem dX8_sittingOf_29 : decode cX8_sittingOf 29 = .ok (.istore 7, 2) := by decide +kernel
theorem dX8_sittingOf_31 : decode cX8_sittingOf 31 = .ok (.aload_n 0, 1) := by decide +kernel
theorem dX8_sittingOf_32 : decode cX8_sittingOf 32 = .ok (.iload 6, 2) := by decide +kernel
theorem dX8_sittingOf_34 : decode cX8_sittingOf 34 = .ok (.aload_n 0, 1) := by decide +kernel
theorem dX8_sittingOf_35 : decode cX8_sittingOf 35 = .ok (.getfield 37, 3) := by decide +kernel
theorem dX8_sittingOf_38 : decode cX8_sittingOf 38 = .ok (.iload 6, 2) := by decide +kernel
theorem dX8_sittingOf_40 : decode cX8_sittingOf 40 = .ok (.iaload, 1) := by decide +kernel
theorem dX8_sittingOf_41 : decode cX8_sittingOf 41 = .ok (.iload_n 3, 1) := by decide +kernel
theorem dX8_sittingOf_42 : decode cX8_sittingOf 42 = .ok (.invokevirtual 202, 3) := by decide +kernel
theorem dX8_sittingOf_45 : decode cX8_sittingOf 45 = .ok (.istore 8, 2) := by decide +kernel
theorem dX8_sittingOf_47 : decode cX8_sittingOf 47 = .ok (.aload_n 0, 1) := by decide +kernel
theorem dX8_sittingOf_48 : decode cX8_sittingOf 48 = .ok (.iload 7, 2) := by decide +kernel
theorem dX8_sittingOf_50 : decode cX8_sittingOf 50 = .ok (.invokevirtual 266, 3) := by decide +kernel
theorem dX8_sittingOf_53 : decode cX8_sittingOf 53 = .ok (.ifCond .eq 13, 3) := by decide +kernel
theorem dX8_sittingOf_56 : decode cX8_sittingOf 56 = .ok (.iload 8, 2) := by decide +kernel
theorem dX8_sittingOf_58 : decode cX8_sittingOf 58 = .ok (.iload 7, 2) := by decide +kernel
theorem dX8_sittingOf_60 : decode cX8_sittingOf 60 = .ok (.invokestatic 162, 3) := by decide +kernel
theorem dX8_sittingOf_63 : decode cX8_sittingOf 63 = .ok (.ifCond .ne 13, 3) := by decide +kernel
theorem dX8_sittingOf_66 : decode cX8_sittingOf 66 = .ok (.iload_n 2, 1) := by decide +kernel
theorem dX8_sittingOf_67 : decode cX8_sittingOf 67 = .ok (.ifCond .ne 7, 3) := by decide +kernel
theorem dX8_sittingOf_70 : decode cX8_sittingOf 70 = .ok (.lconst 0, 1) := by decide +kernel
theorem dX8_sittingOf_71 : decode cX8_sittingOf 71 = .ok (.goto 4, 3) := by decide +kernel
theorem dX8_sittingOf_74 : decode cX8_sittingOf 74 = .ok (.lconst 1, 1) := by decide +kernel
theorem dX8_sittingOf_75 : decode cX8_sittingOf 75 = .ok (.lreturn, 1) := by decide +kernel
theorem dX8_sittingOf_76 : decode cX8_sittingOf 76 = .ok (.lload 4, 2) := by decide +kernel
theorem dX8_sittingOf_78 : decode cX8_sittingOf 78 = .ok (.iload 8, 2) := by decide +kernel
theorem dX8_sittingOf_80 : decode cX8_sittingOf 80 = .ok (.invokestatic 205, 3) := by decide +kernel
theorem dX8_sittingOf_83 : decode cX8_sittingOf 83 = .ok (.i2l, 1) := by decide +kernel
theorem dX8_sittingOf_84 : decode cX8_sittingOf 84 = .ok (.lmul, 1) := by decide +kernel
theorem dX8_sittingOf_85 : decode cX8_sittingOf 85 = .ok (.lstore 4, 2) := by decide +kernel
theorem dX8_sittingOf_87 : decode cX8_sittingOf 87 = .ok (.iload_n 3, 1) := by decide +kernel
theorem dX8_sittingOf_88 : decode cX8_sittingOf 88 = .ok (.iconst 1, 1) := by decide +kernel
theorem dX8_sittingOf_89 : decode cX8_sittingOf 89 = .ok (.iload 7, 2) := by decide +kernel
theorem dX8_sittingOf_91 : decode cX8_sittingOf 91 = .ok (.ishl, 1) := by decide +kernel
theorem dX8_sittingOf_92 : decode cX8_sittingOf 92 = .ok (.ior, 1) := by decide +kernel
theorem dX8_sittingOf_93 : decode cX8_sittingOf 93 = .ok (.istore_n 3, 1) := by decide +kernel
theorem dX8_sittingOf_94 : decode cX8_sittingOf 94 = .ok (.iinc 6 1, 3) := by decide +kernel
theorem dX8_sittingOf_97 : decode cX8_sittingOf 97 = .ok (.goto (-89), 3) := by decide +kernel
theorem dX8_sittingOf_100 : decode cX8_sittingOf 100 = .ok (.iload_n 2, 1) := by decide +kernel
theorem dX8_sittingOf_101 : decode cX8_sittingOf 101 = .ok (.ifCond .ne 7, 3) := by decide +kernel
theorem dX8_sittingOf_104 : decode cX8_sittingOf 104 = .ok (.lconst 1, 1) := by decide +kernel
theorem dX8_sittingOf_105 : decode cX8_sittingOf 105 = .ok (.goto 5, 3) := by decide +kernel
theorem dX8_sittingOf_108 : decode cX8_sittingOf 108 = .ok (.lload 4, 2) := by decide +kernel
theorem dX8_sittingOf_110 : decode cX8_sittingOf 110 = .ok (.lreturn, 1) := by decide +kernel
theorem dX8_sitting_0 : decode cX8_sitting 0 = .ok (.iload_n 1, 1) := by decide +kernel
theorem dX8_sitting_1 : decode cX8_sitting 1 = .ok (.invokestatic 89, 3) := by decide +kernel
theorem dX8_sitting_4 : decode cX8_sitting 4 = .ok (.ifCond .eq 10, 3) := by decide +kernel
theorem dX8_sitting_7 : decode cX8_sitting 7 = .ok (.iload_n 2, 1) := by decide +kernel
theorem dX8_sitting_8 : decode cX8_sitting 8 = .ok (.invokestatic 108, 3) := by decide +kernel
theorem dX8_sitting_11 : decode cX8_sitting 11 = .ok (.ifCond .ne 9, 3) := by decide +kernel
theorem dX8_sitting_14 : decode cX8_sitting 14 = .ok (.bipush (-2), 2) := by decide +kernel
theorem dX8_sitting_16 : decode cX8_sitting 16 = .ok (.invokestatic 236, 3) := by decide +kernel
theorem dX8_sitting_19 : decode cX8_sitting 19 = .ok (.lreturn, 1) := by decide +kernel
theorem dX8_sitting_20 : decode cX8_sitting 20 = .ok (.aload_n 0, 1) := by decide +kernel
theorem dX8_sitting_21 : decode cX8_sitting 21 = .ok (.iload_n 1, 1) := by decide +kernel
theorem dX8_sitting_22 : decode cX8_sitting 22 = .ok (.invokevirtual 263, 3) := by decide +kernel
theorem dX8_sitting_25 : decode cX8_sitting 25 = .ok (.istore_n 3, 1) := by decide +kernel
theorem dX8_sitting_26 : decode cX8_sitting 26 = .ok (.iload_n 3, 1) := by decide +kernel
theorem dX8_sitting_27 : decode cX8_sitting 27 = .ok (.ifCond .eq 10, 3) := by decide +kernel
theorem dX8_sitting_30 : decode cX8_sitting 30 = .ok (.iload_n 3, 1) := by decide +kernel
theorem dX8_sitting_31 : decode cX8_sitting 31 = .ok (.invokestatic 236, 3) := by decide +kernel
theorem dX8_sitting_34 : decode cX8_sitting 34 = .ok (.goto 9, 3) := by decide +kernel
theorem dX8_sitting_37 : decode cX8_sitting 37 = .ok (.aload_n 0, 1) := by decide +kernel
theorem dX8_sitting_38 : decode cX8_sitting 38 = .ok (.iload_n 1, 1) := by decide +kernel
theorem dX8_sitting_39 : decode cX8_sitting 39 = .ok (.iload_n 2, 1) := by decide +kernel
theorem dX8_sitting_40 : decode cX8_sitting 40 = .ok (.invokevirtual 269, 3) := by decide +kernel
theorem dX8_sitting_43 : decode cX8_sitting 43 = .ok (.lreturn, 1) := by decide +kernel
theorem dX8_goesOn_0 : decode cX8_goesOn 0 = .ok (.iload_n 1, 1) := by decide +kernel
theorem dX8_goesOn_1 : decode cX8_goesOn 1 = .ok (.iconst 2, 1) := by decide +kernel
theorem dX8_goesOn_2 : decode cX8_goesOn 2 = .ok (.isub, 1) := by decide +kernel
theorem dX8_goesOn_3 : decode cX8_goesOn 3 = .ok (.istore_n 2, 1) := by decide +kernel
theorem dX8_goesOn_4 : decode cX8_goesOn 4 = .ok (.iload_n 2, 1) := by decide +kernel
theorem dX8_goesOn_5 : decode cX8_goesOn 5 = .ok (.ifCond .lt 26, 3) := by decide +kernel
theorem dX8_goesOn_8 : decode cX8_goesOn 8 = .ok (.aload_n 0, 1) := by decide +kernel
theorem dX8_goesOn_9 : decode cX8_goesOn 9 = .ok (.getfield 57, 3) := by decide +kernel
theorem dX8_goesOn_12 : decode cX8_goesOn 12 = .ok (.iload_n 2, 1) := by decide +kernel
theorem dX8_goesOn_13 : decode cX8_goesOn 13 = .ok (.iaload, 1) := by decide +kernel
theorem dX8_goesOn_14 : decode cX8_goesOn 14 = .ok (.aload_n 0, 1) := by decide +kernel
theorem dX8_goesOn_15 : decode cX8_goesOn 15 = .ok (.getfield 57, 3) := by decide +kernel
theorem dX8_goesOn_18 : decode cX8_goesOn 18 = .ok (.iload_n 2, 1) := by decide +kernel
theorem dX8_goesOn_19 : decode cX8_goesOn 19 = .ok (.iconst 1, 1) := by decide +kernel
theorem dX8_goesOn_20 : decode cX8_goesOn 20 = .ok (.iadd, 1) := by decide +kernel
theorem dX8_goesOn_21 : decode cX8_goesOn 21 = .ok (.iaload, 1) := by decide +kernel
theorem dX8_goesOn_22 : decode cX8_goesOn 22 = .ok (.if_icmp .le 9, 3) := by decide +kernel
theorem dX8_goesOn_25 : decode cX8_goesOn 25 = .ok (.iinc 2 (-1), 3) := by decide +kernel
theorem dX8_goesOn_28 : decode cX8_goesOn 28 = .ok (.goto (-24), 3) := by decide +kernel
theorem dX8_goesOn_31 : decode cX8_goesOn 31 = .ok (.iload_n 2, 1) := by decide +kernel
theorem dX8_goesOn_32 : decode cX8_goesOn 32 = .ok (.ifCond .ge 5, 3) := by decide +kernel
theorem dX8_goesOn_35 : decode cX8_goesOn 35 = .ok (.iconst 0, 1) := by decide +kernel
theorem dX8_goesOn_36 : decode cX8_goesOn 36 = .ok (.ireturn, 1) := by decide +kernel
theorem dX8_goesOn_37 : decode cX8_goesOn 37 = .ok (.iload_n 1, 1) := by decide +kernel
theorem dX8_goesOn_38 : decode cX8_goesOn 38 = .ok (.iconst 1, 1) := by decide +kernel
theorem dX8_goesOn_39 : decode cX8_goesOn 39 = .ok (.isub, 1) := by decide +kernel
theorem dX8_goesOn_40 : decode cX8_goesOn 40 = .ok (.istore_n 3, 1) := by decide +kernel
theorem dX8_goesOn_41 : decode cX8_goesOn 41 = .ok (.aload_n 0, 1) := by decide +kernel
theorem dX8_goesOn_42 : decode cX8_goesOn 42 = .ok (.getfield 57, 3) := by decide +kernel
theorem dX8_goesOn_45 : decode cX8_goesOn 45 = .ok (.iload_n 3, 1) := by decide +kernel
theorem dX8_goesOn_46 : decode cX8_goesOn 46 = .ok (.iaload, 1) := by decide +kernel
theorem dX8_goesOn_47 : decode cX8_goesOn 47 = .ok (.aload_n 0, 1) := by decide +kernel
theorem dX8_goesOn_48 : decode cX8_goesOn 48 = .ok (.getfield 57, 3) := by decide +kernel
theorem dX8_goesOn_51 : decode cX8_goesOn 51 = .ok (.iload_n 2, 1) := by decide +kernel
theorem dX8_goesOn_52 : decode cX8_goesOn 52 = .ok (.iaload, 1) := by decide +kernel
theorem dX8_goesOn_53 : decode cX8_goesOn 53 = .ok (.if_icmp .ge 9, 3) := by decide +kernel
theorem dX8_goesOn_56 : decode cX8_goesOn 56 = .ok (.iinc 3 (-1), 3) := by decide +kernel
theorem dX8_goesOn_59 : decode cX8_goesOn 59 = .ok (.goto (-18), 3) := by decide +kernel
theorem dX8_goesOn_62 : decode cX8_goesOn 62 = .ok (.aload_n 0, 1) := by decide +kernel
theorem dX8_goesOn_63 : decode cX8_goesOn 63 = .ok (.iload_n 2, 1) := by decide +kernel
theorem dX8_goesOn_64 : decode cX8_goesOn 64 = .ok (.iload_n 3, 1) := by decide +kernel
theorem dX8_goesOn_65 : decode cX8_goesOn 65 = .ok (.invokevirtual 272, 3) := by decide +kernel
theorem dX8_goesOn_68 : decode cX8_goesOn 68 = .ok (.iload_n 2, 1) := by decide +kernel
theorem dX8_goesOn_69 : decode cX8_goesOn 69 = .ok (.iconst 1, 1) := by decide +kernel
theorem dX8_goesOn_70 : decode cX8_goesOn 70 = .ok (.iadd, 1) := by decide +kernel
theorem dX8_goesOn_71 : decode cX8_goesOn 71 = .ok (.istore 4, 2) := by decide +kernel
theorem dX8_goesOn_73 : decode cX8_goesOn 73 = .ok (.iload_n 1, 1) := by decide +kernel
theorem dX8_goesOn_74 : decode cX8_goesOn 74 = .ok (.iconst 1, 1) := by decide +kernel
theorem dX8_goesOn_75 : decode cX8_goesOn 75 = .ok (.isub, 1) := by decide +kernel
theorem dX8_goesOn_76 : decode cX8_goesOn 76 = .ok (.istore 5, 2) := by decide +kernel
theorem dX8_goesOn_78 : decode cX8_goesOn 78 = .ok (.iload 4, 2) := by decide +kernel
theorem dX8_goesOn_80 : decode cX8_goesOn 80 = .ok (.iload 5, 2) := by decide +kernel
theorem dX8_goesOn_82 : decode cX8_goesOn 82 = .ok (.if_icmp .ge 20, 3) := by decide +kernel
theorem dX8_goesOn_85 : decode cX8_goesOn 85 = .ok (.aload_n 0, 1) := by decide +kernel
theorem dX8_goesOn_86 : decode cX8_goesOn 86 = .ok (.iload 4, 2) := by decide +kernel
theorem dX8_goesOn_88 : decode cX8_goesOn 88 = .ok (.iload 5, 2) := by decide +kernel
theorem dX8_goesOn_90 : decode cX8_goesOn 90 = .ok (.invokevirtual 272, 3) := by decide +kernel
theorem dX8_goesOn_93 : decode cX8_goesOn 93 = .ok (.iinc 4 1, 3) := by decide +kernel
theorem dX8_goesOn_96 : decode cX8_goesOn 96 = .ok (.iinc 5 (-1), 3) := by decide +kernel
theorem dX8_goesOn_99 : decode cX8_goesOn 99 = .ok (.goto (-21), 3) := by decide +kernel
theorem dX8_goesOn_102 : decode cX8_goesOn 102 = .ok (.iconst 1, 1) := by decide +kernel
theorem dX8_goesOn_103 : decode cX8_goesOn 103 = .ok (.ireturn, 1) := by decide +kernel
theorem dX8_swaps_0 : decode cX8_swaps 0 = .ok (.aload_n 0, 1) := by decide +kernel
theorem dX8_swaps_1 : decode cX8_swaps 1 = .ok (.getfield 57, 3) := by decide +kernel
theorem dX8_swaps_4 : decode cX8_swaps 4 = .ok (.iload_n 1, 1) := by decide +kernel
theorem dX8_swaps_5 : decode cX8_swaps 5 = .ok (.iaload, 1) := by decide +kernel
theorem dX8_swaps_6 : decode cX8_swaps 6 = .ok (.istore_n 3, 1) := by decide +kernel
theorem dX8_swaps_7 : decode cX8_swaps 7 = .ok (.aload_n 0, 1) := by decide +kernel
theorem dX8_swaps_8 : decode cX8_swaps 8 = .ok (.getfield 57, 3) := by decide +kernel
theorem dX8_swaps_11 : decode cX8_swaps 11 = .ok (.iload_n 1, 1) := by decide +kernel
theorem dX8_swaps_12 : decode cX8_swaps 12 = .ok (.aload_n 0, 1) := by decide +kernel
theorem dX8_swaps_13 : decode cX8_swaps 13 = .ok (.getfield 57, 3) := by decide +kernel
theorem dX8_swaps_16 : decode cX8_swaps 16 = .ok (.iload_n 2, 1) := by decide +kernel
theorem dX8_swaps_17 : decode cX8_swaps 17 = .ok (.iaload, 1) := by decide +kernel
theorem dX8_swaps_18 : decode cX8_swaps 18 = .ok (.iastore, 1) := by decide +kernel
theorem dX8_swaps_19 : decode cX8_swaps 19 = .ok (.aload_n 0, 1) := by decide +kernel
theorem dX8_swaps_20 : decode cX8_swaps 20 = .ok (.getfield 57, 3) := by decide +kernel
theorem dX8_swaps_23 : decode cX8_swaps 23 = .ok (.iload_n 2, 1) := by decide +kernel
theorem dX8_swaps_24 : decode cX8_swaps 24 = .ok (.iload_n 3, 1) := by decide +kernel
theorem dX8_swaps_25 : decode cX8_swaps 25 = .ok (.iastore, 1) := by decide +kernel
theorem dX8_swaps_26 : decode cX8_swaps 26 = .ok (.return_, 1) := by decide +kernel
theorem dX8_findOrder_0 : decode cX8_findOrder 0 = .ok (.aload_n 0, 1) := by decide +kernel
theorem dX8_findOrder_1 : decode cX8_findOrder 1 = .ok (.invokevirtual 242, 3) := by decide +kernel
theorem dX8_findOrder_4 : decode cX8_findOrder 4 = .ok (.aload_n 0, 1) := by decide +kernel
theorem dX8_findOrder_5 : decode cX8_findOrder 5 = .ok (.ldc2_w 248, 3) := by decide +kernel
theorem dX8_findOrder_8 : decode cX8_findOrder 8 = .ok (.putfield 275, 3) := by decide +kernel
theorem dX8_findOrder_11 : decode cX8_findOrder 11 = .ok (.iconst 1, 1) := by decide +kernel
theorem dX8_findOrder_12 : decode cX8_findOrder 12 = .ok (.istore_n 1, 1) := by decide +kernel
theorem dX8_findOrder_13 : decode cX8_findOrder 13 = .ok (.iload_n 1, 1) := by decide +kernel
theorem dX8_findOrder_14 : decode cX8_findOrder 14 = .ok (.ifCond .eq 70, 3) := by decide +kernel
theorem dX8_findOrder_17 : decode cX8_findOrder 17 = .ok (.aload_n 0, 1) := by decide +kernel
theorem dX8_findOrder_18 : decode cX8_findOrder 18 = .ok (.aload_n 0, 1) := by decide +kernel
theorem dX8_findOrder_19 : decode cX8_findOrder 19 = .ok (.getfield 129, 3) := by decide +kernel
theorem dX8_findOrder_22 : decode cX8_findOrder 22 = .ok (.invokevirtual 245, 3) := by decide +kernel
theorem dX8_findOrder_25 : decode cX8_findOrder 25 = .ok (.lstore_n 2, 1) := by decide +kernel
theorem dX8_findOrder_26 : decode cX8_findOrder 26 = .ok (.lload_n 2, 1) := by decide +kernel
theorem dX8_findOrder_27 : decode cX8_findOrder 27 = .ok (.aload_n 0, 1) := by decide +kernel
theorem dX8_findOrder_28 : decode cX8_findOrder 28 = .ok (.getfield 275, 3) := by decide +kernel
theorem dX8_findOrder_31 : decode cX8_findOrder 31 = .ok (.lcmp, 1) := by decide +kernel
theorem dX8_findOrder_32 : decode cX8_findOrder 32 = .ok (.ifCond .le 40, 3) := by decide +kernel
theorem dX8_findOrder_35 : decode cX8_findOrder 35 = .ok (.aload_n 0, 1) := by decide +kernel
theorem dX8_findOrder_36 : decode cX8_findOrder 36 = .ok (.lload_n 2, 1) := by decide +kernel
theorem dX8_findOrder_37 : decode cX8_findOrder 37 = .ok (.putfield 275, 3) := by decide +kernel
theorem dX8_findOrder_40 : decode cX8_findOrder 40 = .ok (.iconst 0, 1) := by decide +kernel
theorem dX8_findOrder_41 : decode cX8_findOrder 41 = .ok (.istore 4, 2) := by decide +kernel
theorem dX8_findOrder_43 : decode cX8_findOrder 43 = .ok (.iload 4, 2) := by decide +kernel
theorem dX8_findOrder_45 : decode cX8_findOrder 45 = .ok (.aload_n 0, 1) := by decide +kernel
theorem dX8_findOrder_46 : decode cX8_findOrder 46 = .ok (.getfield 129, 3) := by decide +kernel
theorem dX8_findOrder_49 : decode cX8_findOrder 49 = .ok (.if_icmp .ge 23, 3) := by decide +kernel
theorem dX8_findOrder_52 : decode cX8_findOrder 52 = .ok (.aload_n 0, 1) := by decide +kernel
theorem dX8_findOrder_53 : decode cX8_findOrder 53 = .ok (.getfield 60, 3) := by decide +kernel
theorem dX8_findOrder_56 : decode cX8_findOrder 56 = .ok (.iload 4, 2) := by decide +kernel
theorem dX8_findOrder_58 : decode cX8_findOrder 58 = .ok (.aload_n 0, 1) := by decide +kernel
theorem dX8_findOrder_59 : decode cX8_findOrder 59 = .ok (.getfield 57, 3) := by decide +kernel
theorem dX8_findOrder_62 : decode cX8_findOrder 62 = .ok (.iload 4, 2) := by decide +kernel
theorem dX8_findOrder_64 : decode cX8_findOrder 64 = .ok (.iaload, 1) := by decide +kernel
theorem dX8_findOrder_65 : decode cX8_findOrder 65 = .ok (.iastore, 1) := by decide +kernel
theorem dX8_findOrder_66 : decode cX8_findOrder 66 = .ok (.iinc 4 1, 3) := by decide +kernel
theorem dX8_findOrder_69 : decode cX8_findOrder 69 = .ok (.goto (-26), 3) := by decide +kernel
theorem dX8_findOrder_72 : decode cX8_findOrder 72 = .ok (.aload_n 0, 1) := by decide +kernel
theorem dX8_findOrder_73 : decode cX8_findOrder 73 = .ok (.aload_n 0, 1) := by decide +kernel
theorem dX8_findOrder_74 : decode cX8_findOrder 74 = .ok (.getfield 129, 3) := by decide +kernel
theorem dX8_findOrder_77 : decode cX8_findOrder 77 = .ok (.invokevirtual 278, 3) := by decide +kernel
theorem dX8_findOrder_80 : decode cX8_findOrder 80 = .ok (.istore_n 1, 1) := by decide +kernel
theorem dX8_findOrder_81 : decode cX8_findOrder 81 = .ok (.goto (-68), 3) := by decide +kernel
theorem dX8_findOrder_84 : decode cX8_findOrder 84 = .ok (.return_, 1) := by decide +kernel
theorem dX8_order_0 : decode cX8_order 0 = .ok (.aload_n 0, 1) := by decide +kernel
theorem dX8_order_1 : decode cX8_order 1 = .ok (.invokevirtual 147, 3) := by decide +kernel
theorem dX8_order_4 : decode cX8_order 4 = .ok (.aload_n 0, 1) := by decide +kernel
theorem dX8_order_5 : decode cX8_order 5 = .ok (.getfield 129, 3) := by decide +kernel
theorem dX8_order_8 : decode cX8_order 8 = .ok (.bipush 6, 2) := by decide +kernel
theorem dX8_order_10 : decode cX8_order 10 = .ok (.if_icmp .le 10, 3) := by decide +kernel
theorem dX8_order_13 : decode cX8_order 13 = .ok (.iload_n 1, 1) := by decide +kernel
theorem dX8_order_14 : decode cX8_order 14 = .ok (.ifCond .lt 6, 3) := by decide +kernel
theorem dX8_order_17 : decode cX8_order 17 = .ok (.bipush (-4), 2) := by decide +kernel
theorem dX8_order_19 : decode cX8_order 19 = .ok (.ireturn, 1) := by decide +kernel
theorem dX8_order_20 : decode cX8_order 20 = .ok (.iload_n 1, 1) := by decide +kernel
theorem dX8_order_21 : decode cX8_order 21 = .ok (.i2l, 1) := by decide +kernel
theorem dX8_order_22 : decode cX8_order 22 = .ok (.lconst 0, 1) := by decide +kernel
theorem dX8_order_23 : decode cX8_order 23 = .ok (.aload_n 0, 1) := by decide +kernel
theorem dX8_order_24 : decode cX8_order 24 = .ok (.getfield 129, 3) := by decide +kernel
theorem dX8_order_27 : decode cX8_order 27 = .ok (.iconst 1, 1) := by decide +kernel
theorem dX8_order_28 : decode cX8_order 28 = .ok (.isub, 1) := by decide +kernel
theorem dX8_order_29 : decode cX8_order 29 = .ok (.i2l, 1) := by decide +kernel
theorem dX8_order_30 : decode cX8_order 30 = .ok (.invokestatic 80, 3) := by decide +kernel
theorem dX8_order_33 : decode cX8_order 33 = .ok (.ifCond .ne 6, 3) := by decide +kernel
theorem dX8_order_36 : decode cX8_order 36 = .ok (.bipush (-2), 2) := by decide +kernel
theorem dX8_order_38 : decode cX8_order 38 = .ok (.ireturn, 1) := by decide +kernel
theorem dX8_order_39 : decode cX8_order 39 = .ok (.aload_n 0, 1) := by decide +kernel
theorem dX8_order_40 : decode cX8_order 40 = .ok (.invokevirtual 281, 3) := by decide +kernel
theorem dX8_order_43 : decode cX8_order 43 = .ok (.aload_n 0, 1) := by decide +kernel
theorem dX8_order_44 : decode cX8_order 44 = .ok (.getfield 60, 3) := by decide +kernel
theorem dX8_order_47 : decode cX8_order 47 = .ok (.iload_n 1, 1) := by decide +kernel
theorem dX8_order_48 : decode cX8_order 48 = .ok (.iaload, 1) := by decide +kernel
theorem dX8_order_49 : decode cX8_order 49 = .ok (.ireturn, 1) := by decide +kernel
theorem dX8_bestOf_0 : decode cX8_bestOf 0 = .ok (.aload_n 0, 1) := by decide +kernel
theorem dX8_bestOf_1 : decode cX8_bestOf 1 = .ok (.getfield 129, 3) := by decide +kernel
theorem dX8_bestOf_4 : decode cX8_bestOf 4 = .ok (.bipush 6, 2) := by decide +kernel
theorem dX8_bestOf_6 : decode cX8_bestOf 6 = .ok (.if_icmp .le 9, 3) := by decide +kernel
theorem dX8_bestOf_9 : decode cX8_bestOf 9 = .ok (.bipush (-4), 2) := by decide +kernel
theorem dX8_bestOf_11 : decode cX8_bestOf 11 = .ok (.invokestatic 236, 3) := by decide +kernel
theorem dX8_bestOf_14 : decode cX8_bestOf 14 = .ok (.lreturn, 1) := by decide +kernel
theorem dX8_bestOf_15 : decode cX8_bestOf 15 = .ok (.aload_n 0, 1) := by decide +kernel
theorem dX8_bestOf_16 : decode cX8_bestOf 16 = .ok (.invokevirtual 281, 3) := by decide +kernel
theorem dX8_bestOf_19 : decode cX8_bestOf 19 = .ok (.aload_n 0, 1) := by decide +kernel
theorem dX8_bestOf_20 : decode cX8_bestOf 20 = .ok (.getfield 129, 3) := by decide +kernel
theorem dX8_bestOf_23 : decode cX8_bestOf 23 = .ok (.i2l, 1) := by decide +kernel
theorem dX8_bestOf_24 : decode cX8_bestOf 24 = .ok (.aload_n 0, 1) := by decide +kernel
theorem dX8_bestOf_25 : decode cX8_bestOf 25 = .ok (.getfield 185, 3) := by decide +kernel
theorem dX8_bestOf_28 : decode cX8_bestOf 28 = .ok (.lmul, 1) := by decide +kernel
theorem dX8_bestOf_29 : decode cX8_bestOf 29 = .ok (.aload_n 0, 1) := by decide +kernel
theorem dX8_bestOf_30 : decode cX8_bestOf 30 = .ok (.getfield 275, 3) := by decide +kernel
theorem dX8_bestOf_33 : decode cX8_bestOf 33 = .ok (.lsub, 1) := by decide +kernel
theorem dX8_bestOf_34 : decode cX8_bestOf 34 = .ok (.aload_n 0, 1) := by decide +kernel
theorem dX8_bestOf_35 : decode cX8_bestOf 35 = .ok (.getfield 185, 3) := by decide +kernel
theorem dX8_bestOf_38 : decode cX8_bestOf 38 = .ok (.iload_n 1, 1) := by decide +kernel
theorem dX8_bestOf_39 : decode cX8_bestOf 39 = .ok (.invokestatic 229, 3) := by decide +kernel
theorem dX8_bestOf_42 : decode cX8_bestOf 42 = .ok (.lreturn, 1) := by decide +kernel
theorem dX8_best_0 : decode cX8_best 0 = .ok (.aload_n 0, 1) := by decide +kernel
theorem dX8_best_1 : decode cX8_best 1 = .ok (.invokevirtual 147, 3) := by decide +kernel
theorem dX8_best_4 : decode cX8_best 4 = .ok (.iload_n 1, 1) := by decide +kernel
theorem dX8_best_5 : decode cX8_best 5 = .ok (.invokestatic 108, 3) := by decide +kernel
theorem dX8_best_8 : decode cX8_best 8 = .ok (.ifCond .eq 11, 3) := by decide +kernel
theorem dX8_best_11 : decode cX8_best 11 = .ok (.aload_n 0, 1) := by decide +kernel
theorem dX8_best_12 : decode cX8_best 12 = .ok (.iload_n 1, 1) := by decide +kernel
theorem dX8_best_13 : decode cX8_best 13 = .ok (.invokevirtual 284, 3) := by decide +kernel
theorem dX8_best_16 : decode cX8_best 16 = .ok (.goto 8, 3) := by decide +kernel
theorem dX8_best_19 : decode cX8_best 19 = .ok (.bipush (-2), 2) := by decide +kernel
theorem dX8_best_21 : decode cX8_best 21 = .ok (.invokestatic 236, 3) := by decide +kernel
theorem dX8_best_24 : decode cX8_best 24 = .ok (.lreturn, 1) := by decide +kernel
theorem dX8_findRings_0 : decode cX8_findRings 0 = .ok (.iconst 0, 1) := by decide +kernel
theorem dX8_findRings_1 : decode cX8_findRings 1 = .ok (.istore_n 2, 1) := by decide +kernel
theorem dX8_findRings_2 : decode cX8_findRings 2 = .ok (.iconst 0, 1) := by decide +kernel
theorem dX8_findRings_3 : decode cX8_findRings 3 = .ok (.istore_n 3, 1) := by decide +kernel
theorem dX8_findRings_4 : decode cX8_findRings 4 = .ok (.iconst 0, 1) := by decide +kernel
theorem dX8_findRings_5 : decode cX8_findRings 5 = .ok (.istore 4, 2) := by decide +kernel
theorem dX8_findRings_7 : decode cX8_findRings 7 = .ok (.iload 4, 2) := by decide +kernel
theorem dX8_findRings_9 : decode cX8_findRings 9 = .ok (.aload_n 0, 1) := by decide +kernel
theorem dX8_findRings_10 : decode cX8_findRings 10 = .ok (.getfield 129, 3) := by decide +kernel
theorem dX8_findRings_13 : decode cX8_findRings 13 = .ok (.if_icmp .ge 55, 3) := by decide +kernel
theorem dX8_findRings_16 : decode cX8_findRings 16 = .ok (.aload_n 0, 1) := by decide +kernel
theorem dX8_findRings_17 : decode cX8_findRings 17 = .ok (.getfield 16, 3) := by decide +kernel
theorem dX8_findRings_20 : decode cX8_findRings 20 = .ok (.bipush 60, 2) := by decide +kernel
theorem dX8_findRings_22 : decode cX8_findRings 22 = .ok (.iload_n 1, 1) := by decide +kernel
theorem dX8_findRings_23 : decode cX8_findRings 23 = .ok (.imul, 1) := by decide +kernel
theorem dX8_findRings_24 : decode cX8_findRings 24 = .ok (.iload 4, 2) := by decide +kernel
theorem dX8_findRings_26 : decode cX8_findRings 26 = .ok (.iadd, 1) := by decide +kernel
theorem dX8_findRings_27 : decode cX8_findRings 27 = .ok (.iaload, 1) := by decide +kernel
theorem dX8_findRings_28 : decode cX8_findRings 28 = .ok (.istore 5, 2) := by decide +kernel
theorem dX8_findRings_30 : decode cX8_findRings 30 = .ok (.iload_n 2, 1) := by decide +kernel
theorem dX8_findRings_31 : decode cX8_findRings 31 = .ok (.aload_n 0, 1) := by decide +kernel
theorem dX8_findRings_32 : decode cX8_findRings 32 = .ok (.iload 5, 2) := by decide +kernel
theorem dX8_findRings_34 : decode cX8_findRings 34 = .ok (.invokevirtual 266, 3) := by decide +kernel
theorem dX8_findRings_37 : decode cX8_findRings 37 = .ok (.ifCond .eq 10, 3) := by decide +kernel
theorem dX8_findRings_40 : decode cX8_findRings 40 = .ok (.iconst 1, 1) := by decide +kernel
theorem dX8_findRings_41 : decode cX8_findRings 41 = .ok (.iload 5, 2) := by decide +kernel
theorem dX8_findRings_43 : decode cX8_findRings 43 = .ok (.ishl, 1) := by decide +kernel
theorem dX8_findRings_44 : decode cX8_findRings 44 = .ok (.goto 4, 3) := by decide +kernel
theorem dX8_findRings_47 : decode cX8_findRings 47 = .ok (.iconst 0, 1) := by decide +kernel
theorem dX8_findRings_48 : decode cX8_findRings 48 = .ok (.ior, 1) := by decide +kernel
theorem dX8_findRings_49 : decode cX8_findRings 49 = .ok (.istore_n 2, 1) := by decide +kernel
theorem dX8_findRings_50 : decode cX8_findRings 50 = .ok (.iload_n 3, 1) := by decide +kernel
theorem dX8_findRings_51 : decode cX8_findRings 51 = .ok (.iconst 1, 1) := by decide +kernel
theorem dX8_findRings_52 : decode cX8_findRings 52 = .ok (.aload_n 0, 1) := by decide +kernel
theorem dX8_findRings_53 : decode cX8_findRings 53 = .ok (.getfield 34, 3) := by decide +kernel
theorem dX8_findRings_56 : decode cX8_findRings 56 = .ok (.iload 4, 2) := by decide +kernel
theorem dX8_findRings_58 : decode cX8_findRings 58 = .ok (.iaload, 1) := by decide +kernel
theorem dX8_findRings_59 : decode cX8_findRings 59 = .ok (.ishl, 1) := by decide +kernel
theorem dX8_findRings_60 : decode cX8_findRings 60 = .ok (.ior, 1) := by decide +kernel
theorem dX8_findRings_61 : decode cX8_findRings 61 = .ok (.istore_n 3, 1) := by decide +kernel
theorem dX8_findRings_62 : decode cX8_findRings 62 = .ok (.iinc 4 1, 3) := by decide +kernel
theorem dX8_findRings_65 : decode cX8_findRings 65 = .ok (.goto (-58), 3) := by decide +kernel
theorem dX8_findRings_68 : decode cX8_findRings 68 = .ok (.aload_n 0, 1) := by decide +kernel
theorem dX8_findRings_69 : decode cX8_findRings 69 = .ok (.getfield 129, 3) := by decide +kernel
theorem dX8_findRings_72 : decode cX8_findRings 72 = .ok (.aload_n 0, 1) := by decide +kernel
theorem dX8_findRings_73 : decode cX8_findRings 73 = .ok (.getfield 116, 3) := by decide +kernel
theorem dX8_findRings_76 : decode cX8_findRings 76 = .ok (.if_icmp .ne 19, 3) := by decide +kernel
theorem dX8_findRings_79 : decode cX8_findRings 79 = .ok (.iload_n 2, 1) := by decide +kernel
theorem dX8_findRings_80 : decode cX8_findRings 80 = .ok (.aload_n 0, 1) := by decide +kernel
theorem dX8_findRings_81 : decode cX8_findRings 81 = .ok (.invokevirtual 166, 3) := by decide +kernel
theorem dX8_findRings_84 : decode cX8_findRings 84 = .ok (.if_icmp .ne 11, 3) := by decide +kernel
theorem dX8_findRings_87 : decode cX8_findRings 87 = .ok (.iload_n 3, 1) := by decide +kernel
theorem dX8_findRings_88 : decode cX8_findRings 88 = .ok (.aload_n 0, 1) := by decide +kernel
theorem dX8_findRings_89 : decode cX8_findRings 89 = .ok (.invokevirtual 166, 3) := by decide +kernel
theorem dX8_findRings_92 : decode cX8_findRings 92 = .ok (.if_icmp .eq 5, 3) := by decide +kernel
theorem dX8_findRings_95 : decode cX8_findRings 95 = .ok (.iconst 0, 1) := by decide +kernel
theorem dX8_findRings_96 : decode cX8_findRings 96 = .ok (.ireturn, 1) := by decide +kernel
theorem dX8_findRings_97 : decode cX8_findRings 97 = .ok (.aload_n 0, 1) := by decide +kernel
theorem dX8_findRings_98 : decode cX8_findRings 98 = .ok (.iconst 0, 1) := by decide +kernel
theorem dX8_findRings_99 : decode cX8_findRings 99 = .ok (.putfield 287, 3) := by decide +kernel
theorem dX8_findRings_102 : decode cX8_findRings 102 = .ok (.aload_n 0, 1) := by decide +kernel
theorem dX8_findRings_103 : decode cX8_findRings 103 = .ok (.iconst 0, 1) := by decide +kernel
theorem dX8_findRings_104 : decode cX8_findRings 104 = .ok (.putfield 290, 3) := by decide +kernel
theorem dX8_findRings_107 : decode cX8_findRings 107 = .ok (.aload_n 0, 1) := by decide +kernel
theorem dX8_findRings_108 : decode cX8_findRings 108 = .ok (.iconst 0, 1) := by decide +kernel
theorem dX8_findRings_109 : decode cX8_findRings 109 = .ok (.putfield 293, 3) := by decide +kernel
theorem dX8_findRings_112 : decode cX8_findRings 112 = .ok (.iconst 0, 1) := by decide +kernel
theorem dX8_findRings_113 : decode cX8_findRings 113 = .ok (.istore 4, 2) := by decide +kernel
theorem dX8_findRings_115 : decode cX8_findRings 115 = .ok (.iconst 0, 1) := by decide +kernel
theorem dX8_findRings_116 : decode cX8_findRings 116 = .ok (.istore 5, 2) := by decide +kernel
theorem dX8_findRings_118 : decode cX8_findRings 118 = .ok (.iload 5, 2) := by decide +kernel
theorem dX8_findRings_120 : decode cX8_findRings 120 = .ok (.aload_n 0, 1) := by decide +kernel
theorem dX8_findRings_121 : decode cX8_findRings 121 = .ok (.getfield 129, 3) := by decide +kernel
theorem dX8_findRings_124 : decode cX8_findRings 124 = .ok (.if_icmp .ge 118, 3) := by decide +kernel
theorem dX8_findRings_127 : decode cX8_findRings 127 = .ok (.iconst 0, 1) := by decide +kernel
theorem dX8_findRings_128 : decode cX8_findRings 128 = .ok (.istore 6, 2) := by decide +kernel
theorem dX8_findRings_130 : decode cX8_findRings 130 = .ok (.iload 5, 2) := by decide +kernel
theorem dX8_findRings_132 : decode cX8_findRings 132 = .ok (.istore 7, 2) := by decide +kernel
theorem dX8_findRings_134 : decode cX8_findRings 134 = .ok (.iload 4, 2) := by decide +kernel
theorem dX8_findRings_136 : decode cX8_findRings 136 = .ok (.iload 7, 2) := by decide +kernel
theorem dX8_findRings_138 : decode cX8_findRings 138 = .ok (.invokestatic 162, 3) := by decide +kernel
theorem dX8_findRings_141 : decode cX8_findRings 141 = .ok (.ifCond .ne 32, 3) := by decide +kernel
theorem dX8_findRings_144 : decode cX8_findRings 144 = .ok (.iload 4, 2) := by decide +kernel
theorem dX8_findRings_146 : decode cX8_findRings 146 = .ok (.iconst 1, 1) := by decide +kernel
theorem dX8_findRings_147 : decode cX8_findRings 147 = .ok (.iload 7, 2) := by decide +kernel
theorem dX8_findRings_149 : decode cX8_findRings 149 = .ok (.ishl, 1) := by decide +kernel
theorem dX8_findRings_150 : decode cX8_findRings 150 = .ok (.ior, 1) := by decide +kernel
theorem dX8_findRings_151 : decode cX8_findRings 151 = .ok (.istore 4, 2) := by decide +kernel
theorem dX8_findRings_153 : decode cX8_findRings 153 = .ok (.iinc 6 1, 3) := by decide +kernel
theorem dX8_findRings_156 : decode cX8_findRings 156 = .ok (.aload_n 0, 1) := by decide +kernel
theorem dX8_findRings_157 : decode cX8_findRings 157 = .ok (.iload_n 1, 1) := by decide +kernel
theorem dX8_findRings_158 : decode cX8_findRings 158 = .ok (.aload_n 0, 1) := by decide +kernel
theorem dX8_findRings_159 : decode cX8_findRings 159 = .ok (.getfield 34, 3) := by decide +kernel
theorem dX8_findRings_162 : decode cX8_findRings 162 = .ok (.iload 7, 2) := by decide +kernel
theorem dX8_findRings_164 : decode cX8_findRings 164 = .ok (.iaload, 1) := by decide +kernel
theorem dX8_findRings_165 : decode cX8_findRings 165 = .ok (.invokevirtual 297, 3) := by decide +kernel
theorem dX8_findRings_168 : decode cX8_findRings 168 = .ok (.istore 7, 2) := by decide +kernel
theorem dX8_findRings_170 : decode cX8_findRings 170 = .ok (.goto (-36), 3) := by decide +kernel
theorem dX8_findRings_173 : decode cX8_findRings 173 = .ok (.aload_n 0, 1) := by decide +kernel
theorem dX8_findRings_174 : decode cX8_findRings 174 = .ok (.dup, 1) := by decide +kernel
theorem dX8_findRings_175 : decode cX8_findRings 175 = .ok (.getfield 287, 3) := by decide +kernel
theorem dX8_findRings_178 : decode cX8_findRings 178 = .ok (.iload 6, 2) := by decide +kernel
theorem dX8_findRings_180 : decode cX8_findRings 180 = .ok (.iconst 1, 1) := by decide +kernel
theorem dX8_findRings_181 : decode cX8_findRings 181 = .ok (.if_icmp .le 7, 3) := by decide +kernel
theorem dX8_findRings_184 : decode cX8_findRings 184 = .ok (.iconst 1, 1) := by decide +kernel
theorem dX8_findRings_185 : decode cX8_findRings 185 = .ok (.goto 4, 3) := by decide +kernel
theorem dX8_findRings_188 : decode cX8_findRings 188 = .ok (.iconst 0, 1) := by decide +kernel
theorem dX8_findRings_189 : decode cX8_findRings 189 = .ok (.iadd, 1) := by decide +kernel
theorem dX8_findRings_190 : decode cX8_findRings 190 = .ok (.putfield 287, 3) := by decide +kernel
theorem dX8_findRings_193 : decode cX8_findRings 193 = .ok (.aload_n 0, 1) := by decide +kernel
theorem dX8_findRings_194 : decode cX8_findRings 194 = .ok (.dup, 1) := by decide +kernel
theorem dX8_findRings_195 : decode cX8_findRings 195 = .ok (.getfield 290, 3) := by decide +kernel
theorem dX8_findRings_198 : decode cX8_findRings 198 = .ok (.iload 6, 2) := by decide +kernel
theorem dX8_findRings_200 : decode cX8_findRings 200 = .ok (.iconst 1, 1) := by decide +kernel
theorem dX8_findRings_201 : decode cX8_findRings 201 = .ok (.if_icmp .le 8, 3) := by decide +kernel
theorem dX8_findRings_204 : decode cX8_findRings 204 = .ok (.iload 6, 2) := by decide +kernel
theorem dX8_findRings_206 : decode cX8_findRings 206 = .ok (.goto 4, 3) := by decide +kernel
theorem dX8_findRings_209 : decode cX8_findRings 209 = .ok (.iconst 0, 1) := by decide +kernel
theorem dX8_findRings_210 : decode cX8_findRings 210 = .ok (.iadd, 1) := by decide +kernel
theorem dX8_findRings_211 : decode cX8_findRings 211 = .ok (.putfield 290, 3) := by decide +kernel
theorem dX8_findRings_214 : decode cX8_findRings 214 = .ok (.aload_n 0, 1) := by decide +kernel
theorem dX8_findRings_215 : decode cX8_findRings 215 = .ok (.aload_n 0, 1) := by decide +kernel
theorem dX8_findRings_216 : decode cX8_findRings 216 = .ok (.getfield 293, 3) := by decide +kernel
theorem dX8_findRings_219 : decode cX8_findRings 219 = .ok (.ifCond .ne 9, 3) := by decide +kernel
theorem dX8_findRings_222 : decode cX8_findRings 222 = .ok (.iload 6, 2) := by decide +kernel
theorem dX8_findRings_224 : decode cX8_findRings 224 = .ok (.iconst 2, 1) := by decide +kernel
theorem dX8_findRings_225 : decode cX8_findRings 225 = .ok (.if_icmp .le 7, 3) := by decide +kernel
theorem dX8_findRings_228 : decode cX8_findRings 228 = .ok (.iconst 1, 1) := by decide +kernel
theorem dX8_findRings_229 : decode cX8_findRings 229 = .ok (.goto 4, 3) := by decide +kernel
theorem dX8_findRings_232 : decode cX8_findRings 232 = .ok (.iconst 0, 1) := by decide +kernel
theorem dX8_findRings_233 : decode cX8_findRings 233 = .ok (.putfield 293, 3) := by decide +kernel
theorem dX8_findRings_236 : decode cX8_findRings 236 = .ok (.iinc 5 1, 3) := by decide +kernel
theorem dX8_findRings_239 : decode cX8_findRings 239 = .ok (.goto (-121), 3) := by decide +kernel
theorem dX8_findRings_242 : decode cX8_findRings 242 = .ok (.iconst 1, 1) := by decide +kernel
theorem dX8_findRings_243 : decode cX8_findRings 243 = .ok (.ireturn, 1) := by decide +kernel
theorem dX8_sitter_0 : decode cX8_sitter 0 = .ok (.iconst 0, 1) := by decide +kernel
theorem dX8_sitter_1 : decode cX8_sitter 1 = .ok (.istore_n 3, 1) := by decide +kernel
theorem dX8_sitter_2 : decode cX8_sitter 2 = .ok (.iconst 0, 1) := by decide +kernel
theorem dX8_sitter_3 : decode cX8_sitter 3 = .ok (.istore 4, 2) := by decide +kernel
theorem dX8_sitter_5 : decode cX8_sitter 5 = .ok (.iload 4, 2) := by decide +kernel
theorem dX8_sitter_7 : decode cX8_sitter 7 = .ok (.aload_n 0, 1) := by decide +kernel
theorem dX8_sitter_8 : decode cX8_sitter 8 = .ok (.getfield 129, 3) := by decide +kernel
theorem dX8_sitter_11 : decode cX8_sitter 11 = .ok (.if_icmp .ge 32, 3) := by decide +kernel
theorem dX8_sitter_14 : decode cX8_sitter 14 = .ok (.aload_n 0, 1) := by decide +kernel
theorem dX8_sitter_15 : decode cX8_sitter 15 = .ok (.getfield 16, 3) := by decide +kernel
theorem dX8_sitter_18 : decode cX8_sitter 18 = .ok (.bipush 60, 2) := by decide +kernel
theorem dX8_sitter_20 : decode cX8_sitter 20 = .ok (.iload_n 1, 1) := by decide +kernel
theorem dX8_sitter_21 : decode cX8_sitter 21 = .ok (.imul, 1) := by decide +kernel
theorem dX8_sitter_22 : decode cX8_sitter 22 = .ok (.iload 4, 2) := by decide +kernel
theorem dX8_sitter_24 : decode cX8_sitter 24 = .ok (.iadd, 1) := by decide +kernel
theorem dX8_sitter_25 : decode cX8_sitter 25 = .ok (.iaload, 1) := by decide +kernel
theorem dX8_sitter_26 : decode cX8_sitter 26 = .ok (.iload_n 2, 1) := by decide +kernel
theorem dX8_sitter_27 : decode cX8_sitter 27 = .ok (.if_icmp .ne 8, 3) := by decide +kernel
theorem dX8_sitter_30 : decode cX8_sitter 30 = .ok (.iload 4, 2) := by decide +kernel
theorem dX8_sitter_32 : decode cX8_sitter 32 = .ok (.goto 4, 3) := by decide +kernel
theorem dX8_sitter_35 : decode cX8_sitter 35 = .ok (.iload_n 3, 1) := by decide +kernel
theorem dX8_sitter_36 : decode cX8_sitter 36 = .ok (.istore_n 3, 1) := by decide +kernel
theorem dX8_sitter_37 : decode cX8_sitter 37 = .ok (.iinc 4 1, 3) := by decide +kernel
theorem dX8_sitter_40 : decode cX8_sitter 40 = .ok (.goto (-35), 3) := by decide +kernel
theorem dX8_sitter_43 : decode cX8_sitter 43 = .ok (.iload_n 3, 1) := by decide +kernel
theorem dX8_sitter_44 : decode cX8_sitter 44 = .ok (.ireturn, 1) := by decide +kernel
theorem dX8_back_0 : decode cX8_back 0 = .ok (.iload_n 1, 1) := by decide +kernel
theorem dX8_back_1 : decode cX8_back 1 = .ok (.invokestatic 89, 3) := by decide +kernel
theorem dX8_back_4 : decode cX8_back 4 = .ok (.ifCond .eq 15, 3) := by decide +kernel
theorem dX8_back_7 : decode cX8_back 7 = .ok (.iload_n 2, 1) := by decide +kernel
theorem dX8_back_8 : decode cX8_back 8 = .ok (.i2l, 1) := by decide +kernel
theorem dX8_back_9 : decode cX8_back 9 = .ok (.lconst 0, 1) := by decide +kernel
theorem dX8_back_10 : decode cX8_back 10 = .ok (.ldc2_w 93, 3) := by decide +kernel
theorem dX8_back_13 : decode cX8_back 13 = .ok (.invokestatic 80, 3) := by decide +kernel
theorem dX8_back_16 : decode cX8_back 16 = .ok (.ifCond .ne 6, 3) := by decide +kernel
theorem dX8_back_19 : decode cX8_back 19 = .ok (.bipush (-2), 2) := by decide +kernel
theorem dX8_back_21 : decode cX8_back 21 = .ok (.ireturn, 1) := by decide +kernel
theorem dX8_back_22 : decode cX8_back 22 = .ok (.aload_n 0, 1) := by decide +kernel
theorem dX8_back_23 : decode cX8_back 23 = .ok (.iload_n 1, 1) := by decide +kernel
theorem dX8_back_24 : decode cX8_back 24 = .ok (.invokevirtual 263, 3) := by decide +kernel
theorem dX8_back_27 : decode cX8_back 27 = .ok (.istore_n 3, 1) := by decide +kernel
theorem dX8_back_28 : decode cX8_back 28 = .ok (.iload_n 3, 1) := by decide +kernel
theorem dX8_back_29 : decode cX8_back 29 = .ok (.ifCond .eq 5, 3) := by decide +kernel
theorem dX8_back_32 : decode cX8_back 32 = .ok (.iload_n 3, 1) := by decide +kernel
theorem dX8_back_33 : decode cX8_back 33 = .ok (.ireturn, 1) := by decide +kernel
theorem dX8_back_34 : decode cX8_back 34 = .ok (.aload_n 0, 1) := by decide +kernel
theorem dX8_back_35 : decode cX8_back 35 = .ok (.iload_n 1, 1) := by decide +kernel
theorem dX8_back_36 : decode cX8_back 36 = .ok (.invokevirtual 300, 3) := by decide +kernel
theorem dX8_back_39 : decode cX8_back 39 = .ok (.ifCond .ne 6, 3) := by decide +kernel
theorem dX8_back_42 : decode cX8_back 42 = .ok (.bipush (-3), 2) := by decide +kernel
theorem dX8_back_44 : decode cX8_back 44 = .ok (.ireturn, 1) := by decide +kernel
theorem dX8_back_45 : decode cX8_back 45 = .ok (.iload_n 2, 1) := by decide +kernel
theorem dX8_back_46 : decode cX8_back 46 = .ok (.ifCond .ne 10, 3) := by decide +kernel
theorem dX8_back_49 : decode cX8_back 49 = .ok (.aload_n 0, 1) := by decide +kernel
theorem dX8_back_50 : decode cX8_back 50 = .ok (.getfield 287, 3) := by decide +kernel
theorem dX8_back_53 : decode cX8_back 53 = .ok (.goto 43, 3) := by decide +kernel
theorem dX8_back_56 : decode cX8_back 56 = .ok (.iload_n 2, 1) := by decide +kernel
theorem dX8_back_57 : decode cX8_back 57 = .ok (.iconst 1, 1) := by decide +kernel
theorem dX8_back_58 : decode cX8_back 58 = .ok (.if_icmp .ne 15, 3) := by decide +kernel
theorem dX8_back_61 : decode cX8_back 61 = .ok (.aload_n 0, 1) := by decide +kernel
theorem dX8_back_62 : decode cX8_back 62 = .ok (.getfield 290, 3) := by decide +kernel
theorem dX8_back_65 : decode cX8_back 65 = .ok (.aload_n 0, 1) := by decide +kernel
theorem dX8_back_66 : decode cX8_back 66 = .ok (.getfield 287, 3) := by decide +kernel
theorem dX8_back_69 : decode cX8_back 69 = .ok (.isub, 1) := by decide +kernel
theorem dX8_back_70 : decode cX8_back 70 = .ok (.goto 26, 3) := by decide +kernel
theorem dX8_back_73 : decode cX8_back 73 = .ok (.aload_n 0, 1) := by decide +kernel
theorem dX8_back_74 : decode cX8_back 74 = .ok (.getfield 287, 3) := by decide +kernel
theorem dX8_back_77 : decode cX8_back 77 = .ok (.ifCond .ne 7, 3) := by decide +kernel
theorem dX8_back_80 : decode cX8_back 80 = .ok (.iconst 0, 1) := by decide +kernel
theorem dX8_back_81 : decode cX8_back 81 = .ok (.goto 15, 3) := by decide +kernel
theorem dX8_back_84 : decode cX8_back 84 = .ok (.aload_n 0, 1) := by decide +kernel
theorem dX8_back_85 : decode cX8_back 85 = .ok (.getfield 293, 3) := by decide +kernel
theorem dX8_back_88 : decode cX8_back 88 = .ok (.ifCond .eq 7, 3) := by decide +kernel
theorem dX8_back_91 : decode cX8_back 91 = .ok (.iconst 2, 1) := by decide +kernel
theorem dX8_back_92 : decode cX8_back 92 = .ok (.goto 4, 3) := by decide +kernel
theorem dX8_back_95 : decode cX8_back 95 = .ok (.iconst 1, 1) := by decide +kernel
theorem dX8_back_96 : decode cX8_back 96 = .ok (.ireturn, 1) := by decide +kernel
theorem dX8_seen_0 : decode cX8_seen 0 = .ok (.iload_n 1, 1) := by decide +kernel
theorem dX8_seen_1 : decode cX8_seen 1 = .ok (.i2l, 1) := by decide +kernel
theorem dX8_seen_2 : decode cX8_seen 2 = .ok (.ldc2_w 248, 3) := by decide +kernel
theorem dX8_seen_5 : decode cX8_seen 5 = .ok (.ldc2_w 303, 3) := by decide +kernel
theorem dX8_seen_8 : decode cX8_seen 8 = .ok (.invokestatic 80, 3) := by decide +kernel
theorem dX8_seen_11 : decode cX8_seen 11 = .ok (.ifCond .eq 15, 3) := by decide +kernel
theorem dX8_seen_14 : decode cX8_seen 14 = .ok (.iload_n 2, 1) := by decide +kernel
theorem dX8_seen_15 : decode cX8_seen 15 = .ok (.i2l, 1) := by decide +kernel
theorem dX8_seen_16 : decode cX8_seen 16 = .ok (.lconst 0, 1) := by decide +kernel
theorem dX8_seen_17 : decode cX8_seen 17 = .ok (.ldc2_w 303, 3) := by decide +kernel
theorem dX8_seen_20 : decode cX8_seen 20 = .ok (.invokestatic 80, 3) := by decide +kernel
theorem dX8_seen_23 : decode cX8_seen 23 = .ok (.ifCond .ne 6, 3) := by decide +kernel
theorem dX8_seen_26 : decode cX8_seen 26 = .ok (.bipush (-2), 2) := by decide +kernel
theorem dX8_seen_28 : decode cX8_seen 28 = .ok (.ireturn, 1) := by decide +kernel
theorem dX8_seen_29 : decode cX8_seen 29 = .ok (.aload_n 0, 1) := by decide +kernel
theorem dX8_seen_30 : decode cX8_seen 30 = .ok (.getfield 305, 3) := by decide +kernel
theorem dX8_seen_33 : decode cX8_seen 33 = .ok (.bipush 8, 2) := by decide +kernel
theorem dX8_seen_35 : decode cX8_seen 35 = .ok (.if_icmp .ne 6, 3) := by decide +kernel
theorem dX8_seen_38 : decode cX8_seen 38 = .ok (.bipush (-4), 2) := by decide +kernel
theorem dX8_seen_40 : decode cX8_seen 40 = .ok (.ireturn, 1) := by decide +kernel
theorem dX8_seen_41 : decode cX8_seen 41 = .ok (.aload_n 0, 1) := by decide +kernel
theorem dX8_seen_42 : decode cX8_seen 42 = .ok (.getfield 69, 3) := by decide +kernel
theorem dX8_seen_45 : decode cX8_seen 45 = .ok (.aload_n 0, 1) := by decide +kernel
theorem dX8_seen_46 : decode cX8_seen 46 = .ok (.getfield 305, 3) := by decide +kernel
theorem dX8_seen_49 : decode cX8_seen 49 = .ok (.iload_n 1, 1) := by decide +kernel
theorem dX8_seen_50 : decode cX8_seen 50 = .ok (.iastore, 1) := by decide +kernel
theorem dX8_seen_51 : decode cX8_seen 51 = .ok (.aload_n 0, 1) := by decide +kernel
theorem dX8_seen_52 : decode cX8_seen 52 = .ok (.getfield 72, 3) := by decide +kernel
theorem dX8_seen_55 : decode cX8_seen 55 = .ok (.aload_n 0, 1) := by decide +kernel
theorem dX8_seen_56 : decode cX8_seen 56 = .ok (.getfield 305, 3) := by decide +kernel
theorem dX8_seen_59 : decode cX8_seen 59 = .ok (.iload_n 2, 1) := by decide +kernel
theorem dX8_seen_60 : decode cX8_seen 60 = .ok (.iastore, 1) := by decide +kernel
theorem dX8_seen_61 : decode cX8_seen 61 = .ok (.aload_n 0, 1) := by decide +kernel
theorem dX8_seen_62 : decode cX8_seen 62 = .ok (.dup, 1) := by decide +kernel
theorem dX8_seen_63 : decode cX8_seen 63 = .ok (.getfield 305, 3) := by decide +kernel
theorem dX8_seen_66 : decode cX8_seen 66 = .ok (.iconst 1, 1) := by decide +kernel
theorem dX8_seen_67 : decode cX8_seen 67 = .ok (.iadd, 1) := by decide +kernel
theorem dX8_seen_68 : decode cX8_seen 68 = .ok (.putfield 305, 3) := by decide +kernel
theorem dX8_seen_71 : decode cX8_seen 71 = .ok (.aload_n 0, 1) := by decide +kernel
theorem dX8_seen_72 : decode cX8_seen 72 = .ok (.getfield 305, 3) := by decide +kernel
theorem dX8_seen_75 : decode cX8_seen 75 = .ok (.ireturn, 1) := by decide +kernel
theorem dX8_read_0 : decode cX8_read 0 = .ok (.iload_n 1, 1) := by decide +kernel
theorem dX8_read_1 : decode cX8_read 1 = .ok (.invokestatic 89, 3) := by decide +kernel
theorem dX8_read_4 : decode cX8_read 4 = .ok (.ifCond .ne 6, 3) := by decide +kernel
theorem dX8_read_7 : decode cX8_read 7 = .ok (.bipush (-2), 2) := by decide +kernel
theorem dX8_read_9 : decode cX8_read 9 = .ok (.ireturn, 1) := by decide +kernel
theorem dX8_read_10 : decode cX8_read 10 = .ok (.aload_n 0, 1) := by decide +kernel
theorem dX8_read_11 : decode cX8_read 11 = .ok (.getfield 7, 3) := by decide +kernel
theorem dX8_read_14 : decode cX8_read 14 = .ok (.iload_n 1, 1) := by decide +kernel
theorem dX8_read_15 : decode cX8_read 15 = .ok (.iaload, 1) := by decide +kernel
theorem dX8_read_16 : decode cX8_read 16 = .ok (.ifCond .ge 9, 3) := by decide +kernel
theorem dX8_read_19 : decode cX8_read 19 = .ok (.aload_n 0, 1) := by decide +kernel
theorem dX8_read_20 : decode cX8_read 20 = .ok (.iconst 1, 1) := by decide +kernel
theorem dX8_read_21 : decode cX8_read 21 = .ok (.invokevirtual 95, 3) := by decide +kernel
theorem dX8_read_24 : decode cX8_read 24 = .ok (.ireturn, 1) := by decide +kernel
theorem dX8_read_25 : decode cX8_read 25 = .ok (.iconst 0, 1) := by decide +kernel
theorem dX8_read_26 : decode cX8_read 26 = .ok (.istore_n 2, 1) := by decide +kernel
theorem dX8_read_27 : decode cX8_read 27 = .ok (.iconst 1, 1) := by decide +kernel
theorem dX8_read_28 : decode cX8_read 28 = .ok (.istore_n 3, 1) := by decide +kernel
theorem dX8_read_29 : decode cX8_read 29 = .ok (.iload_n 3, 1) := by decide +kernel
theorem dX8_read_30 : decode cX8_read 30 = .ok (.ifCond .eq 73, 3) := by decide +kernel
theorem dX8_read_33 : decode cX8_read 33 = .ok (.iconst 2, 1) := by decide +kernel
theorem dX8_read_34 : decode cX8_read 34 = .ok (.iload_n 2, 1) := by decide +kernel
theorem dX8_read_35 : decode cX8_read 35 = .ok (.imul, 1) := by decide +kernel
theorem dX8_read_36 : decode cX8_read 36 = .ok (.iconst 2, 1) := by decide +kernel
theorem dX8_read_37 : decode cX8_read 37 = .ok (.iadd, 1) := by decide +kernel
theorem dX8_read_38 : decode cX8_read 38 = .ok (.aload_n 0, 1) := by decide +kernel
theorem dX8_read_39 : decode cX8_read 39 = .ok (.getfield 13, 3) := by decide +kernel
theorem dX8_read_42 : decode cX8_read 42 = .ok (.iload_n 1, 1) := by decide +kernel
theorem dX8_read_43 : decode cX8_read 43 = .ok (.iaload, 1) := by decide +kernel
theorem dX8_read_44 : decode cX8_read 44 = .ok (.if_icmp .gt 59, 3) := by decide +kernel
theorem dX8_read_47 : decode cX8_read 47 = .ok (.aload_n 0, 1) := by decide +kernel
theorem dX8_read_48 : decode cX8_read 48 = .ok (.aload_n 0, 1) := by decide +kernel
theorem dX8_read_49 : decode cX8_read 49 = .ok (.getfield 16, 3) := by decide +kernel
theorem dX8_read_52 : decode cX8_read 52 = .ok (.bipush 60, 2) := by decide +kernel
