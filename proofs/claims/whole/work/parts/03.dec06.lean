theorem dX10_askOf_110 : decode cX10_askOf 110 = .ok (.iload 8, 2) := by decide +kernel
theorem dX10_askOf_112 : decode cX10_askOf 112 = .ok (.iload 6, 2) := by decide +kernel
theorem dX10_askOf_114 : decode cX10_askOf 114 = .ok (.if_icmp .le 8, 3) := by decide +kernel
theorem dX10_askOf_117 : decode cX10_askOf 117 = .ok (.iload 8, 2) := by decide +kernel
theorem dX10_askOf_119 : decode cX10_askOf 119 = .ok (.goto 5, 3) := by decide +kernel
theorem dX10_askOf_122 : decode cX10_askOf 122 = .ok (.iload 6, 2) := by decide +kernel
theorem dX10_askOf_124 : decode cX10_askOf 124 = .ok (.istore 6, 2) := by decide +kernel
theorem dX10_askOf_126 : decode cX10_askOf 126 = .ok (.iinc 7 1, 3) := by decide +kernel
theorem dX10_askOf_129 : decode cX10_askOf 129 = .ok (.goto (-102), 3) := by decide +kernel
theorem dX10_askOf_132 : decode cX10_askOf 132 = .ok (.iload_n 3, 1) := by decide +kernel
theorem dX10_askOf_133 : decode cX10_askOf 133 = .ok (.iconst (-1), 1) := by decide +kernel
theorem dX10_askOf_134 : decode cX10_askOf 134 = .ok (.if_icmp .eq 10, 3) := by decide +kernel
theorem dX10_askOf_137 : decode cX10_askOf 137 = .ok (.iload 6, 2) := by decide +kernel
theorem dX10_askOf_139 : decode cX10_askOf 139 = .ok (.iload 4, 2) := by decide +kernel
theorem dX10_askOf_141 : decode cX10_askOf 141 = .ok (.if_icmp .ge 7, 3) := by decide +kernel
theorem dX10_askOf_144 : decode cX10_askOf 144 = .ok (.iconst 1, 1) := by decide +kernel
theorem dX10_askOf_145 : decode cX10_askOf 145 = .ok (.goto 4, 3) := by decide +kernel
theorem dX10_askOf_148 : decode cX10_askOf 148 = .ok (.iconst 0, 1) := by decide +kernel
theorem dX10_askOf_149 : decode cX10_askOf 149 = .ok (.istore 7, 2) := by decide +kernel
theorem dX10_askOf_151 : decode cX10_askOf 151 = .ok (.iload 7, 2) := by decide +kernel
theorem dX10_askOf_153 : decode cX10_askOf 153 = .ok (.ifCond .eq 8, 3) := by decide +kernel
theorem dX10_askOf_156 : decode cX10_askOf 156 = .ok (.iload 5, 2) := by decide +kernel
theorem dX10_askOf_158 : decode cX10_askOf 158 = .ok (.goto 4, 3) := by decide +kernel
theorem dX10_askOf_161 : decode cX10_askOf 161 = .ok (.iload_n 3, 1) := by decide +kernel
theorem dX10_askOf_162 : decode cX10_askOf 162 = .ok (.istore_n 3, 1) := by decide +kernel
theorem dX10_askOf_163 : decode cX10_askOf 163 = .ok (.iload 7, 2) := by decide +kernel
theorem dX10_askOf_165 : decode cX10_askOf 165 = .ok (.ifCond .eq 8, 3) := by decide +kernel
theorem dX10_askOf_168 : decode cX10_askOf 168 = .ok (.iload 6, 2) := by decide +kernel
theorem dX10_askOf_170 : decode cX10_askOf 170 = .ok (.goto 5, 3) := by decide +kernel
theorem dX10_askOf_173 : decode cX10_askOf 173 = .ok (.iload 4, 2) := by decide +kernel
theorem dX10_askOf_175 : decode cX10_askOf 175 = .ok (.istore 4, 2) := by decide +kernel
theorem dX10_askOf_177 : decode cX10_askOf 177 = .ok (.iinc 5 1, 3) := by decide +kernel
theorem dX10_askOf_180 : decode cX10_askOf 180 = .ok (.goto (-166), 3) := by decide +kernel
theorem dX10_askOf_183 : decode cX10_askOf 183 = .ok (.iload_n 3, 1) := by decide +kernel
theorem dX10_askOf_184 : decode cX10_askOf 184 = .ok (.ireturn, 1) := by decide +kernel
theorem dX10_ask_0 : decode cX10_ask 0 = .ok (.aload_n 0, 1) := by decide +kernel
theorem dX10_ask_1 : decode cX10_ask 1 = .ok (.iload_n 1, 1) := by decide +kernel
theorem dX10_ask_2 : decode cX10_ask 2 = .ok (.invokevirtual 149, 3) := by decide +kernel
theorem dX10_ask_5 : decode cX10_ask 5 = .ok (.ifCond .eq 11, 3) := by decide +kernel
theorem dX10_ask_8 : decode cX10_ask 8 = .ok (.aload_n 0, 1) := by decide +kernel
theorem dX10_ask_9 : decode cX10_ask 9 = .ok (.iload_n 1, 1) := by decide +kernel
theorem dX10_ask_10 : decode cX10_ask 10 = .ok (.invokevirtual 307, 3) := by decide +kernel
theorem dX10_ask_13 : decode cX10_ask 13 = .ok (.goto 5, 3) := by decide +kernel
theorem dX10_ask_16 : decode cX10_ask 16 = .ok (.bipush (-2), 2) := by decide +kernel
theorem dX10_ask_18 : decode cX10_ask 18 = .ok (.ireturn, 1) := by decide +kernel
theorem dX10_ajarOf_0 : decode cX10_ajarOf 0 = .ok (.aload_n 0, 1) := by decide +kernel
theorem dX10_ajarOf_1 : decode cX10_ajarOf 1 = .ok (.invokevirtual 216, 3) := by decide +kernel
theorem dX10_ajarOf_4 : decode cX10_ajarOf 4 = .ok (.lconst 0, 1) := by decide +kernel
theorem dX10_ajarOf_5 : decode cX10_ajarOf 5 = .ok (.lstore 6, 2) := by decide +kernel
theorem dX10_ajarOf_7 : decode cX10_ajarOf 7 = .ok (.iconst 0, 1) := by decide +kernel
theorem dX10_ajarOf_8 : decode cX10_ajarOf 8 = .ok (.istore 8, 2) := by decide +kernel
theorem dX10_ajarOf_10 : decode cX10_ajarOf 10 = .ok (.iload 8, 2) := by decide +kernel
theorem dX10_ajarOf_12 : decode cX10_ajarOf 12 = .ok (.iconst 1, 1) := by decide +kernel
theorem dX10_ajarOf_13 : decode cX10_ajarOf 13 = .ok (.iload_n 2, 1) := by decide +kernel
theorem dX10_ajarOf_14 : decode cX10_ajarOf 14 = .ok (.iconst 1, 1) := by decide +kernel
theorem dX10_ajarOf_15 : decode cX10_ajarOf 15 = .ok (.iadd, 1) := by decide +kernel
theorem dX10_ajarOf_16 : decode cX10_ajarOf 16 = .ok (.ishl, 1) := by decide +kernel
theorem dX10_ajarOf_17 : decode cX10_ajarOf 17 = .ok (.if_icmp .ge 90, 3) := by decide +kernel
theorem dX10_ajarOf_20 : decode cX10_ajarOf 20 = .ok (.lconst 1, 1) := by decide +kernel
theorem dX10_ajarOf_21 : decode cX10_ajarOf 21 = .ok (.lstore 9, 2) := by decide +kernel
theorem dX10_ajarOf_23 : decode cX10_ajarOf 23 = .ok (.iconst 0, 1) := by decide +kernel
theorem dX10_ajarOf_24 : decode cX10_ajarOf 24 = .ok (.istore 11, 2) := by decide +kernel
theorem dX10_ajarOf_26 : decode cX10_ajarOf 26 = .ok (.iload 11, 2) := by decide +kernel
theorem dX10_ajarOf_28 : decode cX10_ajarOf 28 = .ok (.iload_n 2, 1) := by decide +kernel
theorem dX10_ajarOf_29 : decode cX10_ajarOf 29 = .ok (.if_icmp .gt 34, 3) := by decide +kernel
theorem dX10_ajarOf_32 : decode cX10_ajarOf 32 = .ok (.lload 9, 2) := by decide +kernel
theorem dX10_ajarOf_34 : decode cX10_ajarOf 34 = .ok (.iload 8, 2) := by decide +kernel
theorem dX10_ajarOf_36 : decode cX10_ajarOf 36 = .ok (.iload 11, 2) := by decide +kernel
theorem dX10_ajarOf_38 : decode cX10_ajarOf 38 = .ok (.invokestatic 121, 3) := by decide +kernel
theorem dX10_ajarOf_41 : decode cX10_ajarOf 41 = .ok (.ifCond .eq 8, 3) := by decide +kernel
theorem dX10_ajarOf_44 : decode cX10_ajarOf 44 = .ok (.iload_n 1, 1) := by decide +kernel
theorem dX10_ajarOf_45 : decode cX10_ajarOf 45 = .ok (.i2l, 1) := by decide +kernel
theorem dX10_ajarOf_46 : decode cX10_ajarOf 46 = .ok (.goto 8, 3) := by decide +kernel
theorem dX10_ajarOf_49 : decode cX10_ajarOf 49 = .ok (.bipush 16, 2) := by decide +kernel
theorem dX10_ajarOf_51 : decode cX10_ajarOf 51 = .ok (.iload_n 1, 1) := by decide +kernel
theorem dX10_ajarOf_52 : decode cX10_ajarOf 52 = .ok (.isub, 1) := by decide +kernel
theorem dX10_ajarOf_53 : decode cX10_ajarOf 53 = .ok (.i2l, 1) := by decide +kernel
theorem dX10_ajarOf_54 : decode cX10_ajarOf 54 = .ok (.lmul, 1) := by decide +kernel
theorem dX10_ajarOf_55 : decode cX10_ajarOf 55 = .ok (.lstore 9, 2) := by decide +kernel
theorem dX10_ajarOf_57 : decode cX10_ajarOf 57 = .ok (.iinc 11 1, 3) := by decide +kernel
theorem dX10_ajarOf_60 : decode cX10_ajarOf 60 = .ok (.goto (-34), 3) := by decide +kernel
theorem dX10_ajarOf_63 : decode cX10_ajarOf 63 = .ok (.lload 9, 2) := by decide +kernel
theorem dX10_ajarOf_65 : decode cX10_ajarOf 65 = .ok (.lconst 0, 1) := by decide +kernel
theorem dX10_ajarOf_66 : decode cX10_ajarOf 66 = .ok (.lcmp, 1) := by decide +kernel
theorem dX10_ajarOf_67 : decode cX10_ajarOf 67 = .ok (.ifCond .le 34, 3) := by decide +kernel
theorem dX10_ajarOf_70 : decode cX10_ajarOf 70 = .ok (.aload_n 0, 1) := by decide +kernel
theorem dX10_ajarOf_71 : decode cX10_ajarOf 71 = .ok (.iload 8, 2) := by decide +kernel
theorem dX10_ajarOf_73 : decode cX10_ajarOf 73 = .ok (.putfield 201, 3) := by decide +kernel
theorem dX10_ajarOf_76 : decode cX10_ajarOf 76 = .ok (.aload_n 0, 1) := by decide +kernel
theorem dX10_ajarOf_77 : decode cX10_ajarOf 77 = .ok (.invokevirtual 219, 3) := by decide +kernel
theorem dX10_ajarOf_80 : decode cX10_ajarOf 80 = .ok (.lload 6, 2) := by decide +kernel
theorem dX10_ajarOf_82 : decode cX10_ajarOf 82 = .ok (.aload_n 0, 1) := by decide +kernel
theorem dX10_ajarOf_83 : decode cX10_ajarOf 83 = .ok (.iload 4, 2) := by decide +kernel
theorem dX10_ajarOf_85 : decode cX10_ajarOf 85 = .ok (.invokevirtual 234, 3) := by decide +kernel
theorem dX10_ajarOf_88 : decode cX10_ajarOf 88 = .ok (.iload_n 3, 1) := by decide +kernel
theorem dX10_ajarOf_89 : decode cX10_ajarOf 89 = .ok (.if_icmp .ne 8, 3) := by decide +kernel
theorem dX10_ajarOf_92 : decode cX10_ajarOf 92 = .ok (.lload 9, 2) := by decide +kernel
theorem dX10_ajarOf_94 : decode cX10_ajarOf 94 = .ok (.goto 4, 3) := by decide +kernel
theorem dX10_ajarOf_97 : decode cX10_ajarOf 97 = .ok (.lconst 0, 1) := by decide +kernel
theorem dX10_ajarOf_98 : decode cX10_ajarOf 98 = .ok (.ladd, 1) := by decide +kernel
theorem dX10_ajarOf_99 : decode cX10_ajarOf 99 = .ok (.lstore 6, 2) := by decide +kernel
theorem dX10_ajarOf_101 : decode cX10_ajarOf 101 = .ok (.iinc 8 1, 3) := by decide +kernel
theorem dX10_ajarOf_104 : decode cX10_ajarOf 104 = .ok (.goto (-94), 3) := by decide +kernel
theorem dX10_ajarOf_107 : decode cX10_ajarOf 107 = .ok (.lload 6, 2) := by decide +kernel
theorem dX10_ajarOf_109 : decode cX10_ajarOf 109 = .ok (.lconst 1, 1) := by decide +kernel
theorem dX10_ajarOf_110 : decode cX10_ajarOf 110 = .ok (.iconst 4, 1) := by decide +kernel
theorem dX10_ajarOf_111 : decode cX10_ajarOf 111 = .ok (.iload_n 2, 1) := by decide +kernel
theorem dX10_ajarOf_112 : decode cX10_ajarOf 112 = .ok (.iconst 1, 1) := by decide +kernel
theorem dX10_ajarOf_113 : decode cX10_ajarOf 113 = .ok (.iadd, 1) := by decide +kernel
theorem dX10_ajarOf_114 : decode cX10_ajarOf 114 = .ok (.imul, 1) := by decide +kernel
theorem dX10_ajarOf_115 : decode cX10_ajarOf 115 = .ok (.lshl, 1) := by decide +kernel
theorem dX10_ajarOf_116 : decode cX10_ajarOf 116 = .ok (.iload 5, 2) := by decide +kernel
theorem dX10_ajarOf_118 : decode cX10_ajarOf 118 = .ok (.invokestatic 271, 3) := by decide +kernel
theorem dX10_ajarOf_121 : decode cX10_ajarOf 121 = .ok (.lreturn, 1) := by decide +kernel
theorem dX10_ajar_0 : decode cX10_ajar 0 = .ok (.iload_n 1, 1) := by decide +kernel
theorem dX10_ajar_1 : decode cX10_ajar 1 = .ok (.iconst 0, 1) := by decide +kernel
theorem dX10_ajar_2 : decode cX10_ajar 2 = .ok (.bipush 16, 2) := by decide +kernel
theorem dX10_ajar_4 : decode cX10_ajar 4 = .ok (.invokestatic 106, 3) := by decide +kernel
theorem dX10_ajar_7 : decode cX10_ajar 7 = .ok (.ifCond .eq 26, 3) := by decide +kernel
theorem dX10_ajar_10 : decode cX10_ajar 10 = .ok (.iload_n 2, 1) := by decide +kernel
theorem dX10_ajar_11 : decode cX10_ajar 11 = .ok (.iconst 0, 1) := by decide +kernel
theorem dX10_ajar_12 : decode cX10_ajar 12 = .ok (.bipush 9, 2) := by decide +kernel
theorem dX10_ajar_14 : decode cX10_ajar 14 = .ok (.invokestatic 106, 3) := by decide +kernel
theorem dX10_ajar_17 : decode cX10_ajar 17 = .ok (.ifCond .eq 16, 3) := by decide +kernel
theorem dX10_ajar_20 : decode cX10_ajar 20 = .ok (.iload_n 3, 1) := by decide +kernel
theorem dX10_ajar_21 : decode cX10_ajar 21 = .ok (.iconst 0, 1) := by decide +kernel
theorem dX10_ajar_22 : decode cX10_ajar 22 = .ok (.iconst 2, 1) := by decide +kernel
theorem dX10_ajar_23 : decode cX10_ajar 23 = .ok (.invokestatic 106, 3) := by decide +kernel
theorem dX10_ajar_26 : decode cX10_ajar 26 = .ok (.ifCond .eq 7, 3) := by decide +kernel
theorem dX10_ajar_29 : decode cX10_ajar 29 = .ok (.iconst 1, 1) := by decide +kernel
theorem dX10_ajar_30 : decode cX10_ajar 30 = .ok (.goto 4, 3) := by decide +kernel
theorem dX10_ajar_33 : decode cX10_ajar 33 = .ok (.iconst 0, 1) := by decide +kernel
theorem dX10_ajar_34 : decode cX10_ajar 34 = .ok (.istore 6, 2) := by decide +kernel
theorem dX10_ajar_36 : decode cX10_ajar 36 = .ok (.iload 6, 2) := by decide +kernel
theorem dX10_ajar_38 : decode cX10_ajar 38 = .ok (.ifCond .eq 35, 3) := by decide +kernel
theorem dX10_ajar_41 : decode cX10_ajar 41 = .ok (.iload 4, 2) := by decide +kernel
theorem dX10_ajar_43 : decode cX10_ajar 43 = .ok (.invokestatic 155, 3) := by decide +kernel
theorem dX10_ajar_46 : decode cX10_ajar 46 = .ok (.ifCond .eq 27, 3) := by decide +kernel
theorem dX10_ajar_49 : decode cX10_ajar 49 = .ok (.iload 5, 2) := by decide +kernel
theorem dX10_ajar_51 : decode cX10_ajar 51 = .ok (.iconst 0, 1) := by decide +kernel
theorem dX10_ajar_52 : decode cX10_ajar 52 = .ok (.iconst 1, 1) := by decide +kernel
theorem dX10_ajar_53 : decode cX10_ajar 53 = .ok (.invokestatic 106, 3) := by decide +kernel
theorem dX10_ajar_56 : decode cX10_ajar 56 = .ok (.ifCond .eq 17, 3) := by decide +kernel
theorem dX10_ajar_59 : decode cX10_ajar 59 = .ok (.aload_n 0, 1) := by decide +kernel
theorem dX10_ajar_60 : decode cX10_ajar 60 = .ok (.iload_n 1, 1) := by decide +kernel
theorem dX10_ajar_61 : decode cX10_ajar 61 = .ok (.iload_n 2, 1) := by decide +kernel
theorem dX10_ajar_62 : decode cX10_ajar 62 = .ok (.iload_n 3, 1) := by decide +kernel
theorem dX10_ajar_63 : decode cX10_ajar 63 = .ok (.iload 4, 2) := by decide +kernel
theorem dX10_ajar_65 : decode cX10_ajar 65 = .ok (.iload 5, 2) := by decide +kernel
theorem dX10_ajar_67 : decode cX10_ajar 67 = .ok (.invokevirtual 310, 3) := by decide +kernel
theorem dX10_ajar_70 : decode cX10_ajar 70 = .ok (.goto 8, 3) := by decide +kernel
theorem dX10_ajar_73 : decode cX10_ajar 73 = .ok (.bipush (-2), 2) := by decide +kernel
theorem dX10_ajar_75 : decode cX10_ajar 75 = .ok (.invokestatic 279, 3) := by decide +kernel
theorem dX10_ajar_78 : decode cX10_ajar 78 = .ok (.lreturn, 1) := by decide +kernel
theorem dX10_eveningsOf_0 : decode cX10_eveningsOf 0 = .ok (.aload_n 0, 1) := by decide +kernel
theorem dX10_eveningsOf_1 : decode cX10_eveningsOf 1 = .ok (.invokevirtual 222, 3) := by decide +kernel
theorem dX10_eveningsOf_4 : decode cX10_eveningsOf 4 = .ok (.iload_n 1, 1) := by decide +kernel
theorem dX10_eveningsOf_5 : decode cX10_eveningsOf 5 = .ok (.istore_n 3, 1) := by decide +kernel
theorem dX10_eveningsOf_6 : decode cX10_eveningsOf 6 = .ok (.iconst 0, 1) := by decide +kernel
theorem dX10_eveningsOf_7 : decode cX10_eveningsOf 7 = .ok (.istore 4, 2) := by decide +kernel
theorem dX10_eveningsOf_9 : decode cX10_eveningsOf 9 = .ok (.iconst 0, 1) := by decide +kernel
theorem dX10_eveningsOf_10 : decode cX10_eveningsOf 10 = .ok (.istore 5, 2) := by decide +kernel
theorem dX10_eveningsOf_12 : decode cX10_eveningsOf 12 = .ok (.iload 5, 2) := by decide +kernel
theorem dX10_eveningsOf_14 : decode cX10_eveningsOf 14 = .ok (.bipush 10, 2) := by decide +kernel
theorem dX10_eveningsOf_16 : decode cX10_eveningsOf 16 = .ok (.if_icmp .ge 23, 3) := by decide +kernel
theorem dX10_eveningsOf_19 : decode cX10_eveningsOf 19 = .ok (.aload_n 0, 1) := by decide +kernel
theorem dX10_eveningsOf_20 : decode cX10_eveningsOf 20 = .ok (.getfield 85, 3) := by decide +kernel
theorem dX10_eveningsOf_23 : decode cX10_eveningsOf 23 = .ok (.iload 5, 2) := by decide +kernel
theorem dX10_eveningsOf_25 : decode cX10_eveningsOf 25 = .ok (.aload_n 0, 1) := by decide +kernel
theorem dX10_eveningsOf_26 : decode cX10_eveningsOf 26 = .ok (.getfield 70, 3) := by decide +kernel
theorem dX10_eveningsOf_29 : decode cX10_eveningsOf 29 = .ok (.iload 5, 2) := by decide +kernel
theorem dX10_eveningsOf_31 : decode cX10_eveningsOf 31 = .ok (.iaload, 1) := by decide +kernel
theorem dX10_eveningsOf_32 : decode cX10_eveningsOf 32 = .ok (.iastore, 1) := by decide +kernel
theorem dX10_eveningsOf_33 : decode cX10_eveningsOf 33 = .ok (.iinc 5 1, 3) := by decide +kernel
theorem dX10_eveningsOf_36 : decode cX10_eveningsOf 36 = .ok (.goto (-24), 3) := by decide +kernel
theorem dX10_eveningsOf_39 : decode cX10_eveningsOf 39 = .ok (.iconst 0, 1) := by decide +kernel
theorem dX10_eveningsOf_40 : decode cX10_eveningsOf 40 = .ok (.istore 5, 2) := by decide +kernel
theorem dX10_eveningsOf_42 : decode cX10_eveningsOf 42 = .ok (.iload 5, 2) := by decide +kernel
theorem dX10_eveningsOf_44 : decode cX10_eveningsOf 44 = .ok (.aload_n 0, 1) := by decide +kernel
theorem dX10_eveningsOf_45 : decode cX10_eveningsOf 45 = .ok (.getfield 125, 3) := by decide +kernel
theorem dX10_eveningsOf_48 : decode cX10_eveningsOf 48 = .ok (.if_icmp .ge 32, 3) := by decide +kernel
theorem dX10_eveningsOf_51 : decode cX10_eveningsOf 51 = .ok (.ldc_w 314, 3) := by decide +kernel
theorem dX10_eveningsOf_54 : decode cX10_eveningsOf 54 = .ok (.iload_n 3, 1) := by decide +kernel
theorem dX10_eveningsOf_55 : decode cX10_eveningsOf 55 = .ok (.imul, 1) := by decide +kernel
theorem dX10_eveningsOf_56 : decode cX10_eveningsOf 56 = .ok (.sipush 12345, 3) := by decide +kernel
theorem dX10_eveningsOf_59 : decode cX10_eveningsOf 59 = .ok (.iadd, 1) := by decide +kernel
theorem dX10_eveningsOf_60 : decode cX10_eveningsOf 60 = .ok (.istore_n 3, 1) := by decide +kernel
theorem dX10_eveningsOf_61 : decode cX10_eveningsOf 61 = .ok (.aload_n 0, 1) := by decide +kernel
theorem dX10_eveningsOf_62 : decode cX10_eveningsOf 62 = .ok (.iload 5, 2) := by decide +kernel
theorem dX10_eveningsOf_64 : decode cX10_eveningsOf 64 = .ok (.iload_n 3, 1) := by decide +kernel
theorem dX10_eveningsOf_65 : decode cX10_eveningsOf 65 = .ok (.bipush 16, 2) := by decide +kernel
theorem dX10_eveningsOf_67 : decode cX10_eveningsOf 67 = .ok (.iushr, 1) := by decide +kernel
theorem dX10_eveningsOf_68 : decode cX10_eveningsOf 68 = .ok (.bipush 6, 2) := by decide +kernel
theorem dX10_eveningsOf_70 : decode cX10_eveningsOf 70 = .ok (.irem, 1) := by decide +kernel
theorem dX10_eveningsOf_71 : decode cX10_eveningsOf 71 = .ok (.invokevirtual 301, 3) := by decide +kernel
theorem dX10_eveningsOf_74 : decode cX10_eveningsOf 74 = .ok (.iinc 5 1, 3) := by decide +kernel
theorem dX10_eveningsOf_77 : decode cX10_eveningsOf 77 = .ok (.goto (-35), 3) := by decide +kernel
theorem dX10_eveningsOf_80 : decode cX10_eveningsOf 80 = .ok (.aload_n 0, 1) := by decide +kernel
theorem dX10_eveningsOf_81 : decode cX10_eveningsOf 81 = .ok (.invokevirtual 219, 3) := by decide +kernel
theorem dX10_eveningsOf_84 : decode cX10_eveningsOf 84 = .ok (.iconst 0, 1) := by decide +kernel
theorem dX10_eveningsOf_85 : decode cX10_eveningsOf 85 = .ok (.istore 5, 2) := by decide +kernel
theorem dX10_eveningsOf_87 : decode cX10_eveningsOf 87 = .ok (.iload 5, 2) := by decide +kernel
theorem dX10_eveningsOf_89 : decode cX10_eveningsOf 89 = .ok (.bipush 10, 2) := by decide +kernel
theorem dX10_eveningsOf_91 : decode cX10_eveningsOf 91 = .ok (.if_icmp .ge 36, 3) := by decide +kernel
theorem dX10_eveningsOf_94 : decode cX10_eveningsOf 94 = .ok (.iload 4, 2) := by decide +kernel
theorem dX10_eveningsOf_96 : decode cX10_eveningsOf 96 = .ok (.aload_n 0, 1) := by decide +kernel
theorem dX10_eveningsOf_97 : decode cX10_eveningsOf 97 = .ok (.getfield 70, 3) := by decide +kernel
theorem dX10_eveningsOf_100 : decode cX10_eveningsOf 100 = .ok (.iload 5, 2) := by decide +kernel
theorem dX10_eveningsOf_102 : decode cX10_eveningsOf 102 = .ok (.iaload, 1) := by decide +kernel
theorem dX10_eveningsOf_103 : decode cX10_eveningsOf 103 = .ok (.aload_n 0, 1) := by decide +kernel
theorem dX10_eveningsOf_104 : decode cX10_eveningsOf 104 = .ok (.getfield 85, 3) := by decide +kernel
theorem dX10_eveningsOf_107 : decode cX10_eveningsOf 107 = .ok (.iload 5, 2) := by decide +kernel
theorem dX10_eveningsOf_109 : decode cX10_eveningsOf 109 = .ok (.iaload, 1) := by decide +kernel
theorem dX10_eveningsOf_110 : decode cX10_eveningsOf 110 = .ok (.if_icmp .eq 7, 3) := by decide +kernel
theorem dX10_eveningsOf_113 : decode cX10_eveningsOf 113 = .ok (.iconst 1, 1) := by decide +kernel
theorem dX10_eveningsOf_114 : decode cX10_eveningsOf 114 = .ok (.goto 4, 3) := by decide +kernel
theorem dX10_eveningsOf_117 : decode cX10_eveningsOf 117 = .ok (.iconst 0, 1) := by decide +kernel
theorem dX10_eveningsOf_118 : decode cX10_eveningsOf 118 = .ok (.iadd, 1) := by decide +kernel
theorem dX10_eveningsOf_119 : decode cX10_eveningsOf 119 = .ok (.istore 4, 2) := by decide +kernel
theorem dX10_eveningsOf_121 : decode cX10_eveningsOf 121 = .ok (.iinc 5 1, 3) := by decide +kernel
theorem dX10_eveningsOf_124 : decode cX10_eveningsOf 124 = .ok (.goto (-37), 3) := by decide +kernel
theorem dX10_eveningsOf_127 : decode cX10_eveningsOf 127 = .ok (.iload_n 2, 1) := by decide +kernel
theorem dX10_eveningsOf_128 : decode cX10_eveningsOf 128 = .ok (.ifCond .ne 8, 3) := by decide +kernel
theorem dX10_eveningsOf_131 : decode cX10_eveningsOf 131 = .ok (.iload 4, 2) := by decide +kernel
theorem dX10_eveningsOf_133 : decode cX10_eveningsOf 133 = .ok (.goto 9, 3) := by decide +kernel
theorem dX10_eveningsOf_136 : decode cX10_eveningsOf 136 = .ok (.aload_n 0, 1) := by decide +kernel
theorem dX10_eveningsOf_137 : decode cX10_eveningsOf 137 = .ok (.bipush 9, 2) := by decide +kernel
theorem dX10_eveningsOf_139 : decode cX10_eveningsOf 139 = .ok (.invokevirtual 234, 3) := by decide +kernel
theorem dX10_eveningsOf_142 : decode cX10_eveningsOf 142 = .ok (.ireturn, 1) := by decide +kernel
theorem dX10_evenings_0 : decode cX10_evenings 0 = .ok (.iload_n 2, 1) := by decide +kernel
theorem dX10_evenings_1 : decode cX10_evenings 1 = .ok (.iconst 0, 1) := by decide +kernel
theorem dX10_evenings_2 : decode cX10_evenings 2 = .ok (.iconst 1, 1) := by decide +kernel
theorem dX10_evenings_3 : decode cX10_evenings 3 = .ok (.invokestatic 106, 3) := by decide +kernel
theorem dX10_evenings_6 : decode cX10_evenings 6 = .ok (.ifCond .eq 12, 3) := by decide +kernel
theorem dX10_evenings_9 : decode cX10_evenings 9 = .ok (.aload_n 0, 1) := by decide +kernel
theorem dX10_evenings_10 : decode cX10_evenings 10 = .ok (.iload_n 1, 1) := by decide +kernel
theorem dX10_evenings_11 : decode cX10_evenings 11 = .ok (.iload_n 2, 1) := by decide +kernel
theorem dX10_evenings_12 : decode cX10_evenings 12 = .ok (.invokevirtual 315, 3) := by decide +kernel
theorem dX10_evenings_15 : decode cX10_evenings 15 = .ok (.goto 5, 3) := by decide +kernel
theorem dX10_evenings_18 : decode cX10_evenings 18 = .ok (.bipush (-2), 2) := by decide +kernel
theorem dX10_evenings_20 : decode cX10_evenings 20 = .ok (.ireturn, 1) := by decide +kernel
theorem dX10_meets_0 : decode cX10_meets 0 = .ok (.aload_n 0, 1) := by decide +kernel
theorem dX10_meets_1 : decode cX10_meets 1 = .ok (.iload_n 1, 1) := by decide +kernel
theorem dX10_meets_2 : decode cX10_meets 2 = .ok (.putfield 318, 3) := by decide +kernel
theorem dX10_meets_5 : decode cX10_meets 5 = .ok (.bipush (-10), 2) := by decide +kernel
theorem dX10_meets_7 : decode cX10_meets 7 = .ok (.iload_n 1, 1) := by decide +kernel
theorem dX10_meets_8 : decode cX10_meets 8 = .ok (.isub, 1) := by decide +kernel
theorem dX10_meets_9 : decode cX10_meets 9 = .ok (.ireturn, 1) := by decide +kernel
theorem dX10_isSheet_0 : decode cX10_isSheet 0 = .ok (.iload_n 0, 1) := by decide +kernel
theorem dX10_isSheet_1 : decode cX10_isSheet 1 = .ok (.iconst 0, 1) := by decide +kernel
theorem dX10_isSheet_2 : decode cX10_isSheet 2 = .ok (.iconst 3, 1) := by decide +kernel
theorem dX10_isSheet_3 : decode cX10_isSheet 3 = .ok (.invokestatic 106, 3) := by decide +kernel
theorem dX10_isSheet_6 : decode cX10_isSheet 6 = .ok (.ireturn, 1) := by decide +kernel
theorem dX10_sheet_0 : decode cX10_sheet 0 = .ok (.iload_n 1, 1) := by decide +kernel
theorem dX10_sheet_1 : decode cX10_sheet 1 = .ok (.invokestatic 167, 3) := by decide +kernel
theorem dX10_sheet_4 : decode cX10_sheet 4 = .ok (.ifCond .eq 18, 3) := by decide +kernel
theorem dX10_sheet_7 : decode cX10_sheet 7 = .ok (.iload_n 2, 1) := by decide +kernel
theorem dX10_sheet_8 : decode cX10_sheet 8 = .ok (.iconst 0, 1) := by decide +kernel
theorem dX10_sheet_9 : decode cX10_sheet 9 = .ok (.iconst 2, 1) := by decide +kernel
theorem dX10_sheet_10 : decode cX10_sheet 10 = .ok (.invokestatic 106, 3) := by decide +kernel
theorem dX10_sheet_13 : decode cX10_sheet 13 = .ok (.ifCond .eq 9, 3) := by decide +kernel
theorem dX10_sheet_16 : decode cX10_sheet 16 = .ok (.iload_n 3, 1) := by decide +kernel
theorem dX10_sheet_17 : decode cX10_sheet 17 = .ok (.bipush 60, 2) := by decide +kernel
theorem dX10_sheet_19 : decode cX10_sheet 19 = .ok (.if_icmp .le 6, 3) := by decide +kernel
theorem dX10_sheet_22 : decode cX10_sheet 22 = .ok (.bipush (-2), 2) := by decide +kernel
theorem dX10_sheet_24 : decode cX10_sheet 24 = .ok (.ireturn, 1) := by decide +kernel
theorem dX10_sheet_25 : decode cX10_sheet 25 = .ok (.iload_n 3, 1) := by decide +kernel
theorem dX10_sheet_26 : decode cX10_sheet 26 = .ok (.ifCond .ge 9, 3) := by decide +kernel
theorem dX10_sheet_29 : decode cX10_sheet 29 = .ok (.aload_n 0, 1) := by decide +kernel
theorem dX10_sheet_30 : decode cX10_sheet 30 = .ok (.iconst 5, 1) := by decide +kernel
theorem dX10_sheet_31 : decode cX10_sheet 31 = .ok (.invokevirtual 170, 3) := by decide +kernel
theorem dX10_sheet_34 : decode cX10_sheet 34 = .ok (.ireturn, 1) := by decide +kernel
theorem dX10_sheet_35 : decode cX10_sheet 35 = .ok (.aload_n 0, 1) := by decide +kernel
theorem dX10_sheet_36 : decode cX10_sheet 36 = .ok (.getfield 88, 3) := by decide +kernel
theorem dX10_sheet_39 : decode cX10_sheet 39 = .ok (.iload_n 1, 1) := by decide +kernel
theorem dX10_sheet_40 : decode cX10_sheet 40 = .ok (.iconst 1, 1) := by decide +kernel
theorem dX10_sheet_41 : decode cX10_sheet 41 = .ok (.bastore, 1) := by decide +kernel
theorem dX10_sheet_42 : decode cX10_sheet 42 = .ok (.aload_n 0, 1) := by decide +kernel
theorem dX10_sheet_43 : decode cX10_sheet 43 = .ok (.getfield 92, 3) := by decide +kernel
theorem dX10_sheet_46 : decode cX10_sheet 46 = .ok (.iload_n 1, 1) := by decide +kernel
theorem dX10_sheet_47 : decode cX10_sheet 47 = .ok (.iload_n 2, 1) := by decide +kernel
theorem dX10_sheet_48 : decode cX10_sheet 48 = .ok (.iastore, 1) := by decide +kernel
theorem dX10_sheet_49 : decode cX10_sheet 49 = .ok (.aload_n 0, 1) := by decide +kernel
theorem dX10_sheet_50 : decode cX10_sheet 50 = .ok (.getfield 95, 3) := by decide +kernel
theorem dX10_sheet_53 : decode cX10_sheet 53 = .ok (.iload_n 1, 1) := by decide +kernel
theorem dX10_sheet_54 : decode cX10_sheet 54 = .ok (.iload_n 3, 1) := by decide +kernel
theorem dX10_sheet_55 : decode cX10_sheet 55 = .ok (.iastore, 1) := by decide +kernel
theorem dX10_sheet_56 : decode cX10_sheet 56 = .ok (.iconst 0, 1) := by decide +kernel
theorem dX10_sheet_57 : decode cX10_sheet 57 = .ok (.istore 4, 2) := by decide +kernel
theorem dX10_sheet_59 : decode cX10_sheet 59 = .ok (.iload 4, 2) := by decide +kernel
theorem dX10_sheet_61 : decode cX10_sheet 61 = .ok (.bipush 60, 2) := by decide +kernel
theorem dX10_sheet_63 : decode cX10_sheet 63 = .ok (.if_icmp .ge 22, 3) := by decide +kernel
theorem dX10_sheet_66 : decode cX10_sheet 66 = .ok (.aload_n 0, 1) := by decide +kernel
theorem dX10_sheet_67 : decode cX10_sheet 67 = .ok (.getfield 98, 3) := by decide +kernel
theorem dX10_sheet_70 : decode cX10_sheet 70 = .ok (.bipush 60, 2) := by decide +kernel
theorem dX10_sheet_72 : decode cX10_sheet 72 = .ok (.iload_n 1, 1) := by decide +kernel
theorem dX10_sheet_73 : decode cX10_sheet 73 = .ok (.imul, 1) := by decide +kernel
theorem dX10_sheet_74 : decode cX10_sheet 74 = .ok (.iload 4, 2) := by decide +kernel
theorem dX10_sheet_76 : decode cX10_sheet 76 = .ok (.iadd, 1) := by decide +kernel
theorem dX10_sheet_77 : decode cX10_sheet 77 = .ok (.iconst 0, 1) := by decide +kernel
theorem dX10_sheet_78 : decode cX10_sheet 78 = .ok (.iastore, 1) := by decide +kernel
theorem dX10_sheet_79 : decode cX10_sheet 79 = .ok (.iinc 4 1, 3) := by decide +kernel
theorem dX10_sheet_82 : decode cX10_sheet 82 = .ok (.goto (-23), 3) := by decide +kernel
theorem dX10_sheet_85 : decode cX10_sheet 85 = .ok (.iload_n 3, 1) := by decide +kernel
theorem dX10_sheet_86 : decode cX10_sheet 86 = .ok (.ireturn, 1) := by decide +kernel
theorem dX10_lose_0 : decode cX10_lose 0 = .ok (.iload_n 1, 1) := by decide +kernel
theorem dX10_lose_1 : decode cX10_lose 1 = .ok (.invokestatic 167, 3) := by decide +kernel
theorem dX10_lose_4 : decode cX10_lose 4 = .ok (.ifCond .ne 6, 3) := by decide +kernel
theorem dX10_lose_7 : decode cX10_lose 7 = .ok (.bipush (-2), 2) := by decide +kernel
theorem dX10_lose_9 : decode cX10_lose 9 = .ok (.ireturn, 1) := by decide +kernel
theorem dX10_lose_10 : decode cX10_lose 10 = .ok (.aload_n 0, 1) := by decide +kernel
theorem dX10_lose_11 : decode cX10_lose 11 = .ok (.getfield 88, 3) := by decide +kernel
theorem dX10_lose_14 : decode cX10_lose 14 = .ok (.iload_n 1, 1) := by decide +kernel
theorem dX10_lose_15 : decode cX10_lose 15 = .ok (.baload, 1) := by decide +kernel
theorem dX10_lose_16 : decode cX10_lose 16 = .ok (.ifCond .ne 9, 3) := by decide +kernel
theorem dX10_lose_19 : decode cX10_lose 19 = .ok (.aload_n 0, 1) := by decide +kernel
theorem dX10_lose_20 : decode cX10_lose 20 = .ok (.iconst 1, 1) := by decide +kernel
theorem dX10_lose_21 : decode cX10_lose 21 = .ok (.invokevirtual 170, 3) := by decide +kernel
theorem dX10_lose_24 : decode cX10_lose 24 = .ok (.ireturn, 1) := by decide +kernel
theorem dX10_lose_25 : decode cX10_lose 25 = .ok (.aload_n 0, 1) := by decide +kernel
theorem dX10_lose_26 : decode cX10_lose 26 = .ok (.getfield 88, 3) := by decide +kernel
theorem dX10_lose_29 : decode cX10_lose 29 = .ok (.iload_n 1, 1) := by decide +kernel
theorem dX10_lose_30 : decode cX10_lose 30 = .ok (.iconst 0, 1) := by decide +kernel
theorem dX10_lose_31 : decode cX10_lose 31 = .ok (.bastore, 1) := by decide +kernel
theorem dX10_lose_32 : decode cX10_lose 32 = .ok (.aload_n 0, 1) := by decide +kernel
theorem dX10_lose_33 : decode cX10_lose 33 = .ok (.getfield 95, 3) := by decide +kernel
theorem dX10_lose_36 : decode cX10_lose 36 = .ok (.iload_n 1, 1) := by decide +kernel
theorem dX10_lose_37 : decode cX10_lose 37 = .ok (.iaload, 1) := by decide +kernel
theorem dX10_lose_38 : decode cX10_lose 38 = .ok (.ireturn, 1) := by decide +kernel
theorem dX10_lacks_0 : decode cX10_lacks 0 = .ok (.aload_n 0, 1) := by decide +kernel
theorem dX10_lacks_1 : decode cX10_lacks 1 = .ok (.getfield 88, 3) := by decide +kernel
theorem dX10_lacks_4 : decode cX10_lacks 4 = .ok (.iload_n 1, 1) := by decide +kernel
theorem dX10_lacks_5 : decode cX10_lacks 5 = .ok (.baload, 1) := by decide +kernel
theorem dX10_lacks_6 : decode cX10_lacks 6 = .ok (.ifCond .ne 7, 3) := by decide +kernel
theorem dX10_lacks_9 : decode cX10_lacks 9 = .ok (.iconst 1, 1) := by decide +kernel
theorem dX10_lacks_10 : decode cX10_lacks 10 = .ok (.goto 38, 3) := by decide +kernel
theorem dX10_lacks_13 : decode cX10_lacks 13 = .ok (.aload_n 0, 1) := by decide +kernel
theorem dX10_lacks_14 : decode cX10_lacks 14 = .ok (.getfield 92, 3) := by decide +kernel
theorem dX10_lacks_17 : decode cX10_lacks 17 = .ok (.iload_n 1, 1) := by decide +kernel
theorem dX10_lacks_18 : decode cX10_lacks 18 = .ok (.iaload, 1) := by decide +kernel
theorem dX10_lacks_19 : decode cX10_lacks 19 = .ok (.iload_n 2, 1) := by decide +kernel
theorem dX10_lacks_20 : decode cX10_lacks 20 = .ok (.if_icmp .eq 7, 3) := by decide +kernel
theorem dX10_lacks_23 : decode cX10_lacks 23 = .ok (.iconst 3, 1) := by decide +kernel
theorem dX10_lacks_24 : decode cX10_lacks 24 = .ok (.goto 24, 3) := by decide +kernel
theorem dX10_lacks_27 : decode cX10_lacks 27 = .ok (.iload_n 3, 1) := by decide +kernel
theorem dX10_lacks_28 : decode cX10_lacks 28 = .ok (.iconst 0, 1) := by decide +kernel
theorem dX10_lacks_29 : decode cX10_lacks 29 = .ok (.aload_n 0, 1) := by decide +kernel
theorem dX10_lacks_30 : decode cX10_lacks 30 = .ok (.getfield 95, 3) := by decide +kernel
theorem dX10_lacks_33 : decode cX10_lacks 33 = .ok (.iload_n 1, 1) := by decide +kernel
theorem dX10_lacks_34 : decode cX10_lacks 34 = .ok (.iaload, 1) := by decide +kernel
theorem dX10_lacks_35 : decode cX10_lacks 35 = .ok (.iconst 1, 1) := by decide +kernel
theorem dX10_lacks_36 : decode cX10_lacks 36 = .ok (.isub, 1) := by decide +kernel
theorem dX10_lacks_37 : decode cX10_lacks 37 = .ok (.invokestatic 106, 3) := by decide +kernel
theorem dX10_lacks_40 : decode cX10_lacks 40 = .ok (.ifCond .eq 7, 3) := by decide +kernel
theorem dX10_lacks_43 : decode cX10_lacks 43 = .ok (.iconst 0, 1) := by decide +kernel
theorem dX10_lacks_44 : decode cX10_lacks 44 = .ok (.goto 4, 3) := by decide +kernel
theorem dX10_lacks_47 : decode cX10_lacks 47 = .ok (.iconst 2, 1) := by decide +kernel
theorem dX10_lacks_48 : decode cX10_lacks 48 = .ok (.ireturn, 1) := by decide +kernel
theorem dX10_keep_0 : decode cX10_keep 0 = .ok (.aload_n 0, 1) := by decide +kernel
theorem dX10_keep_1 : decode cX10_keep 1 = .ok (.getfield 98, 3) := by decide +kernel
theorem dX10_keep_4 : decode cX10_keep 4 = .ok (.bipush 60, 2) := by decide +kernel
theorem dX10_keep_6 : decode cX10_keep 6 = .ok (.iload_n 1, 1) := by decide +kernel
theorem dX10_keep_7 : decode cX10_keep 7 = .ok (.imul, 1) := by decide +kernel
theorem dX10_keep_8 : decode cX10_keep 8 = .ok (.iload_n 2, 1) := by decide +kernel
theorem dX10_keep_9 : decode cX10_keep 9 = .ok (.iadd, 1) := by decide +kernel
theorem dX10_keep_10 : decode cX10_keep 10 = .ok (.aload_n 0, 1) := by decide +kernel
theorem dX10_keep_11 : decode cX10_keep 11 = .ok (.getfield 92, 3) := by decide +kernel
theorem dX10_keep_14 : decode cX10_keep 14 = .ok (.iload_n 1, 1) := by decide +kernel
theorem dX10_keep_15 : decode cX10_keep 15 = .ok (.iaload, 1) := by decide +kernel
theorem dX10_keep_16 : decode cX10_keep 16 = .ok (.ifCond .ne 8, 3) := by decide +kernel
theorem dX10_keep_19 : decode cX10_keep 19 = .ok (.iload_n 3, 1) := by decide +kernel
theorem dX10_keep_20 : decode cX10_keep 20 = .ok (.i2b, 1) := by decide +kernel
theorem dX10_keep_21 : decode cX10_keep 21 = .ok (.goto 19, 3) := by decide +kernel
theorem dX10_keep_24 : decode cX10_keep 24 = .ok (.aload_n 0, 1) := by decide +kernel
theorem dX10_keep_25 : decode cX10_keep 25 = .ok (.getfield 92, 3) := by decide +kernel
theorem dX10_keep_28 : decode cX10_keep 28 = .ok (.iload_n 1, 1) := by decide +kernel
theorem dX10_keep_29 : decode cX10_keep 29 = .ok (.iaload, 1) := by decide +kernel
theorem dX10_keep_30 : decode cX10_keep 30 = .ok (.iconst 1, 1) := by decide +kernel
theorem dX10_keep_31 : decode cX10_keep 31 = .ok (.if_icmp .ne 8, 3) := by decide +kernel
theorem dX10_keep_34 : decode cX10_keep 34 = .ok (.iload_n 3, 1) := by decide +kernel
theorem dX10_keep_35 : decode cX10_keep 35 = .ok (.i2s, 1) := by decide +kernel
theorem dX10_keep_36 : decode cX10_keep 36 = .ok (.goto 4, 3) := by decide +kernel
theorem dX10_keep_39 : decode cX10_keep 39 = .ok (.iload_n 3, 1) := by decide +kernel
theorem dX10_keep_40 : decode cX10_keep 40 = .ok (.iastore, 1) := by decide +kernel
theorem dX10_keep_41 : decode cX10_keep 41 = .ok (.return_, 1) := by decide +kernel
theorem dX10_put_0 : decode cX10_put 0 = .ok (.iload_n 1, 1) := by decide +kernel
theorem dX10_put_1 : decode cX10_put 1 = .ok (.invokestatic 167, 3) := by decide +kernel
theorem dX10_put_4 : decode cX10_put 4 = .ok (.ifCond .eq 12, 3) := by decide +kernel
theorem dX10_put_7 : decode cX10_put 7 = .ok (.iload_n 2, 1) := by decide +kernel
theorem dX10_put_8 : decode cX10_put 8 = .ok (.iconst 0, 1) := by decide +kernel
theorem dX10_put_9 : decode cX10_put 9 = .ok (.iconst 2, 1) := by decide +kernel
theorem dX10_put_10 : decode cX10_put 10 = .ok (.invokestatic 106, 3) := by decide +kernel
theorem dX10_put_13 : decode cX10_put 13 = .ok (.ifCond .ne 6, 3) := by decide +kernel
theorem dX10_put_16 : decode cX10_put 16 = .ok (.bipush (-2), 2) := by decide +kernel
theorem dX10_put_18 : decode cX10_put 18 = .ok (.ireturn, 1) := by decide +kernel
theorem dX10_put_19 : decode cX10_put 19 = .ok (.aload_n 0, 1) := by decide +kernel
theorem dX10_put_20 : decode cX10_put 20 = .ok (.iload_n 1, 1) := by decide +kernel
theorem dX10_put_21 : decode cX10_put 21 = .ok (.iload_n 2, 1) := by decide +kernel
theorem dX10_put_22 : decode cX10_put 22 = .ok (.iload_n 3, 1) := by decide +kernel
theorem dX10_put_23 : decode cX10_put 23 = .ok (.invokevirtual 321, 3) := by decide +kernel
theorem dX10_put_26 : decode cX10_put 26 = .ok (.istore 5, 2) := by decide +kernel
theorem dX10_put_28 : decode cX10_put 28 = .ok (.iload 5, 2) := by decide +kernel
theorem dX10_put_30 : decode cX10_put 30 = .ok (.ifCond .le 10, 3) := by decide +kernel
theorem dX10_put_33 : decode cX10_put 33 = .ok (.aload_n 0, 1) := by decide +kernel
theorem dX10_put_34 : decode cX10_put 34 = .ok (.iload 5, 2) := by decide +kernel
theorem dX10_put_36 : decode cX10_put 36 = .ok (.invokevirtual 170, 3) := by decide +kernel
theorem dX10_put_39 : decode cX10_put 39 = .ok (.ireturn, 1) := by decide +kernel
theorem dX10_put_40 : decode cX10_put 40 = .ok (.aload_n 0, 1) := by decide +kernel
theorem dX10_put_41 : decode cX10_put 41 = .ok (.iload_n 1, 1) := by decide +kernel
theorem dX10_put_42 : decode cX10_put 42 = .ok (.iload_n 3, 1) := by decide +kernel
theorem dX10_put_43 : decode cX10_put 43 = .ok (.iload 4, 2) := by decide +kernel
theorem dX10_put_45 : decode cX10_put 45 = .ok (.invokevirtual 324, 3) := by decide +kernel
theorem dX10_put_48 : decode cX10_put 48 = .ok (.iconst 1, 1) := by decide +kernel
theorem dX10_put_49 : decode cX10_put 49 = .ok (.ireturn, 1) := by decide +kernel
theorem dX10_get_0 : decode cX10_get 0 = .ok (.iload_n 1, 1) := by decide +kernel
theorem dX10_get_1 : decode cX10_get 1 = .ok (.invokestatic 167, 3) := by decide +kernel
theorem dX10_get_4 : decode cX10_get 4 = .ok (.ifCond .eq 12, 3) := by decide +kernel
theorem dX10_get_7 : decode cX10_get 7 = .ok (.iload_n 2, 1) := by decide +kernel
theorem dX10_get_8 : decode cX10_get 8 = .ok (.iconst 0, 1) := by decide +kernel
theorem dX10_get_9 : decode cX10_get 9 = .ok (.iconst 2, 1) := by decide +kernel
theorem dX10_get_10 : decode cX10_get 10 = .ok (.invokestatic 106, 3) := by decide +kernel
theorem dX10_get_13 : decode cX10_get 13 = .ok (.ifCond .ne 7, 3) := by decide +kernel
theorem dX10_get_16 : decode cX10_get 16 = .ok (.ldc_w 328, 3) := by decide +kernel
theorem dX10_get_19 : decode cX10_get 19 = .ok (.ireturn, 1) := by decide +kernel
theorem dX10_get_20 : decode cX10_get 20 = .ok (.aload_n 0, 1) := by decide +kernel
theorem dX10_get_21 : decode cX10_get 21 = .ok (.iload_n 1, 1) := by decide +kernel
theorem dX10_get_22 : decode cX10_get 22 = .ok (.iload_n 2, 1) := by decide +kernel
theorem dX10_get_23 : decode cX10_get 23 = .ok (.iload_n 3, 1) := by decide +kernel
theorem dX10_get_24 : decode cX10_get 24 = .ok (.invokevirtual 321, 3) := by decide +kernel
theorem dX10_get_27 : decode cX10_get 27 = .ok (.istore 4, 2) := by decide +kernel
theorem dX10_get_29 : decode cX10_get 29 = .ok (.iload 4, 2) := by decide +kernel
theorem dX10_get_31 : decode cX10_get 31 = .ok (.ifCond .le 13, 3) := by decide +kernel
theorem dX10_get_34 : decode cX10_get 34 = .ok (.aload_n 0, 1) := by decide +kernel
theorem dX10_get_35 : decode cX10_get 35 = .ok (.iload 4, 2) := by decide +kernel
theorem dX10_get_37 : decode cX10_get 37 = .ok (.putfield 318, 3) := by decide +kernel
theorem dX10_get_40 : decode cX10_get 40 = .ok (.ldc_w 328, 3) := by decide +kernel
theorem dX10_get_43 : decode cX10_get 43 = .ok (.ireturn, 1) := by decide +kernel
theorem dX10_get_44 : decode cX10_get 44 = .ok (.aload_n 0, 1) := by decide +kernel
theorem dX10_get_45 : decode cX10_get 45 = .ok (.getfield 98, 3) := by decide +kernel
theorem dX10_get_48 : decode cX10_get 48 = .ok (.bipush 60, 2) := by decide +kernel
theorem dX10_get_50 : decode cX10_get 50 = .ok (.iload_n 1, 1) := by decide +kernel
theorem dX10_get_51 : decode cX10_get 51 = .ok (.imul, 1) := by decide +kernel
theorem dX10_get_52 : decode cX10_get 52 = .ok (.iload_n 3, 1) := by decide +kernel
theorem dX10_get_53 : decode cX10_get 53 = .ok (.iadd, 1) := by decide +kernel
theorem dX10_get_54 : decode cX10_get 54 = .ok (.iaload, 1) := by decide +kernel
theorem dX10_get_55 : decode cX10_get 55 = .ok (.ireturn, 1) := by decide +kernel
theorem dX10_copy_0 : decode cX10_copy 0 = .ok (.iload_n 1, 1) := by decide +kernel
theorem dX10_copy_1 : decode cX10_copy 1 = .ok (.invokestatic 167, 3) := by decide +kernel
theorem dX10_copy_4 : decode cX10_copy 4 = .ok (.ifCond .eq 10, 3) := by decide +kernel
theorem dX10_copy_7 : decode cX10_copy 7 = .ok (.iload_n 3, 1) := by decide +kernel
theorem dX10_copy_8 : decode cX10_copy 8 = .ok (.invokestatic 167, 3) := by decide +kernel
theorem dX10_copy_11 : decode cX10_copy 11 = .ok (.ifCond .ne 6, 3) := by decide +kernel
theorem dX10_copy_14 : decode cX10_copy 14 = .ok (.bipush (-2), 2) := by decide +kernel
theorem dX10_copy_16 : decode cX10_copy 16 = .ok (.ireturn, 1) := by decide +kernel
theorem dX10_copy_17 : decode cX10_copy 17 = .ok (.aload_n 0, 1) := by decide +kernel
theorem dX10_copy_18 : decode cX10_copy 18 = .ok (.getfield 88, 3) := by decide +kernel
theorem dX10_copy_21 : decode cX10_copy 21 = .ok (.iload_n 1, 1) := by decide +kernel
theorem dX10_copy_22 : decode cX10_copy 22 = .ok (.baload, 1) := by decide +kernel
theorem dX10_copy_23 : decode cX10_copy 23 = .ok (.ifCond .eq 12, 3) := by decide +kernel
theorem dX10_copy_26 : decode cX10_copy 26 = .ok (.aload_n 0, 1) := by decide +kernel
theorem dX10_copy_27 : decode cX10_copy 27 = .ok (.getfield 88, 3) := by decide +kernel
theorem dX10_copy_30 : decode cX10_copy 30 = .ok (.iload_n 3, 1) := by decide +kernel
theorem dX10_copy_31 : decode cX10_copy 31 = .ok (.baload, 1) := by decide +kernel
theorem dX10_copy_32 : decode cX10_copy 32 = .ok (.ifCond .ne 9, 3) := by decide +kernel
theorem dX10_copy_35 : decode cX10_copy 35 = .ok (.aload_n 0, 1) := by decide +kernel
theorem dX10_copy_36 : decode cX10_copy 36 = .ok (.iconst 1, 1) := by decide +kernel
theorem dX10_copy_37 : decode cX10_copy 37 = .ok (.invokevirtual 170, 3) := by decide +kernel
theorem dX10_copy_40 : decode cX10_copy 40 = .ok (.ireturn, 1) := by decide +kernel
theorem dX10_copy_41 : decode cX10_copy 41 = .ok (.aload_n 0, 1) := by decide +kernel
theorem dX10_copy_42 : decode cX10_copy 42 = .ok (.getfield 92, 3) := by decide +kernel
theorem dX10_copy_45 : decode cX10_copy 45 = .ok (.iload_n 1, 1) := by decide +kernel
theorem dX10_copy_46 : decode cX10_copy 46 = .ok (.iaload, 1) := by decide +kernel
theorem dX10_copy_47 : decode cX10_copy 47 = .ok (.aload_n 0, 1) := by decide +kernel
theorem dX10_copy_48 : decode cX10_copy 48 = .ok (.getfield 92, 3) := by decide +kernel
theorem dX10_copy_51 : decode cX10_copy 51 = .ok (.iload_n 3, 1) := by decide +kernel
theorem dX10_copy_52 : decode cX10_copy 52 = .ok (.iaload, 1) := by decide +kernel
theorem dX10_copy_53 : decode cX10_copy 53 = .ok (.if_icmp .eq 9, 3) := by decide +kernel
theorem dX10_copy_56 : decode cX10_copy 56 = .ok (.aload_n 0, 1) := by decide +kernel
theorem dX10_copy_57 : decode cX10_copy 57 = .ok (.iconst 4, 1) := by decide +kernel
theorem dX10_copy_58 : decode cX10_copy 58 = .ok (.invokevirtual 170, 3) := by decide +kernel
theorem dX10_copy_61 : decode cX10_copy 61 = .ok (.ireturn, 1) := by decide +kernel
theorem dX10_copy_62 : decode cX10_copy 62 = .ok (.iload_n 2, 1) := by decide +kernel
theorem dX10_copy_63 : decode cX10_copy 63 = .ok (.ifCond .lt 48, 3) := by decide +kernel
theorem dX10_copy_66 : decode cX10_copy 66 = .ok (.iload 4, 2) := by decide +kernel
theorem dX10_copy_68 : decode cX10_copy 68 = .ok (.ifCond .lt 43, 3) := by decide +kernel
theorem dX10_copy_71 : decode cX10_copy 71 = .ok (.iload 5, 2) := by decide +kernel
theorem dX10_copy_73 : decode cX10_copy 73 = .ok (.ifCond .lt 38, 3) := by decide +kernel
theorem dX10_copy_76 : decode cX10_copy 76 = .ok (.iload_n 2, 1) := by decide +kernel
theorem dX10_copy_77 : decode cX10_copy 77 = .ok (.i2l, 1) := by decide +kernel
theorem dX10_copy_78 : decode cX10_copy 78 = .ok (.iload 5, 2) := by decide +kernel
theorem dX10_copy_80 : decode cX10_copy 80 = .ok (.i2l, 1) := by decide +kernel
theorem dX10_copy_81 : decode cX10_copy 81 = .ok (.ladd, 1) := by decide +kernel
theorem dX10_copy_82 : decode cX10_copy 82 = .ok (.aload_n 0, 1) := by decide +kernel
theorem dX10_copy_83 : decode cX10_copy 83 = .ok (.getfield 95, 3) := by decide +kernel
theorem dX10_copy_86 : decode cX10_copy 86 = .ok (.iload_n 1, 1) := by decide +kernel
theorem dX10_copy_87 : decode cX10_copy 87 = .ok (.iaload, 1) := by decide +kernel
theorem dX10_copy_88 : decode cX10_copy 88 = .ok (.i2l, 1) := by decide +kernel
theorem dX10_copy_89 : decode cX10_copy 89 = .ok (.lcmp, 1) := by decide +kernel
theorem dX10_copy_90 : decode cX10_copy 90 = .ok (.ifCond .gt 21, 3) := by decide +kernel
theorem dX10_copy_93 : decode cX10_copy 93 = .ok (.iload 4, 2) := by decide +kernel
theorem dX10_copy_95 : decode cX10_copy 95 = .ok (.i2l, 1) := by decide +kernel
theorem dX10_copy_96 : decode cX10_copy 96 = .ok (.iload 5, 2) := by decide +kernel
theorem dX10_copy_98 : decode cX10_copy 98 = .ok (.i2l, 1) := by decide +kernel
theorem dX10_copy_99 : decode cX10_copy 99 = .ok (.ladd, 1) := by decide +kernel
theorem dX10_copy_100 : decode cX10_copy 100 = .ok (.aload_n 0, 1) := by decide +kernel
theorem dX10_copy_101 : decode cX10_copy 101 = .ok (.getfield 95, 3) := by decide +kernel
theorem dX10_copy_104 : decode cX10_copy 104 = .ok (.iload_n 3, 1) := by decide +kernel
theorem dX10_copy_105 : decode cX10_copy 105 = .ok (.iaload, 1) := by decide +kernel
theorem dX10_copy_106 : decode cX10_copy 106 = .ok (.i2l, 1) := by decide +kernel
theorem dX10_copy_107 : decode cX10_copy 107 = .ok (.lcmp, 1) := by decide +kernel
theorem dX10_copy_108 : decode cX10_copy 108 = .ok (.ifCond .le 9, 3) := by decide +kernel
theorem dX10_copy_111 : decode cX10_copy 111 = .ok (.aload_n 0, 1) := by decide +kernel
theorem dX10_copy_112 : decode cX10_copy 112 = .ok (.iconst 2, 1) := by decide +kernel
theorem dX10_copy_113 : decode cX10_copy 113 = .ok (.invokevirtual 170, 3) := by decide +kernel
theorem dX10_copy_116 : decode cX10_copy 116 = .ok (.ireturn, 1) := by decide +kernel
theorem dX10_copy_117 : decode cX10_copy 117 = .ok (.iconst 0, 1) := by decide +kernel
theorem dX10_copy_118 : decode cX10_copy 118 = .ok (.istore 6, 2) := by decide +kernel
theorem dX10_copy_120 : decode cX10_copy 120 = .ok (.iload 6, 2) := by decide +kernel
theorem dX10_copy_122 : decode cX10_copy 122 = .ok (.iload 5, 2) := by decide +kernel
theorem dX10_copy_124 : decode cX10_copy 124 = .ok (.if_icmp .ge 30, 3) := by decide +kernel
theorem dX10_copy_127 : decode cX10_copy 127 = .ok (.aload_n 0, 1) := by decide +kernel
theorem dX10_copy_128 : decode cX10_copy 128 = .ok (.getfield 101, 3) := by decide +kernel
theorem dX10_copy_131 : decode cX10_copy 131 = .ok (.iload 6, 2) := by decide +kernel
theorem dX10_copy_133 : decode cX10_copy 133 = .ok (.aload_n 0, 1) := by decide +kernel
theorem dX10_copy_134 : decode cX10_copy 134 = .ok (.getfield 98, 3) := by decide +kernel
theorem dX10_copy_137 : decode cX10_copy 137 = .ok (.bipush 60, 2) := by decide +kernel
theorem dX10_copy_139 : decode cX10_copy 139 = .ok (.iload_n 1, 1) := by decide +kernel
theorem dX10_copy_140 : decode cX10_copy 140 = .ok (.imul, 1) := by decide +kernel
theorem dX10_copy_141 : decode cX10_copy 141 = .ok (.iload_n 2, 1) := by decide +kernel
theorem dX10_copy_142 : decode cX10_copy 142 = .ok (.iadd, 1) := by decide +kernel
theorem dX10_copy_143 : decode cX10_copy 143 = .ok (.iload 6, 2) := by decide +kernel
theorem dX10_copy_145 : decode cX10_copy 145 = .ok (.iadd, 1) := by decide +kernel
theorem dX10_copy_146 : decode cX10_copy 146 = .ok (.iaload, 1) := by decide +kernel
theorem dX10_copy_147 : decode cX10_copy 147 = .ok (.iastore, 1) := by decide +kernel
theorem dX10_copy_148 : decode cX10_copy 148 = .ok (.iinc 6 1, 3) := by decide +kernel
theorem dX10_copy_151 : decode cX10_copy 151 = .ok (.goto (-31), 3) := by decide +kernel
theorem dX10_copy_154 : decode cX10_copy 154 = .ok (.iconst 0, 1) := by decide +kernel
theorem dX10_copy_155 : decode cX10_copy 155 = .ok (.istore 6, 2) := by decide +kernel
theorem dX10_copy_157 : decode cX10_copy 157 = .ok (.iload 6, 2) := by decide +kernel
theorem dX10_copy_159 : decode cX10_copy 159 = .ok (.iload 5, 2) := by decide +kernel
theorem dX10_copy_161 : decode cX10_copy 161 = .ok (.if_icmp .ge 31, 3) := by decide +kernel
theorem dX10_copy_164 : decode cX10_copy 164 = .ok (.aload_n 0, 1) := by decide +kernel
theorem dX10_copy_165 : decode cX10_copy 165 = .ok (.getfield 98, 3) := by decide +kernel
theorem dX10_copy_168 : decode cX10_copy 168 = .ok (.bipush 60, 2) := by decide +kernel
theorem dX10_copy_170 : decode cX10_copy 170 = .ok (.iload_n 3, 1) := by decide +kernel
theorem dX10_copy_171 : decode cX10_copy 171 = .ok (.imul, 1) := by decide +kernel
theorem dX10_copy_172 : decode cX10_copy 172 = .ok (.iload 4, 2) := by decide +kernel
theorem dX10_copy_174 : decode cX10_copy 174 = .ok (.iadd, 1) := by decide +kernel
theorem dX10_copy_175 : decode cX10_copy 175 = .ok (.iload 6, 2) := by decide +kernel
theorem dX10_copy_177 : decode cX10_copy 177 = .ok (.iadd, 1) := by decide +kernel
theorem dX10_copy_178 : decode cX10_copy 178 = .ok (.aload_n 0, 1) := by decide +kernel
theorem dX10_copy_179 : decode cX10_copy 179 = .ok (.getfield 101, 3) := by decide +kernel
theorem dX10_copy_182 : decode cX10_copy 182 = .ok (.iload 6, 2) := by decide +kernel
theorem dX10_copy_184 : decode cX10_copy 184 = .ok (.iaload, 1) := by decide +kernel
theorem dX10_copy_185 : decode cX10_copy 185 = .ok (.iastore, 1) := by decide +kernel
theorem dX10_copy_186 : decode cX10_copy 186 = .ok (.iinc 6 1, 3) := by decide +kernel
theorem dX10_copy_189 : decode cX10_copy 189 = .ok (.goto (-32), 3) := by decide +kernel
theorem dX10_copy_192 : decode cX10_copy 192 = .ok (.iconst 1, 1) := by decide +kernel
theorem dX10_copy_193 : decode cX10_copy 193 = .ok (.ireturn, 1) := by decide +kernel
theorem dX10_write_0 : decode cX10_write 0 = .ok (.iload_n 1, 1) := by decide +kernel
theorem dX10_write_1 : decode cX10_write 1 = .ok (.invokestatic 167, 3) := by decide +kernel
theorem dX10_write_4 : decode cX10_write 4 = .ok (.ifCond .ne 6, 3) := by decide +kernel
theorem dX10_write_7 : decode cX10_write 7 = .ok (.bipush (-2), 2) := by decide +kernel
theorem dX10_write_9 : decode cX10_write 9 = .ok (.ireturn, 1) := by decide +kernel
theorem dX10_write_10 : decode cX10_write 10 = .ok (.aload_n 0, 1) := by decide +kernel
theorem dX10_write_11 : decode cX10_write 11 = .ok (.getfield 88, 3) := by decide +kernel
theorem dX10_write_14 : decode cX10_write 14 = .ok (.iload_n 1, 1) := by decide +kernel
theorem dX10_write_15 : decode cX10_write 15 = .ok (.baload, 1) := by decide +kernel
theorem dX10_write_16 : decode cX10_write 16 = .ok (.ifCond .ne 9, 3) := by decide +kernel
theorem dX10_write_19 : decode cX10_write 19 = .ok (.aload_n 0, 1) := by decide +kernel
theorem dX10_write_20 : decode cX10_write 20 = .ok (.iconst 1, 1) := by decide +kernel
theorem dX10_write_21 : decode cX10_write 21 = .ok (.invokevirtual 170, 3) := by decide +kernel
theorem dX10_write_24 : decode cX10_write 24 = .ok (.ireturn, 1) := by decide +kernel
theorem dX10_write_25 : decode cX10_write 25 = .ok (.aload_n 0, 1) := by decide +kernel
theorem dX10_write_26 : decode cX10_write 26 = .ok (.invokevirtual 222, 3) := by decide +kernel
theorem dX10_write_29 : decode cX10_write 29 = .ok (.iconst 0, 1) := by decide +kernel
theorem dX10_write_30 : decode cX10_write 30 = .ok (.istore_n 2, 1) := by decide +kernel
theorem dX10_write_31 : decode cX10_write 31 = .ok (.iload_n 2, 1) := by decide +kernel
theorem dX10_write_32 : decode cX10_write 32 = .ok (.aload_n 0, 1) := by decide +kernel
theorem dX10_write_33 : decode cX10_write 33 = .ok (.getfield 95, 3) := by decide +kernel
theorem dX10_write_36 : decode cX10_write 36 = .ok (.iload_n 1, 1) := by decide +kernel
theorem dX10_write_37 : decode cX10_write 37 = .ok (.iaload, 1) := by decide +kernel
theorem dX10_write_38 : decode cX10_write 38 = .ok (.if_icmp .ge 27, 3) := by decide +kernel
theorem dX10_write_41 : decode cX10_write 41 = .ok (.iload_n 2, 1) := by decide +kernel
theorem dX10_write_42 : decode cX10_write 42 = .ok (.bipush 10, 2) := by decide +kernel
theorem dX10_write_44 : decode cX10_write 44 = .ok (.if_icmp .ge 21, 3) := by decide +kernel
theorem dX10_write_47 : decode cX10_write 47 = .ok (.aload_n 0, 1) := by decide +kernel
theorem dX10_write_48 : decode cX10_write 48 = .ok (.iload_n 1, 1) := by decide +kernel
theorem dX10_write_49 : decode cX10_write 49 = .ok (.iload_n 2, 1) := by decide +kernel
theorem dX10_write_50 : decode cX10_write 50 = .ok (.aload_n 0, 1) := by decide +kernel
theorem dX10_write_51 : decode cX10_write 51 = .ok (.getfield 70, 3) := by decide +kernel
theorem dX10_write_54 : decode cX10_write 54 = .ok (.iload_n 2, 1) := by decide +kernel
theorem dX10_write_55 : decode cX10_write 55 = .ok (.iaload, 1) := by decide +kernel
theorem dX10_write_56 : decode cX10_write 56 = .ok (.invokevirtual 324, 3) := by decide +kernel
theorem dX10_write_59 : decode cX10_write 59 = .ok (.iinc 2 1, 3) := by decide +kernel
theorem dX10_write_62 : decode cX10_write 62 = .ok (.goto (-31), 3) := by decide +kernel
theorem dX10_write_65 : decode cX10_write 65 = .ok (.iload_n 2, 1) := by decide +kernel
theorem dX10_write_66 : decode cX10_write 66 = .ok (.ireturn, 1) := by decide +kernel
theorem dX10_sumOf_0 : decode cX10_sumOf 0 = .ok (.aload_n 0, 1) := by decide +kernel
theorem dX10_sumOf_1 : decode cX10_sumOf 1 = .ok (.invokevirtual 146, 3) := by decide +kernel
theorem dX10_sumOf_4 : decode cX10_sumOf 4 = .ok (.iload_n 1, 1) := by decide +kernel
theorem dX10_sumOf_5 : decode cX10_sumOf 5 = .ok (.ifCond .ne 10, 3) := by decide +kernel
theorem dX10_sumOf_8 : decode cX10_sumOf 8 = .ok (.aload_n 0, 1) := by decide +kernel
theorem dX10_sumOf_9 : decode cX10_sumOf 9 = .ok (.getfield 125, 3) := by decide +kernel
theorem dX10_sumOf_12 : decode cX10_sumOf 12 = .ok (.goto 27, 3) := by decide +kernel
theorem dX10_sumOf_15 : decode cX10_sumOf 15 = .ok (.iload_n 1, 1) := by decide +kernel
theorem dX10_sumOf_16 : decode cX10_sumOf 16 = .ok (.iconst 1, 1) := by decide +kernel
theorem dX10_sumOf_17 : decode cX10_sumOf 17 = .ok (.if_icmp .ne 10, 3) := by decide +kernel
theorem dX10_sumOf_20 : decode cX10_sumOf 20 = .ok (.aload_n 0, 1) := by decide +kernel
theorem dX10_sumOf_21 : decode cX10_sumOf 21 = .ok (.getfield 132, 3) := by decide +kernel
theorem dX10_sumOf_24 : decode cX10_sumOf 24 = .ok (.goto 15, 3) := by decide +kernel
theorem dX10_sumOf_27 : decode cX10_sumOf 27 = .ok (.aload_n 0, 1) := by decide +kernel
theorem dX10_sumOf_28 : decode cX10_sumOf 28 = .ok (.iconst 1, 1) := by decide +kernel
theorem dX10_sumOf_29 : decode cX10_sumOf 29 = .ok (.aload_n 0, 1) := by decide +kernel
theorem dX10_sumOf_30 : decode cX10_sumOf 30 = .ok (.getfield 125, 3) := by decide +kernel
theorem dX10_sumOf_33 : decode cX10_sumOf 33 = .ok (.ishl, 1) := by decide +kernel
theorem dX10_sumOf_34 : decode cX10_sumOf 34 = .ok (.iconst 1, 1) := by decide +kernel
theorem dX10_sumOf_35 : decode cX10_sumOf 35 = .ok (.isub, 1) := by decide +kernel
theorem dX10_sumOf_36 : decode cX10_sumOf 36 = .ok (.invokevirtual 264, 3) := by decide +kernel
theorem dX10_sumOf_39 : decode cX10_sumOf 39 = .ok (.ireturn, 1) := by decide +kernel
theorem dX10_count_0 : decode cX10_count 0 = .ok (.iload_n 1, 1) := by decide +kernel
theorem dX10_count_1 : decode cX10_count 1 = .ok (.tableswitch 86 0 8 #[51, 51, 57, 57, 66, 71, 51, 76, 81], 51) := by decide +kernel
theorem dX10_count_52 : decode cX10_count 52 = .ok (.aload_n 0, 1) := by decide +kernel
theorem dX10_count_53 : decode cX10_count 53 = .ok (.iload_n 1, 1) := by decide +kernel
theorem dX10_count_54 : decode cX10_count 54 = .ok (.invokevirtual 329, 3) := by decide +kernel
theorem dX10_count_57 : decode cX10_count 57 = .ok (.ireturn, 1) := by decide +kernel
theorem dX10_count_58 : decode cX10_count 58 = .ok (.aload_n 0, 1) := by decide +kernel
theorem dX10_count_59 : decode cX10_count 59 = .ok (.getfield 7, 3) := by decide +kernel
theorem dX10_count_62 : decode cX10_count 62 = .ok (.iload_n 1, 1) := by decide +kernel
theorem dX10_count_63 : decode cX10_count 63 = .ok (.iconst 2, 1) := by decide +kernel
theorem dX10_count_64 : decode cX10_count 64 = .ok (.isub, 1) := by decide +kernel
theorem dX10_count_65 : decode cX10_count 65 = .ok (.iaload, 1) := by decide +kernel
theorem dX10_count_66 : decode cX10_count 66 = .ok (.ireturn, 1) := by decide +kernel
theorem dX10_count_67 : decode cX10_count 67 = .ok (.aload_n 0, 1) := by decide +kernel
theorem dX10_count_68 : decode cX10_count 68 = .ok (.getfield 161, 3) := by decide +kernel
theorem dX10_count_71 : decode cX10_count 71 = .ok (.ireturn, 1) := by decide +kernel
theorem dX10_count_72 : decode cX10_count 72 = .ok (.aload_n 0, 1) := by decide +kernel
theorem dX10_count_73 : decode cX10_count 73 = .ok (.getfield 164, 3) := by decide +kernel
theorem dX10_count_76 : decode cX10_count 76 = .ok (.ireturn, 1) := by decide +kernel
theorem dX10_count_77 : decode cX10_count 77 = .ok (.aload_n 0, 1) := by decide +kernel
theorem dX10_count_78 : decode cX10_count 78 = .ok (.getfield 291, 3) := by decide +kernel
theorem dX10_count_81 : decode cX10_count 81 = .ok (.ireturn, 1) := by decide +kernel
theorem dX10_count_82 : decode cX10_count 82 = .ok (.aload_n 0, 1) := by decide +kernel
theorem dX10_count_83 : decode cX10_count 83 = .ok (.getfield 318, 3) := by decide +kernel
theorem dX10_count_86 : decode cX10_count 86 = .ok (.ireturn, 1) := by decide +kernel
theorem dX10_count_87 : decode cX10_count 87 = .ok (.bipush (-2), 2) := by decide +kernel
theorem dX10_count_89 : decode cX10_count 89 = .ok (.ireturn, 1) := by decide +kernel
theorem dX10_nightsDigest_0 : decode cX10_nightsDigest 0 = .ok (.lload_n 1, 1) := by decide +kernel
theorem dX10_nightsDigest_1 : decode cX10_nightsDigest 1 = .ok (.lstore 5, 2) := by decide +kernel
theorem dX10_nightsDigest_3 : decode cX10_nightsDigest 3 = .ok (.iconst 0, 1) := by decide +kernel
theorem dX10_nightsDigest_4 : decode cX10_nightsDigest 4 = .ok (.istore 7, 2) := by decide +kernel
theorem dX10_nightsDigest_6 : decode cX10_nightsDigest 6 = .ok (.iload 7, 2) := by decide +kernel
theorem dX10_nightsDigest_8 : decode cX10_nightsDigest 8 = .ok (.iconst 3, 1) := by decide +kernel
theorem dX10_nightsDigest_9 : decode cX10_nightsDigest 9 = .ok (.if_icmp .ge 28, 3) := by decide +kernel
theorem dX10_nightsDigest_12 : decode cX10_nightsDigest 12 = .ok (.ldc2_w 332, 3) := by decide +kernel
theorem dX10_nightsDigest_15 : decode cX10_nightsDigest 15 = .ok (.lload 5, 2) := by decide +kernel
theorem dX10_nightsDigest_17 : decode cX10_nightsDigest 17 = .ok (.lmul, 1) := by decide +kernel
theorem dX10_nightsDigest_18 : decode cX10_nightsDigest 18 = .ok (.aload_n 0, 1) := by decide +kernel
theorem dX10_nightsDigest_19 : decode cX10_nightsDigest 19 = .ok (.iload_n 3, 1) := by decide +kernel
theorem dX10_nightsDigest_20 : decode cX10_nightsDigest 20 = .ok (.iload 4, 2) := by decide +kernel
theorem dX10_nightsDigest_22 : decode cX10_nightsDigest 22 = .ok (.iload 7, 2) := by decide +kernel
theorem dX10_nightsDigest_24 : decode cX10_nightsDigest 24 = .ok (.invokevirtual 225, 3) := by decide +kernel
theorem dX10_nightsDigest_27 : decode cX10_nightsDigest 27 = .ok (.i2l, 1) := by decide +kernel
theorem dX10_nightsDigest_28 : decode cX10_nightsDigest 28 = .ok (.ladd, 1) := by decide +kernel
theorem dX10_nightsDigest_29 : decode cX10_nightsDigest 29 = .ok (.lstore 5, 2) := by decide +kernel
theorem dX10_nightsDigest_31 : decode cX10_nightsDigest 31 = .ok (.iinc 7 1, 3) := by decide +kernel
theorem dX10_nightsDigest_34 : decode cX10_nightsDigest 34 = .ok (.goto (-28), 3) := by decide +kernel
theorem dX10_nightsDigest_37 : decode cX10_nightsDigest 37 = .ok (.ldc2_w 332, 3) := by decide +kernel
theorem dX10_nightsDigest_40 : decode cX10_nightsDigest 40 = .ok (.lload 5, 2) := by decide +kernel
theorem dX10_nightsDigest_42 : decode cX10_nightsDigest 42 = .ok (.lmul, 1) := by decide +kernel
theorem dX10_nightsDigest_43 : decode cX10_nightsDigest 43 = .ok (.aload_n 0, 1) := by decide +kernel
theorem dX10_nightsDigest_44 : decode cX10_nightsDigest 44 = .ok (.iload_n 3, 1) := by decide +kernel
theorem dX10_nightsDigest_45 : decode cX10_nightsDigest 45 = .ok (.iload 4, 2) := by decide +kernel
theorem dX10_nightsDigest_47 : decode cX10_nightsDigest 47 = .ok (.invokevirtual 288, 3) := by decide +kernel
theorem dX10_nightsDigest_50 : decode cX10_nightsDigest 50 = .ok (.i2l, 1) := by decide +kernel
theorem dX10_nightsDigest_51 : decode cX10_nightsDigest 51 = .ok (.ladd, 1) := by decide +kernel
theorem dX10_nightsDigest_52 : decode cX10_nightsDigest 52 = .ok (.lreturn, 1) := by decide +kernel
theorem dX10_memberDigest_0 : decode cX10_memberDigest 0 = .ok (.lload_n 1, 1) := by decide +kernel
theorem dX10_memberDigest_1 : decode cX10_memberDigest 1 = .ok (.lstore 4, 2) := by decide +kernel
theorem dX10_memberDigest_3 : decode cX10_memberDigest 3 = .ok (.iconst 0, 1) := by decide +kernel
theorem dX10_memberDigest_4 : decode cX10_memberDigest 4 = .ok (.istore 6, 2) := by decide +kernel
theorem dX10_memberDigest_6 : decode cX10_memberDigest 6 = .ok (.iload 6, 2) := by decide +kernel
theorem dX10_memberDigest_8 : decode cX10_memberDigest 8 = .ok (.iconst 5, 1) := by decide +kernel
theorem dX10_memberDigest_9 : decode cX10_memberDigest 9 = .ok (.if_icmp .ge 26, 3) := by decide +kernel
theorem dX10_memberDigest_12 : decode cX10_memberDigest 12 = .ok (.ldc2_w 332, 3) := by decide +kernel
theorem dX10_memberDigest_15 : decode cX10_memberDigest 15 = .ok (.lload 4, 2) := by decide +kernel
theorem dX10_memberDigest_17 : decode cX10_memberDigest 17 = .ok (.lmul, 1) := by decide +kernel
theorem dX10_memberDigest_18 : decode cX10_memberDigest 18 = .ok (.aload_n 0, 1) := by decide +kernel
theorem dX10_memberDigest_19 : decode cX10_memberDigest 19 = .ok (.iload_n 3, 1) := by decide +kernel
theorem dX10_memberDigest_20 : decode cX10_memberDigest 20 = .ok (.iload 6, 2) := by decide +kernel
theorem dX10_memberDigest_22 : decode cX10_memberDigest 22 = .ok (.invokevirtual 152, 3) := by decide +kernel
theorem dX10_memberDigest_25 : decode cX10_memberDigest 25 = .ok (.i2l, 1) := by decide +kernel
theorem dX10_memberDigest_26 : decode cX10_memberDigest 26 = .ok (.ladd, 1) := by decide +kernel
theorem dX10_memberDigest_27 : decode cX10_memberDigest 27 = .ok (.lstore 4, 2) := by decide +kernel
theorem dX10_memberDigest_29 : decode cX10_memberDigest 29 = .ok (.iinc 6 1, 3) := by decide +kernel
theorem dX10_memberDigest_32 : decode cX10_memberDigest 32 = .ok (.goto (-26), 3) := by decide +kernel
theorem dX10_memberDigest_35 : decode cX10_memberDigest 35 = .ok (.aload_n 0, 1) := by decide +kernel
theorem dX10_memberDigest_36 : decode cX10_memberDigest 36 = .ok (.lload 4, 2) := by decide +kernel
theorem dX10_memberDigest_38 : decode cX10_memberDigest 38 = .ok (.iconst 0, 1) := by decide +kernel
theorem dX10_memberDigest_39 : decode cX10_memberDigest 39 = .ok (.iload_n 3, 1) := by decide +kernel
theorem dX10_memberDigest_40 : decode cX10_memberDigest 40 = .ok (.invokevirtual 334, 3) := by decide +kernel
theorem dX10_memberDigest_43 : decode cX10_memberDigest 43 = .ok (.lstore 4, 2) := by decide +kernel
theorem dX10_memberDigest_45 : decode cX10_memberDigest 45 = .ok (.aload_n 0, 1) := by decide +kernel
theorem dX10_memberDigest_46 : decode cX10_memberDigest 46 = .ok (.lload 4, 2) := by decide +kernel
theorem dX10_memberDigest_48 : decode cX10_memberDigest 48 = .ok (.iconst 4, 1) := by decide +kernel
theorem dX10_memberDigest_49 : decode cX10_memberDigest 49 = .ok (.iload_n 3, 1) := by decide +kernel
theorem dX10_memberDigest_50 : decode cX10_memberDigest 50 = .ok (.invokevirtual 334, 3) := by decide +kernel
theorem dX10_memberDigest_53 : decode cX10_memberDigest 53 = .ok (.lstore 4, 2) := by decide +kernel
theorem dX10_memberDigest_55 : decode cX10_memberDigest 55 = .ok (.aload_n 0, 1) := by decide +kernel
theorem dX10_memberDigest_56 : decode cX10_memberDigest 56 = .ok (.lload 4, 2) := by decide +kernel
theorem dX10_memberDigest_58 : decode cX10_memberDigest 58 = .ok (.bipush 9, 2) := by decide +kernel
theorem dX10_memberDigest_60 : decode cX10_memberDigest 60 = .ok (.iload_n 3, 1) := by decide +kernel
theorem dX10_memberDigest_61 : decode cX10_memberDigest 61 = .ok (.invokevirtual 334, 3) := by decide +kernel
theorem dX10_memberDigest_64 : decode cX10_memberDigest 64 = .ok (.lstore 4, 2) := by decide +kernel
theorem dX10_memberDigest_66 : decode cX10_memberDigest 66 = .ok (.ldc2_w 332, 3) := by decide +kernel
theorem dX10_memberDigest_69 : decode cX10_memberDigest 69 = .ok (.lload 4, 2) := by decide +kernel
theorem dX10_memberDigest_71 : decode cX10_memberDigest 71 = .ok (.lmul, 1) := by decide +kernel
theorem dX10_memberDigest_72 : decode cX10_memberDigest 72 = .ok (.aload_n 0, 1) := by decide +kernel
theorem dX10_memberDigest_73 : decode cX10_memberDigest 73 = .ok (.iload_n 3, 1) := by decide +kernel
theorem dX10_memberDigest_74 : decode cX10_memberDigest 74 = .ok (.iconst 0, 1) := by decide +kernel
theorem dX10_memberDigest_75 : decode cX10_memberDigest 75 = .ok (.invokevirtual 275, 3) := by decide +kernel
theorem dX10_memberDigest_78 : decode cX10_memberDigest 78 = .ok (.ladd, 1) := by decide +kernel
theorem dX10_memberDigest_79 : decode cX10_memberDigest 79 = .ok (.lstore 4, 2) := by decide +kernel
theorem dX10_memberDigest_81 : decode cX10_memberDigest 81 = .ok (.ldc2_w 332, 3) := by decide +kernel
theorem dX10_memberDigest_84 : decode cX10_memberDigest 84 = .ok (.lload 4, 2) := by decide +kernel
theorem dX10_memberDigest_86 : decode cX10_memberDigest 86 = .ok (.lmul, 1) := by decide +kernel
theorem dX10_memberDigest_87 : decode cX10_memberDigest 87 = .ok (.aload_n 0, 1) := by decide +kernel
theorem dX10_memberDigest_88 : decode cX10_memberDigest 88 = .ok (.iload_n 3, 1) := by decide +kernel
theorem dX10_memberDigest_89 : decode cX10_memberDigest 89 = .ok (.iconst 1, 1) := by decide +kernel
theorem dX10_memberDigest_90 : decode cX10_memberDigest 90 = .ok (.invokevirtual 275, 3) := by decide +kernel
theorem dX10_memberDigest_93 : decode cX10_memberDigest 93 = .ok (.ladd, 1) := by decide +kernel
theorem dX10_memberDigest_94 : decode cX10_memberDigest 94 = .ok (.lstore 4, 2) := by decide +kernel
theorem dX10_memberDigest_96 : decode cX10_memberDigest 96 = .ok (.ldc2_w 332, 3) := by decide +kernel
theorem dX10_memberDigest_99 : decode cX10_memberDigest 99 = .ok (.lload 4, 2) := by decide +kernel
theorem dX10_memberDigest_101 : decode cX10_memberDigest 101 = .ok (.lmul, 1) := by decide +kernel
theorem dX10_memberDigest_102 : decode cX10_memberDigest 102 = .ok (.aload_n 0, 1) := by decide +kernel
theorem dX10_memberDigest_103 : decode cX10_memberDigest 103 = .ok (.iload_n 3, 1) := by decide +kernel
theorem dX10_memberDigest_104 : decode cX10_memberDigest 104 = .ok (.invokevirtual 304, 3) := by decide +kernel
theorem dX10_memberDigest_107 : decode cX10_memberDigest 107 = .ok (.i2l, 1) := by decide +kernel
theorem dX10_memberDigest_108 : decode cX10_memberDigest 108 = .ok (.ladd, 1) := by decide +kernel
theorem dX10_memberDigest_109 : decode cX10_memberDigest 109 = .ok (.lstore 4, 2) := by decide +kernel
theorem dX10_memberDigest_111 : decode cX10_memberDigest 111 = .ok (.ldc2_w 332, 3) := by decide +kernel
theorem dX10_memberDigest_114 : decode cX10_memberDigest 114 = .ok (.lload 4, 2) := by decide +kernel
theorem dX10_memberDigest_116 : decode cX10_memberDigest 116 = .ok (.lmul, 1) := by decide +kernel
theorem dX10_memberDigest_117 : decode cX10_memberDigest 117 = .ok (.aload_n 0, 1) := by decide +kernel
theorem dX10_memberDigest_118 : decode cX10_memberDigest 118 = .ok (.iload_n 3, 1) := by decide +kernel
theorem dX10_memberDigest_119 : decode cX10_memberDigest 119 = .ok (.invokevirtual 307, 3) := by decide +kernel
theorem dX10_memberDigest_122 : decode cX10_memberDigest 122 = .ok (.i2l, 1) := by decide +kernel
theorem dX10_memberDigest_123 : decode cX10_memberDigest 123 = .ok (.ladd, 1) := by decide +kernel
theorem dX10_memberDigest_124 : decode cX10_memberDigest 124 = .ok (.lreturn, 1) := by decide +kernel
theorem dX10_nightDigest_0 : decode cX10_nightDigest 0 = .ok (.lload_n 1, 1) := by decide +kernel
theorem dX10_nightDigest_1 : decode cX10_nightDigest 1 = .ok (.lstore 4, 2) := by decide +kernel
theorem dX10_nightDigest_3 : decode cX10_nightDigest 3 = .ok (.iconst 0, 1) := by decide +kernel
theorem dX10_nightDigest_4 : decode cX10_nightDigest 4 = .ok (.istore 6, 2) := by decide +kernel
theorem dX10_nightDigest_6 : decode cX10_nightDigest 6 = .ok (.iload 6, 2) := by decide +kernel
theorem dX10_nightDigest_8 : decode cX10_nightDigest 8 = .ok (.iconst 3, 1) := by decide +kernel
theorem dX10_nightDigest_9 : decode cX10_nightDigest 9 = .ok (.if_icmp .ge 26, 3) := by decide +kernel
theorem dX10_nightDigest_12 : decode cX10_nightDigest 12 = .ok (.ldc2_w 332, 3) := by decide +kernel
theorem dX10_nightDigest_15 : decode cX10_nightDigest 15 = .ok (.lload 4, 2) := by decide +kernel
theorem dX10_nightDigest_17 : decode cX10_nightDigest 17 = .ok (.lmul, 1) := by decide +kernel
theorem dX10_nightDigest_18 : decode cX10_nightDigest 18 = .ok (.aload_n 0, 1) := by decide +kernel
theorem dX10_nightDigest_19 : decode cX10_nightDigest 19 = .ok (.iload_n 3, 1) := by decide +kernel
theorem dX10_nightDigest_20 : decode cX10_nightDigest 20 = .ok (.iload 6, 2) := by decide +kernel
theorem dX10_nightDigest_22 : decode cX10_nightDigest 22 = .ok (.invokevirtual 158, 3) := by decide +kernel
theorem dX10_nightDigest_25 : decode cX10_nightDigest 25 = .ok (.i2l, 1) := by decide +kernel
theorem dX10_nightDigest_26 : decode cX10_nightDigest 26 = .ok (.ladd, 1) := by decide +kernel
theorem dX10_nightDigest_27 : decode cX10_nightDigest 27 = .ok (.lstore 4, 2) := by decide +kernel
theorem dX10_nightDigest_29 : decode cX10_nightDigest 29 = .ok (.iinc 6 1, 3) := by decide +kernel
theorem dX10_nightDigest_32 : decode cX10_nightDigest 32 = .ok (.goto (-26), 3) := by decide +kernel
theorem dX10_nightDigest_35 : decode cX10_nightDigest 35 = .ok (.iconst 0, 1) := by decide +kernel
theorem dX10_nightDigest_36 : decode cX10_nightDigest 36 = .ok (.istore 6, 2) := by decide +kernel
theorem dX10_nightDigest_38 : decode cX10_nightDigest 38 = .ok (.iload 6, 2) := by decide +kernel
theorem dX10_nightDigest_40 : decode cX10_nightDigest 40 = .ok (.iconst 4, 1) := by decide +kernel
theorem dX10_nightDigest_41 : decode cX10_nightDigest 41 = .ok (.if_icmp .ge 26, 3) := by decide +kernel
theorem dX10_nightDigest_44 : decode cX10_nightDigest 44 = .ok (.ldc2_w 332, 3) := by decide +kernel
theorem dX10_nightDigest_47 : decode cX10_nightDigest 47 = .ok (.lload 4, 2) := by decide +kernel
theorem dX10_nightDigest_49 : decode cX10_nightDigest 49 = .ok (.lmul, 1) := by decide +kernel
theorem dX10_nightDigest_50 : decode cX10_nightDigest 50 = .ok (.aload_n 0, 1) := by decide +kernel
theorem dX10_nightDigest_51 : decode cX10_nightDigest 51 = .ok (.iload_n 3, 1) := by decide +kernel
theorem dX10_nightDigest_52 : decode cX10_nightDigest 52 = .ok (.iload 6, 2) := by decide +kernel
theorem dX10_nightDigest_54 : decode cX10_nightDigest 54 = .ok (.invokevirtual 231, 3) := by decide +kernel
theorem dX10_nightDigest_57 : decode cX10_nightDigest 57 = .ok (.i2l, 1) := by decide +kernel
theorem dX10_nightDigest_58 : decode cX10_nightDigest 58 = .ok (.ladd, 1) := by decide +kernel
theorem dX10_nightDigest_59 : decode cX10_nightDigest 59 = .ok (.lstore 4, 2) := by decide +kernel
theorem dX10_nightDigest_61 : decode cX10_nightDigest 61 = .ok (.iinc 6 1, 3) := by decide +kernel
theorem dX10_nightDigest_64 : decode cX10_nightDigest 64 = .ok (.goto (-26), 3) := by decide +kernel
theorem dX10_nightDigest_67 : decode cX10_nightDigest 67 = .ok (.ldc2_w 332, 3) := by decide +kernel
theorem dX10_nightDigest_70 : decode cX10_nightDigest 70 = .ok (.lload 4, 2) := by decide +kernel
theorem dX10_nightDigest_72 : decode cX10_nightDigest 72 = .ok (.lmul, 1) := by decide +kernel
theorem dX10_nightDigest_73 : decode cX10_nightDigest 73 = .ok (.aload_n 0, 1) := by decide +kernel
theorem dX10_nightDigest_74 : decode cX10_nightDigest 74 = .ok (.iload_n 3, 1) := by decide +kernel
theorem dX10_nightDigest_75 : decode cX10_nightDigest 75 = .ok (.invokevirtual 237, 3) := by decide +kernel
theorem dX10_nightDigest_78 : decode cX10_nightDigest 78 = .ok (.i2l, 1) := by decide +kernel
theorem dX10_nightDigest_79 : decode cX10_nightDigest 79 = .ok (.ladd, 1) := by decide +kernel
theorem dX10_nightDigest_80 : decode cX10_nightDigest 80 = .ok (.lstore 4, 2) := by decide +kernel
theorem dX10_nightDigest_82 : decode cX10_nightDigest 82 = .ok (.aload_n 0, 1) := by decide +kernel
theorem dX10_nightDigest_83 : decode cX10_nightDigest 83 = .ok (.iload_n 3, 1) := by decide +kernel
theorem dX10_nightDigest_84 : decode cX10_nightDigest 84 = .ok (.invokevirtual 252, 3) := by decide +kernel
theorem dX10_nightDigest_87 : decode cX10_nightDigest 87 = .ok (.istore 6, 2) := by decide +kernel
theorem dX10_nightDigest_89 : decode cX10_nightDigest 89 = .ok (.ldc2_w 332, 3) := by decide +kernel
theorem dX10_nightDigest_92 : decode cX10_nightDigest 92 = .ok (.lload 4, 2) := by decide +kernel
theorem dX10_nightDigest_94 : decode cX10_nightDigest 94 = .ok (.lmul, 1) := by decide +kernel
theorem dX10_nightDigest_95 : decode cX10_nightDigest 95 = .ok (.iload 6, 2) := by decide +kernel
theorem dX10_nightDigest_97 : decode cX10_nightDigest 97 = .ok (.i2l, 1) := by decide +kernel
theorem dX10_nightDigest_98 : decode cX10_nightDigest 98 = .ok (.ladd, 1) := by decide +kernel
theorem dX10_nightDigest_99 : decode cX10_nightDigest 99 = .ok (.lstore 4, 2) := by decide +kernel
theorem dX10_nightDigest_101 : decode cX10_nightDigest 101 = .ok (.ldc2_w 332, 3) := by decide +kernel
theorem dX10_nightDigest_104 : decode cX10_nightDigest 104 = .ok (.lload 4, 2) := by decide +kernel
theorem dX10_nightDigest_106 : decode cX10_nightDigest 106 = .ok (.lmul, 1) := by decide +kernel
theorem dX10_nightDigest_107 : decode cX10_nightDigest 107 = .ok (.aload_n 0, 1) := by decide +kernel
theorem dX10_nightDigest_108 : decode cX10_nightDigest 108 = .ok (.iload 6, 2) := by decide +kernel
theorem dX10_nightDigest_110 : decode cX10_nightDigest 110 = .ok (.iconst 0, 1) := by decide +kernel
theorem dX10_nightDigest_111 : decode cX10_nightDigest 111 = .ok (.invokevirtual 255, 3) := by decide +kernel
theorem dX10_nightDigest_114 : decode cX10_nightDigest 114 = .ok (.i2l, 1) := by decide +kernel
theorem dX10_nightDigest_115 : decode cX10_nightDigest 115 = .ok (.ladd, 1) := by decide +kernel
theorem dX10_nightDigest_116 : decode cX10_nightDigest 116 = .ok (.lreturn, 1) := by decide +kernel
theorem dX10_digest_0 : decode cX10_digest 0 = .ok (.ldc2_w 338, 3) := by decide +kernel
theorem dX10_digest_3 : decode cX10_digest 3 = .ok (.lstore_n 1, 1) := by decide +kernel
theorem dX10_digest_4 : decode cX10_digest 4 = .ok (.iconst 0, 1) := by decide +kernel
theorem dX10_digest_5 : decode cX10_digest 5 = .ok (.istore_n 3, 1) := by decide +kernel
theorem dX10_digest_6 : decode cX10_digest 6 = .ok (.iload_n 3, 1) := by decide +kernel
theorem dX10_digest_7 : decode cX10_digest 7 = .ok (.bipush 8, 2) := by decide +kernel
theorem dX10_digest_9 : decode cX10_digest 9 = .ok (.if_icmp .ge 22, 3) := by decide +kernel
theorem dX10_digest_12 : decode cX10_digest 12 = .ok (.ldc2_w 332, 3) := by decide +kernel
theorem dX10_digest_15 : decode cX10_digest 15 = .ok (.lload_n 1, 1) := by decide +kernel
theorem dX10_digest_16 : decode cX10_digest 16 = .ok (.lmul, 1) := by decide +kernel
theorem dX10_digest_17 : decode cX10_digest 17 = .ok (.aload_n 0, 1) := by decide +kernel
theorem dX10_digest_18 : decode cX10_digest 18 = .ok (.iload_n 3, 1) := by decide +kernel
theorem dX10_digest_19 : decode cX10_digest 19 = .ok (.invokevirtual 340, 3) := by decide +kernel
theorem dX10_digest_22 : decode cX10_digest 22 = .ok (.i2l, 1) := by decide +kernel
theorem dX10_digest_23 : decode cX10_digest 23 = .ok (.ladd, 1) := by decide +kernel
theorem dX10_digest_24 : decode cX10_digest 24 = .ok (.lstore_n 1, 1) := by decide +kernel
theorem dX10_digest_25 : decode cX10_digest 25 = .ok (.iinc 3 1, 3) := by decide +kernel
theorem dX10_digest_28 : decode cX10_digest 28 = .ok (.goto (-22), 3) := by decide +kernel
theorem dX10_digest_31 : decode cX10_digest 31 = .ok (.ldc2_w 332, 3) := by decide +kernel
theorem dX10_digest_34 : decode cX10_digest 34 = .ok (.lload_n 1, 1) := by decide +kernel
theorem dX10_digest_35 : decode cX10_digest 35 = .ok (.lmul, 1) := by decide +kernel
theorem dX10_digest_36 : decode cX10_digest 36 = .ok (.aload_n 0, 1) := by decide +kernel
theorem dX10_digest_37 : decode cX10_digest 37 = .ok (.iconst 0, 1) := by decide +kernel
theorem dX10_digest_38 : decode cX10_digest 38 = .ok (.invokevirtual 142, 3) := by decide +kernel
theorem dX10_digest_41 : decode cX10_digest 41 = .ok (.i2l, 1) := by decide +kernel
theorem dX10_digest_42 : decode cX10_digest 42 = .ok (.ladd, 1) := by decide +kernel
theorem dX10_digest_43 : decode cX10_digest 43 = .ok (.lstore_n 1, 1) := by decide +kernel
theorem dX10_digest_44 : decode cX10_digest 44 = .ok (.ldc2_w 332, 3) := by decide +kernel
theorem dX10_digest_47 : decode cX10_digest 47 = .ok (.lload_n 1, 1) := by decide +kernel
theorem dX10_digest_48 : decode cX10_digest 48 = .ok (.lmul, 1) := by decide +kernel
theorem dX10_digest_49 : decode cX10_digest 49 = .ok (.aload_n 0, 1) := by decide +kernel
theorem dX10_digest_50 : decode cX10_digest 50 = .ok (.iconst 1, 1) := by decide +kernel
theorem dX10_digest_51 : decode cX10_digest 51 = .ok (.invokevirtual 142, 3) := by decide +kernel
theorem dX10_digest_54 : decode cX10_digest 54 = .ok (.i2l, 1) := by decide +kernel
theorem dX10_digest_55 : decode cX10_digest 55 = .ok (.ladd, 1) := by decide +kernel
theorem dX10_digest_56 : decode cX10_digest 56 = .ok (.lstore_n 1, 1) := by decide +kernel
theorem dX10_digest_57 : decode cX10_digest 57 = .ok (.iconst 0, 1) := by decide +kernel
theorem dX10_digest_58 : decode cX10_digest 58 = .ok (.istore_n 3, 1) := by decide +kernel
theorem dX10_digest_59 : decode cX10_digest 59 = .ok (.iload_n 3, 1) := by decide +kernel
theorem dX10_digest_60 : decode cX10_digest 60 = .ok (.aload_n 0, 1) := by decide +kernel
theorem dX10_digest_61 : decode cX10_digest 61 = .ok (.getfield 125, 3) := by decide +kernel
theorem dX10_digest_64 : decode cX10_digest 64 = .ok (.if_icmp .ge 16, 3) := by decide +kernel
theorem dX10_digest_67 : decode cX10_digest 67 = .ok (.aload_n 0, 1) := by decide +kernel
theorem dX10_digest_68 : decode cX10_digest 68 = .ok (.lload_n 1, 1) := by decide +kernel
theorem dX10_digest_69 : decode cX10_digest 69 = .ok (.iload_n 3, 1) := by decide +kernel
theorem dX10_digest_70 : decode cX10_digest 70 = .ok (.invokevirtual 343, 3) := by decide +kernel
theorem dX10_digest_73 : decode cX10_digest 73 = .ok (.lstore_n 1, 1) := by decide +kernel
theorem dX10_digest_74 : decode cX10_digest 74 = .ok (.iinc 3 1, 3) := by decide +kernel
theorem dX10_digest_77 : decode cX10_digest 77 = .ok (.goto (-18), 3) := by decide +kernel
theorem dX10_digest_80 : decode cX10_digest 80 = .ok (.iconst 0, 1) := by decide +kernel
theorem dX10_digest_81 : decode cX10_digest 81 = .ok (.istore_n 3, 1) := by decide +kernel
theorem dX10_digest_82 : decode cX10_digest 82 = .ok (.iload_n 3, 1) := by decide +kernel
theorem dX10_digest_83 : decode cX10_digest 83 = .ok (.bipush 10, 2) := by decide +kernel
theorem dX10_digest_85 : decode cX10_digest 85 = .ok (.if_icmp .ge 16, 3) := by decide +kernel
theorem dX10_digest_88 : decode cX10_digest 88 = .ok (.aload_n 0, 1) := by decide +kernel
theorem dX10_digest_89 : decode cX10_digest 89 = .ok (.lload_n 1, 1) := by decide +kernel
theorem dX10_digest_90 : decode cX10_digest 90 = .ok (.iload_n 3, 1) := by decide +kernel
theorem dX10_digest_91 : decode cX10_digest 91 = .ok (.invokevirtual 347, 3) := by decide +kernel
theorem dX10_digest_94 : decode cX10_digest 94 = .ok (.lstore_n 1, 1) := by decide +kernel
theorem dX10_digest_95 : decode cX10_digest 95 = .ok (.iinc 3 1, 3) := by decide +kernel
theorem dX10_digest_98 : decode cX10_digest 98 = .ok (.goto (-16), 3) := by decide +kernel
theorem dX10_digest_101 : decode cX10_digest 101 = .ok (.ldc2_w 332, 3) := by decide +kernel
theorem dX10_digest_104 : decode cX10_digest 104 = .ok (.lload_n 1, 1) := by decide +kernel
theorem dX10_digest_105 : decode cX10_digest 105 = .ok (.lmul, 1) := by decide +kernel
theorem dX10_digest_106 : decode cX10_digest 106 = .ok (.aload_n 0, 1) := by decide +kernel
theorem dX10_digest_107 : decode cX10_digest 107 = .ok (.invokevirtual 240, 3) := by decide +kernel
theorem dX10_digest_110 : decode cX10_digest 110 = .ok (.i2l, 1) := by decide +kernel
theorem dX10_digest_111 : decode cX10_digest 111 = .ok (.ladd, 1) := by decide +kernel
theorem dX10_digest_112 : decode cX10_digest 112 = .ok (.lstore_n 1, 1) := by decide +kernel
theorem dX10_digest_113 : decode cX10_digest 113 = .ok (.ldc2_w 332, 3) := by decide +kernel
theorem dX10_digest_116 : decode cX10_digest 116 = .ok (.lload_n 1, 1) := by decide +kernel
theorem dX10_digest_117 : decode cX10_digest 117 = .ok (.lmul, 1) := by decide +kernel
theorem dX10_digest_118 : decode cX10_digest 118 = .ok (.aload_n 0, 1) := by decide +kernel
theorem dX10_digest_119 : decode cX10_digest 119 = .ok (.invokevirtual 246, 3) := by decide +kernel
theorem dX10_digest_122 : decode cX10_digest 122 = .ok (.i2l, 1) := by decide +kernel
theorem dX10_digest_123 : decode cX10_digest 123 = .ok (.ladd, 1) := by decide +kernel
theorem dX10_digest_124 : decode cX10_digest 124 = .ok (.lstore_n 1, 1) := by decide +kernel
theorem dX10_digest_125 : decode cX10_digest 125 = .ok (.iconst 0, 1) := by decide +kernel
theorem dX10_digest_126 : decode cX10_digest 126 = .ok (.istore_n 3, 1) := by decide +kernel
theorem dX10_digest_127 : decode cX10_digest 127 = .ok (.iload_n 3, 1) := by decide +kernel
theorem dX10_digest_128 : decode cX10_digest 128 = .ok (.iconst 3, 1) := by decide +kernel
theorem dX10_digest_129 : decode cX10_digest 129 = .ok (.if_icmp .ge 22, 3) := by decide +kernel
theorem dX10_digest_132 : decode cX10_digest 132 = .ok (.ldc2_w 332, 3) := by decide +kernel
theorem dX10_digest_135 : decode cX10_digest 135 = .ok (.lload_n 1, 1) := by decide +kernel
theorem dX10_digest_136 : decode cX10_digest 136 = .ok (.lmul, 1) := by decide +kernel
theorem dX10_digest_137 : decode cX10_digest 137 = .ok (.aload_n 0, 1) := by decide +kernel
theorem dX10_digest_138 : decode cX10_digest 138 = .ok (.iload_n 3, 1) := by decide +kernel
theorem dX10_digest_139 : decode cX10_digest 139 = .ok (.invokevirtual 261, 3) := by decide +kernel
theorem dX10_digest_142 : decode cX10_digest 142 = .ok (.i2l, 1) := by decide +kernel
theorem dX10_digest_143 : decode cX10_digest 143 = .ok (.ladd, 1) := by decide +kernel
theorem dX10_digest_144 : decode cX10_digest 144 = .ok (.lstore_n 1, 1) := by decide +kernel
theorem dX10_digest_145 : decode cX10_digest 145 = .ok (.iinc 3 1, 3) := by decide +kernel
theorem dX10_digest_148 : decode cX10_digest 148 = .ok (.goto (-21), 3) := by decide +kernel
theorem dX10_digest_151 : decode cX10_digest 151 = .ok (.ldc2_w 332, 3) := by decide +kernel
theorem dX10_digest_154 : decode cX10_digest 154 = .ok (.lload_n 1, 1) := by decide +kernel
theorem dX10_digest_155 : decode cX10_digest 155 = .ok (.lmul, 1) := by decide +kernel
theorem dX10_digest_156 : decode cX10_digest 156 = .ok (.aload_n 0, 1) := by decide +kernel
theorem dX10_digest_157 : decode cX10_digest 157 = .ok (.invokevirtual 285, 3) := by decide +kernel
theorem dX10_digest_160 : decode cX10_digest 160 = .ok (.i2l, 1) := by decide +kernel
theorem dX10_digest_161 : decode cX10_digest 161 = .ok (.ladd, 1) := by decide +kernel
theorem dX10_digest_162 : decode cX10_digest 162 = .ok (.lstore_n 1, 1) := by decide +kernel
theorem dX10_digest_163 : decode cX10_digest 163 = .ok (.ldc2_w 332, 3) := by decide +kernel
theorem dX10_digest_166 : decode cX10_digest 166 = .ok (.lload_n 1, 1) := by decide +kernel
theorem dX10_digest_167 : decode cX10_digest 167 = .ok (.lmul, 1) := by decide +kernel
theorem dX10_digest_168 : decode cX10_digest 168 = .ok (.aload_n 0, 1) := by decide +kernel
theorem dX10_digest_169 : decode cX10_digest 169 = .ok (.invokevirtual 298, 3) := by decide +kernel
theorem dX10_digest_172 : decode cX10_digest 172 = .ok (.i2l, 1) := by decide +kernel
theorem dX10_digest_173 : decode cX10_digest 173 = .ok (.ladd, 1) := by decide +kernel
theorem dX10_digest_174 : decode cX10_digest 174 = .ok (.lstore_n 1, 1) := by decide +kernel
theorem dX10_digest_175 : decode cX10_digest 175 = .ok (.ldc2_w 332, 3) := by decide +kernel
theorem dX10_digest_178 : decode cX10_digest 178 = .ok (.lload_n 1, 1) := by decide +kernel
theorem dX10_digest_179 : decode cX10_digest 179 = .ok (.lmul, 1) := by decide +kernel
theorem dX10_digest_180 : decode cX10_digest 180 = .ok (.aload_n 0, 1) := by decide +kernel
theorem dX10_digest_181 : decode cX10_digest 181 = .ok (.iconst 5, 1) := by decide +kernel
theorem dX10_digest_182 : decode cX10_digest 182 = .ok (.iconst 5, 1) := by decide +kernel
theorem dX10_digest_183 : decode cX10_digest 183 = .ok (.iconst 1, 1) := by decide +kernel
theorem dX10_digest_184 : decode cX10_digest 184 = .ok (.bipush 7, 2) := by decide +kernel
theorem dX10_digest_186 : decode cX10_digest 186 = .ok (.iconst 0, 1) := by decide +kernel
theorem dX10_digest_187 : decode cX10_digest 187 = .ok (.invokevirtual 310, 3) := by decide +kernel
theorem dX10_digest_190 : decode cX10_digest 190 = .ok (.ladd, 1) := by decide +kernel
theorem dX10_digest_191 : decode cX10_digest 191 = .ok (.lstore_n 1, 1) := by decide +kernel
theorem dX10_digest_192 : decode cX10_digest 192 = .ok (.ldc2_w 332, 3) := by decide +kernel
theorem dX10_digest_195 : decode cX10_digest 195 = .ok (.lload_n 1, 1) := by decide +kernel
theorem dX10_digest_196 : decode cX10_digest 196 = .ok (.lmul, 1) := by decide +kernel
theorem dX10_digest_197 : decode cX10_digest 197 = .ok (.aload_n 0, 1) := by decide +kernel
theorem dX10_digest_198 : decode cX10_digest 198 = .ok (.iconst 5, 1) := by decide +kernel
theorem dX10_digest_199 : decode cX10_digest 199 = .ok (.iconst 5, 1) := by decide +kernel
theorem dX10_digest_200 : decode cX10_digest 200 = .ok (.iconst 1, 1) := by decide +kernel
theorem dX10_digest_201 : decode cX10_digest 201 = .ok (.bipush 7, 2) := by decide +kernel
theorem dX10_digest_203 : decode cX10_digest 203 = .ok (.iconst 1, 1) := by decide +kernel
theorem dX10_digest_204 : decode cX10_digest 204 = .ok (.invokevirtual 310, 3) := by decide +kernel
theorem dX10_digest_207 : decode cX10_digest 207 = .ok (.ladd, 1) := by decide +kernel
theorem dX10_digest_208 : decode cX10_digest 208 = .ok (.lstore_n 1, 1) := by decide +kernel
theorem dX10_digest_209 : decode cX10_digest 209 = .ok (.ldc2_w 332, 3) := by decide +kernel
theorem dX10_digest_212 : decode cX10_digest 212 = .ok (.lload_n 1, 1) := by decide +kernel
theorem dX10_digest_213 : decode cX10_digest 213 = .ok (.lmul, 1) := by decide +kernel
theorem dX10_digest_214 : decode cX10_digest 214 = .ok (.aload_n 0, 1) := by decide +kernel
theorem dX10_digest_215 : decode cX10_digest 215 = .ok (.bipush 7, 2) := by decide +kernel
theorem dX10_digest_217 : decode cX10_digest 217 = .ok (.iconst 0, 1) := by decide +kernel
theorem dX10_digest_218 : decode cX10_digest 218 = .ok (.invokevirtual 315, 3) := by decide +kernel
theorem dX10_digest_221 : decode cX10_digest 221 = .ok (.i2l, 1) := by decide +kernel
theorem dX10_digest_222 : decode cX10_digest 222 = .ok (.ladd, 1) := by decide +kernel
theorem dX10_digest_223 : decode cX10_digest 223 = .ok (.lstore_n 1, 1) := by decide +kernel
theorem dX10_digest_224 : decode cX10_digest 224 = .ok (.ldc2_w 332, 3) := by decide +kernel
theorem dX10_digest_227 : decode cX10_digest 227 = .ok (.lload_n 1, 1) := by decide +kernel
theorem dX10_digest_228 : decode cX10_digest 228 = .ok (.lmul, 1) := by decide +kernel
theorem dX10_digest_229 : decode cX10_digest 229 = .ok (.aload_n 0, 1) := by decide +kernel
theorem dX10_digest_230 : decode cX10_digest 230 = .ok (.bipush 7, 2) := by decide +kernel
theorem dX10_digest_232 : decode cX10_digest 232 = .ok (.iconst 1, 1) := by decide +kernel
theorem dX10_digest_233 : decode cX10_digest 233 = .ok (.invokevirtual 315, 3) := by decide +kernel
theorem dX10_digest_236 : decode cX10_digest 236 = .ok (.i2l, 1) := by decide +kernel
theorem dX10_digest_237 : decode cX10_digest 237 = .ok (.ladd, 1) := by decide +kernel
theorem dX10_digest_238 : decode cX10_digest 238 = .ok (.lreturn, 1) := by decide +kernel
theorem dJ6_bitCount_0f7a4_0 : decode cJ6_bitCount_0f7a4 0 = .ok (.iload_n 0, 1) := by decide +kernel
theorem dJ6_bitCount_0f7a4_1 : decode cJ6_bitCount_0f7a4 1 = .ok (.iload_n 0, 1) := by decide +kernel
theorem dJ6_bitCount_0f7a4_2 : decode cJ6_bitCount_0f7a4 2 = .ok (.iconst 1, 1) := by decide +kernel
theorem dJ6_bitCount_0f7a4_3 : decode cJ6_bitCount_0f7a4 3 = .ok (.iushr, 1) := by decide +kernel
theorem dJ6_bitCount_0f7a4_4 : decode cJ6_bitCount_0f7a4 4 = .ok (.ldc_w 265, 3) := by decide +kernel
theorem dJ6_bitCount_0f7a4_7 : decode cJ6_bitCount_0f7a4 7 = .ok (.iand, 1) := by decide +kernel
theorem dJ6_bitCount_0f7a4_8 : decode cJ6_bitCount_0f7a4 8 = .ok (.isub, 1) := by decide +kernel
theorem dJ6_bitCount_0f7a4_9 : decode cJ6_bitCount_0f7a4 9 = .ok (.istore_n 0, 1) := by decide +kernel
theorem dJ6_bitCount_0f7a4_10 : decode cJ6_bitCount_0f7a4 10 = .ok (.iload_n 0, 1) := by decide +kernel
theorem dJ6_bitCount_0f7a4_11 : decode cJ6_bitCount_0f7a4 11 = .ok (.ldc_w 266, 3) := by decide +kernel
theorem dJ6_bitCount_0f7a4_14 : decode cJ6_bitCount_0f7a4 14 = .ok (.iand, 1) := by decide +kernel
theorem dJ6_bitCount_0f7a4_15 : decode cJ6_bitCount_0f7a4 15 = .ok (.iload_n 0, 1) := by decide +kernel
theorem dJ6_bitCount_0f7a4_16 : decode cJ6_bitCount_0f7a4 16 = .ok (.iconst 2, 1) := by decide +kernel
theorem dJ6_bitCount_0f7a4_17 : decode cJ6_bitCount_0f7a4 17 = .ok (.iushr, 1) := by decide +kernel
theorem dJ6_bitCount_0f7a4_18 : decode cJ6_bitCount_0f7a4 18 = .ok (.ldc_w 266, 3) := by decide +kernel
theorem dJ6_bitCount_0f7a4_21 : decode cJ6_bitCount_0f7a4 21 = .ok (.iand, 1) := by decide +kernel
theorem dJ6_bitCount_0f7a4_22 : decode cJ6_bitCount_0f7a4 22 = .ok (.iadd, 1) := by decide +kernel
theorem dJ6_bitCount_0f7a4_23 : decode cJ6_bitCount_0f7a4 23 = .ok (.istore_n 0, 1) := by decide +kernel
theorem dJ6_bitCount_0f7a4_24 : decode cJ6_bitCount_0f7a4 24 = .ok (.iload_n 0, 1) := by decide +kernel
theorem dJ6_bitCount_0f7a4_25 : decode cJ6_bitCount_0f7a4 25 = .ok (.iload_n 0, 1) := by decide +kernel
theorem dJ6_bitCount_0f7a4_26 : decode cJ6_bitCount_0f7a4 26 = .ok (.iconst 4, 1) := by decide +kernel
theorem dJ6_bitCount_0f7a4_27 : decode cJ6_bitCount_0f7a4 27 = .ok (.iushr, 1) := by decide +kernel
theorem dJ6_bitCount_0f7a4_28 : decode cJ6_bitCount_0f7a4 28 = .ok (.iadd, 1) := by decide +kernel
theorem dJ6_bitCount_0f7a4_29 : decode cJ6_bitCount_0f7a4 29 = .ok (.ldc_w 267, 3) := by decide +kernel
theorem dJ6_bitCount_0f7a4_32 : decode cJ6_bitCount_0f7a4 32 = .ok (.iand, 1) := by decide +kernel
theorem dJ6_bitCount_0f7a4_33 : decode cJ6_bitCount_0f7a4 33 = .ok (.istore_n 0, 1) := by decide +kernel
theorem dJ6_bitCount_0f7a4_34 : decode cJ6_bitCount_0f7a4 34 = .ok (.iload_n 0, 1) := by decide +kernel
theorem dJ6_bitCount_0f7a4_35 : decode cJ6_bitCount_0f7a4 35 = .ok (.iload_n 0, 1) := by decide +kernel
theorem dJ6_bitCount_0f7a4_36 : decode cJ6_bitCount_0f7a4 36 = .ok (.bipush 8, 2) := by decide +kernel
theorem dJ6_bitCount_0f7a4_38 : decode cJ6_bitCount_0f7a4 38 = .ok (.iushr, 1) := by decide +kernel
theorem dJ6_bitCount_0f7a4_39 : decode cJ6_bitCount_0f7a4 39 = .ok (.iadd, 1) := by decide +kernel
