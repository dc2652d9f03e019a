theorem dX9_ring_5 : decode cX9_ring 5 = .ok (.iconst 1, 1) := by decide +kernel
theorem dX9_ring_6 : decode cX9_ring 6 = .ok (.invokevirtual 226, 3) := by decide +kernel
theorem dX9_ring_9 : decode cX9_ring 9 = .ok (.istore_n 1, 1) := by decide +kernel
theorem dX9_ring_10 : decode cX9_ring 10 = .ok (.aload_n 0, 1) := by decide +kernel
theorem dX9_ring_11 : decode cX9_ring 11 = .ok (.getfield 18, 3) := by decide +kernel
theorem dX9_ring_14 : decode cX9_ring 14 = .ok (.iconst 1, 1) := by decide +kernel
theorem dX9_ring_15 : decode cX9_ring 15 = .ok (.iconst 2, 1) := by decide +kernel
theorem dX9_ring_16 : decode cX9_ring 16 = .ok (.invokevirtual 226, 3) := by decide +kernel
theorem dX9_ring_19 : decode cX9_ring 19 = .ok (.istore_n 2, 1) := by decide +kernel
theorem dX9_ring_20 : decode cX9_ring 20 = .ok (.aload_n 0, 1) := by decide +kernel
theorem dX9_ring_21 : decode cX9_ring 21 = .ok (.getfield 18, 3) := by decide +kernel
theorem dX9_ring_24 : decode cX9_ring 24 = .ok (.iconst 2, 1) := by decide +kernel
theorem dX9_ring_25 : decode cX9_ring 25 = .ok (.iconst 0, 1) := by decide +kernel
theorem dX9_ring_26 : decode cX9_ring 26 = .ok (.invokevirtual 226, 3) := by decide +kernel
theorem dX9_ring_29 : decode cX9_ring 29 = .ok (.istore_n 3, 1) := by decide +kernel
theorem dX9_ring_30 : decode cX9_ring 30 = .ok (.iload_n 1, 1) := by decide +kernel
theorem dX9_ring_31 : decode cX9_ring 31 = .ok (.ifCond .le 13, 3) := by decide +kernel
theorem dX9_ring_34 : decode cX9_ring 34 = .ok (.iload_n 2, 1) := by decide +kernel
theorem dX9_ring_35 : decode cX9_ring 35 = .ok (.ifCond .le 9, 3) := by decide +kernel
theorem dX9_ring_38 : decode cX9_ring 38 = .ok (.iload_n 3, 1) := by decide +kernel
theorem dX9_ring_39 : decode cX9_ring 39 = .ok (.ifCond .le 5, 3) := by decide +kernel
theorem dX9_ring_42 : decode cX9_ring 42 = .ok (.iconst 1, 1) := by decide +kernel
theorem dX9_ring_43 : decode cX9_ring 43 = .ok (.ireturn, 1) := by decide +kernel
theorem dX9_ring_44 : decode cX9_ring 44 = .ok (.iload_n 1, 1) := by decide +kernel
theorem dX9_ring_45 : decode cX9_ring 45 = .ok (.ifCond .ge 15, 3) := by decide +kernel
theorem dX9_ring_48 : decode cX9_ring 48 = .ok (.iload_n 2, 1) := by decide +kernel
theorem dX9_ring_49 : decode cX9_ring 49 = .ok (.ifCond .ge 11, 3) := by decide +kernel
theorem dX9_ring_52 : decode cX9_ring 52 = .ok (.iload_n 3, 1) := by decide +kernel
theorem dX9_ring_53 : decode cX9_ring 53 = .ok (.ifCond .ge 7, 3) := by decide +kernel
theorem dX9_ring_56 : decode cX9_ring 56 = .ok (.iconst 2, 1) := by decide +kernel
theorem dX9_ring_57 : decode cX9_ring 57 = .ok (.goto 4, 3) := by decide +kernel
theorem dX9_ring_60 : decode cX9_ring 60 = .ok (.iconst 0, 1) := by decide +kernel
theorem dX9_ring_61 : decode cX9_ring 61 = .ok (.ireturn, 1) := by decide +kernel
theorem dX9_sham_0 : decode cX9_sham 0 = .ok (.iload_n 1, 1) := by decide +kernel
theorem dX9_sham_1 : decode cX9_sham 1 = .ok (.invokestatic 129, 3) := by decide +kernel
theorem dX9_sham_4 : decode cX9_sham 4 = .ok (.ifCond .eq 11, 3) := by decide +kernel
theorem dX9_sham_7 : decode cX9_sham 7 = .ok (.aload_n 0, 1) := by decide +kernel
theorem dX9_sham_8 : decode cX9_sham 8 = .ok (.iload_n 2, 1) := by decide +kernel
theorem dX9_sham_9 : decode cX9_sham 9 = .ok (.invokevirtual 113, 3) := by decide +kernel
theorem dX9_sham_12 : decode cX9_sham 12 = .ok (.ifCond .ne 6, 3) := by decide +kernel
theorem dX9_sham_15 : decode cX9_sham 15 = .ok (.bipush (-2), 2) := by decide +kernel
theorem dX9_sham_17 : decode cX9_sham 17 = .ok (.ireturn, 1) := by decide +kernel
theorem dX9_sham_18 : decode cX9_sham 18 = .ok (.aload_n 0, 1) := by decide +kernel
theorem dX9_sham_19 : decode cX9_sham 19 = .ok (.iload_n 1, 1) := by decide +kernel
theorem dX9_sham_20 : decode cX9_sham 20 = .ok (.invokevirtual 167, 3) := by decide +kernel
theorem dX9_sham_23 : decode cX9_sham 23 = .ok (.istore_n 3, 1) := by decide +kernel
theorem dX9_sham_24 : decode cX9_sham 24 = .ok (.iload_n 3, 1) := by decide +kernel
theorem dX9_sham_25 : decode cX9_sham 25 = .ok (.iconst (-1), 1) := by decide +kernel
theorem dX9_sham_26 : decode cX9_sham 26 = .ok (.if_icmp .ne 5, 3) := by decide +kernel
theorem dX9_sham_29 : decode cX9_sham 29 = .ok (.iconst (-1), 1) := by decide +kernel
theorem dX9_sham_30 : decode cX9_sham 30 = .ok (.ireturn, 1) := by decide +kernel
theorem dX9_sham_31 : decode cX9_sham 31 = .ok (.aload_n 0, 1) := by decide +kernel
theorem dX9_sham_32 : decode cX9_sham 32 = .ok (.getfield 18, 3) := by decide +kernel
theorem dX9_sham_35 : decode cX9_sham 35 = .ok (.getfield 122, 3) := by decide +kernel
theorem dX9_sham_38 : decode cX9_sham 38 = .ok (.iload_n 2, 1) := by decide +kernel
theorem dX9_sham_39 : decode cX9_sham 39 = .ok (.iaload, 1) := by decide +kernel
theorem dX9_sham_40 : decode cX9_sham 40 = .ok (.aload_n 0, 1) := by decide +kernel
theorem dX9_sham_41 : decode cX9_sham 41 = .ok (.getfield 55, 3) := by decide +kernel
theorem dX9_sham_44 : decode cX9_sham 44 = .ok (.getfield 228, 3) := by decide +kernel
theorem dX9_sham_47 : decode cX9_sham 47 = .ok (.aload_n 0, 1) := by decide +kernel
theorem dX9_sham_48 : decode cX9_sham 48 = .ok (.getfield 55, 3) := by decide +kernel
theorem dX9_sham_51 : decode cX9_sham 51 = .ok (.getfield 230, 3) := by decide +kernel
theorem dX9_sham_54 : decode cX9_sham 54 = .ok (.invokestatic 232, 3) := by decide +kernel
theorem dX9_sham_57 : decode cX9_sham 57 = .ok (.ifCond .eq 13, 3) := by decide +kernel
theorem dX9_sham_60 : decode cX9_sham 60 = .ok (.aload_n 0, 1) := by decide +kernel
theorem dX9_sham_61 : decode cX9_sham 61 = .ok (.getfield 55, 3) := by decide +kernel
theorem dX9_sham_64 : decode cX9_sham 64 = .ok (.getfield 228, 3) := by decide +kernel
theorem dX9_sham_67 : decode cX9_sham 67 = .ok (.goto 10, 3) := by decide +kernel
theorem dX9_sham_70 : decode cX9_sham 70 = .ok (.aload_n 0, 1) := by decide +kernel
theorem dX9_sham_71 : decode cX9_sham 71 = .ok (.getfield 55, 3) := by decide +kernel
theorem dX9_sham_74 : decode cX9_sham 74 = .ok (.getfield 230, 3) := by decide +kernel
theorem dX9_sham_77 : decode cX9_sham 77 = .ok (.istore 4, 2) := by decide +kernel
theorem dX9_sham_79 : decode cX9_sham 79 = .ok (.iload_n 3, 1) := by decide +kernel
theorem dX9_sham_80 : decode cX9_sham 80 = .ok (.iload 4, 2) := by decide +kernel
theorem dX9_sham_82 : decode cX9_sham 82 = .ok (.if_icmp .ne 5, 3) := by decide +kernel
theorem dX9_sham_85 : decode cX9_sham 85 = .ok (.iconst 0, 1) := by decide +kernel
theorem dX9_sham_86 : decode cX9_sham 86 = .ok (.ireturn, 1) := by decide +kernel
theorem dX9_sham_87 : decode cX9_sham 87 = .ok (.aload_n 0, 1) := by decide +kernel
theorem dX9_sham_88 : decode cX9_sham 88 = .ok (.getfield 55, 3) := by decide +kernel
theorem dX9_sham_91 : decode cX9_sham 91 = .ok (.getfield 170, 3) := by decide +kernel
theorem dX9_sham_94 : decode cX9_sham 94 = .ok (.iload_n 2, 1) := by decide +kernel
theorem dX9_sham_95 : decode cX9_sham 95 = .ok (.iconst 1, 1) := by decide +kernel
theorem dX9_sham_96 : decode cX9_sham 96 = .ok (.aload_n 0, 1) := by decide +kernel
theorem dX9_sham_97 : decode cX9_sham 97 = .ok (.getfield 55, 3) := by decide +kernel
theorem dX9_sham_100 : decode cX9_sham 100 = .ok (.getfield 170, 3) := by decide +kernel
theorem dX9_sham_103 : decode cX9_sham 103 = .ok (.iload_n 2, 1) := by decide +kernel
theorem dX9_sham_104 : decode cX9_sham 104 = .ok (.iaload, 1) := by decide +kernel
theorem dX9_sham_105 : decode cX9_sham 105 = .ok (.isub, 1) := by decide +kernel
theorem dX9_sham_106 : decode cX9_sham 106 = .ok (.iastore, 1) := by decide +kernel
theorem dX9_sham_107 : decode cX9_sham 107 = .ok (.aload_n 0, 1) := by decide +kernel
theorem dX9_sham_108 : decode cX9_sham 108 = .ok (.getfield 55, 3) := by decide +kernel
theorem dX9_sham_111 : decode cX9_sham 111 = .ok (.invokevirtual 235, 3) := by decide +kernel
theorem dX9_sham_114 : decode cX9_sham 114 = .ok (.iload 4, 2) := by decide +kernel
theorem dX9_sham_116 : decode cX9_sham 116 = .ok (.if_icmp .ne 7, 3) := by decide +kernel
theorem dX9_sham_119 : decode cX9_sham 119 = .ok (.iconst 1, 1) := by decide +kernel
theorem dX9_sham_120 : decode cX9_sham 120 = .ok (.goto 4, 3) := by decide +kernel
theorem dX9_sham_123 : decode cX9_sham 123 = .ok (.iconst 0, 1) := by decide +kernel
theorem dX9_sham_124 : decode cX9_sham 124 = .ok (.ireturn, 1) := by decide +kernel
theorem dX9_seen_0 : decode cX9_seen 0 = .ok (.iload_n 1, 1) := by decide +kernel
theorem dX9_seen_1 : decode cX9_seen 1 = .ok (.invokestatic 129, 3) := by decide +kernel
theorem dX9_seen_4 : decode cX9_seen 4 = .ok (.ifCond .eq 11, 3) := by decide +kernel
theorem dX9_seen_7 : decode cX9_seen 7 = .ok (.iload_n 2, 1) := by decide +kernel
theorem dX9_seen_8 : decode cX9_seen 8 = .ok (.iconst 4, 1) := by decide +kernel
theorem dX9_seen_9 : decode cX9_seen 9 = .ok (.invokestatic 95, 3) := by decide +kernel
theorem dX9_seen_12 : decode cX9_seen 12 = .ok (.ifCond .ne 6, 3) := by decide +kernel
theorem dX9_seen_15 : decode cX9_seen 15 = .ok (.bipush (-2), 2) := by decide +kernel
theorem dX9_seen_17 : decode cX9_seen 17 = .ok (.ireturn, 1) := by decide +kernel
theorem dX9_seen_18 : decode cX9_seen 18 = .ok (.aload_n 0, 1) := by decide +kernel
theorem dX9_seen_19 : decode cX9_seen 19 = .ok (.getfield 46, 3) := by decide +kernel
theorem dX9_seen_22 : decode cX9_seen 22 = .ok (.iload_n 1, 1) := by decide +kernel
theorem dX9_seen_23 : decode cX9_seen 23 = .ok (.iload_n 2, 1) := by decide +kernel
theorem dX9_seen_24 : decode cX9_seen 24 = .ok (.iconst 3, 1) := by decide +kernel
theorem dX9_seen_25 : decode cX9_seen 25 = .ok (.if_icmp .ne 7, 3) := by decide +kernel
theorem dX9_seen_28 : decode cX9_seen 28 = .ok (.iconst (-1), 1) := by decide +kernel
theorem dX9_seen_29 : decode cX9_seen 29 = .ok (.goto 4, 3) := by decide +kernel
theorem dX9_seen_32 : decode cX9_seen 32 = .ok (.iload_n 2, 1) := by decide +kernel
theorem dX9_seen_33 : decode cX9_seen 33 = .ok (.invokevirtual 239, 3) := by decide +kernel
theorem dX9_seen_36 : decode cX9_seen 36 = .ok (.ifCond .eq 13, 3) := by decide +kernel
theorem dX9_seen_39 : decode cX9_seen 39 = .ok (.aload_n 0, 1) := by decide +kernel
theorem dX9_seen_40 : decode cX9_seen 40 = .ok (.getfield 46, 3) := by decide +kernel
theorem dX9_seen_43 : decode cX9_seen 43 = .ok (.getfield 241, 3) := by decide +kernel
theorem dX9_seen_46 : decode cX9_seen 46 = .ok (.goto 5, 3) := by decide +kernel
theorem dX9_seen_49 : decode cX9_seen 49 = .ok (.bipush (-4), 2) := by decide +kernel
theorem dX9_seen_51 : decode cX9_seen 51 = .ok (.ireturn, 1) := by decide +kernel
theorem dX9_forget_0 : decode cX9_forget 0 = .ok (.aload_n 0, 1) := by decide +kernel
theorem dX9_forget_1 : decode cX9_forget 1 = .ok (.getfield 46, 3) := by decide +kernel
theorem dX9_forget_4 : decode cX9_forget 4 = .ok (.getfield 241, 3) := by decide +kernel
theorem dX9_forget_7 : decode cX9_forget 7 = .ok (.istore_n 1, 1) := by decide +kernel
theorem dX9_forget_8 : decode cX9_forget 8 = .ok (.aload_n 0, 1) := by decide +kernel
theorem dX9_forget_9 : decode cX9_forget 9 = .ok (.getfield 46, 3) := by decide +kernel
theorem dX9_forget_12 : decode cX9_forget 12 = .ok (.iconst 0, 1) := by decide +kernel
theorem dX9_forget_13 : decode cX9_forget 13 = .ok (.putfield 241, 3) := by decide +kernel
theorem dX9_forget_16 : decode cX9_forget 16 = .ok (.iload_n 1, 1) := by decide +kernel
theorem dX9_forget_17 : decode cX9_forget 17 = .ok (.ireturn, 1) := by decide +kernel
theorem dX9_never_0 : decode cX9_never 0 = .ok (.iconst 0, 1) := by decide +kernel
theorem dX9_never_1 : decode cX9_never 1 = .ok (.istore_n 1, 1) := by decide +kernel
theorem dX9_never_2 : decode cX9_never 2 = .ok (.iconst 0, 1) := by decide +kernel
theorem dX9_never_3 : decode cX9_never 3 = .ok (.istore_n 2, 1) := by decide +kernel
theorem dX9_never_4 : decode cX9_never 4 = .ok (.iload_n 2, 1) := by decide +kernel
theorem dX9_never_5 : decode cX9_never 5 = .ok (.aload_n 0, 1) := by decide +kernel
theorem dX9_never_6 : decode cX9_never 6 = .ok (.getfield 32, 3) := by decide +kernel
theorem dX9_never_9 : decode cX9_never 9 = .ok (.getfield 151, 3) := by decide +kernel
theorem dX9_never_12 : decode cX9_never 12 = .ok (.if_icmp .ge 30, 3) := by decide +kernel
theorem dX9_never_15 : decode cX9_never 15 = .ok (.aload_n 0, 1) := by decide +kernel
theorem dX9_never_16 : decode cX9_never 16 = .ok (.aload_n 0, 1) := by decide +kernel
theorem dX9_never_17 : decode cX9_never 17 = .ok (.getfield 18, 3) := by decide +kernel
theorem dX9_never_20 : decode cX9_never 20 = .ok (.getfield 122, 3) := by decide +kernel
theorem dX9_never_23 : decode cX9_never 23 = .ok (.iload_n 2, 1) := by decide +kernel
theorem dX9_never_24 : decode cX9_never 24 = .ok (.invokevirtual 242, 3) := by decide +kernel
theorem dX9_never_27 : decode cX9_never 27 = .ok (.ifCond .eq 9, 3) := by decide +kernel
theorem dX9_never_30 : decode cX9_never 30 = .ok (.iload_n 1, 1) := by decide +kernel
theorem dX9_never_31 : decode cX9_never 31 = .ok (.iconst 1, 1) := by decide +kernel
theorem dX9_never_32 : decode cX9_never 32 = .ok (.iload_n 2, 1) := by decide +kernel
theorem dX9_never_33 : decode cX9_never 33 = .ok (.ishl, 1) := by decide +kernel
theorem dX9_never_34 : decode cX9_never 34 = .ok (.ior, 1) := by decide +kernel
theorem dX9_never_35 : decode cX9_never 35 = .ok (.istore_n 1, 1) := by decide +kernel
theorem dX9_never_36 : decode cX9_never 36 = .ok (.iinc 2 1, 3) := by decide +kernel
theorem dX9_never_39 : decode cX9_never 39 = .ok (.goto (-35), 3) := by decide +kernel
theorem dX9_never_42 : decode cX9_never 42 = .ok (.iload_n 1, 1) := by decide +kernel
theorem dX9_never_43 : decode cX9_never 43 = .ok (.ireturn, 1) := by decide +kernel
theorem dX9_would_0 : decode cX9_would 0 = .ok (.aload_n 0, 1) := by decide +kernel
theorem dX9_would_1 : decode cX9_would 1 = .ok (.iload_n 1, 1) := by decide +kernel
theorem dX9_would_2 : decode cX9_would 2 = .ok (.invokevirtual 113, 3) := by decide +kernel
theorem dX9_would_5 : decode cX9_would 5 = .ok (.ifCond .eq 11, 3) := by decide +kernel
theorem dX9_would_8 : decode cX9_would 8 = .ok (.aload_n 0, 1) := by decide +kernel
theorem dX9_would_9 : decode cX9_would 9 = .ok (.iload_n 1, 1) := by decide +kernel
theorem dX9_would_10 : decode cX9_would 10 = .ok (.invokevirtual 246, 3) := by decide +kernel
theorem dX9_would_13 : decode cX9_would 13 = .ok (.goto 5, 3) := by decide +kernel
theorem dX9_would_16 : decode cX9_would 16 = .ok (.bipush (-2), 2) := by decide +kernel
theorem dX9_would_18 : decode cX9_would 18 = .ok (.ireturn, 1) := by decide +kernel
theorem dX9_ask_0 : decode cX9_ask 0 = .ok (.aload_n 0, 1) := by decide +kernel
theorem dX9_ask_1 : decode cX9_ask 1 = .ok (.iload_n 1, 1) := by decide +kernel
theorem dX9_ask_2 : decode cX9_ask 2 = .ok (.invokevirtual 113, 3) := by decide +kernel
theorem dX9_ask_5 : decode cX9_ask 5 = .ok (.ifCond .eq 16, 3) := by decide +kernel
theorem dX9_ask_8 : decode cX9_ask 8 = .ok (.aload_n 0, 1) := by decide +kernel
theorem dX9_ask_9 : decode cX9_ask 9 = .ok (.iload_n 1, 1) := by decide +kernel
theorem dX9_ask_10 : decode cX9_ask 10 = .ok (.aload_n 0, 1) := by decide +kernel
theorem dX9_ask_11 : decode cX9_ask 11 = .ok (.iload_n 1, 1) := by decide +kernel
theorem dX9_ask_12 : decode cX9_ask 12 = .ok (.invokevirtual 246, 3) := by decide +kernel
theorem dX9_ask_15 : decode cX9_ask 15 = .ok (.invokevirtual 249, 3) := by decide +kernel
theorem dX9_ask_18 : decode cX9_ask 18 = .ok (.goto 5, 3) := by decide +kernel
theorem dX9_ask_21 : decode cX9_ask 21 = .ok (.bipush (-2), 2) := by decide +kernel
theorem dX9_ask_23 : decode cX9_ask 23 = .ok (.ireturn, 1) := by decide +kernel
theorem dX9_ajar_0 : decode cX9_ajar 0 = .ok (.iload_n 1, 1) := by decide +kernel
theorem dX9_ajar_1 : decode cX9_ajar 1 = .ok (.bipush 17, 2) := by decide +kernel
theorem dX9_ajar_3 : decode cX9_ajar 3 = .ok (.invokestatic 95, 3) := by decide +kernel
theorem dX9_ajar_6 : decode cX9_ajar 6 = .ok (.ifCond .eq 30, 3) := by decide +kernel
theorem dX9_ajar_9 : decode cX9_ajar 9 = .ok (.iload_n 2, 1) := by decide +kernel
theorem dX9_ajar_10 : decode cX9_ajar 10 = .ok (.invokestatic 129, 3) := by decide +kernel
theorem dX9_ajar_13 : decode cX9_ajar 13 = .ok (.ifCond .eq 23, 3) := by decide +kernel
theorem dX9_ajar_16 : decode cX9_ajar 16 = .ok (.iload_n 3, 1) := by decide +kernel
theorem dX9_ajar_17 : decode cX9_ajar 17 = .ok (.iconst 3, 1) := by decide +kernel
theorem dX9_ajar_18 : decode cX9_ajar 18 = .ok (.invokestatic 95, 3) := by decide +kernel
theorem dX9_ajar_21 : decode cX9_ajar 21 = .ok (.ifCond .eq 15, 3) := by decide +kernel
theorem dX9_ajar_24 : decode cX9_ajar 24 = .ok (.iload 4, 2) := by decide +kernel
theorem dX9_ajar_26 : decode cX9_ajar 26 = .ok (.invokestatic 129, 3) := by decide +kernel
theorem dX9_ajar_29 : decode cX9_ajar 29 = .ok (.ifCond .eq 7, 3) := by decide +kernel
theorem dX9_ajar_32 : decode cX9_ajar 32 = .ok (.iconst 1, 1) := by decide +kernel
theorem dX9_ajar_33 : decode cX9_ajar 33 = .ok (.goto 4, 3) := by decide +kernel
theorem dX9_ajar_36 : decode cX9_ajar 36 = .ok (.iconst 0, 1) := by decide +kernel
theorem dX9_ajar_37 : decode cX9_ajar 37 = .ok (.istore 6, 2) := by decide +kernel
theorem dX9_ajar_39 : decode cX9_ajar 39 = .ok (.iload 6, 2) := by decide +kernel
theorem dX9_ajar_41 : decode cX9_ajar 41 = .ok (.ifCond .eq 12, 3) := by decide +kernel
theorem dX9_ajar_44 : decode cX9_ajar 44 = .ok (.iload 5, 2) := by decide +kernel
theorem dX9_ajar_46 : decode cX9_ajar 46 = .ok (.iconst 2, 1) := by decide +kernel
theorem dX9_ajar_47 : decode cX9_ajar 47 = .ok (.invokestatic 95, 3) := by decide +kernel
theorem dX9_ajar_50 : decode cX9_ajar 50 = .ok (.ifCond .ne 9, 3) := by decide +kernel
theorem dX9_ajar_53 : decode cX9_ajar 53 = .ok (.bipush (-2), 2) := by decide +kernel
theorem dX9_ajar_55 : decode cX9_ajar 55 = .ok (.invokestatic 212, 3) := by decide +kernel
theorem dX9_ajar_58 : decode cX9_ajar 58 = .ok (.lreturn, 1) := by decide +kernel
theorem dX9_ajar_59 : decode cX9_ajar 59 = .ok (.aload_n 0, 1) := by decide +kernel
theorem dX9_ajar_60 : decode cX9_ajar 60 = .ok (.iload 4, 2) := by decide +kernel
theorem dX9_ajar_62 : decode cX9_ajar 62 = .ok (.invokevirtual 199, 3) := by decide +kernel
theorem dX9_ajar_65 : decode cX9_ajar 65 = .ok (.istore 7, 2) := by decide +kernel
theorem dX9_ajar_67 : decode cX9_ajar 67 = .ok (.iload 7, 2) := by decide +kernel
theorem dX9_ajar_69 : decode cX9_ajar 69 = .ok (.iload_n 2, 1) := by decide +kernel
theorem dX9_ajar_70 : decode cX9_ajar 70 = .ok (.if_icmp .gt 7, 3) := by decide +kernel
theorem dX9_ajar_73 : decode cX9_ajar 73 = .ok (.iload_n 1, 1) := by decide +kernel
theorem dX9_ajar_74 : decode cX9_ajar 74 = .ok (.goto 4, 3) := by decide +kernel
theorem dX9_ajar_77 : decode cX9_ajar 77 = .ok (.iconst 0, 1) := by decide +kernel
theorem dX9_ajar_78 : decode cX9_ajar 78 = .ok (.istore 8, 2) := by decide +kernel
theorem dX9_ajar_80 : decode cX9_ajar 80 = .ok (.iconst 0, 1) := by decide +kernel
theorem dX9_ajar_81 : decode cX9_ajar 81 = .ok (.istore 9, 2) := by decide +kernel
theorem dX9_ajar_83 : decode cX9_ajar 83 = .ok (.aload_n 0, 1) := by decide +kernel
theorem dX9_ajar_84 : decode cX9_ajar 84 = .ok (.getfield 55, 3) := by decide +kernel
theorem dX9_ajar_87 : decode cX9_ajar 87 = .ok (.iload 7, 2) := by decide +kernel
theorem dX9_ajar_89 : decode cX9_ajar 89 = .ok (.aload_n 0, 1) := by decide +kernel
theorem dX9_ajar_90 : decode cX9_ajar 90 = .ok (.getfield 18, 3) := by decide +kernel
theorem dX9_ajar_93 : decode cX9_ajar 93 = .ok (.getfield 122, 3) := by decide +kernel
theorem dX9_ajar_96 : decode cX9_ajar 96 = .ok (.iconst 1, 1) := by decide +kernel
theorem dX9_ajar_97 : decode cX9_ajar 97 = .ok (.iconst (-1), 1) := by decide +kernel
theorem dX9_ajar_98 : decode cX9_ajar 98 = .ok (.invokevirtual 252, 3) := by decide +kernel
theorem dX9_ajar_101 : decode cX9_ajar 101 = .ok (.iload_n 3, 1) := by decide +kernel
theorem dX9_ajar_102 : decode cX9_ajar 102 = .ok (.if_icmp .ne 10, 3) := by decide +kernel
theorem dX9_ajar_105 : decode cX9_ajar 105 = .ok (.iload 9, 2) := by decide +kernel
theorem dX9_ajar_107 : decode cX9_ajar 107 = .ok (.iload 8, 2) := by decide +kernel
theorem dX9_ajar_109 : decode cX9_ajar 109 = .ok (.iadd, 1) := by decide +kernel
theorem dX9_ajar_110 : decode cX9_ajar 110 = .ok (.istore 9, 2) := by decide +kernel
theorem dX9_ajar_112 : decode cX9_ajar 112 = .ok (.aload_n 0, 1) := by decide +kernel
theorem dX9_ajar_113 : decode cX9_ajar 113 = .ok (.getfield 55, 3) := by decide +kernel
theorem dX9_ajar_116 : decode cX9_ajar 116 = .ok (.iload 7, 2) := by decide +kernel
theorem dX9_ajar_118 : decode cX9_ajar 118 = .ok (.aload_n 0, 1) := by decide +kernel
theorem dX9_ajar_119 : decode cX9_ajar 119 = .ok (.getfield 18, 3) := by decide +kernel
theorem dX9_ajar_122 : decode cX9_ajar 122 = .ok (.getfield 122, 3) := by decide +kernel
theorem dX9_ajar_125 : decode cX9_ajar 125 = .ok (.iconst 0, 1) := by decide +kernel
theorem dX9_ajar_126 : decode cX9_ajar 126 = .ok (.iconst (-1), 1) := by decide +kernel
theorem dX9_ajar_127 : decode cX9_ajar 127 = .ok (.invokevirtual 252, 3) := by decide +kernel
theorem dX9_ajar_130 : decode cX9_ajar 130 = .ok (.iload_n 3, 1) := by decide +kernel
theorem dX9_ajar_131 : decode cX9_ajar 131 = .ok (.if_icmp .ne 13, 3) := by decide +kernel
theorem dX9_ajar_134 : decode cX9_ajar 134 = .ok (.iload 9, 2) := by decide +kernel
theorem dX9_ajar_136 : decode cX9_ajar 136 = .ok (.bipush 16, 2) := by decide +kernel
theorem dX9_ajar_138 : decode cX9_ajar 138 = .ok (.iload 8, 2) := by decide +kernel
theorem dX9_ajar_140 : decode cX9_ajar 140 = .ok (.isub, 1) := by decide +kernel
theorem dX9_ajar_141 : decode cX9_ajar 141 = .ok (.iadd, 1) := by decide +kernel
theorem dX9_ajar_142 : decode cX9_ajar 142 = .ok (.istore 9, 2) := by decide +kernel
theorem dX9_ajar_144 : decode cX9_ajar 144 = .ok (.iload 9, 2) := by decide +kernel
theorem dX9_ajar_146 : decode cX9_ajar 146 = .ok (.i2l, 1) := by decide +kernel
theorem dX9_ajar_147 : decode cX9_ajar 147 = .ok (.ldc2_w 256, 3) := by decide +kernel
theorem dX9_ajar_150 : decode cX9_ajar 150 = .ok (.iload 5, 2) := by decide +kernel
theorem dX9_ajar_152 : decode cX9_ajar 152 = .ok (.invokestatic 222, 3) := by decide +kernel
theorem dX9_ajar_155 : decode cX9_ajar 155 = .ok (.lreturn, 1) := by decide +kernel
theorem dX9_evenings_0 : decode cX9_evenings 0 = .ok (.iload_n 2, 1) := by decide +kernel
theorem dX9_evenings_1 : decode cX9_evenings 1 = .ok (.iconst 2, 1) := by decide +kernel
theorem dX9_evenings_2 : decode cX9_evenings 2 = .ok (.invokestatic 95, 3) := by decide +kernel
theorem dX9_evenings_5 : decode cX9_evenings 5 = .ok (.ifCond .ne 6, 3) := by decide +kernel
theorem dX9_evenings_8 : decode cX9_evenings 8 = .ok (.bipush (-2), 2) := by decide +kernel
theorem dX9_evenings_10 : decode cX9_evenings 10 = .ok (.ireturn, 1) := by decide +kernel
theorem dX9_evenings_11 : decode cX9_evenings 11 = .ok (.aload_n 0, 1) := by decide +kernel
theorem dX9_evenings_12 : decode cX9_evenings 12 = .ok (.iload_n 1, 1) := by decide +kernel
theorem dX9_evenings_13 : decode cX9_evenings 13 = .ok (.invokevirtual 258, 3) := by decide +kernel
theorem dX9_evenings_16 : decode cX9_evenings 16 = .ok (.iload_n 2, 1) := by decide +kernel
theorem dX9_evenings_17 : decode cX9_evenings 17 = .ok (.iconst 1, 1) := by decide +kernel
theorem dX9_evenings_18 : decode cX9_evenings 18 = .ok (.if_icmp .ne 14, 3) := by decide +kernel
theorem dX9_evenings_21 : decode cX9_evenings 21 = .ok (.aload_n 0, 1) := by decide +kernel
theorem dX9_evenings_22 : decode cX9_evenings 22 = .ok (.aload_n 0, 1) := by decide +kernel
theorem dX9_evenings_23 : decode cX9_evenings 23 = .ok (.bipush 9, 2) := by decide +kernel
theorem dX9_evenings_25 : decode cX9_evenings 25 = .ok (.invokevirtual 199, 3) := by decide +kernel
theorem dX9_evenings_28 : decode cX9_evenings 28 = .ok (.invokevirtual 261, 3) := by decide +kernel
theorem dX9_evenings_31 : decode cX9_evenings 31 = .ok (.ireturn, 1) := by decide +kernel
theorem dX9_evenings_32 : decode cX9_evenings 32 = .ok (.iconst 0, 1) := by decide +kernel
theorem dX9_evenings_33 : decode cX9_evenings 33 = .ok (.istore_n 3, 1) := by decide +kernel
theorem dX9_evenings_34 : decode cX9_evenings 34 = .ok (.iconst 0, 1) := by decide +kernel
theorem dX9_evenings_35 : decode cX9_evenings 35 = .ok (.istore 4, 2) := by decide +kernel
theorem dX9_evenings_37 : decode cX9_evenings 37 = .ok (.iload 4, 2) := by decide +kernel
theorem dX9_evenings_39 : decode cX9_evenings 39 = .ok (.aload_n 0, 1) := by decide +kernel
theorem dX9_evenings_40 : decode cX9_evenings 40 = .ok (.getfield 25, 3) := by decide +kernel
theorem dX9_evenings_43 : decode cX9_evenings 43 = .ok (.getfield 132, 3) := by decide +kernel
theorem dX9_evenings_46 : decode cX9_evenings 46 = .ok (.if_icmp .ge 27, 3) := by decide +kernel
theorem dX9_evenings_49 : decode cX9_evenings 49 = .ok (.aload_n 0, 1) := by decide +kernel
theorem dX9_evenings_50 : decode cX9_evenings 50 = .ok (.iload 4, 2) := by decide +kernel
theorem dX9_evenings_52 : decode cX9_evenings 52 = .ok (.invokevirtual 261, 3) := by decide +kernel
theorem dX9_evenings_55 : decode cX9_evenings 55 = .ok (.aload_n 0, 1) := by decide +kernel
theorem dX9_evenings_56 : decode cX9_evenings 56 = .ok (.iload 4, 2) := by decide +kernel
theorem dX9_evenings_58 : decode cX9_evenings 58 = .ok (.invokevirtual 167, 3) := by decide +kernel
theorem dX9_evenings_61 : decode cX9_evenings 61 = .ok (.if_icmp .eq 6, 3) := by decide +kernel
theorem dX9_evenings_64 : decode cX9_evenings 64 = .ok (.iinc 3 1, 3) := by decide +kernel
theorem dX9_evenings_67 : decode cX9_evenings 67 = .ok (.iinc 4 1, 3) := by decide +kernel
theorem dX9_evenings_70 : decode cX9_evenings 70 = .ok (.goto (-33), 3) := by decide +kernel
theorem dX9_evenings_73 : decode cX9_evenings 73 = .ok (.iload_n 3, 1) := by decide +kernel
theorem dX9_evenings_74 : decode cX9_evenings 74 = .ok (.ireturn, 1) := by decide +kernel
theorem dX9_sheet_0 : decode cX9_sheet 0 = .ok (.iload_n 1, 1) := by decide +kernel
theorem dX9_sheet_1 : decode cX9_sheet 1 = .ok (.iconst 4, 1) := by decide +kernel
theorem dX9_sheet_2 : decode cX9_sheet 2 = .ok (.invokestatic 95, 3) := by decide +kernel
theorem dX9_sheet_5 : decode cX9_sheet 5 = .ok (.ifCond .eq 17, 3) := by decide +kernel
theorem dX9_sheet_8 : decode cX9_sheet 8 = .ok (.iload_n 2, 1) := by decide +kernel
theorem dX9_sheet_9 : decode cX9_sheet 9 = .ok (.iconst 3, 1) := by decide +kernel
theorem dX9_sheet_10 : decode cX9_sheet 10 = .ok (.invokestatic 95, 3) := by decide +kernel
theorem dX9_sheet_13 : decode cX9_sheet 13 = .ok (.ifCond .eq 9, 3) := by decide +kernel
theorem dX9_sheet_16 : decode cX9_sheet 16 = .ok (.iload_n 3, 1) := by decide +kernel
theorem dX9_sheet_17 : decode cX9_sheet 17 = .ok (.bipush 60, 2) := by decide +kernel
theorem dX9_sheet_19 : decode cX9_sheet 19 = .ok (.if_icmp .le 6, 3) := by decide +kernel
theorem dX9_sheet_22 : decode cX9_sheet 22 = .ok (.bipush (-2), 2) := by decide +kernel
theorem dX9_sheet_24 : decode cX9_sheet 24 = .ok (.ireturn, 1) := by decide +kernel
theorem dX9_sheet_25 : decode cX9_sheet 25 = .ok (.iload_n 3, 1) := by decide +kernel
theorem dX9_sheet_26 : decode cX9_sheet 26 = .ok (.ifCond .ge 9, 3) := by decide +kernel
theorem dX9_sheet_29 : decode cX9_sheet 29 = .ok (.aload_n 0, 1) := by decide +kernel
theorem dX9_sheet_30 : decode cX9_sheet 30 = .ok (.iconst 5, 1) := by decide +kernel
theorem dX9_sheet_31 : decode cX9_sheet 31 = .ok (.invokevirtual 157, 3) := by decide +kernel
theorem dX9_sheet_34 : decode cX9_sheet 34 = .ok (.ireturn, 1) := by decide +kernel
theorem dX9_sheet_35 : decode cX9_sheet 35 = .ok (.aload_n 0, 1) := by decide +kernel
theorem dX9_sheet_36 : decode cX9_sheet 36 = .ok (.getfield 70, 3) := by decide +kernel
theorem dX9_sheet_39 : decode cX9_sheet 39 = .ok (.iload_n 1, 1) := by decide +kernel
theorem dX9_sheet_40 : decode cX9_sheet 40 = .ok (.aaload, 1) := by decide +kernel
theorem dX9_sheet_41 : decode cX9_sheet 41 = .ok (.iload_n 2, 1) := by decide +kernel
theorem dX9_sheet_42 : decode cX9_sheet 42 = .ok (.iload_n 3, 1) := by decide +kernel
theorem dX9_sheet_43 : decode cX9_sheet 43 = .ok (.invokevirtual 264, 3) := by decide +kernel
theorem dX9_sheet_46 : decode cX9_sheet 46 = .ok (.iload_n 3, 1) := by decide +kernel
theorem dX9_sheet_47 : decode cX9_sheet 47 = .ok (.ireturn, 1) := by decide +kernel
theorem dX9_lose_0 : decode cX9_lose 0 = .ok (.iload_n 1, 1) := by decide +kernel
theorem dX9_lose_1 : decode cX9_lose 1 = .ok (.iconst 4, 1) := by decide +kernel
theorem dX9_lose_2 : decode cX9_lose 2 = .ok (.invokestatic 95, 3) := by decide +kernel
theorem dX9_lose_5 : decode cX9_lose 5 = .ok (.ifCond .ne 6, 3) := by decide +kernel
theorem dX9_lose_8 : decode cX9_lose 8 = .ok (.bipush (-2), 2) := by decide +kernel
theorem dX9_lose_10 : decode cX9_lose 10 = .ok (.ireturn, 1) := by decide +kernel
theorem dX9_lose_11 : decode cX9_lose 11 = .ok (.aload_n 0, 1) := by decide +kernel
theorem dX9_lose_12 : decode cX9_lose 12 = .ok (.getfield 70, 3) := by decide +kernel
theorem dX9_lose_15 : decode cX9_lose 15 = .ok (.iload_n 1, 1) := by decide +kernel
theorem dX9_lose_16 : decode cX9_lose 16 = .ok (.aaload, 1) := by decide +kernel
theorem dX9_lose_17 : decode cX9_lose 17 = .ok (.getfield 154, 3) := by decide +kernel
theorem dX9_lose_20 : decode cX9_lose 20 = .ok (.iconst (-1), 1) := by decide +kernel
theorem dX9_lose_21 : decode cX9_lose 21 = .ok (.if_icmp .ne 9, 3) := by decide +kernel
theorem dX9_lose_24 : decode cX9_lose 24 = .ok (.aload_n 0, 1) := by decide +kernel
theorem dX9_lose_25 : decode cX9_lose 25 = .ok (.iconst 1, 1) := by decide +kernel
theorem dX9_lose_26 : decode cX9_lose 26 = .ok (.invokevirtual 157, 3) := by decide +kernel
theorem dX9_lose_29 : decode cX9_lose 29 = .ok (.ireturn, 1) := by decide +kernel
theorem dX9_lose_30 : decode cX9_lose 30 = .ok (.aload_n 0, 1) := by decide +kernel
theorem dX9_lose_31 : decode cX9_lose 31 = .ok (.getfield 70, 3) := by decide +kernel
theorem dX9_lose_34 : decode cX9_lose 34 = .ok (.iload_n 1, 1) := by decide +kernel
theorem dX9_lose_35 : decode cX9_lose 35 = .ok (.aaload, 1) := by decide +kernel
theorem dX9_lose_36 : decode cX9_lose 36 = .ok (.getfield 161, 3) := by decide +kernel
theorem dX9_lose_39 : decode cX9_lose 39 = .ok (.istore_n 2, 1) := by decide +kernel
theorem dX9_lose_40 : decode cX9_lose 40 = .ok (.aload_n 0, 1) := by decide +kernel
theorem dX9_lose_41 : decode cX9_lose 41 = .ok (.getfield 70, 3) := by decide +kernel
theorem dX9_lose_44 : decode cX9_lose 44 = .ok (.iload_n 1, 1) := by decide +kernel
theorem dX9_lose_45 : decode cX9_lose 45 = .ok (.aaload, 1) := by decide +kernel
theorem dX9_lose_46 : decode cX9_lose 46 = .ok (.iconst (-1), 1) := by decide +kernel
theorem dX9_lose_47 : decode cX9_lose 47 = .ok (.iconst 0, 1) := by decide +kernel
theorem dX9_lose_48 : decode cX9_lose 48 = .ok (.invokevirtual 264, 3) := by decide +kernel
theorem dX9_lose_51 : decode cX9_lose 51 = .ok (.iload_n 2, 1) := by decide +kernel
theorem dX9_lose_52 : decode cX9_lose 52 = .ok (.ireturn, 1) := by decide +kernel
theorem dX9_put_0 : decode cX9_put 0 = .ok (.aload_n 0, 1) := by decide +kernel
theorem dX9_put_1 : decode cX9_put 1 = .ok (.iload_n 1, 1) := by decide +kernel
theorem dX9_put_2 : decode cX9_put 2 = .ok (.iload_n 2, 1) := by decide +kernel
theorem dX9_put_3 : decode cX9_put 3 = .ok (.iload_n 3, 1) := by decide +kernel
theorem dX9_put_4 : decode cX9_put 4 = .ok (.invokevirtual 267, 3) := by decide +kernel
theorem dX9_put_7 : decode cX9_put 7 = .ok (.istore 5, 2) := by decide +kernel
theorem dX9_put_9 : decode cX9_put 9 = .ok (.iload 5, 2) := by decide +kernel
theorem dX9_put_11 : decode cX9_put 11 = .ok (.ifCond .eq 6, 3) := by decide +kernel
theorem dX9_put_14 : decode cX9_put 14 = .ok (.iload 5, 2) := by decide +kernel
theorem dX9_put_16 : decode cX9_put 16 = .ok (.ireturn, 1) := by decide +kernel
theorem dX9_put_17 : decode cX9_put 17 = .ok (.aload_n 0, 1) := by decide +kernel
theorem dX9_put_18 : decode cX9_put 18 = .ok (.getfield 70, 3) := by decide +kernel
theorem dX9_put_21 : decode cX9_put 21 = .ok (.iload_n 1, 1) := by decide +kernel
theorem dX9_put_22 : decode cX9_put 22 = .ok (.aaload, 1) := by decide +kernel
theorem dX9_put_23 : decode cX9_put 23 = .ok (.iload_n 3, 1) := by decide +kernel
theorem dX9_put_24 : decode cX9_put 24 = .ok (.iload 4, 2) := by decide +kernel
theorem dX9_put_26 : decode cX9_put 26 = .ok (.invokevirtual 271, 3) := by decide +kernel
theorem dX9_put_29 : decode cX9_put 29 = .ok (.iconst 1, 1) := by decide +kernel
theorem dX9_put_30 : decode cX9_put 30 = .ok (.ireturn, 1) := by decide +kernel
theorem dX9_get_0 : decode cX9_get 0 = .ok (.aload_n 0, 1) := by decide +kernel
theorem dX9_get_1 : decode cX9_get 1 = .ok (.iload_n 1, 1) := by decide +kernel
theorem dX9_get_2 : decode cX9_get 2 = .ok (.iload_n 2, 1) := by decide +kernel
theorem dX9_get_3 : decode cX9_get 3 = .ok (.iload_n 3, 1) := by decide +kernel
theorem dX9_get_4 : decode cX9_get 4 = .ok (.invokevirtual 267, 3) := by decide +kernel
theorem dX9_get_7 : decode cX9_get 7 = .ok (.ifCond .eq 9, 3) := by decide +kernel
theorem dX9_get_10 : decode cX9_get 10 = .ok (.ldc_w 274, 3) := by decide +kernel
theorem dX9_get_13 : decode cX9_get 13 = .ok (.goto 14, 3) := by decide +kernel
theorem dX9_get_16 : decode cX9_get 16 = .ok (.aload_n 0, 1) := by decide +kernel
theorem dX9_get_17 : decode cX9_get 17 = .ok (.getfield 70, 3) := by decide +kernel
theorem dX9_get_20 : decode cX9_get 20 = .ok (.iload_n 1, 1) := by decide +kernel
theorem dX9_get_21 : decode cX9_get 21 = .ok (.aaload, 1) := by decide +kernel
theorem dX9_get_22 : decode cX9_get 22 = .ok (.getfield 164, 3) := by decide +kernel
theorem dX9_get_25 : decode cX9_get 25 = .ok (.iload_n 3, 1) := by decide +kernel
theorem dX9_get_26 : decode cX9_get 26 = .ok (.iaload, 1) := by decide +kernel
theorem dX9_get_27 : decode cX9_get 27 = .ok (.ireturn, 1) := by decide +kernel
theorem dX9_copy_0 : decode cX9_copy 0 = .ok (.iload_n 1, 1) := by decide +kernel
theorem dX9_copy_1 : decode cX9_copy 1 = .ok (.iconst 4, 1) := by decide +kernel
theorem dX9_copy_2 : decode cX9_copy 2 = .ok (.invokestatic 95, 3) := by decide +kernel
theorem dX9_copy_5 : decode cX9_copy 5 = .ok (.ifCond .eq 11, 3) := by decide +kernel
theorem dX9_copy_8 : decode cX9_copy 8 = .ok (.iload_n 3, 1) := by decide +kernel
theorem dX9_copy_9 : decode cX9_copy 9 = .ok (.iconst 4, 1) := by decide +kernel
theorem dX9_copy_10 : decode cX9_copy 10 = .ok (.invokestatic 95, 3) := by decide +kernel
theorem dX9_copy_13 : decode cX9_copy 13 = .ok (.ifCond .ne 6, 3) := by decide +kernel
theorem dX9_copy_16 : decode cX9_copy 16 = .ok (.bipush (-2), 2) := by decide +kernel
theorem dX9_copy_18 : decode cX9_copy 18 = .ok (.ireturn, 1) := by decide +kernel
theorem dX9_copy_19 : decode cX9_copy 19 = .ok (.aload_n 0, 1) := by decide +kernel
theorem dX9_copy_20 : decode cX9_copy 20 = .ok (.getfield 70, 3) := by decide +kernel
theorem dX9_copy_23 : decode cX9_copy 23 = .ok (.iload_n 1, 1) := by decide +kernel
theorem dX9_copy_24 : decode cX9_copy 24 = .ok (.aaload, 1) := by decide +kernel
theorem dX9_copy_25 : decode cX9_copy 25 = .ok (.astore 6, 2) := by decide +kernel
theorem dX9_copy_27 : decode cX9_copy 27 = .ok (.aload_n 0, 1) := by decide +kernel
theorem dX9_copy_28 : decode cX9_copy 28 = .ok (.getfield 70, 3) := by decide +kernel
theorem dX9_copy_31 : decode cX9_copy 31 = .ok (.iload_n 3, 1) := by decide +kernel
theorem dX9_copy_32 : decode cX9_copy 32 = .ok (.aaload, 1) := by decide +kernel
theorem dX9_copy_33 : decode cX9_copy 33 = .ok (.astore 7, 2) := by decide +kernel
theorem dX9_copy_35 : decode cX9_copy 35 = .ok (.aload 6, 2) := by decide +kernel
theorem dX9_copy_37 : decode cX9_copy 37 = .ok (.getfield 154, 3) := by decide +kernel
theorem dX9_copy_40 : decode cX9_copy 40 = .ok (.iconst (-1), 1) := by decide +kernel
theorem dX9_copy_41 : decode cX9_copy 41 = .ok (.if_icmp .eq 12, 3) := by decide +kernel
theorem dX9_copy_44 : decode cX9_copy 44 = .ok (.aload 7, 2) := by decide +kernel
theorem dX9_copy_46 : decode cX9_copy 46 = .ok (.getfield 154, 3) := by decide +kernel
theorem dX9_copy_49 : decode cX9_copy 49 = .ok (.iconst (-1), 1) := by decide +kernel
theorem dX9_copy_50 : decode cX9_copy 50 = .ok (.if_icmp .ne 9, 3) := by decide +kernel
theorem dX9_copy_53 : decode cX9_copy 53 = .ok (.aload_n 0, 1) := by decide +kernel
theorem dX9_copy_54 : decode cX9_copy 54 = .ok (.iconst 1, 1) := by decide +kernel
theorem dX9_copy_55 : decode cX9_copy 55 = .ok (.invokevirtual 157, 3) := by decide +kernel
theorem dX9_copy_58 : decode cX9_copy 58 = .ok (.ireturn, 1) := by decide +kernel
theorem dX9_copy_59 : decode cX9_copy 59 = .ok (.aload 6, 2) := by decide +kernel
theorem dX9_copy_61 : decode cX9_copy 61 = .ok (.getfield 154, 3) := by decide +kernel
theorem dX9_copy_64 : decode cX9_copy 64 = .ok (.aload 7, 2) := by decide +kernel
theorem dX9_copy_66 : decode cX9_copy 66 = .ok (.getfield 154, 3) := by decide +kernel
theorem dX9_copy_69 : decode cX9_copy 69 = .ok (.if_icmp .eq 9, 3) := by decide +kernel
theorem dX9_copy_72 : decode cX9_copy 72 = .ok (.aload_n 0, 1) := by decide +kernel
theorem dX9_copy_73 : decode cX9_copy 73 = .ok (.iconst 4, 1) := by decide +kernel
theorem dX9_copy_74 : decode cX9_copy 74 = .ok (.invokevirtual 157, 3) := by decide +kernel
theorem dX9_copy_77 : decode cX9_copy 77 = .ok (.ireturn, 1) := by decide +kernel
theorem dX9_copy_78 : decode cX9_copy 78 = .ok (.aload 6, 2) := by decide +kernel
theorem dX9_copy_80 : decode cX9_copy 80 = .ok (.iload_n 2, 1) := by decide +kernel
theorem dX9_copy_81 : decode cX9_copy 81 = .ok (.iload 5, 2) := by decide +kernel
theorem dX9_copy_83 : decode cX9_copy 83 = .ok (.invokevirtual 275, 3) := by decide +kernel
theorem dX9_copy_86 : decode cX9_copy 86 = .ok (.ifCond .eq 15, 3) := by decide +kernel
theorem dX9_copy_89 : decode cX9_copy 89 = .ok (.aload 7, 2) := by decide +kernel
theorem dX9_copy_91 : decode cX9_copy 91 = .ok (.iload 4, 2) := by decide +kernel
theorem dX9_copy_93 : decode cX9_copy 93 = .ok (.iload 5, 2) := by decide +kernel
theorem dX9_copy_95 : decode cX9_copy 95 = .ok (.invokevirtual 275, 3) := by decide +kernel
theorem dX9_copy_98 : decode cX9_copy 98 = .ok (.ifCond .ne 9, 3) := by decide +kernel
theorem dX9_copy_101 : decode cX9_copy 101 = .ok (.aload_n 0, 1) := by decide +kernel
theorem dX9_copy_102 : decode cX9_copy 102 = .ok (.iconst 2, 1) := by decide +kernel
theorem dX9_copy_103 : decode cX9_copy 103 = .ok (.invokevirtual 157, 3) := by decide +kernel
theorem dX9_copy_106 : decode cX9_copy 106 = .ok (.ireturn, 1) := by decide +kernel
theorem dX9_copy_107 : decode cX9_copy 107 = .ok (.aload 6, 2) := by decide +kernel
theorem dX9_copy_109 : decode cX9_copy 109 = .ok (.getfield 164, 3) := by decide +kernel
theorem dX9_copy_112 : decode cX9_copy 112 = .ok (.iload_n 2, 1) := by decide +kernel
theorem dX9_copy_113 : decode cX9_copy 113 = .ok (.aload 7, 2) := by decide +kernel
theorem dX9_copy_115 : decode cX9_copy 115 = .ok (.getfield 164, 3) := by decide +kernel
theorem dX9_copy_118 : decode cX9_copy 118 = .ok (.iload 4, 2) := by decide +kernel
theorem dX9_copy_120 : decode cX9_copy 120 = .ok (.iload 5, 2) := by decide +kernel
theorem dX9_copy_122 : decode cX9_copy 122 = .ok (.invokestatic 278, 3) := by decide +kernel
theorem dX9_copy_125 : decode cX9_copy 125 = .ok (.iconst 1, 1) := by decide +kernel
theorem dX9_copy_126 : decode cX9_copy 126 = .ok (.ireturn, 1) := by decide +kernel
theorem dX9_write_0 : decode cX9_write 0 = .ok (.iload_n 1, 1) := by decide +kernel
theorem dX9_write_1 : decode cX9_write 1 = .ok (.iconst 4, 1) := by decide +kernel
theorem dX9_write_2 : decode cX9_write 2 = .ok (.invokestatic 95, 3) := by decide +kernel
theorem dX9_write_5 : decode cX9_write 5 = .ok (.ifCond .ne 6, 3) := by decide +kernel
theorem dX9_write_8 : decode cX9_write 8 = .ok (.bipush (-2), 2) := by decide +kernel
theorem dX9_write_10 : decode cX9_write 10 = .ok (.ireturn, 1) := by decide +kernel
theorem dX9_write_11 : decode cX9_write 11 = .ok (.aload_n 0, 1) := by decide +kernel
theorem dX9_write_12 : decode cX9_write 12 = .ok (.getfield 70, 3) := by decide +kernel
theorem dX9_write_15 : decode cX9_write 15 = .ok (.iload_n 1, 1) := by decide +kernel
theorem dX9_write_16 : decode cX9_write 16 = .ok (.aaload, 1) := by decide +kernel
theorem dX9_write_17 : decode cX9_write 17 = .ok (.getfield 154, 3) := by decide +kernel
theorem dX9_write_20 : decode cX9_write 20 = .ok (.iconst (-1), 1) := by decide +kernel
theorem dX9_write_21 : decode cX9_write 21 = .ok (.if_icmp .ne 9, 3) := by decide +kernel
theorem dX9_write_24 : decode cX9_write 24 = .ok (.aload_n 0, 1) := by decide +kernel
theorem dX9_write_25 : decode cX9_write 25 = .ok (.iconst 1, 1) := by decide +kernel
theorem dX9_write_26 : decode cX9_write 26 = .ok (.invokevirtual 157, 3) := by decide +kernel
theorem dX9_write_29 : decode cX9_write 29 = .ok (.ireturn, 1) := by decide +kernel
theorem dX9_write_30 : decode cX9_write 30 = .ok (.aload_n 0, 1) := by decide +kernel
theorem dX9_write_31 : decode cX9_write 31 = .ok (.getfield 70, 3) := by decide +kernel
theorem dX9_write_34 : decode cX9_write 34 = .ok (.iload_n 1, 1) := by decide +kernel
theorem dX9_write_35 : decode cX9_write 35 = .ok (.aaload, 1) := by decide +kernel
theorem dX9_write_36 : decode cX9_write 36 = .ok (.getfield 161, 3) := by decide +kernel
theorem dX9_write_39 : decode cX9_write 39 = .ok (.bipush 10, 2) := by decide +kernel
theorem dX9_write_41 : decode cX9_write 41 = .ok (.invokestatic 284, 3) := by decide +kernel
theorem dX9_write_44 : decode cX9_write 44 = .ok (.istore_n 2, 1) := by decide +kernel
theorem dX9_write_45 : decode cX9_write 45 = .ok (.iconst 0, 1) := by decide +kernel
theorem dX9_write_46 : decode cX9_write 46 = .ok (.istore_n 3, 1) := by decide +kernel
theorem dX9_write_47 : decode cX9_write 47 = .ok (.iload_n 3, 1) := by decide +kernel
theorem dX9_write_48 : decode cX9_write 48 = .ok (.iload_n 2, 1) := by decide +kernel
theorem dX9_write_49 : decode cX9_write 49 = .ok (.if_icmp .ge 24, 3) := by decide +kernel
theorem dX9_write_52 : decode cX9_write 52 = .ok (.aload_n 0, 1) := by decide +kernel
theorem dX9_write_53 : decode cX9_write 53 = .ok (.getfield 70, 3) := by decide +kernel
theorem dX9_write_56 : decode cX9_write 56 = .ok (.iload_n 1, 1) := by decide +kernel
theorem dX9_write_57 : decode cX9_write 57 = .ok (.aaload, 1) := by decide +kernel
theorem dX9_write_58 : decode cX9_write 58 = .ok (.iload_n 3, 1) := by decide +kernel
theorem dX9_write_59 : decode cX9_write 59 = .ok (.aload_n 0, 1) := by decide +kernel
theorem dX9_write_60 : decode cX9_write 60 = .ok (.iload_n 3, 1) := by decide +kernel
theorem dX9_write_61 : decode cX9_write 61 = .ok (.invokevirtual 167, 3) := by decide +kernel
theorem dX9_write_64 : decode cX9_write 64 = .ok (.invokevirtual 271, 3) := by decide +kernel
theorem dX9_write_67 : decode cX9_write 67 = .ok (.iinc 3 1, 3) := by decide +kernel
theorem dX9_write_70 : decode cX9_write 70 = .ok (.goto (-23), 3) := by decide +kernel
theorem dX9_write_73 : decode cX9_write 73 = .ok (.iload_n 2, 1) := by decide +kernel
theorem dX9_write_74 : decode cX9_write 74 = .ok (.ireturn, 1) := by decide +kernel
theorem dX9_count_0 : decode cX9_count 0 = .ok (.iload_n 1, 1) := by decide +kernel
theorem dX9_count_1 : decode cX9_count 1 = .ok (.tableswitch 124 0 8 #[51, 59, 67, 77, 87, 95, 103, 111, 119], 51) := by decide +kernel
theorem dX9_count_52 : decode cX9_count 52 = .ok (.aload_n 0, 1) := by decide +kernel
theorem dX9_count_53 : decode cX9_count 53 = .ok (.getfield 18, 3) := by decide +kernel
theorem dX9_count_56 : decode cX9_count 56 = .ok (.getfield 202, 3) := by decide +kernel
theorem dX9_count_59 : decode cX9_count 59 = .ok (.ireturn, 1) := by decide +kernel
theorem dX9_count_60 : decode cX9_count 60 = .ok (.aload_n 0, 1) := by decide +kernel
theorem dX9_count_61 : decode cX9_count 61 = .ok (.getfield 25, 3) := by decide +kernel
theorem dX9_count_64 : decode cX9_count 64 = .ok (.getfield 132, 3) := by decide +kernel
theorem dX9_count_67 : decode cX9_count 67 = .ok (.ireturn, 1) := by decide +kernel
theorem dX9_count_68 : decode cX9_count 68 = .ok (.aload_n 0, 1) := by decide +kernel
theorem dX9_count_69 : decode cX9_count 69 = .ok (.getfield 11, 3) := by decide +kernel
theorem dX9_count_72 : decode cX9_count 72 = .ok (.iconst 0, 1) := by decide +kernel
theorem dX9_count_73 : decode cX9_count 73 = .ok (.aaload, 1) := by decide +kernel
theorem dX9_count_74 : decode cX9_count 74 = .ok (.getfield 106, 3) := by decide +kernel
theorem dX9_count_77 : decode cX9_count 77 = .ok (.ireturn, 1) := by decide +kernel
theorem dX9_count_78 : decode cX9_count 78 = .ok (.aload_n 0, 1) := by decide +kernel
theorem dX9_count_79 : decode cX9_count 79 = .ok (.getfield 11, 3) := by decide +kernel
theorem dX9_count_82 : decode cX9_count 82 = .ok (.iconst 1, 1) := by decide +kernel
theorem dX9_count_83 : decode cX9_count 83 = .ok (.aaload, 1) := by decide +kernel
theorem dX9_count_84 : decode cX9_count 84 = .ok (.getfield 106, 3) := by decide +kernel
theorem dX9_count_87 : decode cX9_count 87 = .ok (.ireturn, 1) := by decide +kernel
theorem dX9_count_88 : decode cX9_count 88 = .ok (.aload_n 0, 1) := by decide +kernel
theorem dX9_count_89 : decode cX9_count 89 = .ok (.getfield 32, 3) := by decide +kernel
theorem dX9_count_92 : decode cX9_count 92 = .ok (.getfield 151, 3) := by decide +kernel
theorem dX9_count_95 : decode cX9_count 95 = .ok (.ireturn, 1) := by decide +kernel
theorem dX9_count_96 : decode cX9_count 96 = .ok (.aload_n 0, 1) := by decide +kernel
theorem dX9_count_97 : decode cX9_count 97 = .ok (.getfield 39, 3) := by decide +kernel
theorem dX9_count_100 : decode cX9_count 100 = .ok (.getfield 153, 3) := by decide +kernel
theorem dX9_count_103 : decode cX9_count 103 = .ok (.ireturn, 1) := by decide +kernel
theorem dX9_count_104 : decode cX9_count 104 = .ok (.aload_n 0, 1) := by decide +kernel
theorem dX9_count_105 : decode cX9_count 105 = .ok (.getfield 18, 3) := by decide +kernel
theorem dX9_count_108 : decode cX9_count 108 = .ok (.invokevirtual 287, 3) := by decide +kernel
theorem dX9_count_111 : decode cX9_count 111 = .ok (.ireturn, 1) := by decide +kernel
theorem dX9_count_112 : decode cX9_count 112 = .ok (.aload_n 0, 1) := by decide +kernel
theorem dX9_count_113 : decode cX9_count 113 = .ok (.getfield 46, 3) := by decide +kernel
theorem dX9_count_116 : decode cX9_count 116 = .ok (.getfield 241, 3) := by decide +kernel
theorem dX9_count_119 : decode cX9_count 119 = .ok (.ireturn, 1) := by decide +kernel
theorem dX9_count_120 : decode cX9_count 120 = .ok (.aload_n 0, 1) := by decide +kernel
theorem dX9_count_121 : decode cX9_count 121 = .ok (.getfield 87, 3) := by decide +kernel
theorem dX9_count_124 : decode cX9_count 124 = .ok (.ireturn, 1) := by decide +kernel
theorem dX9_count_125 : decode cX9_count 125 = .ok (.bipush (-2), 2) := by decide +kernel
theorem dX9_count_127 : decode cX9_count 127 = .ok (.ireturn, 1) := by decide +kernel
theorem dX9_digest_0 : decode cX9_digest 0 = .ok (.ldc2_w 290, 3) := by decide +kernel
theorem dX9_digest_3 : decode cX9_digest 3 = .ok (.lstore_n 1, 1) := by decide +kernel
theorem dX9_digest_4 : decode cX9_digest 4 = .ok (.iconst 0, 1) := by decide +kernel
theorem dX9_digest_5 : decode cX9_digest 5 = .ok (.istore_n 3, 1) := by decide +kernel
theorem dX9_digest_6 : decode cX9_digest 6 = .ok (.iload_n 3, 1) := by decide +kernel
theorem dX9_digest_7 : decode cX9_digest 7 = .ok (.bipush 7, 2) := by decide +kernel
theorem dX9_digest_9 : decode cX9_digest 9 = .ok (.if_icmp .gt 22, 3) := by decide +kernel
theorem dX9_digest_12 : decode cX9_digest 12 = .ok (.ldc2_w 292, 3) := by decide +kernel
theorem dX9_digest_15 : decode cX9_digest 15 = .ok (.lload_n 1, 1) := by decide +kernel
theorem dX9_digest_16 : decode cX9_digest 16 = .ok (.lmul, 1) := by decide +kernel
theorem dX9_digest_17 : decode cX9_digest 17 = .ok (.aload_n 0, 1) := by decide +kernel
theorem dX9_digest_18 : decode cX9_digest 18 = .ok (.iload_n 3, 1) := by decide +kernel
theorem dX9_digest_19 : decode cX9_digest 19 = .ok (.invokevirtual 294, 3) := by decide +kernel
theorem dX9_digest_22 : decode cX9_digest 22 = .ok (.i2l, 1) := by decide +kernel
theorem dX9_digest_23 : decode cX9_digest 23 = .ok (.ladd, 1) := by decide +kernel
theorem dX9_digest_24 : decode cX9_digest 24 = .ok (.lstore_n 1, 1) := by decide +kernel
theorem dX9_digest_25 : decode cX9_digest 25 = .ok (.iinc 3 1, 3) := by decide +kernel
theorem dX9_digest_28 : decode cX9_digest 28 = .ok (.goto (-22), 3) := by decide +kernel
theorem dX9_digest_31 : decode cX9_digest 31 = .ok (.iconst 0, 1) := by decide +kernel
theorem dX9_digest_32 : decode cX9_digest 32 = .ok (.istore_n 3, 1) := by decide +kernel
theorem dX9_digest_33 : decode cX9_digest 33 = .ok (.iload_n 3, 1) := by decide +kernel
theorem dX9_digest_34 : decode cX9_digest 34 = .ok (.iconst 2, 1) := by decide +kernel
theorem dX9_digest_35 : decode cX9_digest 35 = .ok (.if_icmp .ge 22, 3) := by decide +kernel
theorem dX9_digest_38 : decode cX9_digest 38 = .ok (.ldc2_w 292, 3) := by decide +kernel
theorem dX9_digest_41 : decode cX9_digest 41 = .ok (.lload_n 1, 1) := by decide +kernel
theorem dX9_digest_42 : decode cX9_digest 42 = .ok (.lmul, 1) := by decide +kernel
theorem dX9_digest_43 : decode cX9_digest 43 = .ok (.aload_n 0, 1) := by decide +kernel
theorem dX9_digest_44 : decode cX9_digest 44 = .ok (.iload_n 3, 1) := by decide +kernel
theorem dX9_digest_45 : decode cX9_digest 45 = .ok (.invokevirtual 297, 3) := by decide +kernel
theorem dX9_digest_48 : decode cX9_digest 48 = .ok (.i2l, 1) := by decide +kernel
theorem dX9_digest_49 : decode cX9_digest 49 = .ok (.ladd, 1) := by decide +kernel
theorem dX9_digest_50 : decode cX9_digest 50 = .ok (.lstore_n 1, 1) := by decide +kernel
theorem dX9_digest_51 : decode cX9_digest 51 = .ok (.iinc 3 1, 3) := by decide +kernel
theorem dX9_digest_54 : decode cX9_digest 54 = .ok (.goto (-21), 3) := by decide +kernel
theorem dX9_digest_57 : decode cX9_digest 57 = .ok (.iconst 0, 1) := by decide +kernel
theorem dX9_digest_58 : decode cX9_digest 58 = .ok (.istore_n 3, 1) := by decide +kernel
theorem dX9_digest_59 : decode cX9_digest 59 = .ok (.iload_n 3, 1) := by decide +kernel
theorem dX9_digest_60 : decode cX9_digest 60 = .ok (.aload_n 0, 1) := by decide +kernel
theorem dX9_digest_61 : decode cX9_digest 61 = .ok (.getfield 18, 3) := by decide +kernel
theorem dX9_digest_64 : decode cX9_digest 64 = .ok (.getfield 202, 3) := by decide +kernel
theorem dX9_digest_67 : decode cX9_digest 67 = .ok (.if_icmp .ge 16, 3) := by decide +kernel
theorem dX9_digest_70 : decode cX9_digest 70 = .ok (.aload_n 0, 1) := by decide +kernel
theorem dX9_digest_71 : decode cX9_digest 71 = .ok (.lload_n 1, 1) := by decide +kernel
theorem dX9_digest_72 : decode cX9_digest 72 = .ok (.iload_n 3, 1) := by decide +kernel
theorem dX9_digest_73 : decode cX9_digest 73 = .ok (.invokevirtual 299, 3) := by decide +kernel
theorem dX9_digest_76 : decode cX9_digest 76 = .ok (.lstore_n 1, 1) := by decide +kernel
theorem dX9_digest_77 : decode cX9_digest 77 = .ok (.iinc 3 1, 3) := by decide +kernel
theorem dX9_digest_80 : decode cX9_digest 80 = .ok (.goto (-21), 3) := by decide +kernel
theorem dX9_digest_83 : decode cX9_digest 83 = .ok (.iconst 0, 1) := by decide +kernel
theorem dX9_digest_84 : decode cX9_digest 84 = .ok (.istore_n 3, 1) := by decide +kernel
theorem dX9_digest_85 : decode cX9_digest 85 = .ok (.iload_n 3, 1) := by decide +kernel
theorem dX9_digest_86 : decode cX9_digest 86 = .ok (.bipush 10, 2) := by decide +kernel
theorem dX9_digest_88 : decode cX9_digest 88 = .ok (.if_icmp .ge 16, 3) := by decide +kernel
theorem dX9_digest_91 : decode cX9_digest 91 = .ok (.aload_n 0, 1) := by decide +kernel
theorem dX9_digest_92 : decode cX9_digest 92 = .ok (.lload_n 1, 1) := by decide +kernel
theorem dX9_digest_93 : decode cX9_digest 93 = .ok (.iload_n 3, 1) := by decide +kernel
theorem dX9_digest_94 : decode cX9_digest 94 = .ok (.invokevirtual 303, 3) := by decide +kernel
theorem dX9_digest_97 : decode cX9_digest 97 = .ok (.lstore_n 1, 1) := by decide +kernel
theorem dX9_digest_98 : decode cX9_digest 98 = .ok (.iinc 3 1, 3) := by decide +kernel
theorem dX9_digest_101 : decode cX9_digest 101 = .ok (.goto (-16), 3) := by decide +kernel
theorem dX9_digest_104 : decode cX9_digest 104 = .ok (.aload_n 0, 1) := by decide +kernel
theorem dX9_digest_105 : decode cX9_digest 105 = .ok (.lload_n 1, 1) := by decide +kernel
theorem dX9_digest_106 : decode cX9_digest 106 = .ok (.invokevirtual 306, 3) := by decide +kernel
theorem dX9_digest_109 : decode cX9_digest 109 = .ok (.lreturn, 1) := by decide +kernel
theorem dX9_digestMember_0 : decode cX9_digestMember 0 = .ok (.lload_n 1, 1) := by decide +kernel
theorem dX9_digestMember_1 : decode cX9_digestMember 1 = .ok (.lstore 4, 2) := by decide +kernel
theorem dX9_digestMember_3 : decode cX9_digestMember 3 = .ok (.iconst 0, 1) := by decide +kernel
theorem dX9_digestMember_4 : decode cX9_digestMember 4 = .ok (.istore 6, 2) := by decide +kernel
theorem dX9_digestMember_6 : decode cX9_digestMember 6 = .ok (.iload 6, 2) := by decide +kernel
theorem dX9_digestMember_8 : decode cX9_digestMember 8 = .ok (.iconst 4, 1) := by decide +kernel
theorem dX9_digestMember_9 : decode cX9_digestMember 9 = .ok (.if_icmp .gt 26, 3) := by decide +kernel
theorem dX9_digestMember_12 : decode cX9_digestMember 12 = .ok (.ldc2_w 292, 3) := by decide +kernel
theorem dX9_digestMember_15 : decode cX9_digestMember 15 = .ok (.lload 4, 2) := by decide +kernel
theorem dX9_digestMember_17 : decode cX9_digestMember 17 = .ok (.lmul, 1) := by decide +kernel
theorem dX9_digestMember_18 : decode cX9_digestMember 18 = .ok (.aload_n 0, 1) := by decide +kernel
theorem dX9_digestMember_19 : decode cX9_digestMember 19 = .ok (.iload_n 3, 1) := by decide +kernel
theorem dX9_digestMember_20 : decode cX9_digestMember 20 = .ok (.iload 6, 2) := by decide +kernel
theorem dX9_digestMember_22 : decode cX9_digestMember 22 = .ok (.invokevirtual 310, 3) := by decide +kernel
theorem dX9_digestMember_25 : decode cX9_digestMember 25 = .ok (.i2l, 1) := by decide +kernel
theorem dX9_digestMember_26 : decode cX9_digestMember 26 = .ok (.ladd, 1) := by decide +kernel
theorem dX9_digestMember_27 : decode cX9_digestMember 27 = .ok (.lstore 4, 2) := by decide +kernel
theorem dX9_digestMember_29 : decode cX9_digestMember 29 = .ok (.iinc 6 1, 3) := by decide +kernel
theorem dX9_digestMember_32 : decode cX9_digestMember 32 = .ok (.goto (-26), 3) := by decide +kernel
theorem dX9_digestMember_35 : decode cX9_digestMember 35 = .ok (.getstatic 313, 3) := by decide +kernel
theorem dX9_digestMember_38 : decode cX9_digestMember 38 = .ok (.astore 6, 2) := by decide +kernel
theorem dX9_digestMember_40 : decode cX9_digestMember 40 = .ok (.aload 6, 2) := by decide +kernel
theorem dX9_digestMember_42 : decode cX9_digestMember 42 = .ok (.arraylength, 1) := by decide +kernel
theorem dX9_digestMember_43 : decode cX9_digestMember 43 = .ok (.istore 7, 2) := by decide +kernel
theorem dX9_digestMember_45 : decode cX9_digestMember 45 = .ok (.iconst 0, 1) := by decide +kernel
theorem dX9_digestMember_46 : decode cX9_digestMember 46 = .ok (.istore 8, 2) := by decide +kernel
theorem dX9_digestMember_48 : decode cX9_digestMember 48 = .ok (.iload 8, 2) := by decide +kernel
theorem dX9_digestMember_50 : decode cX9_digestMember 50 = .ok (.iload 7, 2) := by decide +kernel
theorem dX9_digestMember_52 : decode cX9_digestMember 52 = .ok (.if_icmp .ge 67, 3) := by decide +kernel
theorem dX9_digestMember_55 : decode cX9_digestMember 55 = .ok (.aload 6, 2) := by decide +kernel
theorem dX9_digestMember_57 : decode cX9_digestMember 57 = .ok (.iload 8, 2) := by decide +kernel
theorem dX9_digestMember_59 : decode cX9_digestMember 59 = .ok (.iaload, 1) := by decide +kernel
theorem dX9_digestMember_60 : decode cX9_digestMember 60 = .ok (.istore 9, 2) := by decide +kernel
theorem dX9_digestMember_62 : decode cX9_digestMember 62 = .ok (.iconst 0, 1) := by decide +kernel
theorem dX9_digestMember_63 : decode cX9_digestMember 63 = .ok (.istore 10, 2) := by decide +kernel
theorem dX9_digestMember_65 : decode cX9_digestMember 65 = .ok (.iload 10, 2) := by decide +kernel
theorem dX9_digestMember_67 : decode cX9_digestMember 67 = .ok (.iconst 2, 1) := by decide +kernel
theorem dX9_digestMember_68 : decode cX9_digestMember 68 = .ok (.if_icmp .gt 28, 3) := by decide +kernel
theorem dX9_digestMember_71 : decode cX9_digestMember 71 = .ok (.ldc2_w 292, 3) := by decide +kernel
theorem dX9_digestMember_74 : decode cX9_digestMember 74 = .ok (.lload 4, 2) := by decide +kernel
theorem dX9_digestMember_76 : decode cX9_digestMember 76 = .ok (.lmul, 1) := by decide +kernel
theorem dX9_digestMember_77 : decode cX9_digestMember 77 = .ok (.aload_n 0, 1) := by decide +kernel
theorem dX9_digestMember_78 : decode cX9_digestMember 78 = .ok (.iload 9, 2) := by decide +kernel
theorem dX9_digestMember_80 : decode cX9_digestMember 80 = .ok (.iload_n 3, 1) := by decide +kernel
theorem dX9_digestMember_81 : decode cX9_digestMember 81 = .ok (.iload 10, 2) := by decide +kernel
theorem dX9_digestMember_83 : decode cX9_digestMember 83 = .ok (.invokevirtual 316, 3) := by decide +kernel
theorem dX9_digestMember_86 : decode cX9_digestMember 86 = .ok (.i2l, 1) := by decide +kernel
theorem dX9_digestMember_87 : decode cX9_digestMember 87 = .ok (.ladd, 1) := by decide +kernel
theorem dX9_digestMember_88 : decode cX9_digestMember 88 = .ok (.lstore 4, 2) := by decide +kernel
theorem dX9_digestMember_90 : decode cX9_digestMember 90 = .ok (.iinc 10 1, 3) := by decide +kernel
theorem dX9_digestMember_93 : decode cX9_digestMember 93 = .ok (.goto (-28), 3) := by decide +kernel
theorem dX9_digestMember_96 : decode cX9_digestMember 96 = .ok (.ldc2_w 292, 3) := by decide +kernel
theorem dX9_digestMember_99 : decode cX9_digestMember 99 = .ok (.lload 4, 2) := by decide +kernel
theorem dX9_digestMember_101 : decode cX9_digestMember 101 = .ok (.lmul, 1) := by decide +kernel
theorem dX9_digestMember_102 : decode cX9_digestMember 102 = .ok (.aload_n 0, 1) := by decide +kernel
theorem dX9_digestMember_103 : decode cX9_digestMember 103 = .ok (.iload 9, 2) := by decide +kernel
theorem dX9_digestMember_105 : decode cX9_digestMember 105 = .ok (.iload_n 3, 1) := by decide +kernel
theorem dX9_digestMember_106 : decode cX9_digestMember 106 = .ok (.invokevirtual 319, 3) := by decide +kernel
theorem dX9_digestMember_109 : decode cX9_digestMember 109 = .ok (.i2l, 1) := by decide +kernel
theorem dX9_digestMember_110 : decode cX9_digestMember 110 = .ok (.ladd, 1) := by decide +kernel
theorem dX9_digestMember_111 : decode cX9_digestMember 111 = .ok (.lstore 4, 2) := by decide +kernel
theorem dX9_digestMember_113 : decode cX9_digestMember 113 = .ok (.iinc 8 1, 3) := by decide +kernel
theorem dX9_digestMember_116 : decode cX9_digestMember 116 = .ok (.goto (-68), 3) := by decide +kernel
theorem dX9_digestMember_119 : decode cX9_digestMember 119 = .ok (.ldc2_w 292, 3) := by decide +kernel
theorem dX9_digestMember_122 : decode cX9_digestMember 122 = .ok (.lload 4, 2) := by decide +kernel
theorem dX9_digestMember_124 : decode cX9_digestMember 124 = .ok (.lmul, 1) := by decide +kernel
theorem dX9_digestMember_125 : decode cX9_digestMember 125 = .ok (.aload_n 0, 1) := by decide +kernel
theorem dX9_digestMember_126 : decode cX9_digestMember 126 = .ok (.iload_n 3, 1) := by decide +kernel
theorem dX9_digestMember_127 : decode cX9_digestMember 127 = .ok (.iconst 0, 1) := by decide +kernel
theorem dX9_digestMember_128 : decode cX9_digestMember 128 = .ok (.invokevirtual 322, 3) := by decide +kernel
theorem dX9_digestMember_131 : decode cX9_digestMember 131 = .ok (.ladd, 1) := by decide +kernel
theorem dX9_digestMember_132 : decode cX9_digestMember 132 = .ok (.lstore 4, 2) := by decide +kernel
theorem dX9_digestMember_134 : decode cX9_digestMember 134 = .ok (.ldc2_w 292, 3) := by decide +kernel
theorem dX9_digestMember_137 : decode cX9_digestMember 137 = .ok (.lload 4, 2) := by decide +kernel
theorem dX9_digestMember_139 : decode cX9_digestMember 139 = .ok (.lmul, 1) := by decide +kernel
theorem dX9_digestMember_140 : decode cX9_digestMember 140 = .ok (.aload_n 0, 1) := by decide +kernel
theorem dX9_digestMember_141 : decode cX9_digestMember 141 = .ok (.iload_n 3, 1) := by decide +kernel
theorem dX9_digestMember_142 : decode cX9_digestMember 142 = .ok (.iconst 1, 1) := by decide +kernel
theorem dX9_digestMember_143 : decode cX9_digestMember 143 = .ok (.invokevirtual 322, 3) := by decide +kernel
theorem dX9_digestMember_146 : decode cX9_digestMember 146 = .ok (.ladd, 1) := by decide +kernel
theorem dX9_digestMember_147 : decode cX9_digestMember 147 = .ok (.lstore 4, 2) := by decide +kernel
theorem dX9_digestMember_149 : decode cX9_digestMember 149 = .ok (.aload_n 0, 1) := by decide +kernel
theorem dX9_digestMember_150 : decode cX9_digestMember 150 = .ok (.iload_n 3, 1) := by decide +kernel
theorem dX9_digestMember_151 : decode cX9_digestMember 151 = .ok (.invokevirtual 246, 3) := by decide +kernel
theorem dX9_digestMember_154 : decode cX9_digestMember 154 = .ok (.istore 6, 2) := by decide +kernel
theorem dX9_digestMember_156 : decode cX9_digestMember 156 = .ok (.ldc2_w 292, 3) := by decide +kernel
theorem dX9_digestMember_159 : decode cX9_digestMember 159 = .ok (.lload 4, 2) := by decide +kernel
theorem dX9_digestMember_161 : decode cX9_digestMember 161 = .ok (.lmul, 1) := by decide +kernel
theorem dX9_digestMember_162 : decode cX9_digestMember 162 = .ok (.iload 6, 2) := by decide +kernel
theorem dX9_digestMember_164 : decode cX9_digestMember 164 = .ok (.i2l, 1) := by decide +kernel
theorem dX9_digestMember_165 : decode cX9_digestMember 165 = .ok (.ladd, 1) := by decide +kernel
theorem dX9_digestMember_166 : decode cX9_digestMember 166 = .ok (.lstore 4, 2) := by decide +kernel
theorem dX9_digestMember_168 : decode cX9_digestMember 168 = .ok (.ldc2_w 292, 3) := by decide +kernel
theorem dX9_digestMember_171 : decode cX9_digestMember 171 = .ok (.lload 4, 2) := by decide +kernel
theorem dX9_digestMember_173 : decode cX9_digestMember 173 = .ok (.lmul, 1) := by decide +kernel
theorem dX9_digestMember_174 : decode cX9_digestMember 174 = .ok (.aload_n 0, 1) := by decide +kernel
theorem dX9_digestMember_175 : decode cX9_digestMember 175 = .ok (.iload_n 3, 1) := by decide +kernel
theorem dX9_digestMember_176 : decode cX9_digestMember 176 = .ok (.iload 6, 2) := by decide +kernel
theorem dX9_digestMember_178 : decode cX9_digestMember 178 = .ok (.invokevirtual 249, 3) := by decide +kernel
theorem dX9_digestMember_181 : decode cX9_digestMember 181 = .ok (.i2l, 1) := by decide +kernel
theorem dX9_digestMember_182 : decode cX9_digestMember 182 = .ok (.ladd, 1) := by decide +kernel
theorem dX9_digestMember_183 : decode cX9_digestMember 183 = .ok (.lreturn, 1) := by decide +kernel
theorem dX9_digestNight_0 : decode cX9_digestNight 0 = .ok (.lload_n 1, 1) := by decide +kernel
theorem dX9_digestNight_1 : decode cX9_digestNight 1 = .ok (.lstore 4, 2) := by decide +kernel
theorem dX9_digestNight_3 : decode cX9_digestNight 3 = .ok (.iconst 0, 1) := by decide +kernel
theorem dX9_digestNight_4 : decode cX9_digestNight 4 = .ok (.istore 6, 2) := by decide +kernel
theorem dX9_digestNight_6 : decode cX9_digestNight 6 = .ok (.iload 6, 2) := by decide +kernel
theorem dX9_digestNight_8 : decode cX9_digestNight 8 = .ok (.iconst 2, 1) := by decide +kernel
theorem dX9_digestNight_9 : decode cX9_digestNight 9 = .ok (.if_icmp .gt 26, 3) := by decide +kernel
theorem dX9_digestNight_12 : decode cX9_digestNight 12 = .ok (.ldc2_w 292, 3) := by decide +kernel
theorem dX9_digestNight_15 : decode cX9_digestNight 15 = .ok (.lload 4, 2) := by decide +kernel
theorem dX9_digestNight_17 : decode cX9_digestNight 17 = .ok (.lmul, 1) := by decide +kernel
theorem dX9_digestNight_18 : decode cX9_digestNight 18 = .ok (.aload_n 0, 1) := by decide +kernel
theorem dX9_digestNight_19 : decode cX9_digestNight 19 = .ok (.iload_n 3, 1) := by decide +kernel
theorem dX9_digestNight_20 : decode cX9_digestNight 20 = .ok (.iload 6, 2) := by decide +kernel
theorem dX9_digestNight_22 : decode cX9_digestNight 22 = .ok (.invokevirtual 326, 3) := by decide +kernel
theorem dX9_digestNight_25 : decode cX9_digestNight 25 = .ok (.i2l, 1) := by decide +kernel
theorem dX9_digestNight_26 : decode cX9_digestNight 26 = .ok (.ladd, 1) := by decide +kernel
theorem dX9_digestNight_27 : decode cX9_digestNight 27 = .ok (.lstore 4, 2) := by decide +kernel
theorem dX9_digestNight_29 : decode cX9_digestNight 29 = .ok (.iinc 6 1, 3) := by decide +kernel
theorem dX9_digestNight_32 : decode cX9_digestNight 32 = .ok (.goto (-26), 3) := by decide +kernel
theorem dX9_digestNight_35 : decode cX9_digestNight 35 = .ok (.iconst 0, 1) := by decide +kernel
theorem dX9_digestNight_36 : decode cX9_digestNight 36 = .ok (.istore 6, 2) := by decide +kernel
theorem dX9_digestNight_38 : decode cX9_digestNight 38 = .ok (.iload 6, 2) := by decide +kernel
theorem dX9_digestNight_40 : decode cX9_digestNight 40 = .ok (.iconst 3, 1) := by decide +kernel
theorem dX9_digestNight_41 : decode cX9_digestNight 41 = .ok (.if_icmp .gt 26, 3) := by decide +kernel
theorem dX9_digestNight_44 : decode cX9_digestNight 44 = .ok (.ldc2_w 292, 3) := by decide +kernel
theorem dX9_digestNight_47 : decode cX9_digestNight 47 = .ok (.lload 4, 2) := by decide +kernel
theorem dX9_digestNight_49 : decode cX9_digestNight 49 = .ok (.lmul, 1) := by decide +kernel
theorem dX9_digestNight_50 : decode cX9_digestNight 50 = .ok (.aload_n 0, 1) := by decide +kernel
theorem dX9_digestNight_51 : decode cX9_digestNight 51 = .ok (.iload_n 3, 1) := by decide +kernel
theorem dX9_digestNight_52 : decode cX9_digestNight 52 = .ok (.iload 6, 2) := by decide +kernel
theorem dX9_digestNight_54 : decode cX9_digestNight 54 = .ok (.invokevirtual 329, 3) := by decide +kernel
theorem dX9_digestNight_57 : decode cX9_digestNight 57 = .ok (.i2l, 1) := by decide +kernel
theorem dX9_digestNight_58 : decode cX9_digestNight 58 = .ok (.ladd, 1) := by decide +kernel
theorem dX9_digestNight_59 : decode cX9_digestNight 59 = .ok (.lstore 4, 2) := by decide +kernel
theorem dX9_digestNight_61 : decode cX9_digestNight 61 = .ok (.iinc 6 1, 3) := by decide +kernel
theorem dX9_digestNight_64 : decode cX9_digestNight 64 = .ok (.goto (-26), 3) := by decide +kernel
theorem dX9_digestNight_67 : decode cX9_digestNight 67 = .ok (.ldc2_w 292, 3) := by decide +kernel
theorem dX9_digestNight_70 : decode cX9_digestNight 70 = .ok (.lload 4, 2) := by decide +kernel
theorem dX9_digestNight_72 : decode cX9_digestNight 72 = .ok (.lmul, 1) := by decide +kernel
theorem dX9_digestNight_73 : decode cX9_digestNight 73 = .ok (.aload_n 0, 1) := by decide +kernel
theorem dX9_digestNight_74 : decode cX9_digestNight 74 = .ok (.iload_n 3, 1) := by decide +kernel
theorem dX9_digestNight_75 : decode cX9_digestNight 75 = .ok (.invokevirtual 331, 3) := by decide +kernel
theorem dX9_digestNight_78 : decode cX9_digestNight 78 = .ok (.i2l, 1) := by decide +kernel
theorem dX9_digestNight_79 : decode cX9_digestNight 79 = .ok (.ladd, 1) := by decide +kernel
theorem dX9_digestNight_80 : decode cX9_digestNight 80 = .ok (.lstore 4, 2) := by decide +kernel
theorem dX9_digestNight_82 : decode cX9_digestNight 82 = .ok (.ldc2_w 292, 3) := by decide +kernel
theorem dX9_digestNight_85 : decode cX9_digestNight 85 = .ok (.lload 4, 2) := by decide +kernel
theorem dX9_digestNight_87 : decode cX9_digestNight 87 = .ok (.lmul, 1) := by decide +kernel
theorem dX9_digestNight_88 : decode cX9_digestNight 88 = .ok (.aload_n 0, 1) := by decide +kernel
theorem dX9_digestNight_89 : decode cX9_digestNight 89 = .ok (.iload_n 3, 1) := by decide +kernel
theorem dX9_digestNight_90 : decode cX9_digestNight 90 = .ok (.iconst (-1), 1) := by decide +kernel
theorem dX9_digestNight_91 : decode cX9_digestNight 91 = .ok (.invokevirtual 334, 3) := by decide +kernel
theorem dX9_digestNight_94 : decode cX9_digestNight 94 = .ok (.i2l, 1) := by decide +kernel
theorem dX9_digestNight_95 : decode cX9_digestNight 95 = .ok (.ladd, 1) := by decide +kernel
theorem dX9_digestNight_96 : decode cX9_digestNight 96 = .ok (.lstore 4, 2) := by decide +kernel
theorem dX9_digestNight_98 : decode cX9_digestNight 98 = .ok (.ldc2_w 292, 3) := by decide +kernel
theorem dX9_digestNight_101 : decode cX9_digestNight 101 = .ok (.lload 4, 2) := by decide +kernel
theorem dX9_digestNight_103 : decode cX9_digestNight 103 = .ok (.lmul, 1) := by decide +kernel
theorem dX9_digestNight_104 : decode cX9_digestNight 104 = .ok (.aload_n 0, 1) := by decide +kernel
theorem dX9_digestNight_105 : decode cX9_digestNight 105 = .ok (.iload_n 3, 1) := by decide +kernel
theorem dX9_digestNight_106 : decode cX9_digestNight 106 = .ok (.iconst 0, 1) := by decide +kernel
theorem dX9_digestNight_107 : decode cX9_digestNight 107 = .ok (.invokevirtual 334, 3) := by decide +kernel
theorem dX9_digestNight_110 : decode cX9_digestNight 110 = .ok (.i2l, 1) := by decide +kernel
theorem dX9_digestNight_111 : decode cX9_digestNight 111 = .ok (.ladd, 1) := by decide +kernel
theorem dX9_digestNight_112 : decode cX9_digestNight 112 = .ok (.lreturn, 1) := by decide +kernel
theorem dX9_digestPlans_0 : decode cX9_digestPlans 0 = .ok (.ldc2_w 292, 3) := by decide +kernel
theorem dX9_digestPlans_3 : decode cX9_digestPlans 3 = .ok (.lload_n 1, 1) := by decide +kernel
theorem dX9_digestPlans_4 : decode cX9_digestPlans 4 = .ok (.lmul, 1) := by decide +kernel
theorem dX9_digestPlans_5 : decode cX9_digestPlans 5 = .ok (.aload_n 0, 1) := by decide +kernel
theorem dX9_digestPlans_6 : decode cX9_digestPlans 6 = .ok (.invokevirtual 337, 3) := by decide +kernel
theorem dX9_digestPlans_9 : decode cX9_digestPlans 9 = .ok (.i2l, 1) := by decide +kernel
theorem dX9_digestPlans_10 : decode cX9_digestPlans 10 = .ok (.ladd, 1) := by decide +kernel
theorem dX9_digestPlans_11 : decode cX9_digestPlans 11 = .ok (.lstore_n 3, 1) := by decide +kernel
theorem dX9_digestPlans_12 : decode cX9_digestPlans 12 = .ok (.ldc2_w 292, 3) := by decide +kernel
theorem dX9_digestPlans_15 : decode cX9_digestPlans 15 = .ok (.lload_n 3, 1) := by decide +kernel
theorem dX9_digestPlans_16 : decode cX9_digestPlans 16 = .ok (.lmul, 1) := by decide +kernel
theorem dX9_digestPlans_17 : decode cX9_digestPlans 17 = .ok (.aload_n 0, 1) := by decide +kernel
theorem dX9_digestPlans_18 : decode cX9_digestPlans 18 = .ok (.invokevirtual 340, 3) := by decide +kernel
theorem dX9_digestPlans_21 : decode cX9_digestPlans 21 = .ok (.i2l, 1) := by decide +kernel
theorem dX9_digestPlans_22 : decode cX9_digestPlans 22 = .ok (.ladd, 1) := by decide +kernel
theorem dX9_digestPlans_23 : decode cX9_digestPlans 23 = .ok (.lstore_n 3, 1) := by decide +kernel
theorem dX9_digestPlans_24 : decode cX9_digestPlans 24 = .ok (.iconst 0, 1) := by decide +kernel
theorem dX9_digestPlans_25 : decode cX9_digestPlans 25 = .ok (.istore 5, 2) := by decide +kernel
theorem dX9_digestPlans_27 : decode cX9_digestPlans 27 = .ok (.iload 5, 2) := by decide +kernel
theorem dX9_digestPlans_29 : decode cX9_digestPlans 29 = .ok (.iconst 3, 1) := by decide +kernel
theorem dX9_digestPlans_30 : decode cX9_digestPlans 30 = .ok (.if_icmp .ge 23, 3) := by decide +kernel
theorem dX9_digestPlans_33 : decode cX9_digestPlans 33 = .ok (.ldc2_w 292, 3) := by decide +kernel
theorem dX9_digestPlans_36 : decode cX9_digestPlans 36 = .ok (.lload_n 3, 1) := by decide +kernel
theorem dX9_digestPlans_37 : decode cX9_digestPlans 37 = .ok (.lmul, 1) := by decide +kernel
theorem dX9_digestPlans_38 : decode cX9_digestPlans 38 = .ok (.aload_n 0, 1) := by decide +kernel
theorem dX9_digestPlans_39 : decode cX9_digestPlans 39 = .ok (.iload 5, 2) := by decide +kernel
theorem dX9_digestPlans_41 : decode cX9_digestPlans 41 = .ok (.invokevirtual 343, 3) := by decide +kernel
theorem dX9_digestPlans_44 : decode cX9_digestPlans 44 = .ok (.i2l, 1) := by decide +kernel
theorem dX9_digestPlans_45 : decode cX9_digestPlans 45 = .ok (.ladd, 1) := by decide +kernel
theorem dX9_digestPlans_46 : decode cX9_digestPlans 46 = .ok (.lstore_n 3, 1) := by decide +kernel
theorem dX9_digestPlans_47 : decode cX9_digestPlans 47 = .ok (.iinc 5 1, 3) := by decide +kernel
theorem dX9_digestPlans_50 : decode cX9_digestPlans 50 = .ok (.goto (-23), 3) := by decide +kernel
theorem dX9_digestPlans_53 : decode cX9_digestPlans 53 = .ok (.ldc2_w 292, 3) := by decide +kernel
theorem dX9_digestPlans_56 : decode cX9_digestPlans 56 = .ok (.lload_n 3, 1) := by decide +kernel
theorem dX9_digestPlans_57 : decode cX9_digestPlans 57 = .ok (.lmul, 1) := by decide +kernel
theorem dX9_digestPlans_58 : decode cX9_digestPlans 58 = .ok (.aload_n 0, 1) := by decide +kernel
theorem dX9_digestPlans_59 : decode cX9_digestPlans 59 = .ok (.invokevirtual 346, 3) := by decide +kernel
theorem dX9_digestPlans_62 : decode cX9_digestPlans 62 = .ok (.i2l, 1) := by decide +kernel
theorem dX9_digestPlans_63 : decode cX9_digestPlans 63 = .ok (.ladd, 1) := by decide +kernel
theorem dX9_digestPlans_64 : decode cX9_digestPlans 64 = .ok (.lstore_n 3, 1) := by decide +kernel
theorem dX9_digestPlans_65 : decode cX9_digestPlans 65 = .ok (.ldc2_w 292, 3) := by decide +kernel
theorem dX9_digestPlans_68 : decode cX9_digestPlans 68 = .ok (.lload_n 3, 1) := by decide +kernel
theorem dX9_digestPlans_69 : decode cX9_digestPlans 69 = .ok (.lmul, 1) := by decide +kernel
theorem dX9_digestPlans_70 : decode cX9_digestPlans 70 = .ok (.aload_n 0, 1) := by decide +kernel
theorem dX9_digestPlans_71 : decode cX9_digestPlans 71 = .ok (.invokevirtual 349, 3) := by decide +kernel
theorem dX9_digestPlans_74 : decode cX9_digestPlans 74 = .ok (.i2l, 1) := by decide +kernel
theorem dX9_digestPlans_75 : decode cX9_digestPlans 75 = .ok (.ladd, 1) := by decide +kernel
theorem dX9_digestPlans_76 : decode cX9_digestPlans 76 = .ok (.lstore_n 3, 1) := by decide +kernel
theorem dX9_digestPlans_77 : decode cX9_digestPlans 77 = .ok (.ldc2_w 292, 3) := by decide +kernel
theorem dX9_digestPlans_80 : decode cX9_digestPlans 80 = .ok (.lload_n 3, 1) := by decide +kernel
theorem dX9_digestPlans_81 : decode cX9_digestPlans 81 = .ok (.lmul, 1) := by decide +kernel
theorem dX9_digestPlans_82 : decode cX9_digestPlans 82 = .ok (.aload_n 0, 1) := by decide +kernel
theorem dX9_digestPlans_83 : decode cX9_digestPlans 83 = .ok (.iconst 5, 1) := by decide +kernel
theorem dX9_digestPlans_84 : decode cX9_digestPlans 84 = .ok (.iconst 5, 1) := by decide +kernel
theorem dX9_digestPlans_85 : decode cX9_digestPlans 85 = .ok (.iconst 1, 1) := by decide +kernel
theorem dX9_digestPlans_86 : decode cX9_digestPlans 86 = .ok (.bipush 7, 2) := by decide +kernel
theorem dX9_digestPlans_88 : decode cX9_digestPlans 88 = .ok (.iconst 0, 1) := by decide +kernel
theorem dX9_digestPlans_89 : decode cX9_digestPlans 89 = .ok (.invokevirtual 352, 3) := by decide +kernel
theorem dX9_digestPlans_92 : decode cX9_digestPlans 92 = .ok (.ladd, 1) := by decide +kernel
theorem dX9_digestPlans_93 : decode cX9_digestPlans 93 = .ok (.lstore_n 3, 1) := by decide +kernel
theorem dX9_digestPlans_94 : decode cX9_digestPlans 94 = .ok (.ldc2_w 292, 3) := by decide +kernel
theorem dX9_digestPlans_97 : decode cX9_digestPlans 97 = .ok (.lload_n 3, 1) := by decide +kernel
theorem dX9_digestPlans_98 : decode cX9_digestPlans 98 = .ok (.lmul, 1) := by decide +kernel
theorem dX9_digestPlans_99 : decode cX9_digestPlans 99 = .ok (.aload_n 0, 1) := by decide +kernel
theorem dX9_digestPlans_100 : decode cX9_digestPlans 100 = .ok (.iconst 5, 1) := by decide +kernel
theorem dX9_digestPlans_101 : decode cX9_digestPlans 101 = .ok (.iconst 5, 1) := by decide +kernel
theorem dX9_digestPlans_102 : decode cX9_digestPlans 102 = .ok (.iconst 1, 1) := by decide +kernel
theorem dX9_digestPlans_103 : decode cX9_digestPlans 103 = .ok (.bipush 7, 2) := by decide +kernel
theorem dX9_digestPlans_105 : decode cX9_digestPlans 105 = .ok (.iconst 1, 1) := by decide +kernel
theorem dX9_digestPlans_106 : decode cX9_digestPlans 106 = .ok (.invokevirtual 352, 3) := by decide +kernel
theorem dX9_digestPlans_109 : decode cX9_digestPlans 109 = .ok (.ladd, 1) := by decide +kernel
theorem dX9_digestPlans_110 : decode cX9_digestPlans 110 = .ok (.lstore_n 3, 1) := by decide +kernel
theorem dX9_digestPlans_111 : decode cX9_digestPlans 111 = .ok (.ldc2_w 292, 3) := by decide +kernel
theorem dX9_digestPlans_114 : decode cX9_digestPlans 114 = .ok (.lload_n 3, 1) := by decide +kernel
theorem dX9_digestPlans_115 : decode cX9_digestPlans 115 = .ok (.lmul, 1) := by decide +kernel
theorem dX9_digestPlans_116 : decode cX9_digestPlans 116 = .ok (.aload_n 0, 1) := by decide +kernel
theorem dX9_digestPlans_117 : decode cX9_digestPlans 117 = .ok (.bipush 7, 2) := by decide +kernel
theorem dX9_digestPlans_119 : decode cX9_digestPlans 119 = .ok (.iconst 0, 1) := by decide +kernel
theorem dX9_digestPlans_120 : decode cX9_digestPlans 120 = .ok (.invokevirtual 356, 3) := by decide +kernel
theorem dX9_digestPlans_123 : decode cX9_digestPlans 123 = .ok (.i2l, 1) := by decide +kernel
theorem dX9_digestPlans_124 : decode cX9_digestPlans 124 = .ok (.ladd, 1) := by decide +kernel
theorem dX9_digestPlans_125 : decode cX9_digestPlans 125 = .ok (.lstore_n 3, 1) := by decide +kernel
theorem dX9_digestPlans_126 : decode cX9_digestPlans 126 = .ok (.ldc2_w 292, 3) := by decide +kernel
theorem dX9_digestPlans_129 : decode cX9_digestPlans 129 = .ok (.lload_n 3, 1) := by decide +kernel
theorem dX9_digestPlans_130 : decode cX9_digestPlans 130 = .ok (.lmul, 1) := by decide +kernel
theorem dX9_digestPlans_131 : decode cX9_digestPlans 131 = .ok (.aload_n 0, 1) := by decide +kernel
theorem dX9_digestPlans_132 : decode cX9_digestPlans 132 = .ok (.bipush 7, 2) := by decide +kernel
theorem dX9_digestPlans_134 : decode cX9_digestPlans 134 = .ok (.iconst 1, 1) := by decide +kernel
theorem dX9_digestPlans_135 : decode cX9_digestPlans 135 = .ok (.invokevirtual 356, 3) := by decide +kernel
theorem dX9_digestPlans_138 : decode cX9_digestPlans 138 = .ok (.i2l, 1) := by decide +kernel
theorem dX9_digestPlans_139 : decode cX9_digestPlans 139 = .ok (.ladd, 1) := by decide +kernel
theorem dX9_digestPlans_140 : decode cX9_digestPlans 140 = .ok (.lreturn, 1) := by decide +kernel
theorem dX9_within_0 : decode cX9_within 0 = .ok (.iload_n 0, 1) := by decide +kernel
theorem dX9_within_1 : decode cX9_within 1 = .ok (.ifCond .lt 12, 3) := by decide +kernel
theorem dX9_within_4 : decode cX9_within 4 = .ok (.iload_n 0, 1) := by decide +kernel
theorem dX9_within_5 : decode cX9_within 5 = .ok (.iload_n 1, 1) := by decide +kernel
theorem dX9_within_6 : decode cX9_within 6 = .ok (.if_icmp .ge 7, 3) := by decide +kernel
theorem dX9_within_9 : decode cX9_within 9 = .ok (.iconst 1, 1) := by decide +kernel
theorem dX9_within_10 : decode cX9_within 10 = .ok (.goto 4, 3) := by decide +kernel
theorem dX9_within_13 : decode cX9_within 13 = .ok (.iconst 0, 1) := by decide +kernel
theorem dX9_within_14 : decode cX9_within 14 = .ok (.ireturn, 1) := by decide +kernel
theorem dX9_isNight_0 : decode cX9_isNight 0 = .ok (.iload_n 0, 1) := by decide +kernel
theorem dX9_isNight_1 : decode cX9_isNight 1 = .ok (.bipush 10, 2) := by decide +kernel
theorem dX9_isNight_3 : decode cX9_isNight 3 = .ok (.invokestatic 95, 3) := by decide +kernel
theorem dX9_isNight_6 : decode cX9_isNight 6 = .ok (.ireturn, 1) := by decide +kernel
theorem dX9_isMember_0 : decode cX9_isMember 0 = .ok (.iload_n 1, 1) := by decide +kernel
theorem dX9_isMember_1 : decode cX9_isMember 1 = .ok (.aload_n 0, 1) := by decide +kernel
theorem dX9_isMember_2 : decode cX9_isMember 2 = .ok (.getfield 18, 3) := by decide +kernel
theorem dX9_isMember_5 : decode cX9_isMember 5 = .ok (.getfield 202, 3) := by decide +kernel
theorem dX9_isMember_8 : decode cX9_isMember 8 = .ok (.invokestatic 95, 3) := by decide +kernel
theorem dX9_isMember_11 : decode cX9_isMember 11 = .ok (.ireturn, 1) := by decide +kernel
theorem dX9_isFold_0 : decode cX9_isFold 0 = .ok (.iload_n 0, 1) := by decide +kernel
theorem dX9_isFold_1 : decode cX9_isFold 1 = .ok (.invokestatic 129, 3) := by decide +kernel
theorem dX9_isFold_4 : decode cX9_isFold 4 = .ok (.ifCond .eq 25, 3) := by decide +kernel
theorem dX9_isFold_7 : decode cX9_isFold 7 = .ok (.iload_n 1, 1) := by decide +kernel
theorem dX9_isFold_8 : decode cX9_isFold 8 = .ok (.bipush 8, 2) := by decide +kernel
theorem dX9_isFold_10 : decode cX9_isFold 10 = .ok (.invokestatic 95, 3) := by decide +kernel
theorem dX9_isFold_13 : decode cX9_isFold 13 = .ok (.ifCond .eq 16, 3) := by decide +kernel
theorem dX9_isFold_16 : decode cX9_isFold 16 = .ok (.iload_n 2, 1) := by decide +kernel
theorem dX9_isFold_17 : decode cX9_isFold 17 = .ok (.bipush 6, 2) := by decide +kernel
theorem dX9_isFold_19 : decode cX9_isFold 19 = .ok (.invokestatic 95, 3) := by decide +kernel
theorem dX9_isFold_22 : decode cX9_isFold 22 = .ok (.ifCond .eq 7, 3) := by decide +kernel
theorem dX9_isFold_25 : decode cX9_isFold 25 = .ok (.iconst 1, 1) := by decide +kernel
theorem dX9_isFold_26 : decode cX9_isFold 26 = .ok (.goto 4, 3) := by decide +kernel
theorem dX9_isFold_29 : decode cX9_isFold 29 = .ok (.iconst 0, 1) := by decide +kernel
theorem dX9_isFold_30 : decode cX9_isFold 30 = .ok (.ireturn, 1) := by decide +kernel
theorem dX9_refusedLong_0 : decode cX9_refusedLong 0 = .ok (.ldc2_w 359, 3) := by decide +kernel
theorem dX9_refusedLong_3 : decode cX9_refusedLong 3 = .ok (.iload_n 0, 1) := by decide +kernel
theorem dX9_refusedLong_4 : decode cX9_refusedLong 4 = .ok (.i2l, 1) := by decide +kernel
theorem dX9_refusedLong_5 : decode cX9_refusedLong 5 = .ok (.lsub, 1) := by decide +kernel
theorem dX9_refusedLong_6 : decode cX9_refusedLong 6 = .ok (.lreturn, 1) := by decide +kernel
theorem dX9_found_0 : decode cX9_found 0 = .ok (.aload_n 0, 1) := by decide +kernel
theorem dX9_found_1 : decode cX9_found 1 = .ok (.iload_n 1, 1) := by decide +kernel
theorem dX9_found_2 : decode cX9_found 2 = .ok (.putfield 87, 3) := by decide +kernel
theorem dX9_found_5 : decode cX9_found 5 = .ok (.bipush (-10), 2) := by decide +kernel
theorem dX9_found_7 : decode cX9_found 7 = .ok (.iload_n 1, 1) := by decide +kernel
theorem dX9_found_8 : decode cX9_found 8 = .ok (.isub, 1) := by decide +kernel
theorem dX9_found_9 : decode cX9_found 9 = .ok (.ireturn, 1) := by decide +kernel
theorem dX9_wanted_0 : decode cX9_wanted 0 = .ok (.iload_n 0, 1) := by decide +kernel
theorem dX9_wanted_1 : decode cX9_wanted 1 = .ok (.bipush 6, 2) := by decide +kernel
theorem dX9_wanted_3 : decode cX9_wanted 3 = .ok (.invokestatic 95, 3) := by decide +kernel
theorem dX9_wanted_6 : decode cX9_wanted 6 = .ok (.ifCond .eq 23, 3) := by decide +kernel
theorem dX9_wanted_9 : decode cX9_wanted 9 = .ok (.iload_n 1, 1) := by decide +kernel
theorem dX9_wanted_10 : decode cX9_wanted 10 = .ok (.iconst 3, 1) := by decide +kernel
theorem dX9_wanted_11 : decode cX9_wanted 11 = .ok (.invokestatic 95, 3) := by decide +kernel
theorem dX9_wanted_14 : decode cX9_wanted 14 = .ok (.ifCond .eq 15, 3) := by decide +kernel
theorem dX9_wanted_17 : decode cX9_wanted 17 = .ok (.getstatic 361, 3) := by decide +kernel
theorem dX9_wanted_20 : decode cX9_wanted 20 = .ok (.iload_n 0, 1) := by decide +kernel
theorem dX9_wanted_21 : decode cX9_wanted 21 = .ok (.iconst 3, 1) := by decide +kernel
theorem dX9_wanted_22 : decode cX9_wanted 22 = .ok (.imul, 1) := by decide +kernel
theorem dX9_wanted_23 : decode cX9_wanted 23 = .ok (.iload_n 1, 1) := by decide +kernel
theorem dX9_wanted_24 : decode cX9_wanted 24 = .ok (.iadd, 1) := by decide +kernel
theorem dX9_wanted_25 : decode cX9_wanted 25 = .ok (.iaload, 1) := by decide +kernel
theorem dX9_wanted_26 : decode cX9_wanted 26 = .ok (.goto 4, 3) := by decide +kernel
theorem dX9_wanted_29 : decode cX9_wanted 29 = .ok (.iconst (-1), 1) := by decide +kernel
theorem dX9_wanted_30 : decode cX9_wanted 30 = .ok (.ireturn, 1) := by decide +kernel
theorem dX9_rather_0 : decode cX9_rather 0 = .ok (.iload_n 0, 1) := by decide +kernel
theorem dX9_rather_1 : decode cX9_rather 1 = .ok (.ifCond .lt 31, 3) := by decide +kernel
theorem dX9_rather_4 : decode cX9_rather 4 = .ok (.iload_n 0, 1) := by decide +kernel
theorem dX9_rather_5 : decode cX9_rather 5 = .ok (.bipush 6, 2) := by decide +kernel
theorem dX9_rather_7 : decode cX9_rather 7 = .ok (.if_icmp .ge 25, 3) := by decide +kernel
theorem dX9_rather_10 : decode cX9_rather 10 = .ok (.iload_n 1, 1) := by decide +kernel
theorem dX9_rather_11 : decode cX9_rather 11 = .ok (.ifCond .lt 21, 3) := by decide +kernel
theorem dX9_rather_14 : decode cX9_rather 14 = .ok (.iload_n 1, 1) := by decide +kernel
theorem dX9_rather_15 : decode cX9_rather 15 = .ok (.iconst 3, 1) := by decide +kernel
theorem dX9_rather_16 : decode cX9_rather 16 = .ok (.if_icmp .ge 16, 3) := by decide +kernel
theorem dX9_rather_19 : decode cX9_rather 19 = .ok (.iload_n 2, 1) := by decide +kernel
theorem dX9_rather_20 : decode cX9_rather 20 = .ok (.ifCond .lt 12, 3) := by decide +kernel
theorem dX9_rather_23 : decode cX9_rather 23 = .ok (.iload_n 2, 1) := by decide +kernel
theorem dX9_rather_24 : decode cX9_rather 24 = .ok (.iconst 3, 1) := by decide +kernel
theorem dX9_rather_25 : decode cX9_rather 25 = .ok (.if_icmp .ge 7, 3) := by decide +kernel
theorem dX9_rather_28 : decode cX9_rather 28 = .ok (.iconst 1, 1) := by decide +kernel
theorem dX9_rather_29 : decode cX9_rather 29 = .ok (.goto 4, 3) := by decide +kernel
theorem dX9_rather_32 : decode cX9_rather 32 = .ok (.iconst 0, 1) := by decide +kernel
theorem dX9_rather_33 : decode cX9_rather 33 = .ok (.istore_n 3, 1) := by decide +kernel
theorem dX9_rather_34 : decode cX9_rather 34 = .ok (.iload_n 3, 1) := by decide +kernel
theorem dX9_rather_35 : decode cX9_rather 35 = .ok (.ifCond .eq 28, 3) := by decide +kernel
theorem dX9_rather_38 : decode cX9_rather 38 = .ok (.getstatic 364, 3) := by decide +kernel
theorem dX9_rather_41 : decode cX9_rather 41 = .ok (.iload_n 0, 1) := by decide +kernel
theorem dX9_rather_42 : decode cX9_rather 42 = .ok (.iconst 3, 1) := by decide +kernel
theorem dX9_rather_43 : decode cX9_rather 43 = .ok (.imul, 1) := by decide +kernel
theorem dX9_rather_44 : decode cX9_rather 44 = .ok (.iload_n 1, 1) := by decide +kernel
theorem dX9_rather_45 : decode cX9_rather 45 = .ok (.iadd, 1) := by decide +kernel
theorem dX9_rather_46 : decode cX9_rather 46 = .ok (.iaload, 1) := by decide +kernel
theorem dX9_rather_47 : decode cX9_rather 47 = .ok (.getstatic 364, 3) := by decide +kernel
theorem dX9_rather_50 : decode cX9_rather 50 = .ok (.iload_n 0, 1) := by decide +kernel
theorem dX9_rather_51 : decode cX9_rather 51 = .ok (.iconst 3, 1) := by decide +kernel
theorem dX9_rather_52 : decode cX9_rather 52 = .ok (.imul, 1) := by decide +kernel
theorem dX9_rather_53 : decode cX9_rather 53 = .ok (.iload_n 2, 1) := by decide +kernel
theorem dX9_rather_54 : decode cX9_rather 54 = .ok (.iadd, 1) := by decide +kernel
theorem dX9_rather_55 : decode cX9_rather 55 = .ok (.iaload, 1) := by decide +kernel
theorem dX9_rather_56 : decode cX9_rather 56 = .ok (.if_icmp .ge 7, 3) := by decide +kernel
theorem dX9_rather_59 : decode cX9_rather 59 = .ok (.iconst 1, 1) := by decide +kernel
theorem dX9_rather_60 : decode cX9_rather 60 = .ok (.goto 4, 3) := by decide +kernel
theorem dX9_rather_63 : decode cX9_rather 63 = .ok (.iconst 0, 1) := by decide +kernel
theorem dX9_rather_64 : decode cX9_rather 64 = .ok (.ireturn, 1) := by decide +kernel
theorem dX9_warmth_0 : decode cX9_warmth 0 = .ok (.iconst 5, 1) := by decide +kernel
theorem dX9_warmth_1 : decode cX9_warmth 1 = .ok (.iload_n 0, 1) := by decide +kernel
theorem dX9_warmth_2 : decode cX9_warmth 2 = .ok (.isub, 1) := by decide +kernel
theorem dX9_warmth_3 : decode cX9_warmth 3 = .ok (.iload_n 1, 1) := by decide +kernel
theorem dX9_warmth_4 : decode cX9_warmth 4 = .ok (.ifCond .eq 7, 3) := by decide +kernel
theorem dX9_warmth_7 : decode cX9_warmth 7 = .ok (.iconst 3, 1) := by decide +kernel
theorem dX9_warmth_8 : decode cX9_warmth 8 = .ok (.goto 4, 3) := by decide +kernel
theorem dX9_warmth_11 : decode cX9_warmth 11 = .ok (.iconst 0, 1) := by decide +kernel
theorem dX9_warmth_12 : decode cX9_warmth 12 = .ok (.isub, 1) := by decide +kernel
theorem dX9_warmth_13 : decode cX9_warmth 13 = .ok (.istore_n 2, 1) := by decide +kernel
theorem dX9_warmth_14 : decode cX9_warmth 14 = .ok (.iload_n 2, 1) := by decide +kernel
theorem dX9_warmth_15 : decode cX9_warmth 15 = .ok (.ifCond .ge 7, 3) := by decide +kernel
theorem dX9_warmth_18 : decode cX9_warmth 18 = .ok (.iconst 0, 1) := by decide +kernel
theorem dX9_warmth_19 : decode cX9_warmth 19 = .ok (.goto 4, 3) := by decide +kernel
theorem dX9_warmth_22 : decode cX9_warmth 22 = .ok (.iload_n 2, 1) := by decide +kernel
theorem dX9_warmth_23 : decode cX9_warmth 23 = .ok (.ireturn, 1) := by decide +kernel
theorem dX9_factorial_0 : decode cX9_factorial 0 = .ok (.iload_n 0, 1) := by decide +kernel
theorem dX9_factorial_1 : decode cX9_factorial 1 = .ok (.ifCond .lt 19, 3) := by decide +kernel
theorem dX9_factorial_4 : decode cX9_factorial 4 = .ok (.iload_n 0, 1) := by decide +kernel
theorem dX9_factorial_5 : decode cX9_factorial 5 = .ok (.getstatic 367, 3) := by decide +kernel
theorem dX9_factorial_8 : decode cX9_factorial 8 = .ok (.arraylength, 1) := by decide +kernel
theorem dX9_factorial_9 : decode cX9_factorial 9 = .ok (.if_icmp .ge 11, 3) := by decide +kernel
theorem dX9_factorial_12 : decode cX9_factorial 12 = .ok (.getstatic 367, 3) := by decide +kernel
theorem dX9_factorial_15 : decode cX9_factorial 15 = .ok (.iload_n 0, 1) := by decide +kernel
theorem dX9_factorial_16 : decode cX9_factorial 16 = .ok (.iaload, 1) := by decide +kernel
theorem dX9_factorial_17 : decode cX9_factorial 17 = .ok (.goto 4, 3) := by decide +kernel
theorem dX9_factorial_20 : decode cX9_factorial 20 = .ok (.iconst 1, 1) := by decide +kernel
