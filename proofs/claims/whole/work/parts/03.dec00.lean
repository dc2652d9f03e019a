theorem dX0_init_0 : decode cX0_init 0 = .ok (.aload_n 0, 1) := by decide +kernel
theorem dX0_init_1 : decode cX0_init 1 = .ok (.invokespecial 3, 3) := by decide +kernel
theorem dX0_init_4 : decode cX0_init 4 = .ok (.aload_n 0, 1) := by decide +kernel
theorem dX0_init_5 : decode cX0_init 5 = .ok (.iconst 0, 1) := by decide +kernel
theorem dX0_init_6 : decode cX0_init 6 = .ok (.putfield 9, 3) := by decide +kernel
theorem dX0_init_9 : decode cX0_init 9 = .ok (.aload_n 0, 1) := by decide +kernel
theorem dX0_init_10 : decode cX0_init 10 = .ok (.iconst 1, 1) := by decide +kernel
theorem dX0_init_11 : decode cX0_init 11 = .ok (.putfield 15, 3) := by decide +kernel
theorem dX0_init_14 : decode cX0_init 14 = .ok (.aload_n 0, 1) := by decide +kernel
theorem dX0_init_15 : decode cX0_init 15 = .ok (.iconst 0, 1) := by decide +kernel
theorem dX0_init_16 : decode cX0_init 16 = .ok (.putfield 18, 3) := by decide +kernel
theorem dX0_init_19 : decode cX0_init 19 = .ok (.aload_n 0, 1) := by decide +kernel
theorem dX0_init_20 : decode cX0_init 20 = .ok (.bipush 8, 2) := by decide +kernel
theorem dX0_init_22 : decode cX0_init 22 = .ok (.newarray .int, 2) := by decide +kernel
theorem dX0_init_24 : decode cX0_init 24 = .ok (.putfield 22, 3) := by decide +kernel
theorem dX0_init_27 : decode cX0_init 27 = .ok (.aload_n 0, 1) := by decide +kernel
theorem dX0_init_28 : decode cX0_init 28 = .ok (.bipush 8, 2) := by decide +kernel
theorem dX0_init_30 : decode cX0_init 30 = .ok (.newarray .int, 2) := by decide +kernel
theorem dX0_init_32 : decode cX0_init 32 = .ok (.putfield 26, 3) := by decide +kernel
theorem dX0_init_35 : decode cX0_init 35 = .ok (.aload_n 0, 1) := by decide +kernel
theorem dX0_init_36 : decode cX0_init 36 = .ok (.bipush 6, 2) := by decide +kernel
theorem dX0_init_38 : decode cX0_init 38 = .ok (.newarray .int, 2) := by decide +kernel
theorem dX0_init_40 : decode cX0_init 40 = .ok (.putfield 29, 3) := by decide +kernel
theorem dX0_init_43 : decode cX0_init 43 = .ok (.aload_n 0, 1) := by decide +kernel
theorem dX0_init_44 : decode cX0_init 44 = .ok (.bipush 8, 2) := by decide +kernel
theorem dX0_init_46 : decode cX0_init 46 = .ok (.newarray .int, 2) := by decide +kernel
theorem dX0_init_48 : decode cX0_init 48 = .ok (.putfield 32, 3) := by decide +kernel
theorem dX0_init_51 : decode cX0_init 51 = .ok (.aload_n 0, 1) := by decide +kernel
theorem dX0_init_52 : decode cX0_init 52 = .ok (.iconst (-1), 1) := by decide +kernel
theorem dX0_init_53 : decode cX0_init 53 = .ok (.putfield 35, 3) := by decide +kernel
theorem dX0_init_56 : decode cX0_init 56 = .ok (.aload_n 0, 1) := by decide +kernel
theorem dX0_init_57 : decode cX0_init 57 = .ok (.iconst 0, 1) := by decide +kernel
theorem dX0_init_58 : decode cX0_init 58 = .ok (.putfield 38, 3) := by decide +kernel
theorem dX0_init_61 : decode cX0_init 61 = .ok (.aload_n 0, 1) := by decide +kernel
theorem dX0_init_62 : decode cX0_init 62 = .ok (.iconst 0, 1) := by decide +kernel
theorem dX0_init_63 : decode cX0_init 63 = .ok (.putfield 41, 3) := by decide +kernel
theorem dX0_init_66 : decode cX0_init 66 = .ok (.aload_n 0, 1) := by decide +kernel
theorem dX0_init_67 : decode cX0_init 67 = .ok (.aload_n 1, 1) := by decide +kernel
theorem dX0_init_68 : decode cX0_init 68 = .ok (.putfield 44, 3) := by decide +kernel
theorem dX0_init_71 : decode cX0_init 71 = .ok (.aload_n 0, 1) := by decide +kernel
theorem dX0_init_72 : decode cX0_init 72 = .ok (.aload_n 2, 1) := by decide +kernel
theorem dX0_init_73 : decode cX0_init 73 = .ok (.putfield 48, 3) := by decide +kernel
theorem dX0_init_76 : decode cX0_init 76 = .ok (.aload_n 0, 1) := by decide +kernel
theorem dX0_init_77 : decode cX0_init 77 = .ok (.aload_n 3, 1) := by decide +kernel
theorem dX0_init_78 : decode cX0_init 78 = .ok (.putfield 52, 3) := by decide +kernel
theorem dX0_init_81 : decode cX0_init 81 = .ok (.return_, 1) := by decide +kernel
theorem dX0_isPut_0 : decode cX0_isPut 0 = .ok (.aload_n 0, 1) := by decide +kernel
theorem dX0_isPut_1 : decode cX0_isPut 1 = .ok (.getfield 44, 3) := by decide +kernel
theorem dX0_isPut_4 : decode cX0_isPut 4 = .ok (.getfield 56, 3) := by decide +kernel
theorem dX0_isPut_7 : decode cX0_isPut 7 = .ok (.ifCond .le 21, 3) := by decide +kernel
theorem dX0_isPut_10 : decode cX0_isPut 10 = .ok (.iload_n 1, 1) := by decide +kernel
theorem dX0_isPut_11 : decode cX0_isPut 11 = .ok (.aload_n 0, 1) := by decide +kernel
theorem dX0_isPut_12 : decode cX0_isPut 12 = .ok (.getfield 48, 3) := by decide +kernel
theorem dX0_isPut_15 : decode cX0_isPut 15 = .ok (.getfield 61, 3) := by decide +kernel
theorem dX0_isPut_18 : decode cX0_isPut 18 = .ok (.invokestatic 64, 3) := by decide +kernel
theorem dX0_isPut_21 : decode cX0_isPut 21 = .ok (.ifCond .eq 7, 3) := by decide +kernel
theorem dX0_isPut_24 : decode cX0_isPut 24 = .ok (.iconst 1, 1) := by decide +kernel
theorem dX0_isPut_25 : decode cX0_isPut 25 = .ok (.goto 4, 3) := by decide +kernel
theorem dX0_isPut_28 : decode cX0_isPut 28 = .ok (.iconst 0, 1) := by decide +kernel
theorem dX0_isPut_29 : decode cX0_isPut 29 = .ok (.ireturn, 1) := by decide +kernel
theorem dX0_carried_0 : decode cX0_carried 0 = .ok (.aload_n 0, 1) := by decide +kernel
theorem dX0_carried_1 : decode cX0_carried 1 = .ok (.iload_n 1, 1) := by decide +kernel
theorem dX0_carried_2 : decode cX0_carried 2 = .ok (.invokevirtual 68, 3) := by decide +kernel
theorem dX0_carried_5 : decode cX0_carried 5 = .ok (.ifCond .ne 5, 3) := by decide +kernel
theorem dX0_carried_8 : decode cX0_carried 8 = .ok (.iconst (-1), 1) := by decide +kernel
theorem dX0_carried_9 : decode cX0_carried 9 = .ok (.ireturn, 1) := by decide +kernel
theorem dX0_carried_10 : decode cX0_carried 10 = .ok (.aload_n 0, 1) := by decide +kernel
theorem dX0_carried_11 : decode cX0_carried 11 = .ok (.iload_n 1, 1) := by decide +kernel
theorem dX0_carried_12 : decode cX0_carried 12 = .ok (.invokevirtual 72, 3) := by decide +kernel
theorem dX0_carried_15 : decode cX0_carried 15 = .ok (.aload_n 0, 1) := by decide +kernel
theorem dX0_carried_16 : decode cX0_carried 16 = .ok (.iload_n 1, 1) := by decide +kernel
theorem dX0_carried_17 : decode cX0_carried 17 = .ok (.iload 4, 2) := by decide +kernel
theorem dX0_carried_19 : decode cX0_carried 19 = .ok (.invokevirtual 76, 3) := by decide +kernel
theorem dX0_carried_22 : decode cX0_carried 22 = .ok (.aload_n 0, 1) := by decide +kernel
theorem dX0_carried_23 : decode cX0_carried 23 = .ok (.aload_n 2, 1) := by decide +kernel
theorem dX0_carried_24 : decode cX0_carried 24 = .ok (.iload_n 3, 1) := by decide +kernel
theorem dX0_carried_25 : decode cX0_carried 25 = .ok (.invokevirtual 80, 3) := by decide +kernel
theorem dX0_carried_28 : decode cX0_carried 28 = .ok (.aload_n 0, 1) := by decide +kernel
theorem dX0_carried_29 : decode cX0_carried 29 = .ok (.invokevirtual 84, 3) := by decide +kernel
theorem dX0_carried_32 : decode cX0_carried 32 = .ok (.ireturn, 1) := by decide +kernel
theorem dX0_open_0 : decode cX0_open 0 = .ok (.iload_n 1, 1) := by decide +kernel
theorem dX0_open_1 : decode cX0_open 1 = .ok (.ifCond .lt 62, 3) := by decide +kernel
theorem dX0_open_4 : decode cX0_open 4 = .ok (.iload_n 1, 1) := by decide +kernel
theorem dX0_open_5 : decode cX0_open 5 = .ok (.aload_n 0, 1) := by decide +kernel
theorem dX0_open_6 : decode cX0_open 6 = .ok (.getfield 48, 3) := by decide +kernel
theorem dX0_open_9 : decode cX0_open 9 = .ok (.getfield 61, 3) := by decide +kernel
theorem dX0_open_12 : decode cX0_open 12 = .ok (.if_icmp .ge 51, 3) := by decide +kernel
theorem dX0_open_15 : decode cX0_open 15 = .ok (.aload_n 0, 1) := by decide +kernel
theorem dX0_open_16 : decode cX0_open 16 = .ok (.aload_n 0, 1) := by decide +kernel
theorem dX0_open_17 : decode cX0_open 17 = .ok (.getfield 48, 3) := by decide +kernel
theorem dX0_open_20 : decode cX0_open 20 = .ok (.getfield 88, 3) := by decide +kernel
theorem dX0_open_23 : decode cX0_open 23 = .ok (.iload_n 1, 1) := by decide +kernel
theorem dX0_open_24 : decode cX0_open 24 = .ok (.iaload, 1) := by decide +kernel
theorem dX0_open_25 : decode cX0_open 25 = .ok (.putfield 9, 3) := by decide +kernel
theorem dX0_open_28 : decode cX0_open 28 = .ok (.aload_n 0, 1) := by decide +kernel
theorem dX0_open_29 : decode cX0_open 29 = .ok (.aload_n 0, 1) := by decide +kernel
theorem dX0_open_30 : decode cX0_open 30 = .ok (.getfield 48, 3) := by decide +kernel
theorem dX0_open_33 : decode cX0_open 33 = .ok (.getfield 90, 3) := by decide +kernel
theorem dX0_open_36 : decode cX0_open 36 = .ok (.iload_n 1, 1) := by decide +kernel
theorem dX0_open_37 : decode cX0_open 37 = .ok (.iaload, 1) := by decide +kernel
theorem dX0_open_38 : decode cX0_open 38 = .ok (.putfield 15, 3) := by decide +kernel
theorem dX0_open_41 : decode cX0_open 41 = .ok (.aload_n 0, 1) := by decide +kernel
theorem dX0_open_42 : decode cX0_open 42 = .ok (.aload_n 0, 1) := by decide +kernel
theorem dX0_open_43 : decode cX0_open 43 = .ok (.getfield 48, 3) := by decide +kernel
theorem dX0_open_46 : decode cX0_open 46 = .ok (.getfield 92, 3) := by decide +kernel
theorem dX0_open_49 : decode cX0_open 49 = .ok (.iload_n 1, 1) := by decide +kernel
theorem dX0_open_50 : decode cX0_open 50 = .ok (.iaload, 1) := by decide +kernel
theorem dX0_open_51 : decode cX0_open 51 = .ok (.iconst 2, 1) := by decide +kernel
theorem dX0_open_52 : decode cX0_open 52 = .ok (.if_icmp .ne 7, 3) := by decide +kernel
theorem dX0_open_55 : decode cX0_open 55 = .ok (.iconst 1, 1) := by decide +kernel
theorem dX0_open_56 : decode cX0_open 56 = .ok (.goto 4, 3) := by decide +kernel
theorem dX0_open_59 : decode cX0_open 59 = .ok (.iconst 0, 1) := by decide +kernel
theorem dX0_open_60 : decode cX0_open 60 = .ok (.putfield 18, 3) := by decide +kernel
theorem dX0_open_63 : decode cX0_open 63 = .ok (.return_, 1) := by decide +kernel
theorem dX0_openPair_0 : decode cX0_openPair 0 = .ok (.aload_n 0, 1) := by decide +kernel
theorem dX0_openPair_1 : decode cX0_openPair 1 = .ok (.iload_n 1, 1) := by decide +kernel
theorem dX0_openPair_2 : decode cX0_openPair 2 = .ok (.putfield 9, 3) := by decide +kernel
theorem dX0_openPair_5 : decode cX0_openPair 5 = .ok (.aload_n 0, 1) := by decide +kernel
theorem dX0_openPair_6 : decode cX0_openPair 6 = .ok (.iload_n 2, 1) := by decide +kernel
theorem dX0_openPair_7 : decode cX0_openPair 7 = .ok (.putfield 15, 3) := by decide +kernel
theorem dX0_openPair_10 : decode cX0_openPair 10 = .ok (.aload_n 0, 1) := by decide +kernel
theorem dX0_openPair_11 : decode cX0_openPair 11 = .ok (.iconst 0, 1) := by decide +kernel
theorem dX0_openPair_12 : decode cX0_openPair 12 = .ok (.putfield 18, 3) := by decide +kernel
theorem dX0_openPair_15 : decode cX0_openPair 15 = .ok (.return_, 1) := by decide +kernel
theorem dX0_layAtFirst_0 : decode cX0_layAtFirst 0 = .ok (.iconst 0, 1) := by decide +kernel
theorem dX0_layAtFirst_1 : decode cX0_layAtFirst 1 = .ok (.istore_n 1, 1) := by decide +kernel
theorem dX0_layAtFirst_2 : decode cX0_layAtFirst 2 = .ok (.iload_n 1, 1) := by decide +kernel
theorem dX0_layAtFirst_3 : decode cX0_layAtFirst 3 = .ok (.aload_n 0, 1) := by decide +kernel
theorem dX0_layAtFirst_4 : decode cX0_layAtFirst 4 = .ok (.getfield 44, 3) := by decide +kernel
theorem dX0_layAtFirst_7 : decode cX0_layAtFirst 7 = .ok (.getfield 56, 3) := by decide +kernel
theorem dX0_layAtFirst_10 : decode cX0_layAtFirst 10 = .ok (.if_icmp .ge 31, 3) := by decide +kernel
theorem dX0_layAtFirst_13 : decode cX0_layAtFirst 13 = .ok (.aload_n 0, 1) := by decide +kernel
theorem dX0_layAtFirst_14 : decode cX0_layAtFirst 14 = .ok (.getfield 22, 3) := by decide +kernel
theorem dX0_layAtFirst_17 : decode cX0_layAtFirst 17 = .ok (.iload_n 1, 1) := by decide +kernel
theorem dX0_layAtFirst_18 : decode cX0_layAtFirst 18 = .ok (.aload_n 0, 1) := by decide +kernel
theorem dX0_layAtFirst_19 : decode cX0_layAtFirst 19 = .ok (.getfield 44, 3) := by decide +kernel
theorem dX0_layAtFirst_22 : decode cX0_layAtFirst 22 = .ok (.getfield 95, 3) := by decide +kernel
theorem dX0_layAtFirst_25 : decode cX0_layAtFirst 25 = .ok (.iload_n 1, 1) := by decide +kernel
theorem dX0_layAtFirst_26 : decode cX0_layAtFirst 26 = .ok (.iaload, 1) := by decide +kernel
theorem dX0_layAtFirst_27 : decode cX0_layAtFirst 27 = .ok (.iastore, 1) := by decide +kernel
theorem dX0_layAtFirst_28 : decode cX0_layAtFirst 28 = .ok (.aload_n 0, 1) := by decide +kernel
theorem dX0_layAtFirst_29 : decode cX0_layAtFirst 29 = .ok (.getfield 26, 3) := by decide +kernel
theorem dX0_layAtFirst_32 : decode cX0_layAtFirst 32 = .ok (.iload_n 1, 1) := by decide +kernel
theorem dX0_layAtFirst_33 : decode cX0_layAtFirst 33 = .ok (.iconst 0, 1) := by decide +kernel
theorem dX0_layAtFirst_34 : decode cX0_layAtFirst 34 = .ok (.iastore, 1) := by decide +kernel
theorem dX0_layAtFirst_35 : decode cX0_layAtFirst 35 = .ok (.iinc 1 1, 3) := by decide +kernel
theorem dX0_layAtFirst_38 : decode cX0_layAtFirst 38 = .ok (.goto (-36), 3) := by decide +kernel
theorem dX0_layAtFirst_41 : decode cX0_layAtFirst 41 = .ok (.return_, 1) := by decide +kernel
theorem dX0_lay_0 : decode cX0_lay 0 = .ok (.aload_n 0, 1) := by decide +kernel
theorem dX0_lay_1 : decode cX0_lay 1 = .ok (.invokevirtual 96, 3) := by decide +kernel
theorem dX0_lay_4 : decode cX0_lay 4 = .ok (.iconst 0, 1) := by decide +kernel
theorem dX0_lay_5 : decode cX0_lay 5 = .ok (.istore_n 3, 1) := by decide +kernel
theorem dX0_lay_6 : decode cX0_lay 6 = .ok (.iload_n 3, 1) := by decide +kernel
theorem dX0_lay_7 : decode cX0_lay 7 = .ok (.aload_n 0, 1) := by decide +kernel
theorem dX0_lay_8 : decode cX0_lay 8 = .ok (.getfield 52, 3) := by decide +kernel
theorem dX0_lay_11 : decode cX0_lay 11 = .ok (.getfield 99, 3) := by decide +kernel
theorem dX0_lay_14 : decode cX0_lay 14 = .ok (.if_icmp .ge 94, 3) := by decide +kernel
theorem dX0_lay_17 : decode cX0_lay 17 = .ok (.aload_n 0, 1) := by decide +kernel
theorem dX0_lay_18 : decode cX0_lay 18 = .ok (.getfield 52, 3) := by decide +kernel
theorem dX0_lay_21 : decode cX0_lay 21 = .ok (.getfield 102, 3) := by decide +kernel
theorem dX0_lay_24 : decode cX0_lay 24 = .ok (.iload_n 3, 1) := by decide +kernel
theorem dX0_lay_25 : decode cX0_lay 25 = .ok (.iaload, 1) := by decide +kernel
theorem dX0_lay_26 : decode cX0_lay 26 = .ok (.istore 4, 2) := by decide +kernel
theorem dX0_lay_28 : decode cX0_lay 28 = .ok (.aload_n 0, 1) := by decide +kernel
theorem dX0_lay_29 : decode cX0_lay 29 = .ok (.getfield 52, 3) := by decide +kernel
theorem dX0_lay_32 : decode cX0_lay 32 = .ok (.getfield 105, 3) := by decide +kernel
theorem dX0_lay_35 : decode cX0_lay 35 = .ok (.iload_n 3, 1) := by decide +kernel
theorem dX0_lay_36 : decode cX0_lay 36 = .ok (.iaload, 1) := by decide +kernel
theorem dX0_lay_37 : decode cX0_lay 37 = .ok (.istore 5, 2) := by decide +kernel
theorem dX0_lay_39 : decode cX0_lay 39 = .ok (.iload_n 3, 1) := by decide +kernel
theorem dX0_lay_40 : decode cX0_lay 40 = .ok (.iload_n 2, 1) := by decide +kernel
theorem dX0_lay_41 : decode cX0_lay 41 = .ok (.if_icmp .eq 61, 3) := by decide +kernel
theorem dX0_lay_44 : decode cX0_lay 44 = .ok (.iload 4, 2) := by decide +kernel
theorem dX0_lay_46 : decode cX0_lay 46 = .ok (.aload_n 0, 1) := by decide +kernel
theorem dX0_lay_47 : decode cX0_lay 47 = .ok (.getfield 44, 3) := by decide +kernel
theorem dX0_lay_50 : decode cX0_lay 50 = .ok (.getfield 56, 3) := by decide +kernel
theorem dX0_lay_53 : decode cX0_lay 53 = .ok (.invokestatic 64, 3) := by decide +kernel
theorem dX0_lay_56 : decode cX0_lay 56 = .ok (.ifCond .eq 46, 3) := by decide +kernel
theorem dX0_lay_59 : decode cX0_lay 59 = .ok (.iload 5, 2) := by decide +kernel
theorem dX0_lay_61 : decode cX0_lay 61 = .ok (.iload_n 1, 1) := by decide +kernel
theorem dX0_lay_62 : decode cX0_lay 62 = .ok (.if_icmp .gt 40, 3) := by decide +kernel
theorem dX0_lay_65 : decode cX0_lay 65 = .ok (.iload 5, 2) := by decide +kernel
theorem dX0_lay_67 : decode cX0_lay 67 = .ok (.aload_n 0, 1) := by decide +kernel
theorem dX0_lay_68 : decode cX0_lay 68 = .ok (.getfield 26, 3) := by decide +kernel
theorem dX0_lay_71 : decode cX0_lay 71 = .ok (.iload 4, 2) := by decide +kernel
theorem dX0_lay_73 : decode cX0_lay 73 = .ok (.iaload, 1) := by decide +kernel
theorem dX0_lay_74 : decode cX0_lay 74 = .ok (.if_icmp .lt 28, 3) := by decide +kernel
theorem dX0_lay_77 : decode cX0_lay 77 = .ok (.aload_n 0, 1) := by decide +kernel
theorem dX0_lay_78 : decode cX0_lay 78 = .ok (.getfield 22, 3) := by decide +kernel
theorem dX0_lay_81 : decode cX0_lay 81 = .ok (.iload 4, 2) := by decide +kernel
theorem dX0_lay_83 : decode cX0_lay 83 = .ok (.aload_n 0, 1) := by decide +kernel
theorem dX0_lay_84 : decode cX0_lay 84 = .ok (.getfield 52, 3) := by decide +kernel
theorem dX0_lay_87 : decode cX0_lay 87 = .ok (.getfield 108, 3) := by decide +kernel
theorem dX0_lay_90 : decode cX0_lay 90 = .ok (.iload_n 3, 1) := by decide +kernel
theorem dX0_lay_91 : decode cX0_lay 91 = .ok (.iaload, 1) := by decide +kernel
theorem dX0_lay_92 : decode cX0_lay 92 = .ok (.iastore, 1) := by decide +kernel
theorem dX0_lay_93 : decode cX0_lay 93 = .ok (.aload_n 0, 1) := by decide +kernel
theorem dX0_lay_94 : decode cX0_lay 94 = .ok (.getfield 26, 3) := by decide +kernel
theorem dX0_lay_97 : decode cX0_lay 97 = .ok (.iload 4, 2) := by decide +kernel
theorem dX0_lay_99 : decode cX0_lay 99 = .ok (.iload 5, 2) := by decide +kernel
theorem dX0_lay_101 : decode cX0_lay 101 = .ok (.iastore, 1) := by decide +kernel
theorem dX0_lay_102 : decode cX0_lay 102 = .ok (.iinc 3 1, 3) := by decide +kernel
theorem dX0_lay_105 : decode cX0_lay 105 = .ok (.goto (-99), 3) := by decide +kernel
theorem dX0_lay_108 : decode cX0_lay 108 = .ok (.return_, 1) := by decide +kernel
theorem dX0_raise_0 : decode cX0_raise 0 = .ok (.iload_n 1, 1) := by decide +kernel
theorem dX0_raise_1 : decode cX0_raise 1 = .ok (.ifCond .lt 21, 3) := by decide +kernel
theorem dX0_raise_4 : decode cX0_raise 4 = .ok (.iload_n 1, 1) := by decide +kernel
theorem dX0_raise_5 : decode cX0_raise 5 = .ok (.aload_n 0, 1) := by decide +kernel
theorem dX0_raise_6 : decode cX0_raise 6 = .ok (.getfield 44, 3) := by decide +kernel
theorem dX0_raise_9 : decode cX0_raise 9 = .ok (.getfield 56, 3) := by decide +kernel
theorem dX0_raise_12 : decode cX0_raise 12 = .ok (.if_icmp .ge 10, 3) := by decide +kernel
theorem dX0_raise_15 : decode cX0_raise 15 = .ok (.aload_n 0, 1) := by decide +kernel
theorem dX0_raise_16 : decode cX0_raise 16 = .ok (.getfield 22, 3) := by decide +kernel
theorem dX0_raise_19 : decode cX0_raise 19 = .ok (.iload_n 1, 1) := by decide +kernel
theorem dX0_raise_20 : decode cX0_raise 20 = .ok (.iconst 0, 1) := by decide +kernel
theorem dX0_raise_21 : decode cX0_raise 21 = .ok (.iastore, 1) := by decide +kernel
theorem dX0_raise_22 : decode cX0_raise 22 = .ok (.return_, 1) := by decide +kernel
theorem dX0_lean_0 : decode cX0_lean 0 = .ok (.iconst 0, 1) := by decide +kernel
theorem dX0_lean_1 : decode cX0_lean 1 = .ok (.istore_n 3, 1) := by decide +kernel
theorem dX0_lean_2 : decode cX0_lean 2 = .ok (.iload_n 3, 1) := by decide +kernel
theorem dX0_lean_3 : decode cX0_lean 3 = .ok (.bipush 6, 2) := by decide +kernel
theorem dX0_lean_5 : decode cX0_lean 5 = .ok (.if_icmp .ge 16, 3) := by decide +kernel
theorem dX0_lean_8 : decode cX0_lean 8 = .ok (.aload_n 0, 1) := by decide +kernel
theorem dX0_lean_9 : decode cX0_lean 9 = .ok (.getfield 29, 3) := by decide +kernel
theorem dX0_lean_12 : decode cX0_lean 12 = .ok (.iload_n 3, 1) := by decide +kernel
theorem dX0_lean_13 : decode cX0_lean 13 = .ok (.iconst 0, 1) := by decide +kernel
theorem dX0_lean_14 : decode cX0_lean 14 = .ok (.iastore, 1) := by decide +kernel
theorem dX0_lean_15 : decode cX0_lean 15 = .ok (.iinc 3 1, 3) := by decide +kernel
theorem dX0_lean_18 : decode cX0_lean 18 = .ok (.goto (-16), 3) := by decide +kernel
theorem dX0_lean_21 : decode cX0_lean 21 = .ok (.aload_n 0, 1) := by decide +kernel
theorem dX0_lean_22 : decode cX0_lean 22 = .ok (.iconst (-1), 1) := by decide +kernel
theorem dX0_lean_23 : decode cX0_lean 23 = .ok (.putfield 35, 3) := by decide +kernel
theorem dX0_lean_26 : decode cX0_lean 26 = .ok (.iconst 0, 1) := by decide +kernel
theorem dX0_lean_27 : decode cX0_lean 27 = .ok (.istore_n 3, 1) := by decide +kernel
theorem dX0_lean_28 : decode cX0_lean 28 = .ok (.iload_n 3, 1) := by decide +kernel
theorem dX0_lean_29 : decode cX0_lean 29 = .ok (.aload_n 0, 1) := by decide +kernel
theorem dX0_lean_30 : decode cX0_lean 30 = .ok (.getfield 44, 3) := by decide +kernel
theorem dX0_lean_33 : decode cX0_lean 33 = .ok (.getfield 56, 3) := by decide +kernel
theorem dX0_lean_36 : decode cX0_lean 36 = .ok (.if_icmp .ge 106, 3) := by decide +kernel
theorem dX0_lean_39 : decode cX0_lean 39 = .ok (.aload_n 0, 1) := by decide +kernel
theorem dX0_lean_40 : decode cX0_lean 40 = .ok (.getfield 32, 3) := by decide +kernel
theorem dX0_lean_43 : decode cX0_lean 43 = .ok (.iload_n 3, 1) := by decide +kernel
theorem dX0_lean_44 : decode cX0_lean 44 = .ok (.aload_n 1, 1) := by decide +kernel
theorem dX0_lean_45 : decode cX0_lean 45 = .ok (.iload_n 3, 1) := by decide +kernel
theorem dX0_lean_46 : decode cX0_lean 46 = .ok (.iaload, 1) := by decide +kernel
theorem dX0_lean_47 : decode cX0_lean 47 = .ok (.aload_n 0, 1) := by decide +kernel
theorem dX0_lean_48 : decode cX0_lean 48 = .ok (.getfield 9, 3) := by decide +kernel
theorem dX0_lean_51 : decode cX0_lean 51 = .ok (.aload_n 0, 1) := by decide +kernel
theorem dX0_lean_52 : decode cX0_lean 52 = .ok (.getfield 15, 3) := by decide +kernel
theorem dX0_lean_55 : decode cX0_lean 55 = .ok (.invokestatic 109, 3) := by decide +kernel
theorem dX0_lean_58 : decode cX0_lean 58 = .ok (.ifCond .eq 7, 3) := by decide +kernel
theorem dX0_lean_61 : decode cX0_lean 61 = .ok (.iconst 0, 1) := by decide +kernel
theorem dX0_lean_62 : decode cX0_lean 62 = .ok (.goto 4, 3) := by decide +kernel
theorem dX0_lean_65 : decode cX0_lean 65 = .ok (.iconst 1, 1) := by decide +kernel
theorem dX0_lean_66 : decode cX0_lean 66 = .ok (.iastore, 1) := by decide +kernel
theorem dX0_lean_67 : decode cX0_lean 67 = .ok (.aload_n 0, 1) := by decide +kernel
theorem dX0_lean_68 : decode cX0_lean 68 = .ok (.getfield 22, 3) := by decide +kernel
theorem dX0_lean_71 : decode cX0_lean 71 = .ok (.iload_n 3, 1) := by decide +kernel
theorem dX0_lean_72 : decode cX0_lean 72 = .ok (.iaload, 1) := by decide +kernel
theorem dX0_lean_73 : decode cX0_lean 73 = .ok (.bipush 6, 2) := by decide +kernel
theorem dX0_lean_75 : decode cX0_lean 75 = .ok (.invokestatic 64, 3) := by decide +kernel
theorem dX0_lean_78 : decode cX0_lean 78 = .ok (.ifCond .eq 27, 3) := by decide +kernel
theorem dX0_lean_81 : decode cX0_lean 81 = .ok (.aload_n 0, 1) := by decide +kernel
theorem dX0_lean_82 : decode cX0_lean 82 = .ok (.getfield 29, 3) := by decide +kernel
theorem dX0_lean_85 : decode cX0_lean 85 = .ok (.aload_n 0, 1) := by decide +kernel
theorem dX0_lean_86 : decode cX0_lean 86 = .ok (.getfield 22, 3) := by decide +kernel
theorem dX0_lean_89 : decode cX0_lean 89 = .ok (.iload_n 3, 1) := by decide +kernel
theorem dX0_lean_90 : decode cX0_lean 90 = .ok (.iaload, 1) := by decide +kernel
theorem dX0_lean_91 : decode cX0_lean 91 = .ok (.dup2, 1) := by decide +kernel
theorem dX0_lean_92 : decode cX0_lean 92 = .ok (.iaload, 1) := by decide +kernel
theorem dX0_lean_93 : decode cX0_lean 93 = .ok (.iconst 1, 1) := by decide +kernel
theorem dX0_lean_94 : decode cX0_lean 94 = .ok (.iconst 2, 1) := by decide +kernel
theorem dX0_lean_95 : decode cX0_lean 95 = .ok (.aload_n 0, 1) := by decide +kernel
theorem dX0_lean_96 : decode cX0_lean 96 = .ok (.getfield 32, 3) := by decide +kernel
theorem dX0_lean_99 : decode cX0_lean 99 = .ok (.iload_n 3, 1) := by decide +kernel
theorem dX0_lean_100 : decode cX0_lean 100 = .ok (.iaload, 1) := by decide +kernel
theorem dX0_lean_101 : decode cX0_lean 101 = .ok (.imul, 1) := by decide +kernel
theorem dX0_lean_102 : decode cX0_lean 102 = .ok (.isub, 1) := by decide +kernel
theorem dX0_lean_103 : decode cX0_lean 103 = .ok (.iadd, 1) := by decide +kernel
theorem dX0_lean_104 : decode cX0_lean 104 = .ok (.iastore, 1) := by decide +kernel
theorem dX0_lean_105 : decode cX0_lean 105 = .ok (.aload_n 0, 1) := by decide +kernel
theorem dX0_lean_106 : decode cX0_lean 106 = .ok (.getfield 35, 3) := by decide +kernel
theorem dX0_lean_109 : decode cX0_lean 109 = .ok (.iconst (-1), 1) := by decide +kernel
theorem dX0_lean_110 : decode cX0_lean 110 = .ok (.if_icmp .eq 21, 3) := by decide +kernel
theorem dX0_lean_113 : decode cX0_lean 113 = .ok (.aload_n 0, 1) := by decide +kernel
theorem dX0_lean_114 : decode cX0_lean 114 = .ok (.getfield 22, 3) := by decide +kernel
theorem dX0_lean_117 : decode cX0_lean 117 = .ok (.iload_n 3, 1) := by decide +kernel
theorem dX0_lean_118 : decode cX0_lean 118 = .ok (.iaload, 1) := by decide +kernel
theorem dX0_lean_119 : decode cX0_lean 119 = .ok (.aload_n 0, 1) := by decide +kernel
theorem dX0_lean_120 : decode cX0_lean 120 = .ok (.getfield 22, 3) := by decide +kernel
theorem dX0_lean_123 : decode cX0_lean 123 = .ok (.aload_n 0, 1) := by decide +kernel
theorem dX0_lean_124 : decode cX0_lean 124 = .ok (.getfield 35, 3) := by decide +kernel
theorem dX0_lean_127 : decode cX0_lean 127 = .ok (.iaload, 1) := by decide +kernel
theorem dX0_lean_128 : decode cX0_lean 128 = .ok (.if_icmp .ge 8, 3) := by decide +kernel
theorem dX0_lean_131 : decode cX0_lean 131 = .ok (.aload_n 0, 1) := by decide +kernel
theorem dX0_lean_132 : decode cX0_lean 132 = .ok (.iload_n 3, 1) := by decide +kernel
theorem dX0_lean_133 : decode cX0_lean 133 = .ok (.putfield 35, 3) := by decide +kernel
theorem dX0_lean_136 : decode cX0_lean 136 = .ok (.iinc 3 1, 3) := by decide +kernel
theorem dX0_lean_139 : decode cX0_lean 139 = .ok (.goto (-111), 3) := by decide +kernel
theorem dX0_lean_142 : decode cX0_lean 142 = .ok (.iconst 0, 1) := by decide +kernel
theorem dX0_lean_143 : decode cX0_lean 143 = .ok (.istore_n 3, 1) := by decide +kernel
theorem dX0_lean_144 : decode cX0_lean 144 = .ok (.iload_n 3, 1) := by decide +kernel
theorem dX0_lean_145 : decode cX0_lean 145 = .ok (.aload_n 0, 1) := by decide +kernel
theorem dX0_lean_146 : decode cX0_lean 146 = .ok (.getfield 44, 3) := by decide +kernel
theorem dX0_lean_149 : decode cX0_lean 149 = .ok (.getfield 56, 3) := by decide +kernel
theorem dX0_lean_152 : decode cX0_lean 152 = .ok (.if_icmp .ge 75, 3) := by decide +kernel
theorem dX0_lean_155 : decode cX0_lean 155 = .ok (.aload_n 0, 1) := by decide +kernel
theorem dX0_lean_156 : decode cX0_lean 156 = .ok (.getfield 22, 3) := by decide +kernel
theorem dX0_lean_159 : decode cX0_lean 159 = .ok (.iload_n 3, 1) := by decide +kernel
theorem dX0_lean_160 : decode cX0_lean 160 = .ok (.iaload, 1) := by decide +kernel
theorem dX0_lean_161 : decode cX0_lean 161 = .ok (.bipush 6, 2) := by decide +kernel
theorem dX0_lean_163 : decode cX0_lean 163 = .ok (.invokestatic 64, 3) := by decide +kernel
theorem dX0_lean_166 : decode cX0_lean 166 = .ok (.ifCond .eq 17, 3) := by decide +kernel
theorem dX0_lean_169 : decode cX0_lean 169 = .ok (.aload_n 0, 1) := by decide +kernel
theorem dX0_lean_170 : decode cX0_lean 170 = .ok (.getfield 29, 3) := by decide +kernel
theorem dX0_lean_173 : decode cX0_lean 173 = .ok (.aload_n 0, 1) := by decide +kernel
theorem dX0_lean_174 : decode cX0_lean 174 = .ok (.getfield 22, 3) := by decide +kernel
theorem dX0_lean_177 : decode cX0_lean 177 = .ok (.iload_n 3, 1) := by decide +kernel
theorem dX0_lean_178 : decode cX0_lean 178 = .ok (.iaload, 1) := by decide +kernel
theorem dX0_lean_179 : decode cX0_lean 179 = .ok (.iaload, 1) := by decide +kernel
theorem dX0_lean_180 : decode cX0_lean 180 = .ok (.goto 4, 3) := by decide +kernel
theorem dX0_lean_183 : decode cX0_lean 183 = .ok (.iconst 0, 1) := by decide +kernel
theorem dX0_lean_184 : decode cX0_lean 184 = .ok (.istore 4, 2) := by decide +kernel
theorem dX0_lean_186 : decode cX0_lean 186 = .ok (.aload_n 0, 1) := by decide +kernel
theorem dX0_lean_187 : decode cX0_lean 187 = .ok (.getfield 22, 3) := by decide +kernel
theorem dX0_lean_190 : decode cX0_lean 190 = .ok (.iload_n 3, 1) := by decide +kernel
theorem dX0_lean_191 : decode cX0_lean 191 = .ok (.iaload, 1) := by decide +kernel
theorem dX0_lean_192 : decode cX0_lean 192 = .ok (.iload_n 2, 1) := by decide +kernel
theorem dX0_lean_193 : decode cX0_lean 193 = .ok (.invokestatic 113, 3) := by decide +kernel
theorem dX0_lean_196 : decode cX0_lean 196 = .ok (.iconst 2, 1) := by decide +kernel
theorem dX0_lean_197 : decode cX0_lean 197 = .ok (.if_icmp .ge 24, 3) := by decide +kernel
theorem dX0_lean_200 : decode cX0_lean 200 = .ok (.iload 4, 2) := by decide +kernel
theorem dX0_lean_202 : decode cX0_lean 202 = .ok (.ifCond .eq 19, 3) := by decide +kernel
theorem dX0_lean_205 : decode cX0_lean 205 = .ok (.aload_n 0, 1) := by decide +kernel
theorem dX0_lean_206 : decode cX0_lean 206 = .ok (.getfield 32, 3) := by decide +kernel
theorem dX0_lean_209 : decode cX0_lean 209 = .ok (.iload_n 3, 1) := by decide +kernel
theorem dX0_lean_210 : decode cX0_lean 210 = .ok (.iload 4, 2) := by decide +kernel
theorem dX0_lean_212 : decode cX0_lean 212 = .ok (.ifCond .le 7, 3) := by decide +kernel
theorem dX0_lean_215 : decode cX0_lean 215 = .ok (.iconst 0, 1) := by decide +kernel
theorem dX0_lean_216 : decode cX0_lean 216 = .ok (.goto 4, 3) := by decide +kernel
theorem dX0_lean_219 : decode cX0_lean 219 = .ok (.iconst 1, 1) := by decide +kernel
theorem dX0_lean_220 : decode cX0_lean 220 = .ok (.iastore, 1) := by decide +kernel
theorem dX0_lean_221 : decode cX0_lean 221 = .ok (.iinc 3 1, 3) := by decide +kernel
theorem dX0_lean_224 : decode cX0_lean 224 = .ok (.goto (-80), 3) := by decide +kernel
theorem dX0_lean_227 : decode cX0_lean 227 = .ok (.return_, 1) := by decide +kernel
theorem dX0_tally_0 : decode cX0_tally 0 = .ok (.aload_n 0, 1) := by decide +kernel
theorem dX0_tally_1 : decode cX0_tally 1 = .ok (.iconst 0, 1) := by decide +kernel
theorem dX0_tally_2 : decode cX0_tally 2 = .ok (.putfield 38, 3) := by decide +kernel
theorem dX0_tally_5 : decode cX0_tally 5 = .ok (.aload_n 0, 1) := by decide +kernel
theorem dX0_tally_6 : decode cX0_tally 6 = .ok (.iconst 0, 1) := by decide +kernel
theorem dX0_tally_7 : decode cX0_tally 7 = .ok (.putfield 41, 3) := by decide +kernel
theorem dX0_tally_10 : decode cX0_tally 10 = .ok (.iconst 0, 1) := by decide +kernel
theorem dX0_tally_11 : decode cX0_tally 11 = .ok (.istore_n 1, 1) := by decide +kernel
theorem dX0_tally_12 : decode cX0_tally 12 = .ok (.iload_n 1, 1) := by decide +kernel
theorem dX0_tally_13 : decode cX0_tally 13 = .ok (.aload_n 0, 1) := by decide +kernel
theorem dX0_tally_14 : decode cX0_tally 14 = .ok (.getfield 44, 3) := by decide +kernel
theorem dX0_tally_17 : decode cX0_tally 17 = .ok (.getfield 56, 3) := by decide +kernel
theorem dX0_tally_20 : decode cX0_tally 20 = .ok (.if_icmp .ge 70, 3) := by decide +kernel
theorem dX0_tally_23 : decode cX0_tally 23 = .ok (.aload_n 0, 1) := by decide +kernel
theorem dX0_tally_24 : decode cX0_tally 24 = .ok (.getfield 18, 3) := by decide +kernel
theorem dX0_tally_27 : decode cX0_tally 27 = .ok (.ifCond .eq 14, 3) := by decide +kernel
theorem dX0_tally_30 : decode cX0_tally 30 = .ok (.aload_n 0, 1) := by decide +kernel
theorem dX0_tally_31 : decode cX0_tally 31 = .ok (.getfield 44, 3) := by decide +kernel
theorem dX0_tally_34 : decode cX0_tally 34 = .ok (.iload_n 1, 1) := by decide +kernel
theorem dX0_tally_35 : decode cX0_tally 35 = .ok (.invokevirtual 117, 3) := by decide +kernel
theorem dX0_tally_38 : decode cX0_tally 38 = .ok (.goto 4, 3) := by decide +kernel
theorem dX0_tally_41 : decode cX0_tally 41 = .ok (.iconst 1, 1) := by decide +kernel
theorem dX0_tally_42 : decode cX0_tally 42 = .ok (.istore_n 2, 1) := by decide +kernel
theorem dX0_tally_43 : decode cX0_tally 43 = .ok (.aload_n 0, 1) := by decide +kernel
theorem dX0_tally_44 : decode cX0_tally 44 = .ok (.dup, 1) := by decide +kernel
theorem dX0_tally_45 : decode cX0_tally 45 = .ok (.getfield 38, 3) := by decide +kernel
theorem dX0_tally_48 : decode cX0_tally 48 = .ok (.iconst 1, 1) := by decide +kernel
theorem dX0_tally_49 : decode cX0_tally 49 = .ok (.aload_n 0, 1) := by decide +kernel
theorem dX0_tally_50 : decode cX0_tally 50 = .ok (.getfield 32, 3) := by decide +kernel
theorem dX0_tally_53 : decode cX0_tally 53 = .ok (.iload_n 1, 1) := by decide +kernel
theorem dX0_tally_54 : decode cX0_tally 54 = .ok (.iaload, 1) := by decide +kernel
theorem dX0_tally_55 : decode cX0_tally 55 = .ok (.isub, 1) := by decide +kernel
theorem dX0_tally_56 : decode cX0_tally 56 = .ok (.iadd, 1) := by decide +kernel
theorem dX0_tally_57 : decode cX0_tally 57 = .ok (.putfield 38, 3) := by decide +kernel
theorem dX0_tally_60 : decode cX0_tally 60 = .ok (.aload_n 0, 1) := by decide +kernel
theorem dX0_tally_61 : decode cX0_tally 61 = .ok (.dup, 1) := by decide +kernel
theorem dX0_tally_62 : decode cX0_tally 62 = .ok (.getfield 41, 3) := by decide +kernel
theorem dX0_tally_65 : decode cX0_tally 65 = .ok (.aload_n 0, 1) := by decide +kernel
theorem dX0_tally_66 : decode cX0_tally 66 = .ok (.getfield 32, 3) := by decide +kernel
theorem dX0_tally_69 : decode cX0_tally 69 = .ok (.iload_n 1, 1) := by decide +kernel
theorem dX0_tally_70 : decode cX0_tally 70 = .ok (.iaload, 1) := by decide +kernel
theorem dX0_tally_71 : decode cX0_tally 71 = .ok (.ifCond .ne 7, 3) := by decide +kernel
theorem dX0_tally_74 : decode cX0_tally 74 = .ok (.iload_n 2, 1) := by decide +kernel
theorem dX0_tally_75 : decode cX0_tally 75 = .ok (.goto 5, 3) := by decide +kernel
theorem dX0_tally_78 : decode cX0_tally 78 = .ok (.iload_n 2, 1) := by decide +kernel
theorem dX0_tally_79 : decode cX0_tally 79 = .ok (.ineg, 1) := by decide +kernel
theorem dX0_tally_80 : decode cX0_tally 80 = .ok (.iadd, 1) := by decide +kernel
theorem dX0_tally_81 : decode cX0_tally 81 = .ok (.putfield 41, 3) := by decide +kernel
theorem dX0_tally_84 : decode cX0_tally 84 = .ok (.iinc 1 1, 3) := by decide +kernel
theorem dX0_tally_87 : decode cX0_tally 87 = .ok (.goto (-75), 3) := by decide +kernel
theorem dX0_tally_90 : decode cX0_tally 90 = .ok (.aload_n 0, 1) := by decide +kernel
theorem dX0_tally_91 : decode cX0_tally 91 = .ok (.getfield 41, 3) := by decide +kernel
theorem dX0_tally_94 : decode cX0_tally 94 = .ok (.ifCond .ne 19, 3) := by decide +kernel
theorem dX0_tally_97 : decode cX0_tally 97 = .ok (.aload_n 0, 1) := by decide +kernel
theorem dX0_tally_98 : decode cX0_tally 98 = .ok (.getfield 35, 3) := by decide +kernel
theorem dX0_tally_101 : decode cX0_tally 101 = .ok (.ifCond .lt 12, 3) := by decide +kernel
theorem dX0_tally_104 : decode cX0_tally 104 = .ok (.aload_n 0, 1) := by decide +kernel
theorem dX0_tally_105 : decode cX0_tally 105 = .ok (.aload_n 0, 1) := by decide +kernel
theorem dX0_tally_106 : decode cX0_tally 106 = .ok (.getfield 35, 3) := by decide +kernel
theorem dX0_tally_109 : decode cX0_tally 109 = .ok (.invokevirtual 121, 3) := by decide +kernel
theorem dX0_tally_112 : decode cX0_tally 112 = .ok (.ireturn, 1) := by decide +kernel
theorem dX0_tally_113 : decode cX0_tally 113 = .ok (.aload_n 0, 1) := by decide +kernel
theorem dX0_tally_114 : decode cX0_tally 114 = .ok (.getfield 41, 3) := by decide +kernel
theorem dX0_tally_117 : decode cX0_tally 117 = .ok (.ifCond .le 10, 3) := by decide +kernel
theorem dX0_tally_120 : decode cX0_tally 120 = .ok (.aload_n 0, 1) := by decide +kernel
theorem dX0_tally_121 : decode cX0_tally 121 = .ok (.getfield 9, 3) := by decide +kernel
theorem dX0_tally_124 : decode cX0_tally 124 = .ok (.goto 7, 3) := by decide +kernel
theorem dX0_tally_127 : decode cX0_tally 127 = .ok (.aload_n 0, 1) := by decide +kernel
theorem dX0_tally_128 : decode cX0_tally 128 = .ok (.getfield 15, 3) := by decide +kernel
theorem dX0_tally_131 : decode cX0_tally 131 = .ok (.ireturn, 1) := by decide +kernel
theorem dX0_votesFor_0 : decode cX0_votesFor 0 = .ok (.iload_n 1, 1) := by decide +kernel
theorem dX0_votesFor_1 : decode cX0_votesFor 1 = .ok (.ifCond .lt 30, 3) := by decide +kernel
theorem dX0_votesFor_4 : decode cX0_votesFor 4 = .ok (.iload_n 1, 1) := by decide +kernel
theorem dX0_votesFor_5 : decode cX0_votesFor 5 = .ok (.aload_n 0, 1) := by decide +kernel
theorem dX0_votesFor_6 : decode cX0_votesFor 6 = .ok (.getfield 44, 3) := by decide +kernel
theorem dX0_votesFor_9 : decode cX0_votesFor 9 = .ok (.getfield 56, 3) := by decide +kernel
theorem dX0_votesFor_12 : decode cX0_votesFor 12 = .ok (.if_icmp .ge 19, 3) := by decide +kernel
theorem dX0_votesFor_15 : decode cX0_votesFor 15 = .ok (.aload_n 0, 1) := by decide +kernel
theorem dX0_votesFor_16 : decode cX0_votesFor 16 = .ok (.getfield 32, 3) := by decide +kernel
theorem dX0_votesFor_19 : decode cX0_votesFor 19 = .ok (.iload_n 1, 1) := by decide +kernel
theorem dX0_votesFor_20 : decode cX0_votesFor 20 = .ok (.iaload, 1) := by decide +kernel
theorem dX0_votesFor_21 : decode cX0_votesFor 21 = .ok (.ifCond .ne 10, 3) := by decide +kernel
theorem dX0_votesFor_24 : decode cX0_votesFor 24 = .ok (.aload_n 0, 1) := by decide +kernel
theorem dX0_votesFor_25 : decode cX0_votesFor 25 = .ok (.getfield 9, 3) := by decide +kernel
theorem dX0_votesFor_28 : decode cX0_votesFor 28 = .ok (.goto 7, 3) := by decide +kernel
theorem dX0_votesFor_31 : decode cX0_votesFor 31 = .ok (.aload_n 0, 1) := by decide +kernel
theorem dX0_votesFor_32 : decode cX0_votesFor 32 = .ok (.getfield 15, 3) := by decide +kernel
theorem dX0_votesFor_35 : decode cX0_votesFor 35 = .ok (.ireturn, 1) := by decide +kernel
theorem dX1_init_0 : decode cX1_init 0 = .ok (.aload_n 0, 1) := by decide +kernel
theorem dX1_init_1 : decode cX1_init 1 = .ok (.invokespecial 3, 3) := by decide +kernel
theorem dX1_init_4 : decode cX1_init 4 = .ok (.aload_n 0, 1) := by decide +kernel
theorem dX1_init_5 : decode cX1_init 5 = .ok (.iconst 0, 1) := by decide +kernel
theorem dX1_init_6 : decode cX1_init 6 = .ok (.putfield 9, 3) := by decide +kernel
theorem dX1_init_9 : decode cX1_init 9 = .ok (.aload_n 0, 1) := by decide +kernel
theorem dX1_init_10 : decode cX1_init 10 = .ok (.bipush 8, 2) := by decide +kernel
theorem dX1_init_12 : decode cX1_init 12 = .ok (.newarray .int, 2) := by decide +kernel
theorem dX1_init_14 : decode cX1_init 14 = .ok (.putfield 15, 3) := by decide +kernel
theorem dX1_init_17 : decode cX1_init 17 = .ok (.aload_n 0, 1) := by decide +kernel
theorem dX1_init_18 : decode cX1_init 18 = .ok (.bipush 8, 2) := by decide +kernel
theorem dX1_init_20 : decode cX1_init 20 = .ok (.newarray .int, 2) := by decide +kernel
theorem dX1_init_22 : decode cX1_init 22 = .ok (.putfield 19, 3) := by decide +kernel
theorem dX1_init_25 : decode cX1_init 25 = .ok (.aload_n 0, 1) := by decide +kernel
theorem dX1_init_26 : decode cX1_init 26 = .ok (.bipush 8, 2) := by decide +kernel
theorem dX1_init_28 : decode cX1_init 28 = .ok (.newarray .int, 2) := by decide +kernel
theorem dX1_init_30 : decode cX1_init 30 = .ok (.putfield 22, 3) := by decide +kernel
theorem dX1_init_33 : decode cX1_init 33 = .ok (.return_, 1) := by decide +kernel
theorem dX1_add_0 : decode cX1_add 0 = .ok (.aload_n 0, 1) := by decide +kernel
theorem dX1_add_1 : decode cX1_add 1 = .ok (.getfield 9, 3) := by decide +kernel
theorem dX1_add_4 : decode cX1_add 4 = .ok (.bipush 8, 2) := by decide +kernel
theorem dX1_add_6 : decode cX1_add 6 = .ok (.if_icmp .lt 5, 3) := by decide +kernel
theorem dX1_add_9 : decode cX1_add 9 = .ok (.iconst 0, 1) := by decide +kernel
theorem dX1_add_10 : decode cX1_add 10 = .ok (.ireturn, 1) := by decide +kernel
theorem dX1_add_11 : decode cX1_add 11 = .ok (.aload_n 0, 1) := by decide +kernel
theorem dX1_add_12 : decode cX1_add 12 = .ok (.getfield 15, 3) := by decide +kernel
theorem dX1_add_15 : decode cX1_add 15 = .ok (.aload_n 0, 1) := by decide +kernel
theorem dX1_add_16 : decode cX1_add 16 = .ok (.getfield 9, 3) := by decide +kernel
theorem dX1_add_19 : decode cX1_add 19 = .ok (.iload_n 1, 1) := by decide +kernel
theorem dX1_add_20 : decode cX1_add 20 = .ok (.iastore, 1) := by decide +kernel
theorem dX1_add_21 : decode cX1_add 21 = .ok (.aload_n 0, 1) := by decide +kernel
theorem dX1_add_22 : decode cX1_add 22 = .ok (.getfield 19, 3) := by decide +kernel
theorem dX1_add_25 : decode cX1_add 25 = .ok (.aload_n 0, 1) := by decide +kernel
theorem dX1_add_26 : decode cX1_add 26 = .ok (.getfield 9, 3) := by decide +kernel
theorem dX1_add_29 : decode cX1_add 29 = .ok (.iload_n 2, 1) := by decide +kernel
theorem dX1_add_30 : decode cX1_add 30 = .ok (.iastore, 1) := by decide +kernel
theorem dX1_add_31 : decode cX1_add 31 = .ok (.aload_n 0, 1) := by decide +kernel
theorem dX1_add_32 : decode cX1_add 32 = .ok (.getfield 22, 3) := by decide +kernel
theorem dX1_add_35 : decode cX1_add 35 = .ok (.aload_n 0, 1) := by decide +kernel
theorem dX1_add_36 : decode cX1_add 36 = .ok (.getfield 9, 3) := by decide +kernel
theorem dX1_add_39 : decode cX1_add 39 = .ok (.iload_n 3, 1) := by decide +kernel
theorem dX1_add_40 : decode cX1_add 40 = .ok (.iastore, 1) := by decide +kernel
theorem dX1_add_41 : decode cX1_add 41 = .ok (.aload_n 0, 1) := by decide +kernel
theorem dX1_add_42 : decode cX1_add 42 = .ok (.dup, 1) := by decide +kernel
theorem dX1_add_43 : decode cX1_add 43 = .ok (.getfield 9, 3) := by decide +kernel
theorem dX1_add_46 : decode cX1_add 46 = .ok (.iconst 1, 1) := by decide +kernel
theorem dX1_add_47 : decode cX1_add 47 = .ok (.iadd, 1) := by decide +kernel
theorem dX1_add_48 : decode cX1_add 48 = .ok (.putfield 9, 3) := by decide +kernel
theorem dX1_add_51 : decode cX1_add 51 = .ok (.iconst 1, 1) := by decide +kernel
theorem dX1_add_52 : decode cX1_add 52 = .ok (.ireturn, 1) := by decide +kernel
theorem dX2_init_0 : decode cX2_init 0 = .ok (.aload_n 0, 1) := by decide +kernel
theorem dX2_init_1 : decode cX2_init 1 = .ok (.invokespecial 3, 3) := by decide +kernel
theorem dX2_init_4 : decode cX2_init 4 = .ok (.aload_n 0, 1) := by decide +kernel
theorem dX2_init_5 : decode cX2_init 5 = .ok (.iconst 0, 1) := by decide +kernel
theorem dX2_init_6 : decode cX2_init 6 = .ok (.putfield 9, 3) := by decide +kernel
theorem dX2_init_9 : decode cX2_init 9 = .ok (.aload_n 0, 1) := by decide +kernel
theorem dX2_init_10 : decode cX2_init 10 = .ok (.bipush 6, 2) := by decide +kernel
theorem dX2_init_12 : decode cX2_init 12 = .ok (.newarray .int, 2) := by decide +kernel
theorem dX2_init_14 : decode cX2_init 14 = .ok (.putfield 15, 3) := by decide +kernel
theorem dX2_init_17 : decode cX2_init 17 = .ok (.return_, 1) := by decide +kernel
theorem dX2_add_0 : decode cX2_add 0 = .ok (.aload_n 0, 1) := by decide +kernel
theorem dX2_add_1 : decode cX2_add 1 = .ok (.getfield 9, 3) := by decide +kernel
theorem dX2_add_4 : decode cX2_add 4 = .ok (.bipush 6, 2) := by decide +kernel
theorem dX2_add_6 : decode cX2_add 6 = .ok (.if_icmp .lt 5, 3) := by decide +kernel
theorem dX2_add_9 : decode cX2_add 9 = .ok (.iconst 0, 1) := by decide +kernel
theorem dX2_add_10 : decode cX2_add 10 = .ok (.ireturn, 1) := by decide +kernel
theorem dX2_add_11 : decode cX2_add 11 = .ok (.aload_n 0, 1) := by decide +kernel
theorem dX2_add_12 : decode cX2_add 12 = .ok (.getfield 15, 3) := by decide +kernel
theorem dX2_add_15 : decode cX2_add 15 = .ok (.aload_n 0, 1) := by decide +kernel
theorem dX2_add_16 : decode cX2_add 16 = .ok (.dup, 1) := by decide +kernel
theorem dX2_add_17 : decode cX2_add 17 = .ok (.getfield 9, 3) := by decide +kernel
theorem dX2_add_20 : decode cX2_add 20 = .ok (.dup_x1, 1) := by decide +kernel
theorem dX2_add_21 : decode cX2_add 21 = .ok (.iconst 1, 1) := by decide +kernel
theorem dX2_add_22 : decode cX2_add 22 = .ok (.iadd, 1) := by decide +kernel
theorem dX2_add_23 : decode cX2_add 23 = .ok (.putfield 9, 3) := by decide +kernel
theorem dX2_add_26 : decode cX2_add 26 = .ok (.iload_n 1, 1) := by decide +kernel
theorem dX2_add_27 : decode cX2_add 27 = .ok (.iastore, 1) := by decide +kernel
theorem dX2_add_28 : decode cX2_add 28 = .ok (.iconst 1, 1) := by decide +kernel
theorem dX2_add_29 : decode cX2_add 29 = .ok (.ireturn, 1) := by decide +kernel
theorem dX2_has_0 : decode cX2_has 0 = .ok (.iconst 0, 1) := by decide +kernel
theorem dX2_has_1 : decode cX2_has 1 = .ok (.istore_n 2, 1) := by decide +kernel
theorem dX2_has_2 : decode cX2_has 2 = .ok (.iload_n 2, 1) := by decide +kernel
theorem dX2_has_3 : decode cX2_has 3 = .ok (.aload_n 0, 1) := by decide +kernel
theorem dX2_has_4 : decode cX2_has 4 = .ok (.getfield 9, 3) := by decide +kernel
theorem dX2_has_7 : decode cX2_has 7 = .ok (.if_icmp .ge 21, 3) := by decide +kernel
theorem dX2_has_10 : decode cX2_has 10 = .ok (.aload_n 0, 1) := by decide +kernel
theorem dX2_has_11 : decode cX2_has 11 = .ok (.getfield 15, 3) := by decide +kernel
theorem dX2_has_14 : decode cX2_has 14 = .ok (.iload_n 2, 1) := by decide +kernel
theorem dX2_has_15 : decode cX2_has 15 = .ok (.iaload, 1) := by decide +kernel
theorem dX2_has_16 : decode cX2_has 16 = .ok (.iload_n 1, 1) := by decide +kernel
theorem dX2_has_17 : decode cX2_has 17 = .ok (.if_icmp .ne 5, 3) := by decide +kernel
theorem dX2_has_20 : decode cX2_has 20 = .ok (.iconst 1, 1) := by decide +kernel
theorem dX2_has_21 : decode cX2_has 21 = .ok (.ireturn, 1) := by decide +kernel
theorem dX2_has_22 : decode cX2_has 22 = .ok (.iinc 2 1, 3) := by decide +kernel
theorem dX2_has_25 : decode cX2_has 25 = .ok (.goto (-23), 3) := by decide +kernel
theorem dX2_has_28 : decode cX2_has 28 = .ok (.iconst 0, 1) := by decide +kernel
theorem dX2_has_29 : decode cX2_has 29 = .ok (.ireturn, 1) := by decide +kernel
theorem dX3_init_0 : decode cX3_init 0 = .ok (.aload_n 0, 1) := by decide +kernel
theorem dX3_init_1 : decode cX3_init 1 = .ok (.invokespecial 3, 3) := by decide +kernel
theorem dX3_init_4 : decode cX3_init 4 = .ok (.aload_n 0, 1) := by decide +kernel
theorem dX3_init_5 : decode cX3_init 5 = .ok (.iconst 0, 1) := by decide +kernel
theorem dX3_init_6 : decode cX3_init 6 = .ok (.putfield 9, 3) := by decide +kernel
theorem dX3_init_9 : decode cX3_init 9 = .ok (.aload_n 0, 1) := by decide +kernel
theorem dX3_init_10 : decode cX3_init 10 = .ok (.iconst (-1), 1) := by decide +kernel
theorem dX3_init_11 : decode cX3_init 11 = .ok (.putfield 15, 3) := by decide +kernel
theorem dX3_init_14 : decode cX3_init 14 = .ok (.aload_n 0, 1) := by decide +kernel
theorem dX3_init_15 : decode cX3_init 15 = .ok (.bipush 10, 2) := by decide +kernel
theorem dX3_init_17 : decode cX3_init 17 = .ok (.newarray .int, 2) := by decide +kernel
theorem dX3_init_19 : decode cX3_init 19 = .ok (.putfield 18, 3) := by decide +kernel
theorem dX3_init_22 : decode cX3_init 22 = .ok (.aload_n 0, 1) := by decide +kernel
theorem dX3_init_23 : decode cX3_init 23 = .ok (.bipush 10, 2) := by decide +kernel
theorem dX3_init_25 : decode cX3_init 25 = .ok (.newarray .int, 2) := by decide +kernel
theorem dX3_init_27 : decode cX3_init 27 = .ok (.putfield 22, 3) := by decide +kernel
theorem dX3_init_30 : decode cX3_init 30 = .ok (.aload_n 0, 1) := by decide +kernel
theorem dX3_init_31 : decode cX3_init 31 = .ok (.bipush 10, 2) := by decide +kernel
theorem dX3_init_33 : decode cX3_init 33 = .ok (.newarray .int, 2) := by decide +kernel
theorem dX3_init_35 : decode cX3_init 35 = .ok (.putfield 25, 3) := by decide +kernel
theorem dX3_init_38 : decode cX3_init 38 = .ok (.return_, 1) := by decide +kernel
theorem dX3_take_0 : decode cX3_take 0 = .ok (.aload_n 0, 1) := by decide +kernel
theorem dX3_take_1 : decode cX3_take 1 = .ok (.aload_n 1, 1) := by decide +kernel
theorem dX3_take_2 : decode cX3_take 2 = .ok (.invokestatic 28, 3) := by decide +kernel
theorem dX3_take_5 : decode cX3_take 5 = .ok (.putfield 15, 3) := by decide +kernel
theorem dX3_take_8 : decode cX3_take 8 = .ok (.aload_n 0, 1) := by decide +kernel
theorem dX3_take_9 : decode cX3_take 9 = .ok (.iconst 0, 1) := by decide +kernel
theorem dX3_take_10 : decode cX3_take 10 = .ok (.putfield 9, 3) := by decide +kernel
theorem dX3_take_13 : decode cX3_take 13 = .ok (.aload_n 0, 1) := by decide +kernel
theorem dX3_take_14 : decode cX3_take 14 = .ok (.getfield 15, 3) := by decide +kernel
theorem dX3_take_17 : decode cX3_take 17 = .ok (.iconst (-1), 1) := by decide +kernel
theorem dX3_take_18 : decode cX3_take 18 = .ok (.if_icmp .eq 4, 3) := by decide +kernel
theorem dX3_take_21 : decode cX3_take 21 = .ok (.return_, 1) := by decide +kernel
theorem dX3_take_22 : decode cX3_take 22 = .ok (.iconst 0, 1) := by decide +kernel
theorem dX3_take_23 : decode cX3_take 23 = .ok (.istore_n 2, 1) := by decide +kernel
theorem dX3_take_24 : decode cX3_take 24 = .ok (.iload_n 2, 1) := by decide +kernel
theorem dX3_take_25 : decode cX3_take 25 = .ok (.aload_n 1, 1) := by decide +kernel
theorem dX3_take_26 : decode cX3_take 26 = .ok (.getfield 32, 3) := by decide +kernel
theorem dX3_take_29 : decode cX3_take 29 = .ok (.if_icmp .ge 83, 3) := by decide +kernel
theorem dX3_take_32 : decode cX3_take 32 = .ok (.aload_n 0, 1) := by decide +kernel
theorem dX3_take_33 : decode cX3_take 33 = .ok (.getfield 9, 3) := by decide +kernel
theorem dX3_take_36 : decode cX3_take 36 = .ok (.bipush 10, 2) := by decide +kernel
theorem dX3_take_38 : decode cX3_take 38 = .ok (.if_icmp .ge 74, 3) := by decide +kernel
theorem dX3_take_41 : decode cX3_take 41 = .ok (.aload_n 0, 1) := by decide +kernel
theorem dX3_take_42 : decode cX3_take 42 = .ok (.getfield 18, 3) := by decide +kernel
theorem dX3_take_45 : decode cX3_take 45 = .ok (.aload_n 0, 1) := by decide +kernel
theorem dX3_take_46 : decode cX3_take 46 = .ok (.getfield 9, 3) := by decide +kernel
theorem dX3_take_49 : decode cX3_take 49 = .ok (.aload_n 1, 1) := by decide +kernel
theorem dX3_take_50 : decode cX3_take 50 = .ok (.iload_n 2, 1) := by decide +kernel
theorem dX3_take_51 : decode cX3_take 51 = .ok (.invokevirtual 35, 3) := by decide +kernel
theorem dX3_take_54 : decode cX3_take 54 = .ok (.bipush 97, 2) := by decide +kernel
theorem dX3_take_56 : decode cX3_take 56 = .ok (.isub, 1) := by decide +kernel
theorem dX3_take_57 : decode cX3_take 57 = .ok (.iastore, 1) := by decide +kernel
theorem dX3_take_58 : decode cX3_take 58 = .ok (.aload_n 0, 1) := by decide +kernel
theorem dX3_take_59 : decode cX3_take 59 = .ok (.getfield 22, 3) := by decide +kernel
theorem dX3_take_62 : decode cX3_take 62 = .ok (.aload_n 0, 1) := by decide +kernel
theorem dX3_take_63 : decode cX3_take 63 = .ok (.getfield 9, 3) := by decide +kernel
theorem dX3_take_66 : decode cX3_take 66 = .ok (.aload_n 1, 1) := by decide +kernel
theorem dX3_take_67 : decode cX3_take 67 = .ok (.iload_n 2, 1) := by decide +kernel
theorem dX3_take_68 : decode cX3_take 68 = .ok (.iconst 1, 1) := by decide +kernel
theorem dX3_take_69 : decode cX3_take 69 = .ok (.iadd, 1) := by decide +kernel
theorem dX3_take_70 : decode cX3_take 70 = .ok (.invokevirtual 35, 3) := by decide +kernel
theorem dX3_take_73 : decode cX3_take 73 = .ok (.bipush 97, 2) := by decide +kernel
theorem dX3_take_75 : decode cX3_take 75 = .ok (.isub, 1) := by decide +kernel
theorem dX3_take_76 : decode cX3_take 76 = .ok (.iastore, 1) := by decide +kernel
theorem dX3_take_77 : decode cX3_take 77 = .ok (.aload_n 0, 1) := by decide +kernel
theorem dX3_take_78 : decode cX3_take 78 = .ok (.getfield 25, 3) := by decide +kernel
theorem dX3_take_81 : decode cX3_take 81 = .ok (.aload_n 0, 1) := by decide +kernel
theorem dX3_take_82 : decode cX3_take 82 = .ok (.getfield 9, 3) := by decide +kernel
theorem dX3_take_85 : decode cX3_take 85 = .ok (.aload_n 1, 1) := by decide +kernel
theorem dX3_take_86 : decode cX3_take 86 = .ok (.iload_n 2, 1) := by decide +kernel
theorem dX3_take_87 : decode cX3_take 87 = .ok (.iconst 2, 1) := by decide +kernel
theorem dX3_take_88 : decode cX3_take 88 = .ok (.iadd, 1) := by decide +kernel
theorem dX3_take_89 : decode cX3_take 89 = .ok (.invokevirtual 35, 3) := by decide +kernel
theorem dX3_take_92 : decode cX3_take 92 = .ok (.bipush 48, 2) := by decide +kernel
theorem dX3_take_94 : decode cX3_take 94 = .ok (.isub, 1) := by decide +kernel
theorem dX3_take_95 : decode cX3_take 95 = .ok (.iastore, 1) := by decide +kernel
theorem dX3_take_96 : decode cX3_take 96 = .ok (.aload_n 0, 1) := by decide +kernel
theorem dX3_take_97 : decode cX3_take 97 = .ok (.dup, 1) := by decide +kernel
theorem dX3_take_98 : decode cX3_take 98 = .ok (.getfield 9, 3) := by decide +kernel
theorem dX3_take_101 : decode cX3_take 101 = .ok (.iconst 1, 1) := by decide +kernel
theorem dX3_take_102 : decode cX3_take 102 = .ok (.iadd, 1) := by decide +kernel
theorem dX3_take_103 : decode cX3_take 103 = .ok (.putfield 9, 3) := by decide +kernel
theorem dX3_take_106 : decode cX3_take 106 = .ok (.iinc 2 3, 3) := by decide +kernel
theorem dX3_take_109 : decode cX3_take 109 = .ok (.goto (-85), 3) := by decide +kernel
theorem dX3_take_112 : decode cX3_take 112 = .ok (.return_, 1) := by decide +kernel
theorem dX3_findFault_0 : decode cX3_findFault 0 = .ok (.iconst 0, 1) := by decide +kernel
theorem dX3_findFault_1 : decode cX3_findFault 1 = .ok (.istore_n 1, 1) := by decide +kernel
theorem dX3_findFault_2 : decode cX3_findFault 2 = .ok (.iload_n 1, 1) := by decide +kernel
theorem dX3_findFault_3 : decode cX3_findFault 3 = .ok (.aload_n 0, 1) := by decide +kernel
theorem dX3_findFault_4 : decode cX3_findFault 4 = .ok (.getfield 32, 3) := by decide +kernel
theorem dX3_findFault_7 : decode cX3_findFault 7 = .ok (.if_icmp .ge 19, 3) := by decide +kernel
theorem dX3_findFault_10 : decode cX3_findFault 10 = .ok (.aload_n 0, 1) := by decide +kernel
theorem dX3_findFault_11 : decode cX3_findFault 11 = .ok (.iload_n 1, 1) := by decide +kernel
theorem dX3_findFault_12 : decode cX3_findFault 12 = .ok (.invokestatic 39, 3) := by decide +kernel
theorem dX3_findFault_15 : decode cX3_findFault 15 = .ok (.ifCond .ne 5, 3) := by decide +kernel
theorem dX3_findFault_18 : decode cX3_findFault 18 = .ok (.iload_n 1, 1) := by decide +kernel
theorem dX3_findFault_19 : decode cX3_findFault 19 = .ok (.ireturn, 1) := by decide +kernel
theorem dX3_findFault_20 : decode cX3_findFault 20 = .ok (.iinc 1 1, 3) := by decide +kernel
theorem dX3_findFault_23 : decode cX3_findFault 23 = .ok (.goto (-21), 3) := by decide +kernel
theorem dX3_findFault_26 : decode cX3_findFault 26 = .ok (.aload_n 0, 1) := by decide +kernel
theorem dX3_findFault_27 : decode cX3_findFault 27 = .ok (.getfield 32, 3) := by decide +kernel
theorem dX3_findFault_30 : decode cX3_findFault 30 = .ok (.iconst 3, 1) := by decide +kernel
theorem dX3_findFault_31 : decode cX3_findFault 31 = .ok (.irem, 1) := by decide +kernel
theorem dX3_findFault_32 : decode cX3_findFault 32 = .ok (.ifCond .ne 7, 3) := by decide +kernel
theorem dX3_findFault_35 : decode cX3_findFault 35 = .ok (.iconst (-1), 1) := by decide +kernel
theorem dX3_findFault_36 : decode cX3_findFault 36 = .ok (.goto 7, 3) := by decide +kernel
theorem dX3_findFault_39 : decode cX3_findFault 39 = .ok (.aload_n 0, 1) := by decide +kernel
theorem dX3_findFault_40 : decode cX3_findFault 40 = .ok (.getfield 32, 3) := by decide +kernel
theorem dX3_findFault_43 : decode cX3_findFault 43 = .ok (.ireturn, 1) := by decide +kernel
theorem dX3_fits_0 : decode cX3_fits 0 = .ok (.aload_n 0, 1) := by decide +kernel
theorem dX3_fits_1 : decode cX3_fits 1 = .ok (.iload_n 1, 1) := by decide +kernel
theorem dX3_fits_2 : decode cX3_fits 2 = .ok (.invokevirtual 35, 3) := by decide +kernel
theorem dX3_fits_5 : decode cX3_fits 5 = .ok (.istore_n 2, 1) := by decide +kernel
theorem dX3_fits_6 : decode cX3_fits 6 = .ok (.iload_n 1, 1) := by decide +kernel
theorem dX3_fits_7 : decode cX3_fits 7 = .ok (.iconst 3, 1) := by decide +kernel
theorem dX3_fits_8 : decode cX3_fits 8 = .ok (.irem, 1) := by decide +kernel
theorem dX3_fits_9 : decode cX3_fits 9 = .ok (.lookupswitch 58 #[(0, 27), (1, 33)], 27) := by decide +kernel
theorem dX3_fits_36 : decode cX3_fits 36 = .ok (.aload_n 0, 1) := by decide +kernel
theorem dX3_fits_37 : decode cX3_fits 37 = .ok (.iload_n 1, 1) := by decide +kernel
theorem dX3_fits_38 : decode cX3_fits 38 = .ok (.invokevirtual 43, 3) := by decide +kernel
theorem dX3_fits_41 : decode cX3_fits 41 = .ok (.ireturn, 1) := by decide +kernel
theorem dX3_fits_42 : decode cX3_fits 42 = .ok (.aload_n 0, 1) := by decide +kernel
theorem dX3_fits_43 : decode cX3_fits 43 = .ok (.iload_n 1, 1) := by decide +kernel
theorem dX3_fits_44 : decode cX3_fits 44 = .ok (.invokevirtual 43, 3) := by decide +kernel
theorem dX3_fits_47 : decode cX3_fits 47 = .ok (.ifCond .eq 18, 3) := by decide +kernel
theorem dX3_fits_50 : decode cX3_fits 50 = .ok (.iload_n 2, 1) := by decide +kernel
theorem dX3_fits_51 : decode cX3_fits 51 = .ok (.aload_n 0, 1) := by decide +kernel
theorem dX3_fits_52 : decode cX3_fits 52 = .ok (.iload_n 1, 1) := by decide +kernel
theorem dX3_fits_53 : decode cX3_fits 53 = .ok (.iconst 1, 1) := by decide +kernel
theorem dX3_fits_54 : decode cX3_fits 54 = .ok (.isub, 1) := by decide +kernel
theorem dX3_fits_55 : decode cX3_fits 55 = .ok (.invokevirtual 35, 3) := by decide +kernel
theorem dX3_fits_58 : decode cX3_fits 58 = .ok (.if_icmp .eq 7, 3) := by decide +kernel
theorem dX3_fits_61 : decode cX3_fits 61 = .ok (.iconst 1, 1) := by decide +kernel
theorem dX3_fits_62 : decode cX3_fits 62 = .ok (.goto 4, 3) := by decide +kernel
theorem dX3_fits_65 : decode cX3_fits 65 = .ok (.iconst 0, 1) := by decide +kernel
theorem dX3_fits_66 : decode cX3_fits 66 = .ok (.ireturn, 1) := by decide +kernel
theorem dX3_fits_67 : decode cX3_fits 67 = .ok (.iload_n 2, 1) := by decide +kernel
theorem dX3_fits_68 : decode cX3_fits 68 = .ok (.bipush 49, 2) := by decide +kernel
theorem dX3_fits_70 : decode cX3_fits 70 = .ok (.if_icmp .eq 9, 3) := by decide +kernel
theorem dX3_fits_73 : decode cX3_fits 73 = .ok (.iload_n 2, 1) := by decide +kernel
theorem dX3_fits_74 : decode cX3_fits 74 = .ok (.bipush 50, 2) := by decide +kernel
theorem dX3_fits_76 : decode cX3_fits 76 = .ok (.if_icmp .ne 7, 3) := by decide +kernel
theorem dX3_fits_79 : decode cX3_fits 79 = .ok (.iconst 1, 1) := by decide +kernel
theorem dX3_fits_80 : decode cX3_fits 80 = .ok (.goto 4, 3) := by decide +kernel
theorem dX3_fits_83 : decode cX3_fits 83 = .ok (.iconst 0, 1) := by decide +kernel
theorem dX3_fits_84 : decode cX3_fits 84 = .ok (.ireturn, 1) := by decide +kernel
theorem dX4_init_0 : decode cX4_init 0 = .ok (.aload_n 0, 1) := by decide +kernel
theorem dX4_init_1 : decode cX4_init 1 = .ok (.invokespecial 3, 3) := by decide +kernel
theorem dX4_init_4 : decode cX4_init 4 = .ok (.aload_n 0, 1) := by decide +kernel
theorem dX4_init_5 : decode cX4_init 5 = .ok (.iconst 0, 1) := by decide +kernel
theorem dX4_init_6 : decode cX4_init 6 = .ok (.putfield 9, 3) := by decide +kernel
theorem dX4_init_9 : decode cX4_init 9 = .ok (.aload_n 0, 1) := by decide +kernel
theorem dX4_init_10 : decode cX4_init 10 = .ok (.iconst (-1), 1) := by decide +kernel
theorem dX4_init_11 : decode cX4_init 11 = .ok (.putfield 15, 3) := by decide +kernel
theorem dX4_init_14 : decode cX4_init 14 = .ok (.aload_n 0, 1) := by decide +kernel
theorem dX4_init_15 : decode cX4_init 15 = .ok (.bipush 8, 2) := by decide +kernel
theorem dX4_init_17 : decode cX4_init 17 = .ok (.newarray .int, 2) := by decide +kernel
theorem dX4_init_19 : decode cX4_init 19 = .ok (.putfield 18, 3) := by decide +kernel
theorem dX4_init_22 : decode cX4_init 22 = .ok (.aload_n 0, 1) := by decide +kernel
theorem dX4_init_23 : decode cX4_init 23 = .ok (.bipush 8, 2) := by decide +kernel
theorem dX4_init_25 : decode cX4_init 25 = .ok (.newarray .int, 2) := by decide +kernel
theorem dX4_init_27 : decode cX4_init 27 = .ok (.putfield 22, 3) := by decide +kernel
theorem dX4_init_30 : decode cX4_init 30 = .ok (.aload_n 0, 1) := by decide +kernel
theorem dX4_init_31 : decode cX4_init 31 = .ok (.bipush 8, 2) := by decide +kernel
theorem dX4_init_33 : decode cX4_init 33 = .ok (.newarray .int, 2) := by decide +kernel
theorem dX4_init_35 : decode cX4_init 35 = .ok (.putfield 25, 3) := by decide +kernel
theorem dX4_init_38 : decode cX4_init 38 = .ok (.aload_n 0, 1) := by decide +kernel
theorem dX4_init_39 : decode cX4_init 39 = .ok (.iconst 3, 1) := by decide +kernel
theorem dX4_init_40 : decode cX4_init 40 = .ok (.newarray .int, 2) := by decide +kernel
theorem dX4_init_42 : decode cX4_init 42 = .ok (.dup, 1) := by decide +kernel
theorem dX4_init_43 : decode cX4_init 43 = .ok (.iconst 0, 1) := by decide +kernel
theorem dX4_init_44 : decode cX4_init 44 = .ok (.iconst 3, 1) := by decide +kernel
theorem dX4_init_45 : decode cX4_init 45 = .ok (.iastore, 1) := by decide +kernel
theorem dX4_init_46 : decode cX4_init 46 = .ok (.dup, 1) := by decide +kernel
theorem dX4_init_47 : decode cX4_init 47 = .ok (.iconst 1, 1) := by decide +kernel
theorem dX4_init_48 : decode cX4_init 48 = .ok (.iconst 2, 1) := by decide +kernel
theorem dX4_init_49 : decode cX4_init 49 = .ok (.iastore, 1) := by decide +kernel
theorem dX4_init_50 : decode cX4_init 50 = .ok (.dup, 1) := by decide +kernel
theorem dX4_init_51 : decode cX4_init 51 = .ok (.iconst 2, 1) := by decide +kernel
theorem dX4_init_52 : decode cX4_init 52 = .ok (.iconst 1, 1) := by decide +kernel
theorem dX4_init_53 : decode cX4_init 53 = .ok (.iastore, 1) := by decide +kernel
theorem dX4_init_54 : decode cX4_init 54 = .ok (.putfield 28, 3) := by decide +kernel
theorem dX4_init_57 : decode cX4_init 57 = .ok (.return_, 1) := by decide +kernel
theorem dX4_take_0 : decode cX4_take 0 = .ok (.aload_n 0, 1) := by decide +kernel
theorem dX4_take_1 : decode cX4_take 1 = .ok (.aload_n 1, 1) := by decide +kernel
theorem dX4_take_2 : decode cX4_take 2 = .ok (.invokestatic 31, 3) := by decide +kernel
theorem dX4_take_5 : decode cX4_take 5 = .ok (.putfield 15, 3) := by decide +kernel
theorem dX4_take_8 : decode cX4_take 8 = .ok (.aload_n 0, 1) := by decide +kernel
theorem dX4_take_9 : decode cX4_take 9 = .ok (.iconst 0, 1) := by decide +kernel
theorem dX4_take_10 : decode cX4_take 10 = .ok (.putfield 9, 3) := by decide +kernel
theorem dX4_take_13 : decode cX4_take 13 = .ok (.aload_n 0, 1) := by decide +kernel
theorem dX4_take_14 : decode cX4_take 14 = .ok (.getfield 15, 3) := by decide +kernel
theorem dX4_take_17 : decode cX4_take 17 = .ok (.iconst (-1), 1) := by decide +kernel
theorem dX4_take_18 : decode cX4_take 18 = .ok (.if_icmp .eq 4, 3) := by decide +kernel
theorem dX4_take_21 : decode cX4_take 21 = .ok (.return_, 1) := by decide +kernel
theorem dX4_take_22 : decode cX4_take 22 = .ok (.iconst 0, 1) := by decide +kernel
theorem dX4_take_23 : decode cX4_take 23 = .ok (.istore_n 2, 1) := by decide +kernel
theorem dX4_take_24 : decode cX4_take 24 = .ok (.iload_n 2, 1) := by decide +kernel
theorem dX4_take_25 : decode cX4_take 25 = .ok (.aload_n 1, 1) := by decide +kernel
theorem dX4_take_26 : decode cX4_take 26 = .ok (.getfield 35, 3) := by decide +kernel
theorem dX4_take_29 : decode cX4_take 29 = .ok (.if_icmp .ge 114, 3) := by decide +kernel
theorem dX4_take_32 : decode cX4_take 32 = .ok (.aload_n 0, 1) := by decide +kernel
theorem dX4_take_33 : decode cX4_take 33 = .ok (.getfield 9, 3) := by decide +kernel
theorem dX4_take_36 : decode cX4_take 36 = .ok (.bipush 8, 2) := by decide +kernel
theorem dX4_take_38 : decode cX4_take 38 = .ok (.if_icmp .ge 105, 3) := by decide +kernel
theorem dX4_take_41 : decode cX4_take 41 = .ok (.aload_n 0, 1) := by decide +kernel
theorem dX4_take_42 : decode cX4_take 42 = .ok (.getfield 18, 3) := by decide +kernel
theorem dX4_take_45 : decode cX4_take 45 = .ok (.aload_n 0, 1) := by decide +kernel
theorem dX4_take_46 : decode cX4_take 46 = .ok (.getfield 9, 3) := by decide +kernel
theorem dX4_take_49 : decode cX4_take 49 = .ok (.aload_n 1, 1) := by decide +kernel
theorem dX4_take_50 : decode cX4_take 50 = .ok (.iload_n 2, 1) := by decide +kernel
theorem dX4_take_51 : decode cX4_take 51 = .ok (.invokevirtual 38, 3) := by decide +kernel
theorem dX4_take_54 : decode cX4_take 54 = .ok (.invokestatic 42, 3) := by decide +kernel
theorem dX4_take_57 : decode cX4_take 57 = .ok (.iastore, 1) := by decide +kernel
theorem dX4_take_58 : decode cX4_take 58 = .ok (.aload_n 0, 1) := by decide +kernel
theorem dX4_take_59 : decode cX4_take 59 = .ok (.getfield 22, 3) := by decide +kernel
theorem dX4_take_62 : decode cX4_take 62 = .ok (.aload_n 0, 1) := by decide +kernel
theorem dX4_take_63 : decode cX4_take 63 = .ok (.getfield 9, 3) := by decide +kernel
theorem dX4_take_66 : decode cX4_take 66 = .ok (.aload_n 1, 1) := by decide +kernel
theorem dX4_take_67 : decode cX4_take 67 = .ok (.iload_n 2, 1) := by decide +kernel
theorem dX4_take_68 : decode cX4_take 68 = .ok (.iconst 1, 1) := by decide +kernel
theorem dX4_take_69 : decode cX4_take 69 = .ok (.iadd, 1) := by decide +kernel
theorem dX4_take_70 : decode cX4_take 70 = .ok (.invokevirtual 38, 3) := by decide +kernel
theorem dX4_take_73 : decode cX4_take 73 = .ok (.bipush 48, 2) := by decide +kernel
theorem dX4_take_75 : decode cX4_take 75 = .ok (.isub, 1) := by decide +kernel
theorem dX4_take_76 : decode cX4_take 76 = .ok (.iastore, 1) := by decide +kernel
theorem dX4_take_77 : decode cX4_take 77 = .ok (.aload_n 1, 1) := by decide +kernel
theorem dX4_take_78 : decode cX4_take 78 = .ok (.iload_n 2, 1) := by decide +kernel
theorem dX4_take_79 : decode cX4_take 79 = .ok (.iconst 3, 1) := by decide +kernel
theorem dX4_take_80 : decode cX4_take 80 = .ok (.iadd, 1) := by decide +kernel
theorem dX4_take_81 : decode cX4_take 81 = .ok (.invokevirtual 38, 3) := by decide +kernel
theorem dX4_take_84 : decode cX4_take 84 = .ok (.istore_n 3, 1) := by decide +kernel
theorem dX4_take_85 : decode cX4_take 85 = .ok (.aload_n 1, 1) := by decide +kernel
theorem dX4_take_86 : decode cX4_take 86 = .ok (.iload_n 2, 1) := by decide +kernel
theorem dX4_take_87 : decode cX4_take 87 = .ok (.iconst 4, 1) := by decide +kernel
theorem dX4_take_88 : decode cX4_take 88 = .ok (.iadd, 1) := by decide +kernel
theorem dX4_take_89 : decode cX4_take 89 = .ok (.invokevirtual 38, 3) := by decide +kernel
theorem dX4_take_92 : decode cX4_take 92 = .ok (.istore 4, 2) := by decide +kernel
theorem dX4_take_94 : decode cX4_take 94 = .ok (.aload_n 0, 1) := by decide +kernel
theorem dX4_take_95 : decode cX4_take 95 = .ok (.getfield 25, 3) := by decide +kernel
theorem dX4_take_98 : decode cX4_take 98 = .ok (.aload_n 0, 1) := by decide +kernel
theorem dX4_take_99 : decode cX4_take 99 = .ok (.getfield 9, 3) := by decide +kernel
theorem dX4_take_102 : decode cX4_take 102 = .ok (.iconst 2, 1) := by decide +kernel
theorem dX4_take_103 : decode cX4_take 103 = .ok (.aload_n 1, 1) := by decide +kernel
theorem dX4_take_104 : decode cX4_take 104 = .ok (.iload_n 2, 1) := by decide +kernel
theorem dX4_take_105 : decode cX4_take 105 = .ok (.iconst 2, 1) := by decide +kernel
theorem dX4_take_106 : decode cX4_take 106 = .ok (.iadd, 1) := by decide +kernel
theorem dX4_take_107 : decode cX4_take 107 = .ok (.invokevirtual 38, 3) := by decide +kernel
theorem dX4_take_110 : decode cX4_take 110 = .ok (.bipush 97, 2) := by decide +kernel
theorem dX4_take_112 : decode cX4_take 112 = .ok (.isub, 1) := by decide +kernel
theorem dX4_take_113 : decode cX4_take 113 = .ok (.imul, 1) := by decide +kernel
theorem dX4_take_114 : decode cX4_take 114 = .ok (.iload_n 3, 1) := by decide +kernel
theorem dX4_take_115 : decode cX4_take 115 = .ok (.iload 4, 2) := by decide +kernel
theorem dX4_take_117 : decode cX4_take 117 = .ok (.if_icmp .le 7, 3) := by decide +kernel
theorem dX4_take_120 : decode cX4_take 120 = .ok (.iconst 1, 1) := by decide +kernel
theorem dX4_take_121 : decode cX4_take 121 = .ok (.goto 4, 3) := by decide +kernel
theorem dX4_take_124 : decode cX4_take 124 = .ok (.iconst 0, 1) := by decide +kernel
theorem dX4_take_125 : decode cX4_take 125 = .ok (.iadd, 1) := by decide +kernel
theorem dX4_take_126 : decode cX4_take 126 = .ok (.iastore, 1) := by decide +kernel
theorem dX4_take_127 : decode cX4_take 127 = .ok (.aload_n 0, 1) := by decide +kernel
theorem dX4_take_128 : decode cX4_take 128 = .ok (.dup, 1) := by decide +kernel
theorem dX4_take_129 : decode cX4_take 129 = .ok (.getfield 9, 3) := by decide +kernel
theorem dX4_take_132 : decode cX4_take 132 = .ok (.iconst 1, 1) := by decide +kernel
theorem dX4_take_133 : decode cX4_take 133 = .ok (.iadd, 1) := by decide +kernel
theorem dX4_take_134 : decode cX4_take 134 = .ok (.putfield 9, 3) := by decide +kernel
theorem dX4_take_137 : decode cX4_take 137 = .ok (.iinc 2 6, 3) := by decide +kernel
theorem dX4_take_140 : decode cX4_take 140 = .ok (.goto (-116), 3) := by decide +kernel
theorem dX4_take_143 : decode cX4_take 143 = .ok (.return_, 1) := by decide +kernel
theorem dX4_findFault_0 : decode cX4_findFault 0 = .ok (.iconst 0, 1) := by decide +kernel
theorem dX4_findFault_1 : decode cX4_findFault 1 = .ok (.istore_n 1, 1) := by decide +kernel
theorem dX4_findFault_2 : decode cX4_findFault 2 = .ok (.iload_n 1, 1) := by decide +kernel
theorem dX4_findFault_3 : decode cX4_findFault 3 = .ok (.aload_n 0, 1) := by decide +kernel
theorem dX4_findFault_4 : decode cX4_findFault 4 = .ok (.getfield 35, 3) := by decide +kernel
theorem dX4_findFault_7 : decode cX4_findFault 7 = .ok (.if_icmp .ge 19, 3) := by decide +kernel
theorem dX4_findFault_10 : decode cX4_findFault 10 = .ok (.aload_n 0, 1) := by decide +kernel
theorem dX4_findFault_11 : decode cX4_findFault 11 = .ok (.iload_n 1, 1) := by decide +kernel
theorem dX4_findFault_12 : decode cX4_findFault 12 = .ok (.invokestatic 45, 3) := by decide +kernel
theorem dX4_findFault_15 : decode cX4_findFault 15 = .ok (.ifCond .ne 5, 3) := by decide +kernel
theorem dX4_findFault_18 : decode cX4_findFault 18 = .ok (.iload_n 1, 1) := by decide +kernel
theorem dX4_findFault_19 : decode cX4_findFault 19 = .ok (.ireturn, 1) := by decide +kernel
theorem dX4_findFault_20 : decode cX4_findFault 20 = .ok (.iinc 1 1, 3) := by decide +kernel
theorem dX4_findFault_23 : decode cX4_findFault 23 = .ok (.goto (-21), 3) := by decide +kernel
theorem dX4_findFault_26 : decode cX4_findFault 26 = .ok (.aload_n 0, 1) := by decide +kernel
theorem dX4_findFault_27 : decode cX4_findFault 27 = .ok (.getfield 35, 3) := by decide +kernel
theorem dX4_findFault_30 : decode cX4_findFault 30 = .ok (.ifCond .eq 14, 3) := by decide +kernel
theorem dX4_findFault_33 : decode cX4_findFault 33 = .ok (.aload_n 0, 1) := by decide +kernel
theorem dX4_findFault_34 : decode cX4_findFault 34 = .ok (.getfield 35, 3) := by decide +kernel
theorem dX4_findFault_37 : decode cX4_findFault 37 = .ok (.bipush 6, 2) := by decide +kernel
theorem dX4_findFault_39 : decode cX4_findFault 39 = .ok (.irem, 1) := by decide +kernel
theorem dX4_findFault_40 : decode cX4_findFault 40 = .ok (.iconst 5, 1) := by decide +kernel
theorem dX4_findFault_41 : decode cX4_findFault 41 = .ok (.if_icmp .ne 7, 3) := by decide +kernel
theorem dX4_findFault_44 : decode cX4_findFault 44 = .ok (.iconst (-1), 1) := by decide +kernel
theorem dX4_findFault_45 : decode cX4_findFault 45 = .ok (.goto 7, 3) := by decide +kernel
theorem dX4_findFault_48 : decode cX4_findFault 48 = .ok (.aload_n 0, 1) := by decide +kernel
theorem dX4_findFault_49 : decode cX4_findFault 49 = .ok (.getfield 35, 3) := by decide +kernel
theorem dX4_findFault_52 : decode cX4_findFault 52 = .ok (.ireturn, 1) := by decide +kernel
theorem dX4_fits_0 : decode cX4_fits 0 = .ok (.aload_n 0, 1) := by decide +kernel
theorem dX4_fits_1 : decode cX4_fits 1 = .ok (.iload_n 1, 1) := by decide +kernel
theorem dX4_fits_2 : decode cX4_fits 2 = .ok (.invokevirtual 38, 3) := by decide +kernel
theorem dX4_fits_5 : decode cX4_fits 5 = .ok (.istore_n 2, 1) := by decide +kernel
theorem dX4_fits_6 : decode cX4_fits 6 = .ok (.iload_n 1, 1) := by decide +kernel
theorem dX4_fits_7 : decode cX4_fits 7 = .ok (.bipush 6, 2) := by decide +kernel
theorem dX4_fits_9 : decode cX4_fits 9 = .ok (.irem, 1) := by decide +kernel
theorem dX4_fits_10 : decode cX4_fits 10 = .ok (.tableswitch 139 0 4 #[34, 54, 72, 78, 103], 34) := by decide +kernel
theorem dX4_fits_44 : decode cX4_fits 44 = .ok (.iload_n 1, 1) := by decide +kernel
theorem dX4_fits_45 : decode cX4_fits 45 = .ok (.bipush 48, 2) := by decide +kernel
theorem dX4_fits_47 : decode cX4_fits 47 = .ok (.if_icmp .ge 15, 3) := by decide +kernel
theorem dX4_fits_50 : decode cX4_fits 50 = .ok (.iload_n 2, 1) := by decide +kernel
theorem dX4_fits_51 : decode cX4_fits 51 = .ok (.invokestatic 42, 3) := by decide +kernel
theorem dX4_fits_54 : decode cX4_fits 54 = .ok (.iconst (-1), 1) := by decide +kernel
theorem dX4_fits_55 : decode cX4_fits 55 = .ok (.if_icmp .eq 7, 3) := by decide +kernel
theorem dX4_fits_58 : decode cX4_fits 58 = .ok (.iconst 1, 1) := by decide +kernel
theorem dX4_fits_59 : decode cX4_fits 59 = .ok (.goto 4, 3) := by decide +kernel
theorem dX4_fits_62 : decode cX4_fits 62 = .ok (.iconst 0, 1) := by decide +kernel
theorem dX4_fits_63 : decode cX4_fits 63 = .ok (.ireturn, 1) := by decide +kernel
theorem dX4_fits_64 : decode cX4_fits 64 = .ok (.iload_n 2, 1) := by decide +kernel
theorem dX4_fits_65 : decode cX4_fits 65 = .ok (.bipush 48, 2) := by decide +kernel
theorem dX4_fits_67 : decode cX4_fits 67 = .ok (.if_icmp .lt 13, 3) := by decide +kernel
theorem dX4_fits_70 : decode cX4_fits 70 = .ok (.iload_n 2, 1) := by decide +kernel
theorem dX4_fits_71 : decode cX4_fits 71 = .ok (.bipush 54, 2) := by decide +kernel
theorem dX4_fits_73 : decode cX4_fits 73 = .ok (.if_icmp .ge 7, 3) := by decide +kernel
theorem dX4_fits_76 : decode cX4_fits 76 = .ok (.iconst 1, 1) := by decide +kernel
theorem dX4_fits_77 : decode cX4_fits 77 = .ok (.goto 4, 3) := by decide +kernel
theorem dX4_fits_80 : decode cX4_fits 80 = .ok (.iconst 0, 1) := by decide +kernel
theorem dX4_fits_81 : decode cX4_fits 81 = .ok (.ireturn, 1) := by decide +kernel
theorem dX4_fits_82 : decode cX4_fits 82 = .ok (.aload_n 0, 1) := by decide +kernel
theorem dX4_fits_83 : decode cX4_fits 83 = .ok (.iload_n 1, 1) := by decide +kernel
theorem dX4_fits_84 : decode cX4_fits 84 = .ok (.invokevirtual 49, 3) := by decide +kernel
theorem dX4_fits_87 : decode cX4_fits 87 = .ok (.ireturn, 1) := by decide +kernel
theorem dX4_fits_88 : decode cX4_fits 88 = .ok (.aload_n 0, 1) := by decide +kernel
theorem dX4_fits_89 : decode cX4_fits 89 = .ok (.iload_n 1, 1) := by decide +kernel
theorem dX4_fits_90 : decode cX4_fits 90 = .ok (.invokevirtual 49, 3) := by decide +kernel
theorem dX4_fits_93 : decode cX4_fits 93 = .ok (.ifCond .eq 18, 3) := by decide +kernel
theorem dX4_fits_96 : decode cX4_fits 96 = .ok (.iload_n 2, 1) := by decide +kernel
theorem dX4_fits_97 : decode cX4_fits 97 = .ok (.aload_n 0, 1) := by decide +kernel
theorem dX4_fits_98 : decode cX4_fits 98 = .ok (.iload_n 1, 1) := by decide +kernel
theorem dX4_fits_99 : decode cX4_fits 99 = .ok (.iconst 1, 1) := by decide +kernel
theorem dX4_fits_100 : decode cX4_fits 100 = .ok (.isub, 1) := by decide +kernel
theorem dX4_fits_101 : decode cX4_fits 101 = .ok (.invokevirtual 38, 3) := by decide +kernel
theorem dX4_fits_104 : decode cX4_fits 104 = .ok (.if_icmp .eq 7, 3) := by decide +kernel
theorem dX4_fits_107 : decode cX4_fits 107 = .ok (.iconst 1, 1) := by decide +kernel
theorem dX4_fits_108 : decode cX4_fits 108 = .ok (.goto 4, 3) := by decide +kernel
theorem dX4_fits_111 : decode cX4_fits 111 = .ok (.iconst 0, 1) := by decide +kernel
theorem dX4_fits_112 : decode cX4_fits 112 = .ok (.ireturn, 1) := by decide +kernel
theorem dX4_fits_113 : decode cX4_fits 113 = .ok (.aload_n 0, 1) := by decide +kernel
theorem dX4_fits_114 : decode cX4_fits 114 = .ok (.iload_n 1, 1) := by decide +kernel
theorem dX4_fits_115 : decode cX4_fits 115 = .ok (.invokevirtual 49, 3) := by decide +kernel
theorem dX4_fits_118 : decode cX4_fits 118 = .ok (.ifCond .eq 29, 3) := by decide +kernel
theorem dX4_fits_121 : decode cX4_fits 121 = .ok (.iload_n 2, 1) := by decide +kernel
theorem dX4_fits_122 : decode cX4_fits 122 = .ok (.aload_n 0, 1) := by decide +kernel
theorem dX4_fits_123 : decode cX4_fits 123 = .ok (.iload_n 1, 1) := by decide +kernel
theorem dX4_fits_124 : decode cX4_fits 124 = .ok (.iconst 1, 1) := by decide +kernel
theorem dX4_fits_125 : decode cX4_fits 125 = .ok (.isub, 1) := by decide +kernel
theorem dX4_fits_126 : decode cX4_fits 126 = .ok (.invokevirtual 38, 3) := by decide +kernel
theorem dX4_fits_129 : decode cX4_fits 129 = .ok (.if_icmp .eq 18, 3) := by decide +kernel
theorem dX4_fits_132 : decode cX4_fits 132 = .ok (.iload_n 2, 1) := by decide +kernel
theorem dX4_fits_133 : decode cX4_fits 133 = .ok (.aload_n 0, 1) := by decide +kernel
theorem dX4_fits_134 : decode cX4_fits 134 = .ok (.iload_n 1, 1) := by decide +kernel
theorem dX4_fits_135 : decode cX4_fits 135 = .ok (.iconst 2, 1) := by decide +kernel
theorem dX4_fits_136 : decode cX4_fits 136 = .ok (.isub, 1) := by decide +kernel
theorem dX4_fits_137 : decode cX4_fits 137 = .ok (.invokevirtual 38, 3) := by decide +kernel
theorem dX4_fits_140 : decode cX4_fits 140 = .ok (.if_icmp .eq 7, 3) := by decide +kernel
theorem dX4_fits_143 : decode cX4_fits 143 = .ok (.iconst 1, 1) := by decide +kernel
theorem dX4_fits_144 : decode cX4_fits 144 = .ok (.goto 4, 3) := by decide +kernel
theorem dX4_fits_147 : decode cX4_fits 147 = .ok (.iconst 0, 1) := by decide +kernel
theorem dX4_fits_148 : decode cX4_fits 148 = .ok (.ireturn, 1) := by decide +kernel
theorem dX4_fits_149 : decode cX4_fits 149 = .ok (.iload_n 2, 1) := by decide +kernel
theorem dX4_fits_150 : decode cX4_fits 150 = .ok (.bipush 59, 2) := by decide +kernel
theorem dX4_fits_152 : decode cX4_fits 152 = .ok (.if_icmp .ne 7, 3) := by decide +kernel
theorem dX4_fits_155 : decode cX4_fits 155 = .ok (.iconst 1, 1) := by decide +kernel
theorem dX4_fits_156 : decode cX4_fits 156 = .ok (.goto 4, 3) := by decide +kernel
theorem dX4_fits_159 : decode cX4_fits 159 = .ok (.iconst 0, 1) := by decide +kernel
theorem dX4_fits_160 : decode cX4_fits 160 = .ok (.ireturn, 1) := by decide +kernel
theorem dX4_sortOf_0 : decode cX4_sortOf 0 = .ok (.iload_n 0, 1) := by decide +kernel
theorem dX4_sortOf_1 : decode cX4_sortOf 1 = .ok (.lookupswitch 41 #[(98, 37), (100, 39), (115, 35)], 35) := by decide +kernel
theorem dX4_sortOf_36 : decode cX4_sortOf 36 = .ok (.iconst 0, 1) := by decide +kernel
theorem dX4_sortOf_37 : decode cX4_sortOf 37 = .ok (.ireturn, 1) := by decide +kernel
theorem dX4_sortOf_38 : decode cX4_sortOf 38 = .ok (.iconst 1, 1) := by decide +kernel
theorem dX4_sortOf_39 : decode cX4_sortOf 39 = .ok (.ireturn, 1) := by decide +kernel
theorem dX4_sortOf_40 : decode cX4_sortOf 40 = .ok (.iconst 2, 1) := by decide +kernel
theorem dX4_sortOf_41 : decode cX4_sortOf 41 = .ok (.ireturn, 1) := by decide +kernel
theorem dX4_sortOf_42 : decode cX4_sortOf 42 = .ok (.iconst (-1), 1) := by decide +kernel
theorem dX4_sortOf_43 : decode cX4_sortOf 43 = .ok (.ireturn, 1) := by decide +kernel
theorem dX4_weightOf_0 : decode cX4_weightOf 0 = .ok (.iload_n 1, 1) := by decide +kernel
theorem dX4_weightOf_1 : decode cX4_weightOf 1 = .ok (.ifCond .lt 20, 3) := by decide +kernel
theorem dX4_weightOf_4 : decode cX4_weightOf 4 = .ok (.iload_n 1, 1) := by decide +kernel
theorem dX4_weightOf_5 : decode cX4_weightOf 5 = .ok (.aload_n 0, 1) := by decide +kernel
theorem dX4_weightOf_6 : decode cX4_weightOf 6 = .ok (.getfield 9, 3) := by decide +kernel
theorem dX4_weightOf_9 : decode cX4_weightOf 9 = .ok (.if_icmp .ge 12, 3) := by decide +kernel
theorem dX4_weightOf_12 : decode cX4_weightOf 12 = .ok (.aload_n 0, 1) := by decide +kernel
theorem dX4_weightOf_13 : decode cX4_weightOf 13 = .ok (.getfield 18, 3) := by decide +kernel
theorem dX4_weightOf_16 : decode cX4_weightOf 16 = .ok (.iload_n 1, 1) := by decide +kernel
theorem dX4_weightOf_17 : decode cX4_weightOf 17 = .ok (.iaload, 1) := by decide +kernel
theorem dX4_weightOf_18 : decode cX4_weightOf 18 = .ok (.goto 4, 3) := by decide +kernel
theorem dX4_weightOf_21 : decode cX4_weightOf 21 = .ok (.iconst (-1), 1) := by decide +kernel
theorem dX4_weightOf_22 : decode cX4_weightOf 22 = .ok (.istore_n 2, 1) := by decide +kernel
theorem dX4_weightOf_23 : decode cX4_weightOf 23 = .ok (.iload_n 2, 1) := by decide +kernel
theorem dX4_weightOf_24 : decode cX4_weightOf 24 = .ok (.ifCond .lt 17, 3) := by decide +kernel
theorem dX4_weightOf_27 : decode cX4_weightOf 27 = .ok (.iload_n 2, 1) := by decide +kernel
theorem dX4_weightOf_28 : decode cX4_weightOf 28 = .ok (.iconst 3, 1) := by decide +kernel
theorem dX4_weightOf_29 : decode cX4_weightOf 29 = .ok (.if_icmp .ge 12, 3) := by decide +kernel
theorem dX4_weightOf_32 : decode cX4_weightOf 32 = .ok (.aload_n 0, 1) := by decide +kernel
theorem dX4_weightOf_33 : decode cX4_weightOf 33 = .ok (.getfield 28, 3) := by decide +kernel
theorem dX4_weightOf_36 : decode cX4_weightOf 36 = .ok (.iload_n 2, 1) := by decide +kernel
theorem dX4_weightOf_37 : decode cX4_weightOf 37 = .ok (.iaload, 1) := by decide +kernel
theorem dX4_weightOf_38 : decode cX4_weightOf 38 = .ok (.goto 4, 3) := by decide +kernel
theorem dX4_weightOf_41 : decode cX4_weightOf 41 = .ok (.iconst 0, 1) := by decide +kernel
theorem dX4_weightOf_42 : decode cX4_weightOf 42 = .ok (.ireturn, 1) := by decide +kernel
theorem dX4_weightOfAll_0 : decode cX4_weightOfAll 0 = .ok (.iconst 0, 1) := by decide +kernel
theorem dX4_weightOfAll_1 : decode cX4_weightOfAll 1 = .ok (.istore_n 1, 1) := by decide +kernel
theorem dX4_weightOfAll_2 : decode cX4_weightOfAll 2 = .ok (.iconst 0, 1) := by decide +kernel
theorem dX4_weightOfAll_3 : decode cX4_weightOfAll 3 = .ok (.istore_n 2, 1) := by decide +kernel
theorem dX4_weightOfAll_4 : decode cX4_weightOfAll 4 = .ok (.iload_n 2, 1) := by decide +kernel
theorem dX4_weightOfAll_5 : decode cX4_weightOfAll 5 = .ok (.aload_n 0, 1) := by decide +kernel
theorem dX4_weightOfAll_6 : decode cX4_weightOfAll 6 = .ok (.getfield 9, 3) := by decide +kernel
theorem dX4_weightOfAll_9 : decode cX4_weightOfAll 9 = .ok (.if_icmp .ge 17, 3) := by decide +kernel
theorem dX4_weightOfAll_12 : decode cX4_weightOfAll 12 = .ok (.iload_n 1, 1) := by decide +kernel
theorem dX4_weightOfAll_13 : decode cX4_weightOfAll 13 = .ok (.aload_n 0, 1) := by decide +kernel
theorem dX4_weightOfAll_14 : decode cX4_weightOfAll 14 = .ok (.iload_n 2, 1) := by decide +kernel
theorem dX4_weightOfAll_15 : decode cX4_weightOfAll 15 = .ok (.invokevirtual 53, 3) := by decide +kernel
theorem dX4_weightOfAll_18 : decode cX4_weightOfAll 18 = .ok (.iadd, 1) := by decide +kernel
theorem dX4_weightOfAll_19 : decode cX4_weightOfAll 19 = .ok (.istore_n 1, 1) := by decide +kernel
theorem dX4_weightOfAll_20 : decode cX4_weightOfAll 20 = .ok (.iinc 2 1, 3) := by decide +kernel
theorem dX4_weightOfAll_23 : decode cX4_weightOfAll 23 = .ok (.goto (-19), 3) := by decide +kernel
theorem dX4_weightOfAll_26 : decode cX4_weightOfAll 26 = .ok (.iload_n 1, 1) := by decide +kernel
theorem dX4_weightOfAll_27 : decode cX4_weightOfAll 27 = .ok (.ireturn, 1) := by decide +kernel
theorem dX4_lead_0 : decode cX4_lead 0 = .ok (.iconst 0, 1) := by decide +kernel
theorem dX4_lead_1 : decode cX4_lead 1 = .ok (.istore_n 3, 1) := by decide +kernel
theorem dX4_lead_2 : decode cX4_lead 2 = .ok (.iconst 0, 1) := by decide +kernel
theorem dX4_lead_3 : decode cX4_lead 3 = .ok (.istore 4, 2) := by decide +kernel
theorem dX4_lead_5 : decode cX4_lead 5 = .ok (.iload 4, 2) := by decide +kernel
theorem dX4_lead_7 : decode cX4_lead 7 = .ok (.aload_n 0, 1) := by decide +kernel
theorem dX4_lead_8 : decode cX4_lead 8 = .ok (.getfield 9, 3) := by decide +kernel
theorem dX4_lead_11 : decode cX4_lead 11 = .ok (.if_icmp .ge 32, 3) := by decide +kernel
theorem dX4_lead_14 : decode cX4_lead 14 = .ok (.iload_n 3, 1) := by decide +kernel
theorem dX4_lead_15 : decode cX4_lead 15 = .ok (.aload_n 0, 1) := by decide +kernel
theorem dX4_lead_16 : decode cX4_lead 16 = .ok (.getfield 25, 3) := by decide +kernel
theorem dX4_lead_19 : decode cX4_lead 19 = .ok (.iload 4, 2) := by decide +kernel
theorem dX4_lead_21 : decode cX4_lead 21 = .ok (.iaload, 1) := by decide +kernel
theorem dX4_lead_22 : decode cX4_lead 22 = .ok (.iload_n 1, 1) := by decide +kernel
theorem dX4_lead_23 : decode cX4_lead 23 = .ok (.iload_n 2, 1) := by decide +kernel
theorem dX4_lead_24 : decode cX4_lead 24 = .ok (.invokestatic 56, 3) := by decide +kernel
theorem dX4_lead_27 : decode cX4_lead 27 = .ok (.ifCond .eq 7, 3) := by decide +kernel
theorem dX4_lead_30 : decode cX4_lead 30 = .ok (.iconst 1, 1) := by decide +kernel
theorem dX4_lead_31 : decode cX4_lead 31 = .ok (.goto 4, 3) := by decide +kernel
theorem dX4_lead_34 : decode cX4_lead 34 = .ok (.iconst (-1), 1) := by decide +kernel
theorem dX4_lead_35 : decode cX4_lead 35 = .ok (.iadd, 1) := by decide +kernel
theorem dX4_lead_36 : decode cX4_lead 36 = .ok (.istore_n 3, 1) := by decide +kernel
theorem dX4_lead_37 : decode cX4_lead 37 = .ok (.iinc 4 1, 3) := by decide +kernel
theorem dX4_lead_40 : decode cX4_lead 40 = .ok (.goto (-35), 3) := by decide +kernel
theorem dX4_lead_43 : decode cX4_lead 43 = .ok (.iload_n 3, 1) := by decide +kernel
theorem dX4_lead_44 : decode cX4_lead 44 = .ok (.ireturn, 1) := by decide +kernel
theorem dX5_init_0 : decode cX5_init 0 = .ok (.aload_n 0, 1) := by decide +kernel
theorem dX5_init_1 : decode cX5_init 1 = .ok (.invokespecial 3, 3) := by decide +kernel
theorem dX5_init_4 : decode cX5_init 4 = .ok (.aload_n 0, 1) := by decide +kernel
theorem dX5_init_5 : decode cX5_init 5 = .ok (.sipush 256, 3) := by decide +kernel
theorem dX5_init_8 : decode cX5_init 8 = .ok (.newarray .int, 2) := by decide +kernel
theorem dX5_init_10 : decode cX5_init 10 = .ok (.putfield 9, 3) := by decide +kernel
theorem dX5_init_13 : decode cX5_init 13 = .ok (.aload_n 0, 1) := by decide +kernel
theorem dX5_init_14 : decode cX5_init 14 = .ok (.aload_n 1, 1) := by decide +kernel
theorem dX5_init_15 : decode cX5_init 15 = .ok (.putfield 15, 3) := by decide +kernel
theorem dX5_init_18 : decode cX5_init 18 = .ok (.return_, 1) := by decide +kernel
theorem dX5_turning_0 : decode cX5_turning 0 = .ok (.aload_n 0, 1) := by decide +kernel
theorem dX5_turning_1 : decode cX5_turning 1 = .ok (.invokevirtual 19, 3) := by decide +kernel
theorem dX5_turning_4 : decode cX5_turning 4 = .ok (.aload_n 0, 1) := by decide +kernel
theorem dX5_turning_5 : decode cX5_turning 5 = .ok (.getfield 15, 3) := by decide +kernel
theorem dX5_turning_8 : decode cX5_turning 8 = .ok (.invokevirtual 22, 3) := by decide +kernel
theorem dX5_turning_11 : decode cX5_turning 11 = .ok (.istore_n 2, 1) := by decide +kernel
theorem dX5_turning_12 : decode cX5_turning 12 = .ok (.aload_n 0, 1) := by decide +kernel
