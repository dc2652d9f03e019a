theorem dX5_turning_13 : decode cX5_turning 13 = .ok (.getfield 15, 3) := by decide +kernel
theorem dX5_turning_16 : decode cX5_turning 16 = .ok (.iload_n 1, 1) := by decide +kernel
theorem dX5_turning_17 : decode cX5_turning 17 = .ok (.invokevirtual 28, 3) := by decide +kernel
theorem dX5_turning_20 : decode cX5_turning 20 = .ok (.istore_n 3, 1) := by decide +kernel
theorem dX5_turning_21 : decode cX5_turning 21 = .ok (.iconst 0, 1) := by decide +kernel
theorem dX5_turning_22 : decode cX5_turning 22 = .ok (.istore 4, 2) := by decide +kernel
theorem dX5_turning_24 : decode cX5_turning 24 = .ok (.iconst 0, 1) := by decide +kernel
theorem dX5_turning_25 : decode cX5_turning 25 = .ok (.istore 5, 2) := by decide +kernel
theorem dX5_turning_27 : decode cX5_turning 27 = .ok (.iload 5, 2) := by decide +kernel
theorem dX5_turning_29 : decode cX5_turning 29 = .ok (.iconst 1, 1) := by decide +kernel
theorem dX5_turning_30 : decode cX5_turning 30 = .ok (.aload_n 0, 1) := by decide +kernel
theorem dX5_turning_31 : decode cX5_turning 31 = .ok (.getfield 15, 3) := by decide +kernel
theorem dX5_turning_34 : decode cX5_turning 34 = .ok (.getfield 32, 3) := by decide +kernel
theorem dX5_turning_37 : decode cX5_turning 37 = .ok (.ishl, 1) := by decide +kernel
theorem dX5_turning_38 : decode cX5_turning 38 = .ok (.if_icmp .ge 90, 3) := by decide +kernel
theorem dX5_turning_41 : decode cX5_turning 41 = .ok (.aload_n 0, 1) := by decide +kernel
theorem dX5_turning_42 : decode cX5_turning 42 = .ok (.getfield 9, 3) := by decide +kernel
theorem dX5_turning_45 : decode cX5_turning 45 = .ok (.iload 5, 2) := by decide +kernel
theorem dX5_turning_47 : decode cX5_turning 47 = .ok (.iaload, 1) := by decide +kernel
theorem dX5_turning_48 : decode cX5_turning 48 = .ok (.istore 6, 2) := by decide +kernel
theorem dX5_turning_50 : decode cX5_turning 50 = .ok (.iload 5, 2) := by decide +kernel
theorem dX5_turning_52 : decode cX5_turning 52 = .ok (.iload_n 1, 1) := by decide +kernel
theorem dX5_turning_53 : decode cX5_turning 53 = .ok (.ishr, 1) := by decide +kernel
theorem dX5_turning_54 : decode cX5_turning 54 = .ok (.iconst 1, 1) := by decide +kernel
theorem dX5_turning_55 : decode cX5_turning 55 = .ok (.iand, 1) := by decide +kernel
theorem dX5_turning_56 : decode cX5_turning 56 = .ok (.ifCond .ne 7, 3) := by decide +kernel
theorem dX5_turning_59 : decode cX5_turning 59 = .ok (.iconst 1, 1) := by decide +kernel
theorem dX5_turning_60 : decode cX5_turning 60 = .ok (.goto 4, 3) := by decide +kernel
theorem dX5_turning_63 : decode cX5_turning 63 = .ok (.iconst 0, 1) := by decide +kernel
theorem dX5_turning_64 : decode cX5_turning 64 = .ok (.istore 7, 2) := by decide +kernel
theorem dX5_turning_66 : decode cX5_turning 66 = .ok (.iload 7, 2) := by decide +kernel
theorem dX5_turning_68 : decode cX5_turning 68 = .ok (.ifCond .eq 54, 3) := by decide +kernel
theorem dX5_turning_71 : decode cX5_turning 71 = .ok (.iconst 2, 1) := by decide +kernel
theorem dX5_turning_72 : decode cX5_turning 72 = .ok (.iload 6, 2) := by decide +kernel
theorem dX5_turning_74 : decode cX5_turning 74 = .ok (.imul, 1) := by decide +kernel
theorem dX5_turning_75 : decode cX5_turning 75 = .ok (.iload_n 2, 1) := by decide +kernel
theorem dX5_turning_76 : decode cX5_turning 76 = .ok (.if_icmp .gt 46, 3) := by decide +kernel
theorem dX5_turning_79 : decode cX5_turning 79 = .ok (.iconst 2, 1) := by decide +kernel
theorem dX5_turning_80 : decode cX5_turning 80 = .ok (.iload 6, 2) := by decide +kernel
theorem dX5_turning_82 : decode cX5_turning 82 = .ok (.iload_n 3, 1) := by decide +kernel
theorem dX5_turning_83 : decode cX5_turning 83 = .ok (.iadd, 1) := by decide +kernel
theorem dX5_turning_84 : decode cX5_turning 84 = .ok (.imul, 1) := by decide +kernel
theorem dX5_turning_85 : decode cX5_turning 85 = .ok (.iload_n 2, 1) := by decide +kernel
theorem dX5_turning_86 : decode cX5_turning 86 = .ok (.if_icmp .le 36, 3) := by decide +kernel
theorem dX5_turning_89 : decode cX5_turning 89 = .ok (.iload 5, 2) := by decide +kernel
theorem dX5_turning_91 : decode cX5_turning 91 = .ok (.invokestatic 36, 3) := by decide +kernel
theorem dX5_turning_94 : decode cX5_turning 94 = .ok (.istore 8, 2) := by decide +kernel
theorem dX5_turning_96 : decode cX5_turning 96 = .ok (.iload 4, 2) := by decide +kernel
theorem dX5_turning_98 : decode cX5_turning 98 = .ok (.iload 8, 2) := by decide +kernel
theorem dX5_turning_100 : decode cX5_turning 100 = .ok (.invokestatic 41, 3) := by decide +kernel
theorem dX5_turning_103 : decode cX5_turning 103 = .ok (.aload_n 0, 1) := by decide +kernel
theorem dX5_turning_104 : decode cX5_turning 104 = .ok (.getfield 15, 3) := by decide +kernel
theorem dX5_turning_107 : decode cX5_turning 107 = .ok (.getfield 32, 3) := by decide +kernel
theorem dX5_turning_110 : decode cX5_turning 110 = .ok (.iconst 1, 1) := by decide +kernel
theorem dX5_turning_111 : decode cX5_turning 111 = .ok (.isub, 1) := by decide +kernel
theorem dX5_turning_112 : decode cX5_turning 112 = .ok (.iload 8, 2) := by decide +kernel
theorem dX5_turning_114 : decode cX5_turning 114 = .ok (.isub, 1) := by decide +kernel
theorem dX5_turning_115 : decode cX5_turning 115 = .ok (.invokestatic 41, 3) := by decide +kernel
theorem dX5_turning_118 : decode cX5_turning 118 = .ok (.imul, 1) := by decide +kernel
theorem dX5_turning_119 : decode cX5_turning 119 = .ok (.iadd, 1) := by decide +kernel
theorem dX5_turning_120 : decode cX5_turning 120 = .ok (.istore 4, 2) := by decide +kernel
theorem dX5_turning_122 : decode cX5_turning 122 = .ok (.iinc 5 1, 3) := by decide +kernel
theorem dX5_turning_125 : decode cX5_turning 125 = .ok (.goto (-98), 3) := by decide +kernel
theorem dX5_turning_128 : decode cX5_turning 128 = .ok (.iload 4, 2) := by decide +kernel
theorem dX5_turning_130 : decode cX5_turning 130 = .ok (.ireturn, 1) := by decide +kernel
theorem dX5_weighSets_0 : decode cX5_weighSets 0 = .ok (.aload_n 0, 1) := by decide +kernel
theorem dX5_weighSets_1 : decode cX5_weighSets 1 = .ok (.getfield 9, 3) := by decide +kernel
theorem dX5_weighSets_4 : decode cX5_weighSets 4 = .ok (.iconst 0, 1) := by decide +kernel
theorem dX5_weighSets_5 : decode cX5_weighSets 5 = .ok (.iconst 0, 1) := by decide +kernel
theorem dX5_weighSets_6 : decode cX5_weighSets 6 = .ok (.iastore, 1) := by decide +kernel
theorem dX5_weighSets_7 : decode cX5_weighSets 7 = .ok (.iconst 0, 1) := by decide +kernel
theorem dX5_weighSets_8 : decode cX5_weighSets 8 = .ok (.istore_n 1, 1) := by decide +kernel
theorem dX5_weighSets_9 : decode cX5_weighSets 9 = .ok (.iload_n 1, 1) := by decide +kernel
theorem dX5_weighSets_10 : decode cX5_weighSets 10 = .ok (.aload_n 0, 1) := by decide +kernel
theorem dX5_weighSets_11 : decode cX5_weighSets 11 = .ok (.getfield 15, 3) := by decide +kernel
theorem dX5_weighSets_14 : decode cX5_weighSets 14 = .ok (.getfield 32, 3) := by decide +kernel
theorem dX5_weighSets_17 : decode cX5_weighSets 17 = .ok (.if_icmp .ge 49, 3) := by decide +kernel
theorem dX5_weighSets_20 : decode cX5_weighSets 20 = .ok (.iconst 1, 1) := by decide +kernel
theorem dX5_weighSets_21 : decode cX5_weighSets 21 = .ok (.iload_n 1, 1) := by decide +kernel
theorem dX5_weighSets_22 : decode cX5_weighSets 22 = .ok (.ishl, 1) := by decide +kernel
theorem dX5_weighSets_23 : decode cX5_weighSets 23 = .ok (.istore_n 2, 1) := by decide +kernel
theorem dX5_weighSets_24 : decode cX5_weighSets 24 = .ok (.iconst 0, 1) := by decide +kernel
theorem dX5_weighSets_25 : decode cX5_weighSets 25 = .ok (.istore_n 3, 1) := by decide +kernel
theorem dX5_weighSets_26 : decode cX5_weighSets 26 = .ok (.iload_n 3, 1) := by decide +kernel
theorem dX5_weighSets_27 : decode cX5_weighSets 27 = .ok (.iload_n 2, 1) := by decide +kernel
theorem dX5_weighSets_28 : decode cX5_weighSets 28 = .ok (.if_icmp .ge 32, 3) := by decide +kernel
theorem dX5_weighSets_31 : decode cX5_weighSets 31 = .ok (.aload_n 0, 1) := by decide +kernel
theorem dX5_weighSets_32 : decode cX5_weighSets 32 = .ok (.getfield 9, 3) := by decide +kernel
theorem dX5_weighSets_35 : decode cX5_weighSets 35 = .ok (.iload_n 2, 1) := by decide +kernel
theorem dX5_weighSets_36 : decode cX5_weighSets 36 = .ok (.iload_n 3, 1) := by decide +kernel
theorem dX5_weighSets_37 : decode cX5_weighSets 37 = .ok (.iadd, 1) := by decide +kernel
theorem dX5_weighSets_38 : decode cX5_weighSets 38 = .ok (.aload_n 0, 1) := by decide +kernel
theorem dX5_weighSets_39 : decode cX5_weighSets 39 = .ok (.getfield 9, 3) := by decide +kernel
theorem dX5_weighSets_42 : decode cX5_weighSets 42 = .ok (.iload_n 3, 1) := by decide +kernel
theorem dX5_weighSets_43 : decode cX5_weighSets 43 = .ok (.iaload, 1) := by decide +kernel
theorem dX5_weighSets_44 : decode cX5_weighSets 44 = .ok (.aload_n 0, 1) := by decide +kernel
theorem dX5_weighSets_45 : decode cX5_weighSets 45 = .ok (.getfield 15, 3) := by decide +kernel
theorem dX5_weighSets_48 : decode cX5_weighSets 48 = .ok (.iload_n 1, 1) := by decide +kernel
theorem dX5_weighSets_49 : decode cX5_weighSets 49 = .ok (.invokevirtual 28, 3) := by decide +kernel
theorem dX5_weighSets_52 : decode cX5_weighSets 52 = .ok (.iadd, 1) := by decide +kernel
theorem dX5_weighSets_53 : decode cX5_weighSets 53 = .ok (.iastore, 1) := by decide +kernel
theorem dX5_weighSets_54 : decode cX5_weighSets 54 = .ok (.iinc 3 1, 3) := by decide +kernel
theorem dX5_weighSets_57 : decode cX5_weighSets 57 = .ok (.goto (-31), 3) := by decide +kernel
theorem dX5_weighSets_60 : decode cX5_weighSets 60 = .ok (.iinc 1 1, 3) := by decide +kernel
theorem dX5_weighSets_63 : decode cX5_weighSets 63 = .ok (.goto (-54), 3) := by decide +kernel
theorem dX5_weighSets_66 : decode cX5_weighSets 66 = .ok (.return_, 1) := by decide +kernel
theorem dX6_init_0 : decode cX6_init 0 = .ok (.aload_n 0, 1) := by decide +kernel
theorem dX6_init_1 : decode cX6_init 1 = .ok (.invokespecial 3, 3) := by decide +kernel
theorem dX6_init_4 : decode cX6_init 4 = .ok (.aload_n 0, 1) := by decide +kernel
theorem dX6_init_5 : decode cX6_init 5 = .ok (.iconst (-1), 1) := by decide +kernel
theorem dX6_init_6 : decode cX6_init 6 = .ok (.putfield 9, 3) := by decide +kernel
theorem dX6_init_9 : decode cX6_init 9 = .ok (.aload_n 0, 1) := by decide +kernel
theorem dX6_init_10 : decode cX6_init 10 = .ok (.iconst 0, 1) := by decide +kernel
theorem dX6_init_11 : decode cX6_init 11 = .ok (.putfield 15, 3) := by decide +kernel
theorem dX6_init_14 : decode cX6_init 14 = .ok (.aload_n 0, 1) := by decide +kernel
theorem dX6_init_15 : decode cX6_init 15 = .ok (.bipush 60, 2) := by decide +kernel
theorem dX6_init_17 : decode cX6_init 17 = .ok (.newarray .int, 2) := by decide +kernel
theorem dX6_init_19 : decode cX6_init 19 = .ok (.putfield 18, 3) := by decide +kernel
theorem dX6_init_22 : decode cX6_init 22 = .ok (.return_, 1) := by decide +kernel
theorem dX6_renew_0 : decode cX6_renew 0 = .ok (.aload_n 0, 1) := by decide +kernel
theorem dX6_renew_1 : decode cX6_renew 1 = .ok (.iload_n 1, 1) := by decide +kernel
theorem dX6_renew_2 : decode cX6_renew 2 = .ok (.putfield 9, 3) := by decide +kernel
theorem dX6_renew_5 : decode cX6_renew 5 = .ok (.aload_n 0, 1) := by decide +kernel
theorem dX6_renew_6 : decode cX6_renew 6 = .ok (.iconst 0, 1) := by decide +kernel
theorem dX6_renew_7 : decode cX6_renew 7 = .ok (.iload_n 2, 1) := by decide +kernel
theorem dX6_renew_8 : decode cX6_renew 8 = .ok (.bipush 60, 2) := by decide +kernel
theorem dX6_renew_10 : decode cX6_renew 10 = .ok (.invokestatic 22, 3) := by decide +kernel
theorem dX6_renew_13 : decode cX6_renew 13 = .ok (.invokestatic 28, 3) := by decide +kernel
theorem dX6_renew_16 : decode cX6_renew 16 = .ok (.putfield 15, 3) := by decide +kernel
theorem dX6_renew_19 : decode cX6_renew 19 = .ok (.iconst 0, 1) := by decide +kernel
theorem dX6_renew_20 : decode cX6_renew 20 = .ok (.istore_n 3, 1) := by decide +kernel
theorem dX6_renew_21 : decode cX6_renew 21 = .ok (.iload_n 3, 1) := by decide +kernel
theorem dX6_renew_22 : decode cX6_renew 22 = .ok (.bipush 60, 2) := by decide +kernel
theorem dX6_renew_24 : decode cX6_renew 24 = .ok (.if_icmp .ge 16, 3) := by decide +kernel
theorem dX6_renew_27 : decode cX6_renew 27 = .ok (.aload_n 0, 1) := by decide +kernel
theorem dX6_renew_28 : decode cX6_renew 28 = .ok (.getfield 18, 3) := by decide +kernel
theorem dX6_renew_31 : decode cX6_renew 31 = .ok (.iload_n 3, 1) := by decide +kernel
theorem dX6_renew_32 : decode cX6_renew 32 = .ok (.iconst 0, 1) := by decide +kernel
theorem dX6_renew_33 : decode cX6_renew 33 = .ok (.iastore, 1) := by decide +kernel
theorem dX6_renew_34 : decode cX6_renew 34 = .ok (.iinc 3 1, 3) := by decide +kernel
theorem dX6_renew_37 : decode cX6_renew 37 = .ok (.goto (-16), 3) := by decide +kernel
theorem dX6_renew_40 : decode cX6_renew 40 = .ok (.return_, 1) := by decide +kernel
theorem dX6_holds_0 : decode cX6_holds 0 = .ok (.iload_n 1, 1) := by decide +kernel
theorem dX6_holds_1 : decode cX6_holds 1 = .ok (.ifCond .lt 29, 3) := by decide +kernel
theorem dX6_holds_4 : decode cX6_holds 4 = .ok (.iload_n 2, 1) := by decide +kernel
theorem dX6_holds_5 : decode cX6_holds 5 = .ok (.ifCond .lt 25, 3) := by decide +kernel
theorem dX6_holds_8 : decode cX6_holds 8 = .ok (.iload_n 2, 1) := by decide +kernel
theorem dX6_holds_9 : decode cX6_holds 9 = .ok (.aload_n 0, 1) := by decide +kernel
theorem dX6_holds_10 : decode cX6_holds 10 = .ok (.getfield 15, 3) := by decide +kernel
theorem dX6_holds_13 : decode cX6_holds 13 = .ok (.if_icmp .gt 17, 3) := by decide +kernel
theorem dX6_holds_16 : decode cX6_holds 16 = .ok (.iload_n 1, 1) := by decide +kernel
theorem dX6_holds_17 : decode cX6_holds 17 = .ok (.aload_n 0, 1) := by decide +kernel
theorem dX6_holds_18 : decode cX6_holds 18 = .ok (.getfield 15, 3) := by decide +kernel
theorem dX6_holds_21 : decode cX6_holds 21 = .ok (.iload_n 2, 1) := by decide +kernel
theorem dX6_holds_22 : decode cX6_holds 22 = .ok (.isub, 1) := by decide +kernel
theorem dX6_holds_23 : decode cX6_holds 23 = .ok (.if_icmp .gt 7, 3) := by decide +kernel
theorem dX6_holds_26 : decode cX6_holds 26 = .ok (.iconst 1, 1) := by decide +kernel
theorem dX6_holds_27 : decode cX6_holds 27 = .ok (.goto 4, 3) := by decide +kernel
theorem dX6_holds_30 : decode cX6_holds 30 = .ok (.iconst 0, 1) := by decide +kernel
theorem dX6_holds_31 : decode cX6_holds 31 = .ok (.ireturn, 1) := by decide +kernel
theorem dX6_set_0 : decode cX6_set 0 = .ok (.iload_n 1, 1) := by decide +kernel
theorem dX6_set_1 : decode cX6_set 1 = .ok (.ifCond .lt 11, 3) := by decide +kernel
theorem dX6_set_4 : decode cX6_set 4 = .ok (.iload_n 1, 1) := by decide +kernel
theorem dX6_set_5 : decode cX6_set 5 = .ok (.aload_n 0, 1) := by decide +kernel
theorem dX6_set_6 : decode cX6_set 6 = .ok (.getfield 15, 3) := by decide +kernel
theorem dX6_set_9 : decode cX6_set 9 = .ok (.if_icmp .lt 4, 3) := by decide +kernel
theorem dX6_set_12 : decode cX6_set 12 = .ok (.return_, 1) := by decide +kernel
theorem dX6_set_13 : decode cX6_set 13 = .ok (.aload_n 0, 1) := by decide +kernel
theorem dX6_set_14 : decode cX6_set 14 = .ok (.getfield 9, 3) := by decide +kernel
theorem dX6_set_17 : decode cX6_set 17 = .ok (.ifCond .ne 14, 3) := by decide +kernel
theorem dX6_set_20 : decode cX6_set 20 = .ok (.aload_n 0, 1) := by decide +kernel
theorem dX6_set_21 : decode cX6_set 21 = .ok (.getfield 18, 3) := by decide +kernel
theorem dX6_set_24 : decode cX6_set 24 = .ok (.iload_n 1, 1) := by decide +kernel
theorem dX6_set_25 : decode cX6_set 25 = .ok (.iload_n 2, 1) := by decide +kernel
theorem dX6_set_26 : decode cX6_set 26 = .ok (.i2b, 1) := by decide +kernel
theorem dX6_set_27 : decode cX6_set 27 = .ok (.iastore, 1) := by decide +kernel
theorem dX6_set_28 : decode cX6_set 28 = .ok (.goto 23, 3) := by decide +kernel
theorem dX6_set_31 : decode cX6_set 31 = .ok (.aload_n 0, 1) := by decide +kernel
theorem dX6_set_32 : decode cX6_set 32 = .ok (.getfield 18, 3) := by decide +kernel
theorem dX6_set_35 : decode cX6_set 35 = .ok (.iload_n 1, 1) := by decide +kernel
theorem dX6_set_36 : decode cX6_set 36 = .ok (.aload_n 0, 1) := by decide +kernel
theorem dX6_set_37 : decode cX6_set 37 = .ok (.getfield 9, 3) := by decide +kernel
theorem dX6_set_40 : decode cX6_set 40 = .ok (.iconst 1, 1) := by decide +kernel
theorem dX6_set_41 : decode cX6_set 41 = .ok (.if_icmp .ne 8, 3) := by decide +kernel
theorem dX6_set_44 : decode cX6_set 44 = .ok (.iload_n 2, 1) := by decide +kernel
theorem dX6_set_45 : decode cX6_set 45 = .ok (.i2s, 1) := by decide +kernel
theorem dX6_set_46 : decode cX6_set 46 = .ok (.goto 4, 3) := by decide +kernel
theorem dX6_set_49 : decode cX6_set 49 = .ok (.iload_n 2, 1) := by decide +kernel
theorem dX6_set_50 : decode cX6_set 50 = .ok (.iastore, 1) := by decide +kernel
theorem dX6_set_51 : decode cX6_set 51 = .ok (.return_, 1) := by decide +kernel
theorem dX7_init_0 : decode cX7_init 0 = .ok (.aload_n 0, 1) := by decide +kernel
theorem dX7_init_1 : decode cX7_init 1 = .ok (.invokespecial 3, 3) := by decide +kernel
theorem dX7_init_4 : decode cX7_init 4 = .ok (.aload_n 0, 1) := by decide +kernel
theorem dX7_init_5 : decode cX7_init 5 = .ok (.iconst 0, 1) := by decide +kernel
theorem dX7_init_6 : decode cX7_init 6 = .ok (.putfield 9, 3) := by decide +kernel
theorem dX7_init_9 : decode cX7_init 9 = .ok (.aload_n 0, 1) := by decide +kernel
theorem dX7_init_10 : decode cX7_init 10 = .ok (.bipush 8, 2) := by decide +kernel
theorem dX7_init_12 : decode cX7_init 12 = .ok (.newarray .int, 2) := by decide +kernel
theorem dX7_init_14 : decode cX7_init 14 = .ok (.putfield 15, 3) := by decide +kernel
theorem dX7_init_17 : decode cX7_init 17 = .ok (.aload_n 0, 1) := by decide +kernel
theorem dX7_init_18 : decode cX7_init 18 = .ok (.bipush 8, 2) := by decide +kernel
theorem dX7_init_20 : decode cX7_init 20 = .ok (.newarray .int, 2) := by decide +kernel
theorem dX7_init_22 : decode cX7_init 22 = .ok (.putfield 19, 3) := by decide +kernel
theorem dX7_init_25 : decode cX7_init 25 = .ok (.return_, 1) := by decide +kernel
theorem dX7_add_0 : decode cX7_add 0 = .ok (.aload_n 0, 1) := by decide +kernel
theorem dX7_add_1 : decode cX7_add 1 = .ok (.getfield 9, 3) := by decide +kernel
theorem dX7_add_4 : decode cX7_add 4 = .ok (.bipush 8, 2) := by decide +kernel
theorem dX7_add_6 : decode cX7_add 6 = .ok (.if_icmp .lt 5, 3) := by decide +kernel
theorem dX7_add_9 : decode cX7_add 9 = .ok (.iconst 0, 1) := by decide +kernel
theorem dX7_add_10 : decode cX7_add 10 = .ok (.ireturn, 1) := by decide +kernel
theorem dX7_add_11 : decode cX7_add 11 = .ok (.aload_n 0, 1) := by decide +kernel
theorem dX7_add_12 : decode cX7_add 12 = .ok (.getfield 15, 3) := by decide +kernel
theorem dX7_add_15 : decode cX7_add 15 = .ok (.aload_n 0, 1) := by decide +kernel
theorem dX7_add_16 : decode cX7_add 16 = .ok (.getfield 9, 3) := by decide +kernel
theorem dX7_add_19 : decode cX7_add 19 = .ok (.iload_n 1, 1) := by decide +kernel
theorem dX7_add_20 : decode cX7_add 20 = .ok (.iastore, 1) := by decide +kernel
theorem dX7_add_21 : decode cX7_add 21 = .ok (.aload_n 0, 1) := by decide +kernel
theorem dX7_add_22 : decode cX7_add 22 = .ok (.getfield 19, 3) := by decide +kernel
theorem dX7_add_25 : decode cX7_add 25 = .ok (.aload_n 0, 1) := by decide +kernel
theorem dX7_add_26 : decode cX7_add 26 = .ok (.getfield 9, 3) := by decide +kernel
theorem dX7_add_29 : decode cX7_add 29 = .ok (.iload_n 2, 1) := by decide +kernel
theorem dX7_add_30 : decode cX7_add 30 = .ok (.iastore, 1) := by decide +kernel
theorem dX7_add_31 : decode cX7_add 31 = .ok (.aload_n 0, 1) := by decide +kernel
theorem dX7_add_32 : decode cX7_add 32 = .ok (.dup, 1) := by decide +kernel
theorem dX7_add_33 : decode cX7_add 33 = .ok (.getfield 9, 3) := by decide +kernel
theorem dX7_add_36 : decode cX7_add 36 = .ok (.iconst 1, 1) := by decide +kernel
theorem dX7_add_37 : decode cX7_add 37 = .ok (.iadd, 1) := by decide +kernel
theorem dX7_add_38 : decode cX7_add 38 = .ok (.putfield 9, 3) := by decide +kernel
theorem dX7_add_41 : decode cX7_add 41 = .ok (.iconst 1, 1) := by decide +kernel
theorem dX7_add_42 : decode cX7_add 42 = .ok (.ireturn, 1) := by decide +kernel
theorem dX8_init_0 : decode cX8_init 0 = .ok (.aload_n 0, 1) := by decide +kernel
theorem dX8_init_1 : decode cX8_init 1 = .ok (.invokespecial 3, 3) := by decide +kernel
theorem dX8_init_4 : decode cX8_init 4 = .ok (.aload_n 0, 1) := by decide +kernel
theorem dX8_init_5 : decode cX8_init 5 = .ok (.iconst 0, 1) := by decide +kernel
theorem dX8_init_6 : decode cX8_init 6 = .ok (.putfield 9, 3) := by decide +kernel
theorem dX8_init_9 : decode cX8_init 9 = .ok (.aload_n 0, 1) := by decide +kernel
theorem dX8_init_10 : decode cX8_init 10 = .ok (.iconst 0, 1) := by decide +kernel
theorem dX8_init_11 : decode cX8_init 11 = .ok (.iload_n 1, 1) := by decide +kernel
theorem dX8_init_12 : decode cX8_init 12 = .ok (.invokestatic 15, 3) := by decide +kernel
theorem dX8_init_15 : decode cX8_init 15 = .ok (.newarray .int, 2) := by decide +kernel
theorem dX8_init_17 : decode cX8_init 17 = .ok (.putfield 21, 3) := by decide +kernel
theorem dX8_init_20 : decode cX8_init 20 = .ok (.return_, 1) := by decide +kernel
theorem dX8_add_0 : decode cX8_add 0 = .ok (.aload_n 0, 1) := by decide +kernel
theorem dX8_add_1 : decode cX8_add 1 = .ok (.getfield 9, 3) := by decide +kernel
theorem dX8_add_4 : decode cX8_add 4 = .ok (.aload_n 0, 1) := by decide +kernel
theorem dX8_add_5 : decode cX8_add 5 = .ok (.getfield 21, 3) := by decide +kernel
theorem dX8_add_8 : decode cX8_add 8 = .ok (.arraylength, 1) := by decide +kernel
theorem dX8_add_9 : decode cX8_add 9 = .ok (.if_icmp .lt 5, 3) := by decide +kernel
theorem dX8_add_12 : decode cX8_add 12 = .ok (.iconst 0, 1) := by decide +kernel
theorem dX8_add_13 : decode cX8_add 13 = .ok (.ireturn, 1) := by decide +kernel
theorem dX8_add_14 : decode cX8_add 14 = .ok (.aload_n 0, 1) := by decide +kernel
theorem dX8_add_15 : decode cX8_add 15 = .ok (.getfield 21, 3) := by decide +kernel
theorem dX8_add_18 : decode cX8_add 18 = .ok (.aload_n 0, 1) := by decide +kernel
theorem dX8_add_19 : decode cX8_add 19 = .ok (.dup, 1) := by decide +kernel
theorem dX8_add_20 : decode cX8_add 20 = .ok (.getfield 9, 3) := by decide +kernel
theorem dX8_add_23 : decode cX8_add 23 = .ok (.dup_x1, 1) := by decide +kernel
theorem dX8_add_24 : decode cX8_add 24 = .ok (.iconst 1, 1) := by decide +kernel
theorem dX8_add_25 : decode cX8_add 25 = .ok (.iadd, 1) := by decide +kernel
theorem dX8_add_26 : decode cX8_add 26 = .ok (.putfield 9, 3) := by decide +kernel
theorem dX8_add_29 : decode cX8_add 29 = .ok (.iload_n 1, 1) := by decide +kernel
theorem dX8_add_30 : decode cX8_add 30 = .ok (.iastore, 1) := by decide +kernel
theorem dX8_add_31 : decode cX8_add 31 = .ok (.iconst 1, 1) := by decide +kernel
theorem dX8_add_32 : decode cX8_add 32 = .ok (.ireturn, 1) := by decide +kernel
theorem dX8_at_0 : decode cX8_at 0 = .ok (.iload_n 1, 1) := by decide +kernel
theorem dX8_at_1 : decode cX8_at 1 = .ok (.ifCond .lt 20, 3) := by decide +kernel
theorem dX8_at_4 : decode cX8_at 4 = .ok (.iload_n 1, 1) := by decide +kernel
theorem dX8_at_5 : decode cX8_at 5 = .ok (.aload_n 0, 1) := by decide +kernel
theorem dX8_at_6 : decode cX8_at 6 = .ok (.getfield 9, 3) := by decide +kernel
theorem dX8_at_9 : decode cX8_at 9 = .ok (.if_icmp .ge 12, 3) := by decide +kernel
theorem dX8_at_12 : decode cX8_at 12 = .ok (.aload_n 0, 1) := by decide +kernel
theorem dX8_at_13 : decode cX8_at 13 = .ok (.getfield 21, 3) := by decide +kernel
theorem dX8_at_16 : decode cX8_at 16 = .ok (.iload_n 1, 1) := by decide +kernel
theorem dX8_at_17 : decode cX8_at 17 = .ok (.iaload, 1) := by decide +kernel
theorem dX8_at_18 : decode cX8_at 18 = .ok (.goto 4, 3) := by decide +kernel
theorem dX8_at_21 : decode cX8_at 21 = .ok (.iconst (-1), 1) := by decide +kernel
theorem dX8_at_22 : decode cX8_at 22 = .ok (.ireturn, 1) := by decide +kernel
theorem dX8_isLetter_0 : decode cX8_isLetter 0 = .ok (.aload_n 0, 1) := by decide +kernel
theorem dX8_isLetter_1 : decode cX8_isLetter 1 = .ok (.iload_n 1, 1) := by decide +kernel
theorem dX8_isLetter_2 : decode cX8_isLetter 2 = .ok (.invokevirtual 25, 3) := by decide +kernel
theorem dX8_isLetter_5 : decode cX8_isLetter 5 = .ok (.bipush 97, 2) := by decide +kernel
theorem dX8_isLetter_7 : decode cX8_isLetter 7 = .ok (.if_icmp .lt 17, 3) := by decide +kernel
theorem dX8_isLetter_10 : decode cX8_isLetter 10 = .ok (.aload_n 0, 1) := by decide +kernel
theorem dX8_isLetter_11 : decode cX8_isLetter 11 = .ok (.iload_n 1, 1) := by decide +kernel
theorem dX8_isLetter_12 : decode cX8_isLetter 12 = .ok (.invokevirtual 25, 3) := by decide +kernel
theorem dX8_isLetter_15 : decode cX8_isLetter 15 = .ok (.bipush 99, 2) := by decide +kernel
theorem dX8_isLetter_17 : decode cX8_isLetter 17 = .ok (.if_icmp .gt 7, 3) := by decide +kernel
theorem dX8_isLetter_20 : decode cX8_isLetter 20 = .ok (.iconst 1, 1) := by decide +kernel
theorem dX8_isLetter_21 : decode cX8_isLetter 21 = .ok (.goto 4, 3) := by decide +kernel
theorem dX8_isLetter_24 : decode cX8_isLetter 24 = .ok (.iconst 0, 1) := by decide +kernel
theorem dX8_isLetter_25 : decode cX8_isLetter 25 = .ok (.ireturn, 1) := by decide +kernel
theorem dX9_init_0 : decode cX9_init 0 = .ok (.aload_n 0, 1) := by decide +kernel
theorem dX9_init_1 : decode cX9_init 1 = .ok (.invokespecial 1, 3) := by decide +kernel
theorem dX9_init_4 : decode cX9_init 4 = .ok (.aload_n 0, 1) := by decide +kernel
theorem dX9_init_5 : decode cX9_init 5 = .ok (.iconst 2, 1) := by decide +kernel
theorem dX9_init_6 : decode cX9_init 6 = .ok (.anewarray 9, 3) := by decide +kernel
theorem dX9_init_9 : decode cX9_init 9 = .ok (.putfield 11, 3) := by decide +kernel
theorem dX9_init_12 : decode cX9_init 12 = .ok (.aload_n 0, 1) := by decide +kernel
theorem dX9_init_13 : decode cX9_init 13 = .ok (.new 15, 3) := by decide +kernel
theorem dX9_init_16 : decode cX9_init 16 = .ok (.dup, 1) := by decide +kernel
theorem dX9_init_17 : decode cX9_init 17 = .ok (.invokespecial 17, 3) := by decide +kernel
theorem dX9_init_20 : decode cX9_init 20 = .ok (.putfield 18, 3) := by decide +kernel
theorem dX9_init_23 : decode cX9_init 23 = .ok (.aload_n 0, 1) := by decide +kernel
theorem dX9_init_24 : decode cX9_init 24 = .ok (.new 22, 3) := by decide +kernel
theorem dX9_init_27 : decode cX9_init 27 = .ok (.dup, 1) := by decide +kernel
theorem dX9_init_28 : decode cX9_init 28 = .ok (.invokespecial 24, 3) := by decide +kernel
theorem dX9_init_31 : decode cX9_init 31 = .ok (.putfield 25, 3) := by decide +kernel
theorem dX9_init_34 : decode cX9_init 34 = .ok (.aload_n 0, 1) := by decide +kernel
theorem dX9_init_35 : decode cX9_init 35 = .ok (.new 29, 3) := by decide +kernel
theorem dX9_init_38 : decode cX9_init 38 = .ok (.dup, 1) := by decide +kernel
theorem dX9_init_39 : decode cX9_init 39 = .ok (.invokespecial 31, 3) := by decide +kernel
theorem dX9_init_42 : decode cX9_init 42 = .ok (.putfield 32, 3) := by decide +kernel
theorem dX9_init_45 : decode cX9_init 45 = .ok (.aload_n 0, 1) := by decide +kernel
theorem dX9_init_46 : decode cX9_init 46 = .ok (.new 36, 3) := by decide +kernel
theorem dX9_init_49 : decode cX9_init 49 = .ok (.dup, 1) := by decide +kernel
theorem dX9_init_50 : decode cX9_init 50 = .ok (.invokespecial 38, 3) := by decide +kernel
theorem dX9_init_53 : decode cX9_init 53 = .ok (.putfield 39, 3) := by decide +kernel
theorem dX9_init_56 : decode cX9_init 56 = .ok (.aload_n 0, 1) := by decide +kernel
theorem dX9_init_57 : decode cX9_init 57 = .ok (.new 43, 3) := by decide +kernel
theorem dX9_init_60 : decode cX9_init 60 = .ok (.dup, 1) := by decide +kernel
theorem dX9_init_61 : decode cX9_init 61 = .ok (.invokespecial 45, 3) := by decide +kernel
theorem dX9_init_64 : decode cX9_init 64 = .ok (.putfield 46, 3) := by decide +kernel
theorem dX9_init_67 : decode cX9_init 67 = .ok (.aload_n 0, 1) := by decide +kernel
theorem dX9_init_68 : decode cX9_init 68 = .ok (.new 50, 3) := by decide +kernel
theorem dX9_init_71 : decode cX9_init 71 = .ok (.dup, 1) := by decide +kernel
theorem dX9_init_72 : decode cX9_init 72 = .ok (.aload_n 0, 1) := by decide +kernel
theorem dX9_init_73 : decode cX9_init 73 = .ok (.getfield 18, 3) := by decide +kernel
theorem dX9_init_76 : decode cX9_init 76 = .ok (.aload_n 0, 1) := by decide +kernel
theorem dX9_init_77 : decode cX9_init 77 = .ok (.getfield 25, 3) := by decide +kernel
theorem dX9_init_80 : decode cX9_init 80 = .ok (.aload_n 0, 1) := by decide +kernel
theorem dX9_init_81 : decode cX9_init 81 = .ok (.getfield 32, 3) := by decide +kernel
theorem dX9_init_84 : decode cX9_init 84 = .ok (.invokespecial 52, 3) := by decide +kernel
theorem dX9_init_87 : decode cX9_init 87 = .ok (.putfield 55, 3) := by decide +kernel
theorem dX9_init_90 : decode cX9_init 90 = .ok (.aload_n 0, 1) := by decide +kernel
theorem dX9_init_91 : decode cX9_init 91 = .ok (.new 59, 3) := by decide +kernel
theorem dX9_init_94 : decode cX9_init 94 = .ok (.dup, 1) := by decide +kernel
theorem dX9_init_95 : decode cX9_init 95 = .ok (.aload_n 0, 1) := by decide +kernel
theorem dX9_init_96 : decode cX9_init 96 = .ok (.getfield 18, 3) := by decide +kernel
theorem dX9_init_99 : decode cX9_init 99 = .ok (.invokespecial 61, 3) := by decide +kernel
theorem dX9_init_102 : decode cX9_init 102 = .ok (.putfield 64, 3) := by decide +kernel
theorem dX9_init_105 : decode cX9_init 105 = .ok (.aload_n 0, 1) := by decide +kernel
theorem dX9_init_106 : decode cX9_init 106 = .ok (.iconst 4, 1) := by decide +kernel
theorem dX9_init_107 : decode cX9_init 107 = .ok (.anewarray 68, 3) := by decide +kernel
theorem dX9_init_110 : decode cX9_init 110 = .ok (.putfield 70, 3) := by decide +kernel
theorem dX9_init_113 : decode cX9_init 113 = .ok (.aload_n 0, 1) := by decide +kernel
theorem dX9_init_114 : decode cX9_init 114 = .ok (.bipush 8, 2) := by decide +kernel
theorem dX9_init_116 : decode cX9_init 116 = .ok (.newarray .int, 2) := by decide +kernel
theorem dX9_init_118 : decode cX9_init 118 = .ok (.putfield 74, 3) := by decide +kernel
theorem dX9_init_121 : decode cX9_init 121 = .ok (.aload_n 0, 1) := by decide +kernel
theorem dX9_init_122 : decode cX9_init 122 = .ok (.bipush 8, 2) := by decide +kernel
theorem dX9_init_124 : decode cX9_init 124 = .ok (.newarray .int, 2) := by decide +kernel
theorem dX9_init_126 : decode cX9_init 126 = .ok (.putfield 78, 3) := by decide +kernel
theorem dX9_init_129 : decode cX9_init 129 = .ok (.aload_n 0, 1) := by decide +kernel
theorem dX9_init_130 : decode cX9_init 130 = .ok (.iconst 2, 1) := by decide +kernel
theorem dX9_init_131 : decode cX9_init 131 = .ok (.newarray .int, 2) := by decide +kernel
theorem dX9_init_133 : decode cX9_init 133 = .ok (.putfield 81, 3) := by decide +kernel
theorem dX9_init_136 : decode cX9_init 136 = .ok (.aload_n 0, 1) := by decide +kernel
theorem dX9_init_137 : decode cX9_init 137 = .ok (.iconst 4, 1) := by decide +kernel
theorem dX9_init_138 : decode cX9_init 138 = .ok (.newarray .int, 2) := by decide +kernel
theorem dX9_init_140 : decode cX9_init 140 = .ok (.putfield 84, 3) := by decide +kernel
theorem dX9_init_143 : decode cX9_init 143 = .ok (.aload_n 0, 1) := by decide +kernel
theorem dX9_init_144 : decode cX9_init 144 = .ok (.iconst 0, 1) := by decide +kernel
theorem dX9_init_145 : decode cX9_init 145 = .ok (.putfield 87, 3) := by decide +kernel
theorem dX9_init_148 : decode cX9_init 148 = .ok (.aload_n 0, 1) := by decide +kernel
theorem dX9_init_149 : decode cX9_init 149 = .ok (.getfield 11, 3) := by decide +kernel
theorem dX9_init_152 : decode cX9_init 152 = .ok (.iconst 0, 1) := by decide +kernel
theorem dX9_init_153 : decode cX9_init 153 = .ok (.new 9, 3) := by decide +kernel
theorem dX9_init_156 : decode cX9_init 156 = .ok (.dup, 1) := by decide +kernel
theorem dX9_init_157 : decode cX9_init 157 = .ok (.bipush 47, 2) := by decide +kernel
theorem dX9_init_159 : decode cX9_init 159 = .ok (.invokespecial 91, 3) := by decide +kernel
theorem dX9_init_162 : decode cX9_init 162 = .ok (.aastore, 1) := by decide +kernel
theorem dX9_init_163 : decode cX9_init 163 = .ok (.aload_n 0, 1) := by decide +kernel
theorem dX9_init_164 : decode cX9_init 164 = .ok (.getfield 11, 3) := by decide +kernel
theorem dX9_init_167 : decode cX9_init 167 = .ok (.iconst 1, 1) := by decide +kernel
theorem dX9_init_168 : decode cX9_init 168 = .ok (.new 9, 3) := by decide +kernel
theorem dX9_init_171 : decode cX9_init 171 = .ok (.dup, 1) := by decide +kernel
theorem dX9_init_172 : decode cX9_init 172 = .ok (.bipush 30, 2) := by decide +kernel
theorem dX9_init_174 : decode cX9_init 174 = .ok (.invokespecial 91, 3) := by decide +kernel
theorem dX9_init_177 : decode cX9_init 177 = .ok (.aastore, 1) := by decide +kernel
theorem dX9_init_178 : decode cX9_init 178 = .ok (.iconst 0, 1) := by decide +kernel
theorem dX9_init_179 : decode cX9_init 179 = .ok (.istore_n 1, 1) := by decide +kernel
theorem dX9_init_180 : decode cX9_init 180 = .ok (.iload_n 1, 1) := by decide +kernel
theorem dX9_init_181 : decode cX9_init 181 = .ok (.iconst 4, 1) := by decide +kernel
theorem dX9_init_182 : decode cX9_init 182 = .ok (.if_icmp .ge 22, 3) := by decide +kernel
theorem dX9_init_185 : decode cX9_init 185 = .ok (.aload_n 0, 1) := by decide +kernel
theorem dX9_init_186 : decode cX9_init 186 = .ok (.getfield 70, 3) := by decide +kernel
theorem dX9_init_189 : decode cX9_init 189 = .ok (.iload_n 1, 1) := by decide +kernel
theorem dX9_init_190 : decode cX9_init 190 = .ok (.new 68, 3) := by decide +kernel
theorem dX9_init_193 : decode cX9_init 193 = .ok (.dup, 1) := by decide +kernel
theorem dX9_init_194 : decode cX9_init 194 = .ok (.invokespecial 94, 3) := by decide +kernel
theorem dX9_init_197 : decode cX9_init 197 = .ok (.aastore, 1) := by decide +kernel
theorem dX9_init_198 : decode cX9_init 198 = .ok (.iinc 1 1, 3) := by decide +kernel
theorem dX9_init_201 : decode cX9_init 201 = .ok (.goto (-21), 3) := by decide +kernel
theorem dX9_init_204 : decode cX9_init 204 = .ok (.return_, 1) := by decide +kernel
theorem dX9_type_0 : decode cX9_type 0 = .ok (.iload_n 1, 1) := by decide +kernel
theorem dX9_type_1 : decode cX9_type 1 = .ok (.iconst 2, 1) := by decide +kernel
theorem dX9_type_2 : decode cX9_type 2 = .ok (.invokestatic 95, 3) := by decide +kernel
theorem dX9_type_5 : decode cX9_type 5 = .ok (.ifCond .eq 13, 3) := by decide +kernel
theorem dX9_type_8 : decode cX9_type 8 = .ok (.iload_n 2, 1) := by decide +kernel
theorem dX9_type_9 : decode cX9_type 9 = .ok (.sipush 256, 3) := by decide +kernel
theorem dX9_type_12 : decode cX9_type 12 = .ok (.invokestatic 95, 3) := by decide +kernel
theorem dX9_type_15 : decode cX9_type 15 = .ok (.ifCond .ne 6, 3) := by decide +kernel
theorem dX9_type_18 : decode cX9_type 18 = .ok (.bipush (-2), 2) := by decide +kernel
theorem dX9_type_20 : decode cX9_type 20 = .ok (.ireturn, 1) := by decide +kernel
theorem dX9_type_21 : decode cX9_type 21 = .ok (.aload_n 0, 1) := by decide +kernel
theorem dX9_type_22 : decode cX9_type 22 = .ok (.getfield 11, 3) := by decide +kernel
theorem dX9_type_25 : decode cX9_type 25 = .ok (.iload_n 1, 1) := by decide +kernel
theorem dX9_type_26 : decode cX9_type 26 = .ok (.aaload, 1) := by decide +kernel
theorem dX9_type_27 : decode cX9_type 27 = .ok (.iload_n 2, 1) := by decide +kernel
theorem dX9_type_28 : decode cX9_type 28 = .ok (.invokevirtual 99, 3) := by decide +kernel
theorem dX9_type_31 : decode cX9_type 31 = .ok (.ifCond .ne 6, 3) := by decide +kernel
theorem dX9_type_34 : decode cX9_type 34 = .ok (.bipush (-4), 2) := by decide +kernel
theorem dX9_type_36 : decode cX9_type 36 = .ok (.ireturn, 1) := by decide +kernel
theorem dX9_type_37 : decode cX9_type 37 = .ok (.aload_n 0, 1) := by decide +kernel
theorem dX9_type_38 : decode cX9_type 38 = .ok (.iload_n 1, 1) := by decide +kernel
theorem dX9_type_39 : decode cX9_type 39 = .ok (.invokevirtual 103, 3) := by decide +kernel
theorem dX9_type_42 : decode cX9_type 42 = .ok (.aload_n 0, 1) := by decide +kernel
theorem dX9_type_43 : decode cX9_type 43 = .ok (.getfield 11, 3) := by decide +kernel
theorem dX9_type_46 : decode cX9_type 46 = .ok (.iload_n 1, 1) := by decide +kernel
theorem dX9_type_47 : decode cX9_type 47 = .ok (.aaload, 1) := by decide +kernel
theorem dX9_type_48 : decode cX9_type 48 = .ok (.getfield 106, 3) := by decide +kernel
theorem dX9_type_51 : decode cX9_type 51 = .ok (.ireturn, 1) := by decide +kernel
theorem dX9_wipe_0 : decode cX9_wipe 0 = .ok (.iload_n 1, 1) := by decide +kernel
theorem dX9_wipe_1 : decode cX9_wipe 1 = .ok (.iconst 2, 1) := by decide +kernel
theorem dX9_wipe_2 : decode cX9_wipe 2 = .ok (.invokestatic 95, 3) := by decide +kernel
theorem dX9_wipe_5 : decode cX9_wipe 5 = .ok (.ifCond .ne 6, 3) := by decide +kernel
theorem dX9_wipe_8 : decode cX9_wipe 8 = .ok (.bipush (-2), 2) := by decide +kernel
theorem dX9_wipe_10 : decode cX9_wipe 10 = .ok (.ireturn, 1) := by decide +kernel
theorem dX9_wipe_11 : decode cX9_wipe 11 = .ok (.aload_n 0, 1) := by decide +kernel
theorem dX9_wipe_12 : decode cX9_wipe 12 = .ok (.getfield 11, 3) := by decide +kernel
theorem dX9_wipe_15 : decode cX9_wipe 15 = .ok (.iload_n 1, 1) := by decide +kernel
theorem dX9_wipe_16 : decode cX9_wipe 16 = .ok (.aaload, 1) := by decide +kernel
theorem dX9_wipe_17 : decode cX9_wipe 17 = .ok (.getfield 106, 3) := by decide +kernel
theorem dX9_wipe_20 : decode cX9_wipe 20 = .ok (.istore_n 2, 1) := by decide +kernel
theorem dX9_wipe_21 : decode cX9_wipe 21 = .ok (.aload_n 0, 1) := by decide +kernel
theorem dX9_wipe_22 : decode cX9_wipe 22 = .ok (.getfield 11, 3) := by decide +kernel
theorem dX9_wipe_25 : decode cX9_wipe 25 = .ok (.iload_n 1, 1) := by decide +kernel
theorem dX9_wipe_26 : decode cX9_wipe 26 = .ok (.aaload, 1) := by decide +kernel
theorem dX9_wipe_27 : decode cX9_wipe 27 = .ok (.iconst 0, 1) := by decide +kernel
theorem dX9_wipe_28 : decode cX9_wipe 28 = .ok (.putfield 106, 3) := by decide +kernel
theorem dX9_wipe_31 : decode cX9_wipe 31 = .ok (.aload_n 0, 1) := by decide +kernel
theorem dX9_wipe_32 : decode cX9_wipe 32 = .ok (.iload_n 1, 1) := by decide +kernel
theorem dX9_wipe_33 : decode cX9_wipe 33 = .ok (.invokevirtual 103, 3) := by decide +kernel
theorem dX9_wipe_36 : decode cX9_wipe 36 = .ok (.iload_n 2, 1) := by decide +kernel
theorem dX9_wipe_37 : decode cX9_wipe 37 = .ok (.ireturn, 1) := by decide +kernel
theorem dX9_undo_0 : decode cX9_undo 0 = .ok (.iload_n 1, 1) := by decide +kernel
theorem dX9_undo_1 : decode cX9_undo 1 = .ok (.iconst 2, 1) := by decide +kernel
theorem dX9_undo_2 : decode cX9_undo 2 = .ok (.invokestatic 95, 3) := by decide +kernel
theorem dX9_undo_5 : decode cX9_undo 5 = .ok (.ifCond .ne 6, 3) := by decide +kernel
theorem dX9_undo_8 : decode cX9_undo 8 = .ok (.bipush (-2), 2) := by decide +kernel
theorem dX9_undo_10 : decode cX9_undo 10 = .ok (.ireturn, 1) := by decide +kernel
theorem dX9_undo_11 : decode cX9_undo 11 = .ok (.aload_n 0, 1) := by decide +kernel
theorem dX9_undo_12 : decode cX9_undo 12 = .ok (.getfield 11, 3) := by decide +kernel
theorem dX9_undo_15 : decode cX9_undo 15 = .ok (.iload_n 1, 1) := by decide +kernel
theorem dX9_undo_16 : decode cX9_undo 16 = .ok (.aaload, 1) := by decide +kernel
theorem dX9_undo_17 : decode cX9_undo 17 = .ok (.getfield 106, 3) := by decide +kernel
theorem dX9_undo_20 : decode cX9_undo 20 = .ok (.ifCond .ne 6, 3) := by decide +kernel
theorem dX9_undo_23 : decode cX9_undo 23 = .ok (.bipush (-3), 2) := by decide +kernel
theorem dX9_undo_25 : decode cX9_undo 25 = .ok (.ireturn, 1) := by decide +kernel
theorem dX9_undo_26 : decode cX9_undo 26 = .ok (.aload_n 0, 1) := by decide +kernel
theorem dX9_undo_27 : decode cX9_undo 27 = .ok (.getfield 11, 3) := by decide +kernel
theorem dX9_undo_30 : decode cX9_undo 30 = .ok (.iload_n 1, 1) := by decide +kernel
theorem dX9_undo_31 : decode cX9_undo 31 = .ok (.aaload, 1) := by decide +kernel
theorem dX9_undo_32 : decode cX9_undo 32 = .ok (.dup, 1) := by decide +kernel
theorem dX9_undo_33 : decode cX9_undo 33 = .ok (.getfield 106, 3) := by decide +kernel
theorem dX9_undo_36 : decode cX9_undo 36 = .ok (.iconst 1, 1) := by decide +kernel
theorem dX9_undo_37 : decode cX9_undo 37 = .ok (.isub, 1) := by decide +kernel
theorem dX9_undo_38 : decode cX9_undo 38 = .ok (.putfield 106, 3) := by decide +kernel
theorem dX9_undo_41 : decode cX9_undo 41 = .ok (.aload_n 0, 1) := by decide +kernel
theorem dX9_undo_42 : decode cX9_undo 42 = .ok (.iload_n 1, 1) := by decide +kernel
theorem dX9_undo_43 : decode cX9_undo 43 = .ok (.invokevirtual 103, 3) := by decide +kernel
theorem dX9_undo_46 : decode cX9_undo 46 = .ok (.aload_n 0, 1) := by decide +kernel
theorem dX9_undo_47 : decode cX9_undo 47 = .ok (.getfield 11, 3) := by decide +kernel
theorem dX9_undo_50 : decode cX9_undo 50 = .ok (.iload_n 1, 1) := by decide +kernel
theorem dX9_undo_51 : decode cX9_undo 51 = .ok (.aaload, 1) := by decide +kernel
theorem dX9_undo_52 : decode cX9_undo 52 = .ok (.getfield 106, 3) := by decide +kernel
theorem dX9_undo_55 : decode cX9_undo 55 = .ok (.ireturn, 1) := by decide +kernel
theorem dX9_fault_0 : decode cX9_fault 0 = .ok (.iload_n 1, 1) := by decide +kernel
theorem dX9_fault_1 : decode cX9_fault 1 = .ok (.iconst 2, 1) := by decide +kernel
theorem dX9_fault_2 : decode cX9_fault 2 = .ok (.invokestatic 95, 3) := by decide +kernel
theorem dX9_fault_5 : decode cX9_fault 5 = .ok (.ifCond .ne 6, 3) := by decide +kernel
theorem dX9_fault_8 : decode cX9_fault 8 = .ok (.bipush (-2), 2) := by decide +kernel
theorem dX9_fault_10 : decode cX9_fault 10 = .ok (.ireturn, 1) := by decide +kernel
theorem dX9_fault_11 : decode cX9_fault 11 = .ok (.iload_n 1, 1) := by decide +kernel
theorem dX9_fault_12 : decode cX9_fault 12 = .ok (.ifCond .ne 13, 3) := by decide +kernel
theorem dX9_fault_15 : decode cX9_fault 15 = .ok (.aload_n 0, 1) := by decide +kernel
theorem dX9_fault_16 : decode cX9_fault 16 = .ok (.getfield 18, 3) := by decide +kernel
theorem dX9_fault_19 : decode cX9_fault 19 = .ok (.getfield 109, 3) := by decide +kernel
theorem dX9_fault_22 : decode cX9_fault 22 = .ok (.goto 10, 3) := by decide +kernel
theorem dX9_fault_25 : decode cX9_fault 25 = .ok (.aload_n 0, 1) := by decide +kernel
theorem dX9_fault_26 : decode cX9_fault 26 = .ok (.getfield 25, 3) := by decide +kernel
theorem dX9_fault_29 : decode cX9_fault 29 = .ok (.getfield 112, 3) := by decide +kernel
theorem dX9_fault_32 : decode cX9_fault 32 = .ok (.ireturn, 1) := by decide +kernel
theorem dX9_member_0 : decode cX9_member 0 = .ok (.aload_n 0, 1) := by decide +kernel
theorem dX9_member_1 : decode cX9_member 1 = .ok (.iload_n 1, 1) := by decide +kernel
theorem dX9_member_2 : decode cX9_member 2 = .ok (.invokevirtual 113, 3) := by decide +kernel
theorem dX9_member_5 : decode cX9_member 5 = .ok (.ifCond .eq 11, 3) := by decide +kernel
theorem dX9_member_8 : decode cX9_member 8 = .ok (.iload_n 2, 1) := by decide +kernel
theorem dX9_member_9 : decode cX9_member 9 = .ok (.iconst 5, 1) := by decide +kernel
theorem dX9_member_10 : decode cX9_member 10 = .ok (.invokestatic 95, 3) := by decide +kernel
theorem dX9_member_13 : decode cX9_member 13 = .ok (.ifCond .ne 6, 3) := by decide +kernel
theorem dX9_member_16 : decode cX9_member 16 = .ok (.bipush (-2), 2) := by decide +kernel
theorem dX9_member_18 : decode cX9_member 18 = .ok (.ireturn, 1) := by decide +kernel
theorem dX9_member_19 : decode cX9_member 19 = .ok (.iload_n 2, 1) := by decide +kernel
theorem dX9_member_20 : decode cX9_member 20 = .ok (.ifCond .ne 13, 3) := by decide +kernel
theorem dX9_member_23 : decode cX9_member 23 = .ok (.aload_n 0, 1) := by decide +kernel
theorem dX9_member_24 : decode cX9_member 24 = .ok (.getfield 18, 3) := by decide +kernel
theorem dX9_member_27 : decode cX9_member 27 = .ok (.getfield 116, 3) := by decide +kernel
theorem dX9_member_30 : decode cX9_member 30 = .ok (.iload_n 1, 1) := by decide +kernel
theorem dX9_member_31 : decode cX9_member 31 = .ok (.iaload, 1) := by decide +kernel
theorem dX9_member_32 : decode cX9_member 32 = .ok (.ireturn, 1) := by decide +kernel
theorem dX9_member_33 : decode cX9_member 33 = .ok (.iload_n 2, 1) := by decide +kernel
theorem dX9_member_34 : decode cX9_member 34 = .ok (.iconst 1, 1) := by decide +kernel
theorem dX9_member_35 : decode cX9_member 35 = .ok (.if_icmp .ne 15, 3) := by decide +kernel
theorem dX9_member_38 : decode cX9_member 38 = .ok (.aload_n 0, 1) := by decide +kernel
theorem dX9_member_39 : decode cX9_member 39 = .ok (.getfield 18, 3) := by decide +kernel
theorem dX9_member_42 : decode cX9_member 42 = .ok (.getfield 119, 3) := by decide +kernel
theorem dX9_member_45 : decode cX9_member 45 = .ok (.iload_n 1, 1) := by decide +kernel
theorem dX9_member_46 : decode cX9_member 46 = .ok (.iaload, 1) := by decide +kernel
theorem dX9_member_47 : decode cX9_member 47 = .ok (.goto 18, 3) := by decide +kernel
theorem dX9_member_50 : decode cX9_member 50 = .ok (.aload_n 0, 1) := by decide +kernel
theorem dX9_member_51 : decode cX9_member 51 = .ok (.getfield 18, 3) := by decide +kernel
theorem dX9_member_54 : decode cX9_member 54 = .ok (.getfield 122, 3) := by decide +kernel
theorem dX9_member_57 : decode cX9_member 57 = .ok (.iload_n 1, 1) := by decide +kernel
theorem dX9_member_58 : decode cX9_member 58 = .ok (.iaload, 1) := by decide +kernel
theorem dX9_member_59 : decode cX9_member 59 = .ok (.iload_n 2, 1) := by decide +kernel
theorem dX9_member_60 : decode cX9_member 60 = .ok (.iconst 2, 1) := by decide +kernel
theorem dX9_member_61 : decode cX9_member 61 = .ok (.isub, 1) := by decide +kernel
theorem dX9_member_62 : decode cX9_member 62 = .ok (.invokestatic 125, 3) := by decide +kernel
theorem dX9_member_65 : decode cX9_member 65 = .ok (.ireturn, 1) := by decide +kernel
theorem dX9_motion_0 : decode cX9_motion 0 = .ok (.iload_n 1, 1) := by decide +kernel
theorem dX9_motion_1 : decode cX9_motion 1 = .ok (.invokestatic 129, 3) := by decide +kernel
theorem dX9_motion_4 : decode cX9_motion 4 = .ok (.ifCond .eq 11, 3) := by decide +kernel
theorem dX9_motion_7 : decode cX9_motion 7 = .ok (.iload_n 2, 1) := by decide +kernel
theorem dX9_motion_8 : decode cX9_motion 8 = .ok (.iconst 3, 1) := by decide +kernel
theorem dX9_motion_9 : decode cX9_motion 9 = .ok (.invokestatic 95, 3) := by decide +kernel
theorem dX9_motion_12 : decode cX9_motion 12 = .ok (.ifCond .ne 6, 3) := by decide +kernel
theorem dX9_motion_15 : decode cX9_motion 15 = .ok (.bipush (-2), 2) := by decide +kernel
theorem dX9_motion_17 : decode cX9_motion 17 = .ok (.ireturn, 1) := by decide +kernel
theorem dX9_motion_18 : decode cX9_motion 18 = .ok (.iload_n 1, 1) := by decide +kernel
theorem dX9_motion_19 : decode cX9_motion 19 = .ok (.aload_n 0, 1) := by decide +kernel
theorem dX9_motion_20 : decode cX9_motion 20 = .ok (.getfield 25, 3) := by decide +kernel
theorem dX9_motion_23 : decode cX9_motion 23 = .ok (.getfield 132, 3) := by decide +kernel
theorem dX9_motion_26 : decode cX9_motion 26 = .ok (.if_icmp .lt 5, 3) := by decide +kernel
theorem dX9_motion_29 : decode cX9_motion 29 = .ok (.iconst (-1), 1) := by decide +kernel
theorem dX9_motion_30 : decode cX9_motion 30 = .ok (.ireturn, 1) := by decide +kernel
theorem dX9_motion_31 : decode cX9_motion 31 = .ok (.iload_n 2, 1) := by decide +kernel
theorem dX9_motion_32 : decode cX9_motion 32 = .ok (.ifCond .ne 13, 3) := by decide +kernel
theorem dX9_motion_35 : decode cX9_motion 35 = .ok (.aload_n 0, 1) := by decide +kernel
theorem dX9_motion_36 : decode cX9_motion 36 = .ok (.getfield 25, 3) := by decide +kernel
theorem dX9_motion_39 : decode cX9_motion 39 = .ok (.getfield 133, 3) := by decide +kernel
theorem dX9_motion_42 : decode cX9_motion 42 = .ok (.iload_n 1, 1) := by decide +kernel
theorem dX9_motion_43 : decode cX9_motion 43 = .ok (.iaload, 1) := by decide +kernel
theorem dX9_motion_44 : decode cX9_motion 44 = .ok (.ireturn, 1) := by decide +kernel
theorem dX9_motion_45 : decode cX9_motion 45 = .ok (.iload_n 2, 1) := by decide +kernel
theorem dX9_motion_46 : decode cX9_motion 46 = .ok (.iconst 1, 1) := by decide +kernel
theorem dX9_motion_47 : decode cX9_motion 47 = .ok (.if_icmp .ne 15, 3) := by decide +kernel
theorem dX9_motion_50 : decode cX9_motion 50 = .ok (.aload_n 0, 1) := by decide +kernel
theorem dX9_motion_51 : decode cX9_motion 51 = .ok (.getfield 25, 3) := by decide +kernel
theorem dX9_motion_54 : decode cX9_motion 54 = .ok (.getfield 136, 3) := by decide +kernel
theorem dX9_motion_57 : decode cX9_motion 57 = .ok (.iload_n 1, 1) := by decide +kernel
theorem dX9_motion_58 : decode cX9_motion 58 = .ok (.iaload, 1) := by decide +kernel
theorem dX9_motion_59 : decode cX9_motion 59 = .ok (.goto 12, 3) := by decide +kernel
theorem dX9_motion_62 : decode cX9_motion 62 = .ok (.aload_n 0, 1) := by decide +kernel
theorem dX9_motion_63 : decode cX9_motion 63 = .ok (.getfield 25, 3) := by decide +kernel
theorem dX9_motion_66 : decode cX9_motion 66 = .ok (.getfield 139, 3) := by decide +kernel
theorem dX9_motion_69 : decode cX9_motion 69 = .ok (.iload_n 1, 1) := by decide +kernel
theorem dX9_motion_70 : decode cX9_motion 70 = .ok (.iaload, 1) := by decide +kernel
theorem dX9_motion_71 : decode cX9_motion 71 = .ok (.ireturn, 1) := by decide +kernel
theorem dX9_weight_0 : decode cX9_weight 0 = .ok (.iload_n 1, 1) := by decide +kernel
theorem dX9_weight_1 : decode cX9_weight 1 = .ok (.iconst 3, 1) := by decide +kernel
theorem dX9_weight_2 : decode cX9_weight 2 = .ok (.invokestatic 95, 3) := by decide +kernel
theorem dX9_weight_5 : decode cX9_weight 5 = .ok (.ifCond .eq 12, 3) := by decide +kernel
theorem dX9_weight_8 : decode cX9_weight 8 = .ok (.iload_n 2, 1) := by decide +kernel
theorem dX9_weight_9 : decode cX9_weight 9 = .ok (.bipush 10, 2) := by decide +kernel
theorem dX9_weight_11 : decode cX9_weight 11 = .ok (.invokestatic 95, 3) := by decide +kernel
theorem dX9_weight_14 : decode cX9_weight 14 = .ok (.ifCond .ne 6, 3) := by decide +kernel
theorem dX9_weight_17 : decode cX9_weight 17 = .ok (.bipush (-2), 2) := by decide +kernel
theorem dX9_weight_19 : decode cX9_weight 19 = .ok (.ireturn, 1) := by decide +kernel
theorem dX9_weight_20 : decode cX9_weight 20 = .ok (.aload_n 0, 1) := by decide +kernel
theorem dX9_weight_21 : decode cX9_weight 21 = .ok (.getfield 18, 3) := by decide +kernel
theorem dX9_weight_24 : decode cX9_weight 24 = .ok (.getfield 142, 3) := by decide +kernel
theorem dX9_weight_27 : decode cX9_weight 27 = .ok (.iload_n 1, 1) := by decide +kernel
theorem dX9_weight_28 : decode cX9_weight 28 = .ok (.iaload, 1) := by decide +kernel
theorem dX9_weight_29 : decode cX9_weight 29 = .ok (.istore_n 3, 1) := by decide +kernel
theorem dX9_weight_30 : decode cX9_weight 30 = .ok (.aload_n 0, 1) := by decide +kernel
theorem dX9_weight_31 : decode cX9_weight 31 = .ok (.getfield 18, 3) := by decide +kernel
theorem dX9_weight_34 : decode cX9_weight 34 = .ok (.getfield 142, 3) := by decide +kernel
theorem dX9_weight_37 : decode cX9_weight 37 = .ok (.iload_n 1, 1) := by decide +kernel
theorem dX9_weight_38 : decode cX9_weight 38 = .ok (.iload_n 2, 1) := by decide +kernel
theorem dX9_weight_39 : decode cX9_weight 39 = .ok (.iastore, 1) := by decide +kernel
theorem dX9_weight_40 : decode cX9_weight 40 = .ok (.iload_n 3, 1) := by decide +kernel
theorem dX9_weight_41 : decode cX9_weight 41 = .ok (.ireturn, 1) := by decide +kernel
theorem dX9_fold_0 : decode cX9_fold 0 = .ok (.iload_n 1, 1) := by decide +kernel
theorem dX9_fold_1 : decode cX9_fold 1 = .ok (.iload_n 2, 1) := by decide +kernel
theorem dX9_fold_2 : decode cX9_fold 2 = .ok (.iload_n 3, 1) := by decide +kernel
theorem dX9_fold_3 : decode cX9_fold 3 = .ok (.invokestatic 145, 3) := by decide +kernel
theorem dX9_fold_6 : decode cX9_fold 6 = .ok (.ifCond .ne 6, 3) := by decide +kernel
theorem dX9_fold_9 : decode cX9_fold 9 = .ok (.bipush (-2), 2) := by decide +kernel
theorem dX9_fold_11 : decode cX9_fold 11 = .ok (.ireturn, 1) := by decide +kernel
theorem dX9_fold_12 : decode cX9_fold 12 = .ok (.aload_n 0, 1) := by decide +kernel
theorem dX9_fold_13 : decode cX9_fold 13 = .ok (.getfield 32, 3) := by decide +kernel
theorem dX9_fold_16 : decode cX9_fold 16 = .ok (.iload_n 1, 1) := by decide +kernel
theorem dX9_fold_17 : decode cX9_fold 17 = .ok (.iload_n 2, 1) := by decide +kernel
theorem dX9_fold_18 : decode cX9_fold 18 = .ok (.iload_n 3, 1) := by decide +kernel
theorem dX9_fold_19 : decode cX9_fold 19 = .ok (.invokevirtual 149, 3) := by decide +kernel
theorem dX9_fold_22 : decode cX9_fold 22 = .ok (.ifCond .eq 13, 3) := by decide +kernel
theorem dX9_fold_25 : decode cX9_fold 25 = .ok (.aload_n 0, 1) := by decide +kernel
theorem dX9_fold_26 : decode cX9_fold 26 = .ok (.getfield 32, 3) := by decide +kernel
theorem dX9_fold_29 : decode cX9_fold 29 = .ok (.getfield 151, 3) := by decide +kernel
theorem dX9_fold_32 : decode cX9_fold 32 = .ok (.goto 5, 3) := by decide +kernel
theorem dX9_fold_35 : decode cX9_fold 35 = .ok (.bipush (-4), 2) := by decide +kernel
theorem dX9_fold_37 : decode cX9_fold 37 = .ok (.ireturn, 1) := by decide +kernel
theorem dX9_jar_0 : decode cX9_jar 0 = .ok (.iload_n 1, 1) := by decide +kernel
theorem dX9_jar_1 : decode cX9_jar 1 = .ok (.invokestatic 129, 3) := by decide +kernel
theorem dX9_jar_4 : decode cX9_jar 4 = .ok (.ifCond .ne 6, 3) := by decide +kernel
theorem dX9_jar_7 : decode cX9_jar 7 = .ok (.bipush (-2), 2) := by decide +kernel
theorem dX9_jar_9 : decode cX9_jar 9 = .ok (.ireturn, 1) := by decide +kernel
theorem dX9_jar_10 : decode cX9_jar 10 = .ok (.aload_n 0, 1) := by decide +kernel
theorem dX9_jar_11 : decode cX9_jar 11 = .ok (.getfield 39, 3) := by decide +kernel
theorem dX9_jar_14 : decode cX9_jar 14 = .ok (.iload_n 1, 1) := by decide +kernel
theorem dX9_jar_15 : decode cX9_jar 15 = .ok (.invokevirtual 152, 3) := by decide +kernel
theorem dX9_jar_18 : decode cX9_jar 18 = .ok (.ifCond .eq 13, 3) := by decide +kernel
theorem dX9_jar_21 : decode cX9_jar 21 = .ok (.aload_n 0, 1) := by decide +kernel
theorem dX9_jar_22 : decode cX9_jar 22 = .ok (.getfield 39, 3) := by decide +kernel
theorem dX9_jar_25 : decode cX9_jar 25 = .ok (.getfield 153, 3) := by decide +kernel
theorem dX9_jar_28 : decode cX9_jar 28 = .ok (.goto 5, 3) := by decide +kernel
theorem dX9_jar_31 : decode cX9_jar 31 = .ok (.bipush (-4), 2) := by decide +kernel
theorem dX9_jar_33 : decode cX9_jar 33 = .ok (.ireturn, 1) := by decide +kernel
theorem dX9_back_0 : decode cX9_back 0 = .ok (.iload_n 1, 1) := by decide +kernel
theorem dX9_back_1 : decode cX9_back 1 = .ok (.iconst 2, 1) := by decide +kernel
theorem dX9_back_2 : decode cX9_back 2 = .ok (.invokestatic 95, 3) := by decide +kernel
theorem dX9_back_5 : decode cX9_back 5 = .ok (.ifCond .ne 6, 3) := by decide +kernel
theorem dX9_back_8 : decode cX9_back 8 = .ok (.bipush (-2), 2) := by decide +kernel
theorem dX9_back_10 : decode cX9_back 10 = .ok (.ireturn, 1) := by decide +kernel
theorem dX9_back_11 : decode cX9_back 11 = .ok (.iload_n 1, 1) := by decide +kernel
theorem dX9_back_12 : decode cX9_back 12 = .ok (.ifCond .ne 13, 3) := by decide +kernel
theorem dX9_back_15 : decode cX9_back 15 = .ok (.aload_n 0, 1) := by decide +kernel
theorem dX9_back_16 : decode cX9_back 16 = .ok (.getfield 32, 3) := by decide +kernel
theorem dX9_back_19 : decode cX9_back 19 = .ok (.getfield 151, 3) := by decide +kernel
theorem dX9_back_22 : decode cX9_back 22 = .ok (.goto 10, 3) := by decide +kernel
theorem dX9_back_25 : decode cX9_back 25 = .ok (.aload_n 0, 1) := by decide +kernel
theorem dX9_back_26 : decode cX9_back 26 = .ok (.getfield 39, 3) := by decide +kernel
theorem dX9_back_29 : decode cX9_back 29 = .ok (.getfield 153, 3) := by decide +kernel
theorem dX9_back_32 : decode cX9_back 32 = .ok (.iconst 1, 1) := by decide +kernel
theorem dX9_back_33 : decode cX9_back 33 = .ok (.isub, 1) := by decide +kernel
theorem dX9_back_34 : decode cX9_back 34 = .ok (.istore_n 2, 1) := by decide +kernel
theorem dX9_back_35 : decode cX9_back 35 = .ok (.iload_n 2, 1) := by decide +kernel
theorem dX9_back_36 : decode cX9_back 36 = .ok (.ifCond .ge 6, 3) := by decide +kernel
theorem dX9_back_39 : decode cX9_back 39 = .ok (.bipush (-3), 2) := by decide +kernel
theorem dX9_back_41 : decode cX9_back 41 = .ok (.ireturn, 1) := by decide +kernel
theorem dX9_back_42 : decode cX9_back 42 = .ok (.iload_n 1, 1) := by decide +kernel
theorem dX9_back_43 : decode cX9_back 43 = .ok (.ifCond .ne 14, 3) := by decide +kernel
theorem dX9_back_46 : decode cX9_back 46 = .ok (.aload_n 0, 1) := by decide +kernel
theorem dX9_back_47 : decode cX9_back 47 = .ok (.getfield 32, 3) := by decide +kernel
theorem dX9_back_50 : decode cX9_back 50 = .ok (.iload_n 2, 1) := by decide +kernel
theorem dX9_back_51 : decode cX9_back 51 = .ok (.putfield 151, 3) := by decide +kernel
theorem dX9_back_54 : decode cX9_back 54 = .ok (.goto 11, 3) := by decide +kernel
theorem dX9_back_57 : decode cX9_back 57 = .ok (.aload_n 0, 1) := by decide +kernel
theorem dX9_back_58 : decode cX9_back 58 = .ok (.getfield 39, 3) := by decide +kernel
theorem dX9_back_61 : decode cX9_back 61 = .ok (.iload_n 2, 1) := by decide +kernel
theorem dX9_back_62 : decode cX9_back 62 = .ok (.putfield 153, 3) := by decide +kernel
theorem dX9_back_65 : decode cX9_back 65 = .ok (.iload_n 2, 1) := by decide +kernel
theorem dX9_back_66 : decode cX9_back 66 = .ok (.ireturn, 1) := by decide +kernel
theorem dX9_read_0 : decode cX9_read 0 = .ok (.iload_n 1, 1) := by decide +kernel
theorem dX9_read_1 : decode cX9_read 1 = .ok (.iconst 4, 1) := by decide +kernel
theorem dX9_read_2 : decode cX9_read 2 = .ok (.invokestatic 95, 3) := by decide +kernel
theorem dX9_read_5 : decode cX9_read 5 = .ok (.ifCond .ne 6, 3) := by decide +kernel
theorem dX9_read_8 : decode cX9_read 8 = .ok (.bipush (-2), 2) := by decide +kernel
theorem dX9_read_10 : decode cX9_read 10 = .ok (.ireturn, 1) := by decide +kernel
theorem dX9_read_11 : decode cX9_read 11 = .ok (.aload_n 0, 1) := by decide +kernel
theorem dX9_read_12 : decode cX9_read 12 = .ok (.getfield 70, 3) := by decide +kernel
theorem dX9_read_15 : decode cX9_read 15 = .ok (.iload_n 1, 1) := by decide +kernel
theorem dX9_read_16 : decode cX9_read 16 = .ok (.aaload, 1) := by decide +kernel
theorem dX9_read_17 : decode cX9_read 17 = .ok (.astore_n 2, 1) := by decide +kernel
theorem dX9_read_18 : decode cX9_read 18 = .ok (.aload_n 2, 1) := by decide +kernel
theorem dX9_read_19 : decode cX9_read 19 = .ok (.getfield 154, 3) := by decide +kernel
theorem dX9_read_22 : decode cX9_read 22 = .ok (.iconst (-1), 1) := by decide +kernel
theorem dX9_read_23 : decode cX9_read 23 = .ok (.if_icmp .ne 9, 3) := by decide +kernel
theorem dX9_read_26 : decode cX9_read 26 = .ok (.aload_n 0, 1) := by decide +kernel
theorem dX9_read_27 : decode cX9_read 27 = .ok (.iconst 1, 1) := by decide +kernel
theorem dX9_read_28 : decode cX9_read 28 = .ok (.invokevirtual 157, 3) := by decide +kernel
theorem dX9_read_31 : decode cX9_read 31 = .ok (.ireturn, 1) := by decide +kernel
theorem dX9_read_32 : decode cX9_read 32 = .ok (.iconst 0, 1) := by decide +kernel
theorem dX9_read_33 : decode cX9_read 33 = .ok (.istore_n 3, 1) := by decide +kernel
theorem dX9_read_34 : decode cX9_read 34 = .ok (.iconst 0, 1) := by decide +kernel
theorem dX9_read_35 : decode cX9_read 35 = .ok (.istore 4, 2) := by decide +kernel
theorem dX9_read_37 : decode cX9_read 37 = .ok (.iload 4, 2) := by decide +kernel
theorem dX9_read_39 : decode cX9_read 39 = .ok (.iconst 2, 1) := by decide +kernel
theorem dX9_read_40 : decode cX9_read 40 = .ok (.iadd, 1) := by decide +kernel
theorem dX9_read_41 : decode cX9_read 41 = .ok (.aload_n 2, 1) := by decide +kernel
theorem dX9_read_42 : decode cX9_read 42 = .ok (.getfield 161, 3) := by decide +kernel
theorem dX9_read_45 : decode cX9_read 45 = .ok (.if_icmp .ge 74, 3) := by decide +kernel
theorem dX9_read_48 : decode cX9_read 48 = .ok (.aload_n 2, 1) := by decide +kernel
theorem dX9_read_49 : decode cX9_read 49 = .ok (.getfield 164, 3) := by decide +kernel
theorem dX9_read_52 : decode cX9_read 52 = .ok (.iload 4, 2) := by decide +kernel
theorem dX9_read_54 : decode cX9_read 54 = .ok (.iaload, 1) := by decide +kernel
theorem dX9_read_55 : decode cX9_read 55 = .ok (.istore 5, 2) := by decide +kernel
theorem dX9_read_57 : decode cX9_read 57 = .ok (.aload_n 2, 1) := by decide +kernel
theorem dX9_read_58 : decode cX9_read 58 = .ok (.getfield 164, 3) := by decide +kernel
theorem dX9_read_61 : decode cX9_read 61 = .ok (.iload 4, 2) := by decide +kernel
theorem dX9_read_63 : decode cX9_read 63 = .ok (.iconst 1, 1) := by decide +kernel
theorem dX9_read_64 : decode cX9_read 64 = .ok (.iadd, 1) := by decide +kernel
theorem dX9_read_65 : decode cX9_read 65 = .ok (.iaload, 1) := by decide +kernel
theorem dX9_read_66 : decode cX9_read 66 = .ok (.istore 6, 2) := by decide +kernel
theorem dX9_read_68 : decode cX9_read 68 = .ok (.aload_n 2, 1) := by decide +kernel
theorem dX9_read_69 : decode cX9_read 69 = .ok (.getfield 164, 3) := by decide +kernel
theorem dX9_read_72 : decode cX9_read 72 = .ok (.iload 4, 2) := by decide +kernel
theorem dX9_read_74 : decode cX9_read 74 = .ok (.iconst 2, 1) := by decide +kernel
theorem dX9_read_75 : decode cX9_read 75 = .ok (.iadd, 1) := by decide +kernel
theorem dX9_read_76 : decode cX9_read 76 = .ok (.iaload, 1) := by decide +kernel
theorem dX9_read_77 : decode cX9_read 77 = .ok (.istore 7, 2) := by decide +kernel
theorem dX9_read_79 : decode cX9_read 79 = .ok (.iload 5, 2) := by decide +kernel
theorem dX9_read_81 : decode cX9_read 81 = .ok (.iload 6, 2) := by decide +kernel
theorem dX9_read_83 : decode cX9_read 83 = .ok (.iload 7, 2) := by decide +kernel
theorem dX9_read_85 : decode cX9_read 85 = .ok (.invokestatic 145, 3) := by decide +kernel
theorem dX9_read_88 : decode cX9_read 88 = .ok (.ifCond .eq 31, 3) := by decide +kernel
theorem dX9_read_91 : decode cX9_read 91 = .ok (.aload_n 0, 1) := by decide +kernel
theorem dX9_read_92 : decode cX9_read 92 = .ok (.getfield 32, 3) := by decide +kernel
theorem dX9_read_95 : decode cX9_read 95 = .ok (.iload 5, 2) := by decide +kernel
theorem dX9_read_97 : decode cX9_read 97 = .ok (.iload 6, 2) := by decide +kernel
theorem dX9_read_99 : decode cX9_read 99 = .ok (.iload 7, 2) := by decide +kernel
theorem dX9_read_101 : decode cX9_read 101 = .ok (.invokevirtual 149, 3) := by decide +kernel
theorem dX9_read_104 : decode cX9_read 104 = .ok (.ifCond .ne 6, 3) := by decide +kernel
theorem dX9_read_107 : decode cX9_read 107 = .ok (.goto 12, 3) := by decide +kernel
theorem dX9_read_110 : decode cX9_read 110 = .ok (.iinc 3 1, 3) := by decide +kernel
theorem dX9_read_113 : decode cX9_read 113 = .ok (.iinc 4 3, 3) := by decide +kernel
theorem dX9_read_116 : decode cX9_read 116 = .ok (.goto (-79), 3) := by decide +kernel
theorem dX9_read_119 : decode cX9_read 119 = .ok (.iload_n 3, 1) := by decide +kernel
theorem dX9_read_120 : decode cX9_read 120 = .ok (.ireturn, 1) := by decide +kernel
theorem dX9_lies_0 : decode cX9_lies 0 = .ok (.iload_n 1, 1) := by decide +kernel
theorem dX9_lies_1 : decode cX9_lies 1 = .ok (.invokestatic 129, 3) := by decide +kernel
theorem dX9_lies_4 : decode cX9_lies 4 = .ok (.ifCond .eq 19, 3) := by decide +kernel
theorem dX9_lies_7 : decode cX9_lies 7 = .ok (.aload_n 0, 1) := by decide +kernel
theorem dX9_lies_8 : decode cX9_lies 8 = .ok (.iload_n 2, 1) := by decide +kernel
theorem dX9_lies_9 : decode cX9_lies 9 = .ok (.invokevirtual 113, 3) := by decide +kernel
theorem dX9_lies_12 : decode cX9_lies 12 = .ok (.ifCond .eq 11, 3) := by decide +kernel
theorem dX9_lies_15 : decode cX9_lies 15 = .ok (.iload_n 3, 1) := by decide +kernel
theorem dX9_lies_16 : decode cX9_lies 16 = .ok (.iconst 3, 1) := by decide +kernel
theorem dX9_lies_17 : decode cX9_lies 17 = .ok (.invokestatic 95, 3) := by decide +kernel
theorem dX9_lies_20 : decode cX9_lies 20 = .ok (.ifCond .ne 6, 3) := by decide +kernel
theorem dX9_lies_23 : decode cX9_lies 23 = .ok (.bipush (-2), 2) := by decide +kernel
theorem dX9_lies_25 : decode cX9_lies 25 = .ok (.ireturn, 1) := by decide +kernel
theorem dX9_lies_26 : decode cX9_lies 26 = .ok (.iload_n 3, 1) := by decide +kernel
theorem dX9_lies_27 : decode cX9_lies 27 = .ok (.iconst 2, 1) := by decide +kernel
theorem dX9_lies_28 : decode cX9_lies 28 = .ok (.if_icmp .ne 26, 3) := by decide +kernel
theorem dX9_lies_31 : decode cX9_lies 31 = .ok (.aload_n 0, 1) := by decide +kernel
theorem dX9_lies_32 : decode cX9_lies 32 = .ok (.iload_n 1, 1) := by decide +kernel
theorem dX9_lies_33 : decode cX9_lies 33 = .ok (.invokevirtual 167, 3) := by decide +kernel
theorem dX9_lies_36 : decode cX9_lies 36 = .ok (.iconst (-1), 1) := by decide +kernel
theorem dX9_lies_37 : decode cX9_lies 37 = .ok (.if_icmp .ne 7, 3) := by decide +kernel
theorem dX9_lies_40 : decode cX9_lies 40 = .ok (.iconst (-1), 1) := by decide +kernel
theorem dX9_lies_41 : decode cX9_lies 41 = .ok (.goto 12, 3) := by decide +kernel
theorem dX9_lies_44 : decode cX9_lies 44 = .ok (.aload_n 0, 1) := by decide +kernel
theorem dX9_lies_45 : decode cX9_lies 45 = .ok (.getfield 55, 3) := by decide +kernel
theorem dX9_lies_48 : decode cX9_lies 48 = .ok (.getfield 170, 3) := by decide +kernel
theorem dX9_lies_51 : decode cX9_lies 51 = .ok (.iload_n 2, 1) := by decide +kernel
theorem dX9_lies_52 : decode cX9_lies 52 = .ok (.iaload, 1) := by decide +kernel
theorem dX9_lies_53 : decode cX9_lies 53 = .ok (.ireturn, 1) := by decide +kernel
theorem dX9_lies_54 : decode cX9_lies 54 = .ok (.aload_n 0, 1) := by decide +kernel
theorem dX9_lies_55 : decode cX9_lies 55 = .ok (.getfield 55, 3) := by decide +kernel
theorem dX9_lies_58 : decode cX9_lies 58 = .ok (.iload_n 1, 1) := by decide +kernel
theorem dX9_lies_59 : decode cX9_lies 59 = .ok (.iconst (-1), 1) := by decide +kernel
theorem dX9_lies_60 : decode cX9_lies 60 = .ok (.invokevirtual 173, 3) := by decide +kernel
theorem dX9_lies_63 : decode cX9_lies 63 = .ok (.aload_n 0, 1) := by decide +kernel
theorem dX9_lies_64 : decode cX9_lies 64 = .ok (.getfield 55, 3) := by decide +kernel
theorem dX9_lies_67 : decode cX9_lies 67 = .ok (.getfield 177, 3) := by decide +kernel
theorem dX9_lies_70 : decode cX9_lies 70 = .ok (.iload_n 2, 1) := by decide +kernel
theorem dX9_lies_71 : decode cX9_lies 71 = .ok (.iaload, 1) := by decide +kernel
theorem dX9_lies_72 : decode cX9_lies 72 = .ok (.istore 4, 2) := by decide +kernel
theorem dX9_lies_74 : decode cX9_lies 74 = .ok (.iload_n 3, 1) := by decide +kernel
theorem dX9_lies_75 : decode cX9_lies 75 = .ok (.ifCond .ne 8, 3) := by decide +kernel
theorem dX9_lies_78 : decode cX9_lies 78 = .ok (.iload 4, 2) := by decide +kernel
theorem dX9_lies_80 : decode cX9_lies 80 = .ok (.goto 16, 3) := by decide +kernel
theorem dX9_lies_83 : decode cX9_lies 83 = .ok (.iload 4, 2) := by decide +kernel
theorem dX9_lies_85 : decode cX9_lies 85 = .ok (.aload_n 0, 1) := by decide +kernel
theorem dX9_lies_86 : decode cX9_lies 86 = .ok (.getfield 39, 3) := by decide +kernel
theorem dX9_lies_89 : decode cX9_lies 89 = .ok (.iload_n 1, 1) := by decide +kernel
theorem dX9_lies_90 : decode cX9_lies 90 = .ok (.invokevirtual 178, 3) := by decide +kernel
theorem dX9_lies_93 : decode cX9_lies 93 = .ok (.invokestatic 181, 3) := by decide +kernel
theorem dX9_lies_96 : decode cX9_lies 96 = .ok (.ireturn, 1) := by decide +kernel
theorem dX9_vote_0 : decode cX9_vote 0 = .ok (.iload_n 1, 1) := by decide +kernel
theorem dX9_vote_1 : decode cX9_vote 1 = .ok (.invokestatic 129, 3) := by decide +kernel
theorem dX9_vote_4 : decode cX9_vote 4 = .ok (.ifCond .eq 11, 3) := by decide +kernel
theorem dX9_vote_7 : decode cX9_vote 7 = .ok (.iload_n 2, 1) := by decide +kernel
theorem dX9_vote_8 : decode cX9_vote 8 = .ok (.iconst 4, 1) := by decide +kernel
theorem dX9_vote_9 : decode cX9_vote 9 = .ok (.invokestatic 95, 3) := by decide +kernel
theorem dX9_vote_12 : decode cX9_vote 12 = .ok (.ifCond .ne 6, 3) := by decide +kernel
theorem dX9_vote_15 : decode cX9_vote 15 = .ok (.bipush (-2), 2) := by decide +kernel
theorem dX9_vote_17 : decode cX9_vote 17 = .ok (.ireturn, 1) := by decide +kernel
theorem dX9_vote_18 : decode cX9_vote 18 = .ok (.aload_n 0, 1) := by decide +kernel
theorem dX9_vote_19 : decode cX9_vote 19 = .ok (.iload_n 1, 1) := by decide +kernel
theorem dX9_vote_20 : decode cX9_vote 20 = .ok (.invokevirtual 167, 3) := by decide +kernel
theorem dX9_vote_23 : decode cX9_vote 23 = .ok (.istore_n 3, 1) := by decide +kernel
theorem dX9_vote_24 : decode cX9_vote 24 = .ok (.iload_n 3, 1) := by decide +kernel
theorem dX9_vote_25 : decode cX9_vote 25 = .ok (.iconst (-1), 1) := by decide +kernel
theorem dX9_vote_26 : decode cX9_vote 26 = .ok (.if_icmp .ne 5, 3) := by decide +kernel
theorem dX9_vote_29 : decode cX9_vote 29 = .ok (.iconst (-1), 1) := by decide +kernel
theorem dX9_vote_30 : decode cX9_vote 30 = .ok (.ireturn, 1) := by decide +kernel
theorem dX9_vote_31 : decode cX9_vote 31 = .ok (.iload_n 2, 1) := by decide +kernel
theorem dX9_vote_32 : decode cX9_vote 32 = .ok (.tableswitch 49 0 2 #[28, 36, 47], 28) := by decide +kernel
theorem dX9_vote_60 : decode cX9_vote 60 = .ok (.aload_n 0, 1) := by decide +kernel
theorem dX9_vote_61 : decode cX9_vote 61 = .ok (.getfield 55, 3) := by decide +kernel
theorem dX9_vote_64 : decode cX9_vote 64 = .ok (.getfield 185, 3) := by decide +kernel
theorem dX9_vote_67 : decode cX9_vote 67 = .ok (.ireturn, 1) := by decide +kernel
theorem dX9_vote_68 : decode cX9_vote 68 = .ok (.aload_n 0, 1) := by decide +kernel
theorem dX9_vote_69 : decode cX9_vote 69 = .ok (.getfield 55, 3) := by decide +kernel
theorem dX9_vote_72 : decode cX9_vote 72 = .ok (.getfield 188, 3) := by decide +kernel
theorem dX9_vote_75 : decode cX9_vote 75 = .ok (.invokestatic 191, 3) := by decide +kernel
theorem dX9_vote_78 : decode cX9_vote 78 = .ok (.ireturn, 1) := by decide +kernel
theorem dX9_vote_79 : decode cX9_vote 79 = .ok (.iload_n 3, 1) := by decide +kernel
theorem dX9_vote_80 : decode cX9_vote 80 = .ok (.ireturn, 1) := by decide +kernel
theorem dX9_vote_81 : decode cX9_vote 81 = .ok (.aload_n 0, 1) := by decide +kernel
theorem dX9_vote_82 : decode cX9_vote 82 = .ok (.getfield 55, 3) := by decide +kernel
theorem dX9_vote_85 : decode cX9_vote 85 = .ok (.getfield 196, 3) := by decide +kernel
theorem dX9_vote_88 : decode cX9_vote 88 = .ok (.ireturn, 1) := by decide +kernel
theorem dX9_house_0 : decode cX9_house 0 = .ok (.iload_n 1, 1) := by decide +kernel
theorem dX9_house_1 : decode cX9_house 1 = .ok (.invokestatic 129, 3) := by decide +kernel
theorem dX9_house_4 : decode cX9_house 4 = .ok (.ifCond .eq 15, 3) := by decide +kernel
theorem dX9_house_7 : decode cX9_house 7 = .ok (.aload_n 0, 1) := by decide +kernel
theorem dX9_house_8 : decode cX9_house 8 = .ok (.aload_n 0, 1) := by decide +kernel
theorem dX9_house_9 : decode cX9_house 9 = .ok (.iload_n 1, 1) := by decide +kernel
theorem dX9_house_10 : decode cX9_house 10 = .ok (.invokevirtual 199, 3) := by decide +kernel
theorem dX9_house_13 : decode cX9_house 13 = .ok (.invokevirtual 167, 3) := by decide +kernel
theorem dX9_house_16 : decode cX9_house 16 = .ok (.goto 5, 3) := by decide +kernel
theorem dX9_house_19 : decode cX9_house 19 = .ok (.bipush (-2), 2) := by decide +kernel
theorem dX9_house_21 : decode cX9_house 21 = .ok (.ireturn, 1) := by decide +kernel
theorem dX9_told_0 : decode cX9_told 0 = .ok (.iconst 0, 1) := by decide +kernel
theorem dX9_told_1 : decode cX9_told 1 = .ok (.istore_n 1, 1) := by decide +kernel
theorem dX9_told_2 : decode cX9_told 2 = .ok (.iconst 0, 1) := by decide +kernel
theorem dX9_told_3 : decode cX9_told 3 = .ok (.istore_n 2, 1) := by decide +kernel
theorem dX9_told_4 : decode cX9_told 4 = .ok (.iload_n 2, 1) := by decide +kernel
theorem dX9_told_5 : decode cX9_told 5 = .ok (.aload_n 0, 1) := by decide +kernel
theorem dX9_told_6 : decode cX9_told 6 = .ok (.getfield 25, 3) := by decide +kernel
theorem dX9_told_9 : decode cX9_told 9 = .ok (.getfield 132, 3) := by decide +kernel
theorem dX9_told_12 : decode cX9_told 12 = .ok (.if_icmp .ge 31, 3) := by decide +kernel
theorem dX9_told_15 : decode cX9_told 15 = .ok (.aload_n 0, 1) := by decide +kernel
theorem dX9_told_16 : decode cX9_told 16 = .ok (.iload_n 2, 1) := by decide +kernel
theorem dX9_told_17 : decode cX9_told 17 = .ok (.invokevirtual 167, 3) := by decide +kernel
theorem dX9_told_20 : decode cX9_told 20 = .ok (.iconst (-1), 1) := by decide +kernel
theorem dX9_told_21 : decode cX9_told 21 = .ok (.if_icmp .eq 16, 3) := by decide +kernel
theorem dX9_told_24 : decode cX9_told 24 = .ok (.aload_n 0, 1) := by decide +kernel
theorem dX9_told_25 : decode cX9_told 25 = .ok (.getfield 55, 3) := by decide +kernel
theorem dX9_told_28 : decode cX9_told 28 = .ok (.getfield 188, 3) := by decide +kernel
theorem dX9_told_31 : decode cX9_told 31 = .ok (.ifCond .ne 6, 3) := by decide +kernel
theorem dX9_told_34 : decode cX9_told 34 = .ok (.iinc 1 1, 3) := by decide +kernel
theorem dX9_told_37 : decode cX9_told 37 = .ok (.iinc 2 1, 3) := by decide +kernel
theorem dX9_told_40 : decode cX9_told 40 = .ok (.goto (-36), 3) := by decide +kernel
theorem dX9_told_43 : decode cX9_told 43 = .ok (.iload_n 1, 1) := by decide +kernel
theorem dX9_told_44 : decode cX9_told 44 = .ok (.ireturn, 1) := by decide +kernel
theorem dX9_pleased_0 : decode cX9_pleased 0 = .ok (.iconst 0, 1) := by decide +kernel
theorem dX9_pleased_1 : decode cX9_pleased 1 = .ok (.istore_n 1, 1) := by decide +kernel
theorem dX9_pleased_2 : decode cX9_pleased 2 = .ok (.iload_n 1, 1) := by decide +kernel
theorem dX9_pleased_3 : decode cX9_pleased 3 = .ok (.aload_n 0, 1) := by decide +kernel
theorem dX9_pleased_4 : decode cX9_pleased 4 = .ok (.getfield 18, 3) := by decide +kernel
theorem dX9_pleased_7 : decode cX9_pleased 7 = .ok (.getfield 202, 3) := by decide +kernel
theorem dX9_pleased_10 : decode cX9_pleased 10 = .ok (.if_icmp .ge 16, 3) := by decide +kernel
theorem dX9_pleased_13 : decode cX9_pleased 13 = .ok (.aload_n 0, 1) := by decide +kernel
theorem dX9_pleased_14 : decode cX9_pleased 14 = .ok (.getfield 78, 3) := by decide +kernel
theorem dX9_pleased_17 : decode cX9_pleased 17 = .ok (.iload_n 1, 1) := by decide +kernel
theorem dX9_pleased_18 : decode cX9_pleased 18 = .ok (.iconst 0, 1) := by decide +kernel
theorem dX9_pleased_19 : decode cX9_pleased 19 = .ok (.iastore, 1) := by decide +kernel
theorem dX9_pleased_20 : decode cX9_pleased 20 = .ok (.iinc 1 1, 3) := by decide +kernel
theorem dX9_pleased_23 : decode cX9_pleased 23 = .ok (.goto (-21), 3) := by decide +kernel
theorem dX9_pleased_26 : decode cX9_pleased 26 = .ok (.iconst 0, 1) := by decide +kernel
theorem dX9_pleased_27 : decode cX9_pleased 27 = .ok (.istore_n 1, 1) := by decide +kernel
theorem dX9_pleased_28 : decode cX9_pleased 28 = .ok (.iload_n 1, 1) := by decide +kernel
theorem dX9_pleased_29 : decode cX9_pleased 29 = .ok (.aload_n 0, 1) := by decide +kernel
theorem dX9_pleased_30 : decode cX9_pleased 30 = .ok (.getfield 25, 3) := by decide +kernel
theorem dX9_pleased_33 : decode cX9_pleased 33 = .ok (.getfield 132, 3) := by decide +kernel
theorem dX9_pleased_36 : decode cX9_pleased 36 = .ok (.if_icmp .ge 56, 3) := by decide +kernel
theorem dX9_pleased_39 : decode cX9_pleased 39 = .ok (.aload_n 0, 1) := by decide +kernel
theorem dX9_pleased_40 : decode cX9_pleased 40 = .ok (.iload_n 1, 1) := by decide +kernel
theorem dX9_pleased_41 : decode cX9_pleased 41 = .ok (.invokevirtual 167, 3) := by decide +kernel
theorem dX9_pleased_44 : decode cX9_pleased 44 = .ok (.istore_n 2, 1) := by decide +kernel
theorem dX9_pleased_45 : decode cX9_pleased 45 = .ok (.iconst 0, 1) := by decide +kernel
theorem dX9_pleased_46 : decode cX9_pleased 46 = .ok (.istore_n 3, 1) := by decide +kernel
theorem dX9_pleased_47 : decode cX9_pleased 47 = .ok (.iload_n 3, 1) := by decide +kernel
theorem dX9_pleased_48 : decode cX9_pleased 48 = .ok (.aload_n 0, 1) := by decide +kernel
theorem dX9_pleased_49 : decode cX9_pleased 49 = .ok (.getfield 18, 3) := by decide +kernel
theorem dX9_pleased_52 : decode cX9_pleased 52 = .ok (.getfield 202, 3) := by decide +kernel
theorem dX9_pleased_55 : decode cX9_pleased 55 = .ok (.if_icmp .ge 31, 3) := by decide +kernel
theorem dX9_pleased_58 : decode cX9_pleased 58 = .ok (.aload_n 0, 1) := by decide +kernel
theorem dX9_pleased_59 : decode cX9_pleased 59 = .ok (.getfield 55, 3) := by decide +kernel
theorem dX9_pleased_62 : decode cX9_pleased 62 = .ok (.iload_n 3, 1) := by decide +kernel
theorem dX9_pleased_63 : decode cX9_pleased 63 = .ok (.invokevirtual 203, 3) := by decide +kernel
theorem dX9_pleased_66 : decode cX9_pleased 66 = .ok (.iload_n 2, 1) := by decide +kernel
theorem dX9_pleased_67 : decode cX9_pleased 67 = .ok (.if_icmp .ne 13, 3) := by decide +kernel
theorem dX9_pleased_70 : decode cX9_pleased 70 = .ok (.aload_n 0, 1) := by decide +kernel
theorem dX9_pleased_71 : decode cX9_pleased 71 = .ok (.getfield 78, 3) := by decide +kernel
theorem dX9_pleased_74 : decode cX9_pleased 74 = .ok (.iload_n 3, 1) := by decide +kernel
theorem dX9_pleased_75 : decode cX9_pleased 75 = .ok (.dup2, 1) := by decide +kernel
theorem dX9_pleased_76 : decode cX9_pleased 76 = .ok (.iaload, 1) := by decide +kernel
theorem dX9_pleased_77 : decode cX9_pleased 77 = .ok (.iconst 1, 1) := by decide +kernel
theorem dX9_pleased_78 : decode cX9_pleased 78 = .ok (.iadd, 1) := by decide +kernel
theorem dX9_pleased_79 : decode cX9_pleased 79 = .ok (.iastore, 1) := by decide +kernel
theorem dX9_pleased_80 : decode cX9_pleased 80 = .ok (.iinc 3 1, 3) := by decide +kernel
theorem dX9_pleased_83 : decode cX9_pleased 83 = .ok (.goto (-36), 3) := by decide +kernel
theorem dX9_pleased_86 : decode cX9_pleased 86 = .ok (.iinc 1 1, 3) := by decide +kernel
theorem dX9_pleased_89 : decode cX9_pleased 89 = .ok (.goto (-61), 3) := by decide +kernel
theorem dX9_pleased_92 : decode cX9_pleased 92 = .ok (.iconst (-1), 1) := by decide +kernel
theorem dX9_pleased_93 : decode cX9_pleased 93 = .ok (.istore_n 1, 1) := by decide +kernel
theorem dX9_pleased_94 : decode cX9_pleased 94 = .ok (.iconst 0, 1) := by decide +kernel
theorem dX9_pleased_95 : decode cX9_pleased 95 = .ok (.istore_n 2, 1) := by decide +kernel
theorem dX9_pleased_96 : decode cX9_pleased 96 = .ok (.iload_n 2, 1) := by decide +kernel
theorem dX9_pleased_97 : decode cX9_pleased 97 = .ok (.aload_n 0, 1) := by decide +kernel
theorem dX9_pleased_98 : decode cX9_pleased 98 = .ok (.getfield 18, 3) := by decide +kernel
theorem dX9_pleased_101 : decode cX9_pleased 101 = .ok (.getfield 202, 3) := by decide +kernel
theorem dX9_pleased_104 : decode cX9_pleased 104 = .ok (.if_icmp .ge 31, 3) := by decide +kernel
theorem dX9_pleased_107 : decode cX9_pleased 107 = .ok (.iload_n 1, 1) := by decide +kernel
theorem dX9_pleased_108 : decode cX9_pleased 108 = .ok (.iconst (-1), 1) := by decide +kernel
theorem dX9_pleased_109 : decode cX9_pleased 109 = .ok (.if_icmp .eq 18, 3) := by decide +kernel
theorem dX9_pleased_112 : decode cX9_pleased 112 = .ok (.aload_n 0, 1) := by decide +kernel
theorem dX9_pleased_113 : decode cX9_pleased 113 = .ok (.getfield 78, 3) := by decide +kernel
theorem dX9_pleased_116 : decode cX9_pleased 116 = .ok (.iload_n 2, 1) := by decide +kernel
theorem dX9_pleased_117 : decode cX9_pleased 117 = .ok (.iaload, 1) := by decide +kernel
theorem dX9_pleased_118 : decode cX9_pleased 118 = .ok (.aload_n 0, 1) := by decide +kernel
theorem dX9_pleased_119 : decode cX9_pleased 119 = .ok (.getfield 78, 3) := by decide +kernel
theorem dX9_pleased_122 : decode cX9_pleased 122 = .ok (.iload_n 1, 1) := by decide +kernel
theorem dX9_pleased_123 : decode cX9_pleased 123 = .ok (.iaload, 1) := by decide +kernel
theorem dX9_pleased_124 : decode cX9_pleased 124 = .ok (.if_icmp .le 5, 3) := by decide +kernel
theorem dX9_pleased_127 : decode cX9_pleased 127 = .ok (.iload_n 2, 1) := by decide +kernel
theorem dX9_pleased_128 : decode cX9_pleased 128 = .ok (.istore_n 1, 1) := by decide +kernel
theorem dX9_pleased_129 : decode cX9_pleased 129 = .ok (.iinc 2 1, 3) := by decide +kernel
theorem dX9_pleased_132 : decode cX9_pleased 132 = .ok (.goto (-36), 3) := by decide +kernel
theorem dX9_pleased_135 : decode cX9_pleased 135 = .ok (.iload_n 1, 1) := by decide +kernel
theorem dX9_pleased_136 : decode cX9_pleased 136 = .ok (.ireturn, 1) := by decide +kernel
theorem dX9_lift_0 : decode cX9_lift 0 = .ok (.iload_n 1, 1) := by decide +kernel
theorem dX9_lift_1 : decode cX9_lift 1 = .ok (.invokestatic 129, 3) := by decide +kernel
theorem dX9_lift_4 : decode cX9_lift 4 = .ok (.ifCond .eq 13, 3) := by decide +kernel
theorem dX9_lift_7 : decode cX9_lift 7 = .ok (.iload_n 2, 1) := by decide +kernel
theorem dX9_lift_8 : decode cX9_lift 8 = .ok (.iconst (-1), 1) := by decide +kernel
theorem dX9_lift_9 : decode cX9_lift 9 = .ok (.if_icmp .lt 8, 3) := by decide +kernel
theorem dX9_lift_12 : decode cX9_lift 12 = .ok (.iload_n 2, 1) := by decide +kernel
theorem dX9_lift_13 : decode cX9_lift 13 = .ok (.iconst 1, 1) := by decide +kernel
theorem dX9_lift_14 : decode cX9_lift 14 = .ok (.if_icmp .le 6, 3) := by decide +kernel
theorem dX9_lift_17 : decode cX9_lift 17 = .ok (.bipush (-2), 2) := by decide +kernel
theorem dX9_lift_19 : decode cX9_lift 19 = .ok (.ireturn, 1) := by decide +kernel
theorem dX9_lift_20 : decode cX9_lift 20 = .ok (.aload_n 0, 1) := by decide +kernel
theorem dX9_lift_21 : decode cX9_lift 21 = .ok (.iload_n 1, 1) := by decide +kernel
theorem dX9_lift_22 : decode cX9_lift 22 = .ok (.invokevirtual 206, 3) := by decide +kernel
theorem dX9_lift_25 : decode cX9_lift 25 = .ok (.istore_n 3, 1) := by decide +kernel
theorem dX9_lift_26 : decode cX9_lift 26 = .ok (.iload_n 2, 1) := by decide +kernel
theorem dX9_lift_27 : decode cX9_lift 27 = .ok (.iconst (-1), 1) := by decide +kernel
theorem dX9_lift_28 : decode cX9_lift 28 = .ok (.if_icmp .ne 7, 3) := by decide +kernel
theorem dX9_lift_31 : decode cX9_lift 31 = .ok (.iload_n 3, 1) := by decide +kernel
theorem dX9_lift_32 : decode cX9_lift 32 = .ok (.goto 9, 3) := by decide +kernel
theorem dX9_lift_35 : decode cX9_lift 35 = .ok (.aload_n 0, 1) := by decide +kernel
theorem dX9_lift_36 : decode cX9_lift 36 = .ok (.getfield 81, 3) := by decide +kernel
theorem dX9_lift_39 : decode cX9_lift 39 = .ok (.iload_n 2, 1) := by decide +kernel
theorem dX9_lift_40 : decode cX9_lift 40 = .ok (.iaload, 1) := by decide +kernel
theorem dX9_lift_41 : decode cX9_lift 41 = .ok (.ireturn, 1) := by decide +kernel
theorem dX9_agenda_0 : decode cX9_agenda 0 = .ok (.iload_n 1, 1) := by decide +kernel
theorem dX9_agenda_1 : decode cX9_agenda 1 = .ok (.iconst 3, 1) := by decide +kernel
theorem dX9_agenda_2 : decode cX9_agenda 2 = .ok (.invokestatic 95, 3) := by decide +kernel
theorem dX9_agenda_5 : decode cX9_agenda 5 = .ok (.ifCond .ne 6, 3) := by decide +kernel
theorem dX9_agenda_8 : decode cX9_agenda 8 = .ok (.bipush (-2), 2) := by decide +kernel
theorem dX9_agenda_10 : decode cX9_agenda 10 = .ok (.ireturn, 1) := by decide +kernel
theorem dX9_agenda_11 : decode cX9_agenda 11 = .ok (.iconst 0, 1) := by decide +kernel
theorem dX9_agenda_12 : decode cX9_agenda 12 = .ok (.istore_n 2, 1) := by decide +kernel
theorem dX9_agenda_13 : decode cX9_agenda 13 = .ok (.iload_n 2, 1) := by decide +kernel
theorem dX9_agenda_14 : decode cX9_agenda 14 = .ok (.iconst 3, 1) := by decide +kernel
theorem dX9_agenda_15 : decode cX9_agenda 15 = .ok (.if_icmp .ge 20, 3) := by decide +kernel
theorem dX9_agenda_18 : decode cX9_agenda 18 = .ok (.aload_n 0, 1) := by decide +kernel
theorem dX9_agenda_19 : decode cX9_agenda 19 = .ok (.iload_n 2, 1) := by decide +kernel
theorem dX9_agenda_20 : decode cX9_agenda 20 = .ok (.invokevirtual 209, 3) := by decide +kernel
theorem dX9_agenda_23 : decode cX9_agenda 23 = .ok (.iload_n 1, 1) := by decide +kernel
theorem dX9_agenda_24 : decode cX9_agenda 24 = .ok (.if_icmp .ne 5, 3) := by decide +kernel
theorem dX9_agenda_27 : decode cX9_agenda 27 = .ok (.iload_n 2, 1) := by decide +kernel
theorem dX9_agenda_28 : decode cX9_agenda 28 = .ok (.ireturn, 1) := by decide +kernel
theorem dX9_agenda_29 : decode cX9_agenda 29 = .ok (.iinc 2 1, 3) := by decide +kernel
theorem dX9_agenda_32 : decode cX9_agenda 32 = .ok (.goto (-19), 3) := by decide +kernel
theorem dX9_agenda_35 : decode cX9_agenda 35 = .ok (.iconst (-1), 1) := by decide +kernel
theorem dX9_agenda_36 : decode cX9_agenda 36 = .ok (.ireturn, 1) := by decide +kernel
theorem dX9_power_0 : decode cX9_power 0 = .ok (.aload_n 0, 1) := by decide +kernel
theorem dX9_power_1 : decode cX9_power 1 = .ok (.iload_n 1, 1) := by decide +kernel
theorem dX9_power_2 : decode cX9_power 2 = .ok (.invokevirtual 113, 3) := by decide +kernel
theorem dX9_power_5 : decode cX9_power 5 = .ok (.ifCond .eq 11, 3) := by decide +kernel
theorem dX9_power_8 : decode cX9_power 8 = .ok (.iload_n 2, 1) := by decide +kernel
theorem dX9_power_9 : decode cX9_power 9 = .ok (.iconst 2, 1) := by decide +kernel
theorem dX9_power_10 : decode cX9_power 10 = .ok (.invokestatic 95, 3) := by decide +kernel
theorem dX9_power_13 : decode cX9_power 13 = .ok (.ifCond .ne 9, 3) := by decide +kernel
theorem dX9_power_16 : decode cX9_power 16 = .ok (.bipush (-2), 2) := by decide +kernel
theorem dX9_power_18 : decode cX9_power 18 = .ok (.invokestatic 212, 3) := by decide +kernel
theorem dX9_power_21 : decode cX9_power 21 = .ok (.lreturn, 1) := by decide +kernel
theorem dX9_power_22 : decode cX9_power 22 = .ok (.aload_n 0, 1) := by decide +kernel
theorem dX9_power_23 : decode cX9_power 23 = .ok (.getfield 64, 3) := by decide +kernel
theorem dX9_power_26 : decode cX9_power 26 = .ok (.iload_n 1, 1) := by decide +kernel
theorem dX9_power_27 : decode cX9_power 27 = .ok (.invokevirtual 216, 3) := by decide +kernel
theorem dX9_power_30 : decode cX9_power 30 = .ok (.i2l, 1) := by decide +kernel
theorem dX9_power_31 : decode cX9_power 31 = .ok (.aload_n 0, 1) := by decide +kernel
theorem dX9_power_32 : decode cX9_power 32 = .ok (.getfield 18, 3) := by decide +kernel
theorem dX9_power_35 : decode cX9_power 35 = .ok (.getfield 202, 3) := by decide +kernel
theorem dX9_power_38 : decode cX9_power 38 = .ok (.invokestatic 219, 3) := by decide +kernel
theorem dX9_power_41 : decode cX9_power 41 = .ok (.i2l, 1) := by decide +kernel
theorem dX9_power_42 : decode cX9_power 42 = .ok (.iload_n 2, 1) := by decide +kernel
theorem dX9_power_43 : decode cX9_power 43 = .ok (.invokestatic 222, 3) := by decide +kernel
theorem dX9_power_46 : decode cX9_power 46 = .ok (.lreturn, 1) := by decide +kernel
theorem dX9_ring_0 : decode cX9_ring 0 = .ok (.aload_n 0, 1) := by decide +kernel
theorem dX9_ring_1 : decode cX9_ring 1 = .ok (.getfield 18, 3) := by decide +kernel
theorem dX9_ring_4 : decode cX9_ring 4 = .ok (.iconst 0, 1) := by decide +kernel
