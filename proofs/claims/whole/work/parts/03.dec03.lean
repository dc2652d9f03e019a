theorem dX9_factorial_21 : decode cX9_factorial 21 = .ok (.ireturn, 1) := by decide +kernel
theorem dX9_lowest_0 : decode cX9_lowest 0 = .ok (.lload_n 0, 1) := by decide +kernel
theorem dX9_lowest_1 : decode cX9_lowest 1 = .ok (.lstore 5, 2) := by decide +kernel
theorem dX9_lowest_3 : decode cX9_lowest 3 = .ok (.lload_n 2, 1) := by decide +kernel
theorem dX9_lowest_4 : decode cX9_lowest 4 = .ok (.lstore 7, 2) := by decide +kernel
theorem dX9_lowest_6 : decode cX9_lowest 6 = .ok (.iconst 0, 1) := by decide +kernel
theorem dX9_lowest_7 : decode cX9_lowest 7 = .ok (.istore 9, 2) := by decide +kernel
theorem dX9_lowest_9 : decode cX9_lowest 9 = .ok (.iload 9, 2) := by decide +kernel
theorem dX9_lowest_11 : decode cX9_lowest 11 = .ok (.bipush 100, 2) := by decide +kernel
theorem dX9_lowest_13 : decode cX9_lowest 13 = .ok (.if_icmp .ge 31, 3) := by decide +kernel
theorem dX9_lowest_16 : decode cX9_lowest 16 = .ok (.lload 7, 2) := by decide +kernel
theorem dX9_lowest_18 : decode cX9_lowest 18 = .ok (.lconst 0, 1) := by decide +kernel
theorem dX9_lowest_19 : decode cX9_lowest 19 = .ok (.lcmp, 1) := by decide +kernel
theorem dX9_lowest_20 : decode cX9_lowest 20 = .ok (.ifCond .eq 24, 3) := by decide +kernel
theorem dX9_lowest_23 : decode cX9_lowest 23 = .ok (.lload 5, 2) := by decide +kernel
theorem dX9_lowest_25 : decode cX9_lowest 25 = .ok (.lload 7, 2) := by decide +kernel
theorem dX9_lowest_27 : decode cX9_lowest 27 = .ok (.lrem, 1) := by decide +kernel
theorem dX9_lowest_28 : decode cX9_lowest 28 = .ok (.lstore 10, 2) := by decide +kernel
theorem dX9_lowest_30 : decode cX9_lowest 30 = .ok (.lload 7, 2) := by decide +kernel
theorem dX9_lowest_32 : decode cX9_lowest 32 = .ok (.lstore 5, 2) := by decide +kernel
theorem dX9_lowest_34 : decode cX9_lowest 34 = .ok (.lload 10, 2) := by decide +kernel
theorem dX9_lowest_36 : decode cX9_lowest 36 = .ok (.lstore 7, 2) := by decide +kernel
theorem dX9_lowest_38 : decode cX9_lowest 38 = .ok (.iinc 9 1, 3) := by decide +kernel
theorem dX9_lowest_41 : decode cX9_lowest 41 = .ok (.goto (-32), 3) := by decide +kernel
theorem dX9_lowest_44 : decode cX9_lowest 44 = .ok (.iload 4, 2) := by decide +kernel
theorem dX9_lowest_46 : decode cX9_lowest 46 = .ok (.ifCond .ne 7, 3) := by decide +kernel
theorem dX9_lowest_49 : decode cX9_lowest 49 = .ok (.lload_n 0, 1) := by decide +kernel
theorem dX9_lowest_50 : decode cX9_lowest 50 = .ok (.goto 4, 3) := by decide +kernel
theorem dX9_lowest_53 : decode cX9_lowest 53 = .ok (.lload_n 2, 1) := by decide +kernel
theorem dX9_lowest_54 : decode cX9_lowest 54 = .ok (.lstore 9, 2) := by decide +kernel
theorem dX9_lowest_56 : decode cX9_lowest 56 = .ok (.lload 5, 2) := by decide +kernel
theorem dX9_lowest_58 : decode cX9_lowest 58 = .ok (.lconst 0, 1) := by decide +kernel
theorem dX9_lowest_59 : decode cX9_lowest 59 = .ok (.lcmp, 1) := by decide +kernel
theorem dX9_lowest_60 : decode cX9_lowest 60 = .ok (.ifCond .ne 8, 3) := by decide +kernel
theorem dX9_lowest_63 : decode cX9_lowest 63 = .ok (.lload 9, 2) := by decide +kernel
theorem dX9_lowest_65 : decode cX9_lowest 65 = .ok (.goto 8, 3) := by decide +kernel
theorem dX9_lowest_68 : decode cX9_lowest 68 = .ok (.lload 9, 2) := by decide +kernel
theorem dX9_lowest_70 : decode cX9_lowest 70 = .ok (.lload 5, 2) := by decide +kernel
theorem dX9_lowest_72 : decode cX9_lowest 72 = .ok (.ldiv, 1) := by decide +kernel
theorem dX9_lowest_73 : decode cX9_lowest 73 = .ok (.lreturn, 1) := by decide +kernel
theorem dX9_takeAgain_0 : decode cX9_takeAgain 0 = .ok (.iload_n 1, 1) := by decide +kernel
theorem dX9_takeAgain_1 : decode cX9_takeAgain 1 = .ok (.ifCond .ne 19, 3) := by decide +kernel
theorem dX9_takeAgain_4 : decode cX9_takeAgain 4 = .ok (.aload_n 0, 1) := by decide +kernel
theorem dX9_takeAgain_5 : decode cX9_takeAgain 5 = .ok (.getfield 18, 3) := by decide +kernel
theorem dX9_takeAgain_8 : decode cX9_takeAgain 8 = .ok (.aload_n 0, 1) := by decide +kernel
theorem dX9_takeAgain_9 : decode cX9_takeAgain 9 = .ok (.getfield 11, 3) := by decide +kernel
theorem dX9_takeAgain_12 : decode cX9_takeAgain 12 = .ok (.iconst 0, 1) := by decide +kernel
theorem dX9_takeAgain_13 : decode cX9_takeAgain 13 = .ok (.aaload, 1) := by decide +kernel
theorem dX9_takeAgain_14 : decode cX9_takeAgain 14 = .ok (.invokevirtual 370, 3) := by decide +kernel
theorem dX9_takeAgain_17 : decode cX9_takeAgain 17 = .ok (.goto 16, 3) := by decide +kernel
theorem dX9_takeAgain_20 : decode cX9_takeAgain 20 = .ok (.aload_n 0, 1) := by decide +kernel
theorem dX9_takeAgain_21 : decode cX9_takeAgain 21 = .ok (.getfield 25, 3) := by decide +kernel
theorem dX9_takeAgain_24 : decode cX9_takeAgain 24 = .ok (.aload_n 0, 1) := by decide +kernel
theorem dX9_takeAgain_25 : decode cX9_takeAgain 25 = .ok (.getfield 11, 3) := by decide +kernel
theorem dX9_takeAgain_28 : decode cX9_takeAgain 28 = .ok (.iconst 1, 1) := by decide +kernel
theorem dX9_takeAgain_29 : decode cX9_takeAgain 29 = .ok (.aaload, 1) := by decide +kernel
theorem dX9_takeAgain_30 : decode cX9_takeAgain 30 = .ok (.invokevirtual 374, 3) := by decide +kernel
theorem dX9_takeAgain_33 : decode cX9_takeAgain 33 = .ok (.return_, 1) := by decide +kernel
theorem dX9_itemRefusal_0 : decode cX9_itemRefusal 0 = .ok (.iload_n 1, 1) := by decide +kernel
theorem dX9_itemRefusal_1 : decode cX9_itemRefusal 1 = .ok (.iconst 4, 1) := by decide +kernel
theorem dX9_itemRefusal_2 : decode cX9_itemRefusal 2 = .ok (.invokestatic 95, 3) := by decide +kernel
theorem dX9_itemRefusal_5 : decode cX9_itemRefusal 5 = .ok (.ifCond .eq 11, 3) := by decide +kernel
theorem dX9_itemRefusal_8 : decode cX9_itemRefusal 8 = .ok (.iload_n 2, 1) := by decide +kernel
theorem dX9_itemRefusal_9 : decode cX9_itemRefusal 9 = .ok (.iconst 3, 1) := by decide +kernel
theorem dX9_itemRefusal_10 : decode cX9_itemRefusal 10 = .ok (.invokestatic 95, 3) := by decide +kernel
theorem dX9_itemRefusal_13 : decode cX9_itemRefusal 13 = .ok (.ifCond .ne 6, 3) := by decide +kernel
theorem dX9_itemRefusal_16 : decode cX9_itemRefusal 16 = .ok (.bipush (-2), 2) := by decide +kernel
theorem dX9_itemRefusal_18 : decode cX9_itemRefusal 18 = .ok (.ireturn, 1) := by decide +kernel
theorem dX9_itemRefusal_19 : decode cX9_itemRefusal 19 = .ok (.aload_n 0, 1) := by decide +kernel
theorem dX9_itemRefusal_20 : decode cX9_itemRefusal 20 = .ok (.getfield 70, 3) := by decide +kernel
theorem dX9_itemRefusal_23 : decode cX9_itemRefusal 23 = .ok (.iload_n 1, 1) := by decide +kernel
theorem dX9_itemRefusal_24 : decode cX9_itemRefusal 24 = .ok (.aaload, 1) := by decide +kernel
theorem dX9_itemRefusal_25 : decode cX9_itemRefusal 25 = .ok (.getfield 154, 3) := by decide +kernel
theorem dX9_itemRefusal_28 : decode cX9_itemRefusal 28 = .ok (.iconst (-1), 1) := by decide +kernel
theorem dX9_itemRefusal_29 : decode cX9_itemRefusal 29 = .ok (.if_icmp .ne 9, 3) := by decide +kernel
theorem dX9_itemRefusal_32 : decode cX9_itemRefusal 32 = .ok (.aload_n 0, 1) := by decide +kernel
theorem dX9_itemRefusal_33 : decode cX9_itemRefusal 33 = .ok (.iconst 1, 1) := by decide +kernel
theorem dX9_itemRefusal_34 : decode cX9_itemRefusal 34 = .ok (.invokevirtual 157, 3) := by decide +kernel
theorem dX9_itemRefusal_37 : decode cX9_itemRefusal 37 = .ok (.ireturn, 1) := by decide +kernel
theorem dX9_itemRefusal_38 : decode cX9_itemRefusal 38 = .ok (.aload_n 0, 1) := by decide +kernel
theorem dX9_itemRefusal_39 : decode cX9_itemRefusal 39 = .ok (.getfield 70, 3) := by decide +kernel
theorem dX9_itemRefusal_42 : decode cX9_itemRefusal 42 = .ok (.iload_n 1, 1) := by decide +kernel
theorem dX9_itemRefusal_43 : decode cX9_itemRefusal 43 = .ok (.aaload, 1) := by decide +kernel
theorem dX9_itemRefusal_44 : decode cX9_itemRefusal 44 = .ok (.getfield 154, 3) := by decide +kernel
theorem dX9_itemRefusal_47 : decode cX9_itemRefusal 47 = .ok (.iload_n 2, 1) := by decide +kernel
theorem dX9_itemRefusal_48 : decode cX9_itemRefusal 48 = .ok (.if_icmp .eq 9, 3) := by decide +kernel
theorem dX9_itemRefusal_51 : decode cX9_itemRefusal 51 = .ok (.aload_n 0, 1) := by decide +kernel
theorem dX9_itemRefusal_52 : decode cX9_itemRefusal 52 = .ok (.iconst 3, 1) := by decide +kernel
theorem dX9_itemRefusal_53 : decode cX9_itemRefusal 53 = .ok (.invokevirtual 157, 3) := by decide +kernel
theorem dX9_itemRefusal_56 : decode cX9_itemRefusal 56 = .ok (.ireturn, 1) := by decide +kernel
theorem dX9_itemRefusal_57 : decode cX9_itemRefusal 57 = .ok (.iload_n 3, 1) := by decide +kernel
theorem dX9_itemRefusal_58 : decode cX9_itemRefusal 58 = .ok (.aload_n 0, 1) := by decide +kernel
theorem dX9_itemRefusal_59 : decode cX9_itemRefusal 59 = .ok (.getfield 70, 3) := by decide +kernel
theorem dX9_itemRefusal_62 : decode cX9_itemRefusal 62 = .ok (.iload_n 1, 1) := by decide +kernel
theorem dX9_itemRefusal_63 : decode cX9_itemRefusal 63 = .ok (.aaload, 1) := by decide +kernel
theorem dX9_itemRefusal_64 : decode cX9_itemRefusal 64 = .ok (.getfield 161, 3) := by decide +kernel
theorem dX9_itemRefusal_67 : decode cX9_itemRefusal 67 = .ok (.invokestatic 95, 3) := by decide +kernel
theorem dX9_itemRefusal_70 : decode cX9_itemRefusal 70 = .ok (.ifCond .eq 7, 3) := by decide +kernel
theorem dX9_itemRefusal_73 : decode cX9_itemRefusal 73 = .ok (.iconst 0, 1) := by decide +kernel
theorem dX9_itemRefusal_74 : decode cX9_itemRefusal 74 = .ok (.goto 8, 3) := by decide +kernel
theorem dX9_itemRefusal_77 : decode cX9_itemRefusal 77 = .ok (.aload_n 0, 1) := by decide +kernel
theorem dX9_itemRefusal_78 : decode cX9_itemRefusal 78 = .ok (.iconst 2, 1) := by decide +kernel
theorem dX9_itemRefusal_79 : decode cX9_itemRefusal 79 = .ok (.invokevirtual 157, 3) := by decide +kernel
theorem dX9_itemRefusal_82 : decode cX9_itemRefusal 82 = .ok (.ireturn, 1) := by decide +kernel
theorem dX9_carriedAsTold_0 : decode cX9_carriedAsTold 0 = .ok (.aload_n 0, 1) := by decide +kernel
theorem dX9_carriedAsTold_1 : decode cX9_carriedAsTold 1 = .ok (.getfield 55, 3) := by decide +kernel
theorem dX9_carriedAsTold_4 : decode cX9_carriedAsTold 4 = .ok (.iload_n 1, 1) := by decide +kernel
theorem dX9_carriedAsTold_5 : decode cX9_carriedAsTold 5 = .ok (.aload_n 0, 1) := by decide +kernel
theorem dX9_carriedAsTold_6 : decode cX9_carriedAsTold 6 = .ok (.getfield 18, 3) := by decide +kernel
theorem dX9_carriedAsTold_9 : decode cX9_carriedAsTold 9 = .ok (.getfield 122, 3) := by decide +kernel
theorem dX9_carriedAsTold_12 : decode cX9_carriedAsTold 12 = .ok (.aload_n 0, 1) := by decide +kernel
theorem dX9_carriedAsTold_13 : decode cX9_carriedAsTold 13 = .ok (.getfield 39, 3) := by decide +kernel
theorem dX9_carriedAsTold_16 : decode cX9_carriedAsTold 16 = .ok (.iload_n 1, 1) := by decide +kernel
theorem dX9_carriedAsTold_17 : decode cX9_carriedAsTold 17 = .ok (.invokevirtual 178, 3) := by decide +kernel
theorem dX9_carriedAsTold_20 : decode cX9_carriedAsTold 20 = .ok (.iconst (-1), 1) := by decide +kernel
theorem dX9_carriedAsTold_21 : decode cX9_carriedAsTold 21 = .ok (.invokevirtual 252, 3) := by decide +kernel
theorem dX9_carriedAsTold_24 : decode cX9_carriedAsTold 24 = .ok (.ireturn, 1) := by decide +kernel
theorem dX9_carriedAsTried_0 : decode cX9_carriedAsTried 0 = .ok (.aload_n 0, 1) := by decide +kernel
theorem dX9_carriedAsTried_1 : decode cX9_carriedAsTried 1 = .ok (.getfield 55, 3) := by decide +kernel
theorem dX9_carriedAsTried_4 : decode cX9_carriedAsTried 4 = .ok (.iload_n 1, 1) := by decide +kernel
theorem dX9_carriedAsTried_5 : decode cX9_carriedAsTried 5 = .ok (.aload_n 0, 1) := by decide +kernel
theorem dX9_carriedAsTried_6 : decode cX9_carriedAsTried 6 = .ok (.getfield 74, 3) := by decide +kernel
theorem dX9_carriedAsTried_9 : decode cX9_carriedAsTried 9 = .ok (.aload_n 0, 1) := by decide +kernel
theorem dX9_carriedAsTried_10 : decode cX9_carriedAsTried 10 = .ok (.getfield 39, 3) := by decide +kernel
theorem dX9_carriedAsTried_13 : decode cX9_carriedAsTried 13 = .ok (.iload_n 1, 1) := by decide +kernel
theorem dX9_carriedAsTried_14 : decode cX9_carriedAsTried 14 = .ok (.invokevirtual 178, 3) := by decide +kernel
theorem dX9_carriedAsTried_17 : decode cX9_carriedAsTried 17 = .ok (.iconst (-1), 1) := by decide +kernel
theorem dX9_carriedAsTried_18 : decode cX9_carriedAsTried 18 = .ok (.invokevirtual 252, 3) := by decide +kernel
theorem dX9_carriedAsTried_21 : decode cX9_carriedAsTried 21 = .ok (.ireturn, 1) := by decide +kernel
theorem dX9_lastPut_0 : decode cX9_lastPut 0 = .ok (.iload_n 1, 1) := by decide +kernel
theorem dX9_lastPut_1 : decode cX9_lastPut 1 = .ok (.aload_n 0, 1) := by decide +kernel
theorem dX9_lastPut_2 : decode cX9_lastPut 2 = .ok (.getfield 25, 3) := by decide +kernel
theorem dX9_lastPut_5 : decode cX9_lastPut 5 = .ok (.getfield 132, 3) := by decide +kernel
theorem dX9_lastPut_8 : decode cX9_lastPut 8 = .ok (.iconst 1, 1) := by decide +kernel
theorem dX9_lastPut_9 : decode cX9_lastPut 9 = .ok (.isub, 1) := by decide +kernel
theorem dX9_lastPut_10 : decode cX9_lastPut 10 = .ok (.invokestatic 284, 3) := by decide +kernel
theorem dX9_lastPut_13 : decode cX9_lastPut 13 = .ok (.ireturn, 1) := by decide +kernel
theorem dX9_findLift_0 : decode cX9_findLift 0 = .ok (.aload_n 0, 1) := by decide +kernel
theorem dX9_findLift_1 : decode cX9_findLift 1 = .ok (.getfield 81, 3) := by decide +kernel
theorem dX9_findLift_4 : decode cX9_findLift 4 = .ok (.iconst 0, 1) := by decide +kernel
theorem dX9_findLift_5 : decode cX9_findLift 5 = .ok (.iconst (-1), 1) := by decide +kernel
theorem dX9_findLift_6 : decode cX9_findLift 6 = .ok (.iastore, 1) := by decide +kernel
theorem dX9_findLift_7 : decode cX9_findLift 7 = .ok (.aload_n 0, 1) := by decide +kernel
theorem dX9_findLift_8 : decode cX9_findLift 8 = .ok (.getfield 81, 3) := by decide +kernel
theorem dX9_findLift_11 : decode cX9_findLift 11 = .ok (.iconst 1, 1) := by decide +kernel
theorem dX9_findLift_12 : decode cX9_findLift 12 = .ok (.iconst (-1), 1) := by decide +kernel
theorem dX9_findLift_13 : decode cX9_findLift 13 = .ok (.iastore, 1) := by decide +kernel
theorem dX9_findLift_14 : decode cX9_findLift 14 = .ok (.aload_n 0, 1) := by decide +kernel
theorem dX9_findLift_15 : decode cX9_findLift 15 = .ok (.iload_n 1, 1) := by decide +kernel
theorem dX9_findLift_16 : decode cX9_findLift 16 = .ok (.iconst (-1), 1) := by decide +kernel
theorem dX9_findLift_17 : decode cX9_findLift 17 = .ok (.iconst (-1), 1) := by decide +kernel
theorem dX9_findLift_18 : decode cX9_findLift 18 = .ok (.invokevirtual 375, 3) := by decide +kernel
theorem dX9_findLift_21 : decode cX9_findLift 21 = .ok (.istore_n 2, 1) := by decide +kernel
theorem dX9_findLift_22 : decode cX9_findLift 22 = .ok (.iload_n 2, 1) := by decide +kernel
theorem dX9_findLift_23 : decode cX9_findLift 23 = .ok (.iconst (-1), 1) := by decide +kernel
theorem dX9_findLift_24 : decode cX9_findLift 24 = .ok (.if_icmp .ne 5, 3) := by decide +kernel
theorem dX9_findLift_27 : decode cX9_findLift 27 = .ok (.iconst (-1), 1) := by decide +kernel
theorem dX9_findLift_28 : decode cX9_findLift 28 = .ok (.ireturn, 1) := by decide +kernel
theorem dX9_findLift_29 : decode cX9_findLift 29 = .ok (.iconst 0, 1) := by decide +kernel
theorem dX9_findLift_30 : decode cX9_findLift 30 = .ok (.istore_n 3, 1) := by decide +kernel
theorem dX9_findLift_31 : decode cX9_findLift 31 = .ok (.iload_n 3, 1) := by decide +kernel
theorem dX9_findLift_32 : decode cX9_findLift 32 = .ok (.aload_n 0, 1) := by decide +kernel
theorem dX9_findLift_33 : decode cX9_findLift 33 = .ok (.getfield 18, 3) := by decide +kernel
theorem dX9_findLift_36 : decode cX9_findLift 36 = .ok (.getfield 202, 3) := by decide +kernel
theorem dX9_findLift_39 : decode cX9_findLift 39 = .ok (.if_icmp .ge 29, 3) := by decide +kernel
theorem dX9_findLift_42 : decode cX9_findLift 42 = .ok (.aload_n 0, 1) := by decide +kernel
theorem dX9_findLift_43 : decode cX9_findLift 43 = .ok (.iload_n 1, 1) := by decide +kernel
theorem dX9_findLift_44 : decode cX9_findLift 44 = .ok (.iload_n 3, 1) := by decide +kernel
theorem dX9_findLift_45 : decode cX9_findLift 45 = .ok (.iload_n 3, 1) := by decide +kernel
theorem dX9_findLift_46 : decode cX9_findLift 46 = .ok (.invokevirtual 375, 3) := by decide +kernel
theorem dX9_findLift_49 : decode cX9_findLift 49 = .ok (.iload_n 2, 1) := by decide +kernel
theorem dX9_findLift_50 : decode cX9_findLift 50 = .ok (.if_icmp .eq 12, 3) := by decide +kernel
theorem dX9_findLift_53 : decode cX9_findLift 53 = .ok (.aload_n 0, 1) := by decide +kernel
theorem dX9_findLift_54 : decode cX9_findLift 54 = .ok (.getfield 81, 3) := by decide +kernel
theorem dX9_findLift_57 : decode cX9_findLift 57 = .ok (.iconst 0, 1) := by decide +kernel
theorem dX9_findLift_58 : decode cX9_findLift 58 = .ok (.iload_n 3, 1) := by decide +kernel
theorem dX9_findLift_59 : decode cX9_findLift 59 = .ok (.iastore, 1) := by decide +kernel
theorem dX9_findLift_60 : decode cX9_findLift 60 = .ok (.iconst 1, 1) := by decide +kernel
theorem dX9_findLift_61 : decode cX9_findLift 61 = .ok (.ireturn, 1) := by decide +kernel
theorem dX9_findLift_62 : decode cX9_findLift 62 = .ok (.iinc 3 1, 3) := by decide +kernel
theorem dX9_findLift_65 : decode cX9_findLift 65 = .ok (.goto (-34), 3) := by decide +kernel
theorem dX9_findLift_68 : decode cX9_findLift 68 = .ok (.iconst 0, 1) := by decide +kernel
theorem dX9_findLift_69 : decode cX9_findLift 69 = .ok (.istore_n 3, 1) := by decide +kernel
theorem dX9_findLift_70 : decode cX9_findLift 70 = .ok (.iload_n 3, 1) := by decide +kernel
theorem dX9_findLift_71 : decode cX9_findLift 71 = .ok (.aload_n 0, 1) := by decide +kernel
theorem dX9_findLift_72 : decode cX9_findLift 72 = .ok (.getfield 18, 3) := by decide +kernel
theorem dX9_findLift_75 : decode cX9_findLift 75 = .ok (.getfield 202, 3) := by decide +kernel
theorem dX9_findLift_78 : decode cX9_findLift 78 = .ok (.if_icmp .ge 61, 3) := by decide +kernel
theorem dX9_findLift_81 : decode cX9_findLift 81 = .ok (.iload_n 3, 1) := by decide +kernel
theorem dX9_findLift_82 : decode cX9_findLift 82 = .ok (.iconst 1, 1) := by decide +kernel
theorem dX9_findLift_83 : decode cX9_findLift 83 = .ok (.iadd, 1) := by decide +kernel
theorem dX9_findLift_84 : decode cX9_findLift 84 = .ok (.istore 4, 2) := by decide +kernel
theorem dX9_findLift_86 : decode cX9_findLift 86 = .ok (.iload 4, 2) := by decide +kernel
theorem dX9_findLift_88 : decode cX9_findLift 88 = .ok (.aload_n 0, 1) := by decide +kernel
theorem dX9_findLift_89 : decode cX9_findLift 89 = .ok (.getfield 18, 3) := by decide +kernel
theorem dX9_findLift_92 : decode cX9_findLift 92 = .ok (.getfield 202, 3) := by decide +kernel
theorem dX9_findLift_95 : decode cX9_findLift 95 = .ok (.if_icmp .ge 38, 3) := by decide +kernel
theorem dX9_findLift_98 : decode cX9_findLift 98 = .ok (.aload_n 0, 1) := by decide +kernel
theorem dX9_findLift_99 : decode cX9_findLift 99 = .ok (.iload_n 1, 1) := by decide +kernel
theorem dX9_findLift_100 : decode cX9_findLift 100 = .ok (.iload_n 3, 1) := by decide +kernel
theorem dX9_findLift_101 : decode cX9_findLift 101 = .ok (.iload 4, 2) := by decide +kernel
theorem dX9_findLift_103 : decode cX9_findLift 103 = .ok (.invokevirtual 375, 3) := by decide +kernel
theorem dX9_findLift_106 : decode cX9_findLift 106 = .ok (.iload_n 2, 1) := by decide +kernel
theorem dX9_findLift_107 : decode cX9_findLift 107 = .ok (.if_icmp .eq 20, 3) := by decide +kernel
theorem dX9_findLift_110 : decode cX9_findLift 110 = .ok (.aload_n 0, 1) := by decide +kernel
theorem dX9_findLift_111 : decode cX9_findLift 111 = .ok (.getfield 81, 3) := by decide +kernel
theorem dX9_findLift_114 : decode cX9_findLift 114 = .ok (.iconst 0, 1) := by decide +kernel
theorem dX9_findLift_115 : decode cX9_findLift 115 = .ok (.iload_n 3, 1) := by decide +kernel
theorem dX9_findLift_116 : decode cX9_findLift 116 = .ok (.iastore, 1) := by decide +kernel
theorem dX9_findLift_117 : decode cX9_findLift 117 = .ok (.aload_n 0, 1) := by decide +kernel
theorem dX9_findLift_118 : decode cX9_findLift 118 = .ok (.getfield 81, 3) := by decide +kernel
theorem dX9_findLift_121 : decode cX9_findLift 121 = .ok (.iconst 1, 1) := by decide +kernel
theorem dX9_findLift_122 : decode cX9_findLift 122 = .ok (.iload 4, 2) := by decide +kernel
theorem dX9_findLift_124 : decode cX9_findLift 124 = .ok (.iastore, 1) := by decide +kernel
theorem dX9_findLift_125 : decode cX9_findLift 125 = .ok (.iconst 2, 1) := by decide +kernel
theorem dX9_findLift_126 : decode cX9_findLift 126 = .ok (.ireturn, 1) := by decide +kernel
theorem dX9_findLift_127 : decode cX9_findLift 127 = .ok (.iinc 4 1, 3) := by decide +kernel
theorem dX9_findLift_130 : decode cX9_findLift 130 = .ok (.goto (-44), 3) := by decide +kernel
theorem dX9_findLift_133 : decode cX9_findLift 133 = .ok (.iinc 3 1, 3) := by decide +kernel
theorem dX9_findLift_136 : decode cX9_findLift 136 = .ok (.goto (-66), 3) := by decide +kernel
theorem dX9_findLift_139 : decode cX9_findLift 139 = .ok (.iconst (-1), 1) := by decide +kernel
theorem dX9_findLift_140 : decode cX9_findLift 140 = .ok (.ireturn, 1) := by decide +kernel
theorem dX9_carriedRaising_0 : decode cX9_carriedRaising 0 = .ok (.aload_n 0, 1) := by decide +kernel
theorem dX9_carriedRaising_1 : decode cX9_carriedRaising 1 = .ok (.getfield 55, 3) := by decide +kernel
theorem dX9_carriedRaising_4 : decode cX9_carriedRaising 4 = .ok (.iload_n 1, 1) := by decide +kernel
theorem dX9_carriedRaising_5 : decode cX9_carriedRaising 5 = .ok (.invokevirtual 378, 3) := by decide +kernel
theorem dX9_carriedRaising_8 : decode cX9_carriedRaising 8 = .ok (.ifCond .ne 5, 3) := by decide +kernel
theorem dX9_carriedRaising_11 : decode cX9_carriedRaising 11 = .ok (.iconst (-1), 1) := by decide +kernel
theorem dX9_carriedRaising_12 : decode cX9_carriedRaising 12 = .ok (.ireturn, 1) := by decide +kernel
theorem dX9_carriedRaising_13 : decode cX9_carriedRaising 13 = .ok (.aload_n 0, 1) := by decide +kernel
theorem dX9_carriedRaising_14 : decode cX9_carriedRaising 14 = .ok (.getfield 55, 3) := by decide +kernel
theorem dX9_carriedRaising_17 : decode cX9_carriedRaising 17 = .ok (.iload_n 1, 1) := by decide +kernel
theorem dX9_carriedRaising_18 : decode cX9_carriedRaising 18 = .ok (.invokevirtual 381, 3) := by decide +kernel
theorem dX9_carriedRaising_21 : decode cX9_carriedRaising 21 = .ok (.aload_n 0, 1) := by decide +kernel
theorem dX9_carriedRaising_22 : decode cX9_carriedRaising 22 = .ok (.getfield 55, 3) := by decide +kernel
theorem dX9_carriedRaising_25 : decode cX9_carriedRaising 25 = .ok (.iload_n 1, 1) := by decide +kernel
theorem dX9_carriedRaising_26 : decode cX9_carriedRaising 26 = .ok (.iconst (-1), 1) := by decide +kernel
theorem dX9_carriedRaising_27 : decode cX9_carriedRaising 27 = .ok (.invokevirtual 173, 3) := by decide +kernel
theorem dX9_carriedRaising_30 : decode cX9_carriedRaising 30 = .ok (.aload_n 0, 1) := by decide +kernel
theorem dX9_carriedRaising_31 : decode cX9_carriedRaising 31 = .ok (.getfield 55, 3) := by decide +kernel
theorem dX9_carriedRaising_34 : decode cX9_carriedRaising 34 = .ok (.iload_n 2, 1) := by decide +kernel
theorem dX9_carriedRaising_35 : decode cX9_carriedRaising 35 = .ok (.invokevirtual 384, 3) := by decide +kernel
theorem dX9_carriedRaising_38 : decode cX9_carriedRaising 38 = .ok (.aload_n 0, 1) := by decide +kernel
theorem dX9_carriedRaising_39 : decode cX9_carriedRaising 39 = .ok (.getfield 55, 3) := by decide +kernel
theorem dX9_carriedRaising_42 : decode cX9_carriedRaising 42 = .ok (.iload_n 3, 1) := by decide +kernel
theorem dX9_carriedRaising_43 : decode cX9_carriedRaising 43 = .ok (.invokevirtual 384, 3) := by decide +kernel
theorem dX9_carriedRaising_46 : decode cX9_carriedRaising 46 = .ok (.aload_n 0, 1) := by decide +kernel
theorem dX9_carriedRaising_47 : decode cX9_carriedRaising 47 = .ok (.getfield 55, 3) := by decide +kernel
theorem dX9_carriedRaising_50 : decode cX9_carriedRaising 50 = .ok (.aload_n 0, 1) := by decide +kernel
theorem dX9_carriedRaising_51 : decode cX9_carriedRaising 51 = .ok (.getfield 18, 3) := by decide +kernel
theorem dX9_carriedRaising_54 : decode cX9_carriedRaising 54 = .ok (.getfield 122, 3) := by decide +kernel
theorem dX9_carriedRaising_57 : decode cX9_carriedRaising 57 = .ok (.aload_n 0, 1) := by decide +kernel
theorem dX9_carriedRaising_58 : decode cX9_carriedRaising 58 = .ok (.getfield 39, 3) := by decide +kernel
theorem dX9_carriedRaising_61 : decode cX9_carriedRaising 61 = .ok (.iload_n 1, 1) := by decide +kernel
theorem dX9_carriedRaising_62 : decode cX9_carriedRaising 62 = .ok (.invokevirtual 178, 3) := by decide +kernel
theorem dX9_carriedRaising_65 : decode cX9_carriedRaising 65 = .ok (.invokevirtual 387, 3) := by decide +kernel
theorem dX9_carriedRaising_68 : decode cX9_carriedRaising 68 = .ok (.aload_n 0, 1) := by decide +kernel
theorem dX9_carriedRaising_69 : decode cX9_carriedRaising 69 = .ok (.getfield 55, 3) := by decide +kernel
theorem dX9_carriedRaising_72 : decode cX9_carriedRaising 72 = .ok (.invokevirtual 235, 3) := by decide +kernel
theorem dX9_carriedRaising_75 : decode cX9_carriedRaising 75 = .ok (.ireturn, 1) := by decide +kernel
theorem dX9_leftBy_0 : decode cX9_leftBy 0 = .ok (.iload_n 1, 1) := by decide +kernel
theorem dX9_leftBy_1 : decode cX9_leftBy 1 = .ok (.iconst 2, 1) := by decide +kernel
theorem dX9_leftBy_2 : decode cX9_leftBy 2 = .ok (.if_icmp .ne 7, 3) := by decide +kernel
theorem dX9_leftBy_5 : decode cX9_leftBy 5 = .ok (.iconst 1, 1) := by decide +kernel
theorem dX9_leftBy_6 : decode cX9_leftBy 6 = .ok (.goto 4, 3) := by decide +kernel
theorem dX9_leftBy_9 : decode cX9_leftBy 9 = .ok (.iconst 0, 1) := by decide +kernel
theorem dX9_leftBy_10 : decode cX9_leftBy 10 = .ok (.istore_n 2, 1) := by decide +kernel
theorem dX9_leftBy_11 : decode cX9_leftBy 11 = .ok (.iload_n 1, 1) := by decide +kernel
theorem dX9_leftBy_12 : decode cX9_leftBy 12 = .ok (.ifCond .ne 7, 3) := by decide +kernel
theorem dX9_leftBy_15 : decode cX9_leftBy 15 = .ok (.iconst 1, 1) := by decide +kernel
theorem dX9_leftBy_16 : decode cX9_leftBy 16 = .ok (.goto 4, 3) := by decide +kernel
theorem dX9_leftBy_19 : decode cX9_leftBy 19 = .ok (.iconst 2, 1) := by decide +kernel
theorem dX9_leftBy_20 : decode cX9_leftBy 20 = .ok (.istore_n 3, 1) := by decide +kernel
theorem dX9_leftBy_21 : decode cX9_leftBy 21 = .ok (.iconst 3, 1) := by decide +kernel
theorem dX9_leftBy_22 : decode cX9_leftBy 22 = .ok (.iload_n 2, 1) := by decide +kernel
theorem dX9_leftBy_23 : decode cX9_leftBy 23 = .ok (.isub, 1) := by decide +kernel
theorem dX9_leftBy_24 : decode cX9_leftBy 24 = .ok (.iload_n 3, 1) := by decide +kernel
theorem dX9_leftBy_25 : decode cX9_leftBy 25 = .ok (.isub, 1) := by decide +kernel
theorem dX9_leftBy_26 : decode cX9_leftBy 26 = .ok (.istore 4, 2) := by decide +kernel
theorem dX9_leftBy_28 : decode cX9_leftBy 28 = .ok (.aload_n 0, 1) := by decide +kernel
theorem dX9_leftBy_29 : decode cX9_leftBy 29 = .ok (.aload_n 0, 1) := by decide +kernel
theorem dX9_leftBy_30 : decode cX9_leftBy 30 = .ok (.iload_n 2, 1) := by decide +kernel
theorem dX9_leftBy_31 : decode cX9_leftBy 31 = .ok (.iload_n 3, 1) := by decide +kernel
theorem dX9_leftBy_32 : decode cX9_leftBy 32 = .ok (.invokevirtual 391, 3) := by decide +kernel
theorem dX9_leftBy_35 : decode cX9_leftBy 35 = .ok (.iload 4, 2) := by decide +kernel
theorem dX9_leftBy_37 : decode cX9_leftBy 37 = .ok (.invokevirtual 391, 3) := by decide +kernel
theorem dX9_leftBy_40 : decode cX9_leftBy 40 = .ok (.ireturn, 1) := by decide +kernel
theorem dX9_carriedAtFirst_0 : decode cX9_carriedAtFirst 0 = .ok (.aload_n 0, 1) := by decide +kernel
theorem dX9_carriedAtFirst_1 : decode cX9_carriedAtFirst 1 = .ok (.getfield 18, 3) := by decide +kernel
theorem dX9_carriedAtFirst_4 : decode cX9_carriedAtFirst 4 = .ok (.getfield 202, 3) := by decide +kernel
theorem dX9_carriedAtFirst_7 : decode cX9_carriedAtFirst 7 = .ok (.ifCond .ne 5, 3) := by decide +kernel
theorem dX9_carriedAtFirst_10 : decode cX9_carriedAtFirst 10 = .ok (.iconst (-1), 1) := by decide +kernel
theorem dX9_carriedAtFirst_11 : decode cX9_carriedAtFirst 11 = .ok (.ireturn, 1) := by decide +kernel
theorem dX9_carriedAtFirst_12 : decode cX9_carriedAtFirst 12 = .ok (.aload_n 0, 1) := by decide +kernel
theorem dX9_carriedAtFirst_13 : decode cX9_carriedAtFirst 13 = .ok (.getfield 55, 3) := by decide +kernel
theorem dX9_carriedAtFirst_16 : decode cX9_carriedAtFirst 16 = .ok (.iload_n 1, 1) := by decide +kernel
theorem dX9_carriedAtFirst_17 : decode cX9_carriedAtFirst 17 = .ok (.iload_n 2, 1) := by decide +kernel
theorem dX9_carriedAtFirst_18 : decode cX9_carriedAtFirst 18 = .ok (.invokevirtual 394, 3) := by decide +kernel
theorem dX9_carriedAtFirst_21 : decode cX9_carriedAtFirst 21 = .ok (.aload_n 0, 1) := by decide +kernel
theorem dX9_carriedAtFirst_22 : decode cX9_carriedAtFirst 22 = .ok (.getfield 55, 3) := by decide +kernel
theorem dX9_carriedAtFirst_25 : decode cX9_carriedAtFirst 25 = .ok (.invokevirtual 397, 3) := by decide +kernel
theorem dX9_carriedAtFirst_28 : decode cX9_carriedAtFirst 28 = .ok (.aload_n 0, 1) := by decide +kernel
theorem dX9_carriedAtFirst_29 : decode cX9_carriedAtFirst 29 = .ok (.getfield 55, 3) := by decide +kernel
theorem dX9_carriedAtFirst_32 : decode cX9_carriedAtFirst 32 = .ok (.aload_n 0, 1) := by decide +kernel
theorem dX9_carriedAtFirst_33 : decode cX9_carriedAtFirst 33 = .ok (.getfield 18, 3) := by decide +kernel
theorem dX9_carriedAtFirst_36 : decode cX9_carriedAtFirst 36 = .ok (.getfield 122, 3) := by decide +kernel
theorem dX9_carriedAtFirst_39 : decode cX9_carriedAtFirst 39 = .ok (.iconst 0, 1) := by decide +kernel
theorem dX9_carriedAtFirst_40 : decode cX9_carriedAtFirst 40 = .ok (.invokevirtual 387, 3) := by decide +kernel
theorem dX9_carriedAtFirst_43 : decode cX9_carriedAtFirst 43 = .ok (.aload_n 0, 1) := by decide +kernel
theorem dX9_carriedAtFirst_44 : decode cX9_carriedAtFirst 44 = .ok (.getfield 55, 3) := by decide +kernel
theorem dX9_carriedAtFirst_47 : decode cX9_carriedAtFirst 47 = .ok (.invokevirtual 235, 3) := by decide +kernel
theorem dX9_carriedAtFirst_50 : decode cX9_carriedAtFirst 50 = .ok (.ireturn, 1) := by decide +kernel
theorem dX9_seenSo_0 : decode cX9_seenSo 0 = .ok (.iconst 0, 1) := by decide +kernel
theorem dX9_seenSo_1 : decode cX9_seenSo 1 = .ok (.istore_n 3, 1) := by decide +kernel
theorem dX9_seenSo_2 : decode cX9_seenSo 2 = .ok (.iload_n 3, 1) := by decide +kernel
theorem dX9_seenSo_3 : decode cX9_seenSo 3 = .ok (.aload_n 0, 1) := by decide +kernel
theorem dX9_seenSo_4 : decode cX9_seenSo 4 = .ok (.getfield 46, 3) := by decide +kernel
theorem dX9_seenSo_7 : decode cX9_seenSo 7 = .ok (.getfield 241, 3) := by decide +kernel
theorem dX9_seenSo_10 : decode cX9_seenSo 10 = .ok (.if_icmp .ge 54, 3) := by decide +kernel
theorem dX9_seenSo_13 : decode cX9_seenSo 13 = .ok (.aload_n 0, 1) := by decide +kernel
theorem dX9_seenSo_14 : decode cX9_seenSo 14 = .ok (.getfield 46, 3) := by decide +kernel
theorem dX9_seenSo_17 : decode cX9_seenSo 17 = .ok (.getfield 400, 3) := by decide +kernel
theorem dX9_seenSo_20 : decode cX9_seenSo 20 = .ok (.iload_n 3, 1) := by decide +kernel
theorem dX9_seenSo_21 : decode cX9_seenSo 21 = .ok (.iaload, 1) := by decide +kernel
theorem dX9_seenSo_22 : decode cX9_seenSo 22 = .ok (.istore 4, 2) := by decide +kernel
theorem dX9_seenSo_24 : decode cX9_seenSo 24 = .ok (.aload_n 0, 1) := by decide +kernel
theorem dX9_seenSo_25 : decode cX9_seenSo 25 = .ok (.getfield 55, 3) := by decide +kernel
theorem dX9_seenSo_28 : decode cX9_seenSo 28 = .ok (.iload 4, 2) := by decide +kernel
theorem dX9_seenSo_30 : decode cX9_seenSo 30 = .ok (.aload_n 1, 1) := by decide +kernel
theorem dX9_seenSo_31 : decode cX9_seenSo 31 = .ok (.aload_n 0, 1) := by decide +kernel
theorem dX9_seenSo_32 : decode cX9_seenSo 32 = .ok (.getfield 39, 3) := by decide +kernel
theorem dX9_seenSo_35 : decode cX9_seenSo 35 = .ok (.iload 4, 2) := by decide +kernel
theorem dX9_seenSo_37 : decode cX9_seenSo 37 = .ok (.invokevirtual 178, 3) := by decide +kernel
theorem dX9_seenSo_40 : decode cX9_seenSo 40 = .ok (.iload_n 2, 1) := by decide +kernel
theorem dX9_seenSo_41 : decode cX9_seenSo 41 = .ok (.invokevirtual 252, 3) := by decide +kernel
theorem dX9_seenSo_44 : decode cX9_seenSo 44 = .ok (.aload_n 0, 1) := by decide +kernel
theorem dX9_seenSo_45 : decode cX9_seenSo 45 = .ok (.getfield 46, 3) := by decide +kernel
theorem dX9_seenSo_48 : decode cX9_seenSo 48 = .ok (.getfield 403, 3) := by decide +kernel
theorem dX9_seenSo_51 : decode cX9_seenSo 51 = .ok (.iload_n 3, 1) := by decide +kernel
theorem dX9_seenSo_52 : decode cX9_seenSo 52 = .ok (.iaload, 1) := by decide +kernel
theorem dX9_seenSo_53 : decode cX9_seenSo 53 = .ok (.if_icmp .eq 5, 3) := by decide +kernel
theorem dX9_seenSo_56 : decode cX9_seenSo 56 = .ok (.iconst 0, 1) := by decide +kernel
theorem dX9_seenSo_57 : decode cX9_seenSo 57 = .ok (.ireturn, 1) := by decide +kernel
theorem dX9_seenSo_58 : decode cX9_seenSo 58 = .ok (.iinc 3 1, 3) := by decide +kernel
theorem dX9_seenSo_61 : decode cX9_seenSo 61 = .ok (.goto (-59), 3) := by decide +kernel
theorem dX9_seenSo_64 : decode cX9_seenSo 64 = .ok (.iconst 1, 1) := by decide +kernel
theorem dX9_seenSo_65 : decode cX9_seenSo 65 = .ok (.ireturn, 1) := by decide +kernel
theorem dX9_ordersSeenSo_0 : decode cX9_ordersSeenSo 0 = .ok (.iconst 0, 1) := by decide +kernel
theorem dX9_ordersSeenSo_1 : decode cX9_ordersSeenSo 1 = .ok (.istore_n 2, 1) := by decide +kernel
theorem dX9_ordersSeenSo_2 : decode cX9_ordersSeenSo 2 = .ok (.iconst 0, 1) := by decide +kernel
theorem dX9_ordersSeenSo_3 : decode cX9_ordersSeenSo 3 = .ok (.istore_n 3, 1) := by decide +kernel
theorem dX9_ordersSeenSo_4 : decode cX9_ordersSeenSo 4 = .ok (.iload_n 3, 1) := by decide +kernel
theorem dX9_ordersSeenSo_5 : decode cX9_ordersSeenSo 5 = .ok (.bipush 6, 2) := by decide +kernel
theorem dX9_ordersSeenSo_7 : decode cX9_ordersSeenSo 7 = .ok (.if_icmp .ge 33, 3) := by decide +kernel
theorem dX9_ordersSeenSo_10 : decode cX9_ordersSeenSo 10 = .ok (.aload_n 0, 1) := by decide +kernel
theorem dX9_ordersSeenSo_11 : decode cX9_ordersSeenSo 11 = .ok (.iload_n 1, 1) := by decide +kernel
theorem dX9_ordersSeenSo_12 : decode cX9_ordersSeenSo 12 = .ok (.iload_n 3, 1) := by decide +kernel
theorem dX9_ordersSeenSo_13 : decode cX9_ordersSeenSo 13 = .ok (.invokevirtual 406, 3) := by decide +kernel
theorem dX9_ordersSeenSo_16 : decode cX9_ordersSeenSo 16 = .ok (.aload_n 0, 1) := by decide +kernel
theorem dX9_ordersSeenSo_17 : decode cX9_ordersSeenSo 17 = .ok (.aload_n 0, 1) := by decide +kernel
theorem dX9_ordersSeenSo_18 : decode cX9_ordersSeenSo 18 = .ok (.getfield 74, 3) := by decide +kernel
theorem dX9_ordersSeenSo_21 : decode cX9_ordersSeenSo 21 = .ok (.iconst (-1), 1) := by decide +kernel
theorem dX9_ordersSeenSo_22 : decode cX9_ordersSeenSo 22 = .ok (.invokevirtual 242, 3) := by decide +kernel
theorem dX9_ordersSeenSo_25 : decode cX9_ordersSeenSo 25 = .ok (.ifCond .eq 9, 3) := by decide +kernel
theorem dX9_ordersSeenSo_28 : decode cX9_ordersSeenSo 28 = .ok (.iload_n 2, 1) := by decide +kernel
theorem dX9_ordersSeenSo_29 : decode cX9_ordersSeenSo 29 = .ok (.iconst 1, 1) := by decide +kernel
theorem dX9_ordersSeenSo_30 : decode cX9_ordersSeenSo 30 = .ok (.iload_n 3, 1) := by decide +kernel
theorem dX9_ordersSeenSo_31 : decode cX9_ordersSeenSo 31 = .ok (.ishl, 1) := by decide +kernel
theorem dX9_ordersSeenSo_32 : decode cX9_ordersSeenSo 32 = .ok (.ior, 1) := by decide +kernel
theorem dX9_ordersSeenSo_33 : decode cX9_ordersSeenSo 33 = .ok (.istore_n 2, 1) := by decide +kernel
theorem dX9_ordersSeenSo_34 : decode cX9_ordersSeenSo 34 = .ok (.iinc 3 1, 3) := by decide +kernel
theorem dX9_ordersSeenSo_37 : decode cX9_ordersSeenSo 37 = .ok (.goto (-33), 3) := by decide +kernel
theorem dX9_ordersSeenSo_40 : decode cX9_ordersSeenSo 40 = .ok (.iload_n 2, 1) := by decide +kernel
theorem dX9_ordersSeenSo_41 : decode cX9_ordersSeenSo 41 = .ok (.ireturn, 1) := by decide +kernel
theorem dX9_tryOrder_0 : decode cX9_tryOrder 0 = .ok (.iconst 0, 1) := by decide +kernel
theorem dX9_tryOrder_1 : decode cX9_tryOrder 1 = .ok (.istore_n 3, 1) := by decide +kernel
theorem dX9_tryOrder_2 : decode cX9_tryOrder 2 = .ok (.iload_n 3, 1) := by decide +kernel
theorem dX9_tryOrder_3 : decode cX9_tryOrder 3 = .ok (.aload_n 0, 1) := by decide +kernel
theorem dX9_tryOrder_4 : decode cX9_tryOrder 4 = .ok (.getfield 18, 3) := by decide +kernel
theorem dX9_tryOrder_7 : decode cX9_tryOrder 7 = .ok (.getfield 202, 3) := by decide +kernel
theorem dX9_tryOrder_10 : decode cX9_tryOrder 10 = .ok (.if_icmp .ge 33, 3) := by decide +kernel
theorem dX9_tryOrder_13 : decode cX9_tryOrder 13 = .ok (.aload_n 0, 1) := by decide +kernel
theorem dX9_tryOrder_14 : decode cX9_tryOrder 14 = .ok (.getfield 74, 3) := by decide +kernel
theorem dX9_tryOrder_17 : decode cX9_tryOrder 17 = .ok (.iload_n 3, 1) := by decide +kernel
theorem dX9_tryOrder_18 : decode cX9_tryOrder 18 = .ok (.iload_n 3, 1) := by decide +kernel
theorem dX9_tryOrder_19 : decode cX9_tryOrder 19 = .ok (.iload_n 1, 1) := by decide +kernel
theorem dX9_tryOrder_20 : decode cX9_tryOrder 20 = .ok (.if_icmp .ne 7, 3) := by decide +kernel
theorem dX9_tryOrder_23 : decode cX9_tryOrder 23 = .ok (.iload_n 2, 1) := by decide +kernel
theorem dX9_tryOrder_24 : decode cX9_tryOrder 24 = .ok (.goto 12, 3) := by decide +kernel
theorem dX9_tryOrder_27 : decode cX9_tryOrder 27 = .ok (.aload_n 0, 1) := by decide +kernel
theorem dX9_tryOrder_28 : decode cX9_tryOrder 28 = .ok (.getfield 18, 3) := by decide +kernel
theorem dX9_tryOrder_31 : decode cX9_tryOrder 31 = .ok (.getfield 122, 3) := by decide +kernel
theorem dX9_tryOrder_34 : decode cX9_tryOrder 34 = .ok (.iload_n 3, 1) := by decide +kernel
theorem dX9_tryOrder_35 : decode cX9_tryOrder 35 = .ok (.iaload, 1) := by decide +kernel
theorem dX9_tryOrder_36 : decode cX9_tryOrder 36 = .ok (.iastore, 1) := by decide +kernel
theorem dX9_tryOrder_37 : decode cX9_tryOrder 37 = .ok (.iinc 3 1, 3) := by decide +kernel
theorem dX9_tryOrder_40 : decode cX9_tryOrder 40 = .ok (.goto (-38), 3) := by decide +kernel
theorem dX9_tryOrder_43 : decode cX9_tryOrder 43 = .ok (.return_, 1) := by decide +kernel
theorem dX9_nightToAsk_0 : decode cX9_nightToAsk 0 = .ok (.iconst 0, 1) := by decide +kernel
theorem dX9_nightToAsk_1 : decode cX9_nightToAsk 1 = .ok (.istore_n 3, 1) := by decide +kernel
theorem dX9_nightToAsk_2 : decode cX9_nightToAsk 2 = .ok (.bipush 7, 2) := by decide +kernel
theorem dX9_nightToAsk_4 : decode cX9_nightToAsk 4 = .ok (.istore 4, 2) := by decide +kernel
theorem dX9_nightToAsk_6 : decode cX9_nightToAsk 6 = .ok (.iconst 0, 1) := by decide +kernel
theorem dX9_nightToAsk_7 : decode cX9_nightToAsk 7 = .ok (.istore 5, 2) := by decide +kernel
theorem dX9_nightToAsk_9 : decode cX9_nightToAsk 9 = .ok (.iload 5, 2) := by decide +kernel
theorem dX9_nightToAsk_11 : decode cX9_nightToAsk 11 = .ok (.bipush 10, 2) := by decide +kernel
theorem dX9_nightToAsk_13 : decode cX9_nightToAsk 13 = .ok (.if_icmp .ge 33, 3) := by decide +kernel
theorem dX9_nightToAsk_16 : decode cX9_nightToAsk 16 = .ok (.aload_n 0, 1) := by decide +kernel
theorem dX9_nightToAsk_17 : decode cX9_nightToAsk 17 = .ok (.iload 5, 2) := by decide +kernel
theorem dX9_nightToAsk_19 : decode cX9_nightToAsk 19 = .ok (.iload_n 1, 1) := by decide +kernel
theorem dX9_nightToAsk_20 : decode cX9_nightToAsk 20 = .ok (.iload_n 2, 1) := by decide +kernel
theorem dX9_nightToAsk_21 : decode cX9_nightToAsk 21 = .ok (.invokevirtual 409, 3) := by decide +kernel
theorem dX9_nightToAsk_24 : decode cX9_nightToAsk 24 = .ok (.istore 6, 2) := by decide +kernel
theorem dX9_nightToAsk_26 : decode cX9_nightToAsk 26 = .ok (.iload 6, 2) := by decide +kernel
theorem dX9_nightToAsk_28 : decode cX9_nightToAsk 28 = .ok (.iload 4, 2) := by decide +kernel
theorem dX9_nightToAsk_30 : decode cX9_nightToAsk 30 = .ok (.if_icmp .ge 10, 3) := by decide +kernel
theorem dX9_nightToAsk_33 : decode cX9_nightToAsk 33 = .ok (.iload 6, 2) := by decide +kernel
theorem dX9_nightToAsk_35 : decode cX9_nightToAsk 35 = .ok (.istore 4, 2) := by decide +kernel
theorem dX9_nightToAsk_37 : decode cX9_nightToAsk 37 = .ok (.iload 5, 2) := by decide +kernel
theorem dX9_nightToAsk_39 : decode cX9_nightToAsk 39 = .ok (.istore_n 3, 1) := by decide +kernel
theorem dX9_nightToAsk_40 : decode cX9_nightToAsk 40 = .ok (.iinc 5 1, 3) := by decide +kernel
theorem dX9_nightToAsk_43 : decode cX9_nightToAsk 43 = .ok (.goto (-34), 3) := by decide +kernel
theorem dX9_nightToAsk_46 : decode cX9_nightToAsk 46 = .ok (.iload_n 3, 1) := by decide +kernel
theorem dX9_nightToAsk_47 : decode cX9_nightToAsk 47 = .ok (.ireturn, 1) := by decide +kernel
theorem dX9_mostAlike_0 : decode cX9_mostAlike 0 = .ok (.iconst 0, 1) := by decide +kernel
theorem dX9_mostAlike_1 : decode cX9_mostAlike 1 = .ok (.istore 4, 2) := by decide +kernel
theorem dX9_mostAlike_3 : decode cX9_mostAlike 3 = .ok (.iload 4, 2) := by decide +kernel
theorem dX9_mostAlike_5 : decode cX9_mostAlike 5 = .ok (.iconst 3, 1) := by decide +kernel
theorem dX9_mostAlike_6 : decode cX9_mostAlike 6 = .ok (.if_icmp .gt 17, 3) := by decide +kernel
theorem dX9_mostAlike_9 : decode cX9_mostAlike 9 = .ok (.aload_n 0, 1) := by decide +kernel
theorem dX9_mostAlike_10 : decode cX9_mostAlike 10 = .ok (.getfield 84, 3) := by decide +kernel
theorem dX9_mostAlike_13 : decode cX9_mostAlike 13 = .ok (.iload 4, 2) := by decide +kernel
theorem dX9_mostAlike_15 : decode cX9_mostAlike 15 = .ok (.iconst 0, 1) := by decide +kernel
theorem dX9_mostAlike_16 : decode cX9_mostAlike 16 = .ok (.iastore, 1) := by decide +kernel
theorem dX9_mostAlike_17 : decode cX9_mostAlike 17 = .ok (.iinc 4 1, 3) := by decide +kernel
theorem dX9_mostAlike_20 : decode cX9_mostAlike 20 = .ok (.goto (-17), 3) := by decide +kernel
theorem dX9_mostAlike_23 : decode cX9_mostAlike 23 = .ok (.aload_n 0, 1) := by decide +kernel
theorem dX9_mostAlike_24 : decode cX9_mostAlike 24 = .ok (.getfield 39, 3) := by decide +kernel
theorem dX9_mostAlike_27 : decode cX9_mostAlike 27 = .ok (.iload_n 1, 1) := by decide +kernel
theorem dX9_mostAlike_28 : decode cX9_mostAlike 28 = .ok (.invokevirtual 178, 3) := by decide +kernel
theorem dX9_mostAlike_31 : decode cX9_mostAlike 31 = .ok (.istore 4, 2) := by decide +kernel
theorem dX9_mostAlike_33 : decode cX9_mostAlike 33 = .ok (.iconst 0, 1) := by decide +kernel
theorem dX9_mostAlike_34 : decode cX9_mostAlike 34 = .ok (.istore 5, 2) := by decide +kernel
theorem dX9_mostAlike_36 : decode cX9_mostAlike 36 = .ok (.iconst 0, 1) := by decide +kernel
theorem dX9_mostAlike_37 : decode cX9_mostAlike 37 = .ok (.istore 6, 2) := by decide +kernel
theorem dX9_mostAlike_39 : decode cX9_mostAlike 39 = .ok (.iload 6, 2) := by decide +kernel
theorem dX9_mostAlike_41 : decode cX9_mostAlike 41 = .ok (.bipush 6, 2) := by decide +kernel
theorem dX9_mostAlike_43 : decode cX9_mostAlike 43 = .ok (.if_icmp .ge 83, 3) := by decide +kernel
theorem dX9_mostAlike_46 : decode cX9_mostAlike 46 = .ok (.iload_n 3, 1) := by decide +kernel
theorem dX9_mostAlike_47 : decode cX9_mostAlike 47 = .ok (.iload 6, 2) := by decide +kernel
theorem dX9_mostAlike_49 : decode cX9_mostAlike 49 = .ok (.ishr, 1) := by decide +kernel
theorem dX9_mostAlike_50 : decode cX9_mostAlike 50 = .ok (.iconst 1, 1) := by decide +kernel
theorem dX9_mostAlike_51 : decode cX9_mostAlike 51 = .ok (.iand, 1) := by decide +kernel
theorem dX9_mostAlike_52 : decode cX9_mostAlike 52 = .ok (.iconst 1, 1) := by decide +kernel
theorem dX9_mostAlike_53 : decode cX9_mostAlike 53 = .ok (.if_icmp .ne 67, 3) := by decide +kernel
theorem dX9_mostAlike_56 : decode cX9_mostAlike 56 = .ok (.aload_n 0, 1) := by decide +kernel
theorem dX9_mostAlike_57 : decode cX9_mostAlike 57 = .ok (.iload_n 2, 1) := by decide +kernel
theorem dX9_mostAlike_58 : decode cX9_mostAlike 58 = .ok (.iload 6, 2) := by decide +kernel
theorem dX9_mostAlike_60 : decode cX9_mostAlike 60 = .ok (.invokevirtual 406, 3) := by decide +kernel
theorem dX9_mostAlike_63 : decode cX9_mostAlike 63 = .ok (.aload_n 0, 1) := by decide +kernel
theorem dX9_mostAlike_64 : decode cX9_mostAlike 64 = .ok (.getfield 55, 3) := by decide +kernel
theorem dX9_mostAlike_67 : decode cX9_mostAlike 67 = .ok (.iload_n 1, 1) := by decide +kernel
theorem dX9_mostAlike_68 : decode cX9_mostAlike 68 = .ok (.aload_n 0, 1) := by decide +kernel
theorem dX9_mostAlike_69 : decode cX9_mostAlike 69 = .ok (.getfield 74, 3) := by decide +kernel
theorem dX9_mostAlike_72 : decode cX9_mostAlike 72 = .ok (.iload 4, 2) := by decide +kernel
theorem dX9_mostAlike_74 : decode cX9_mostAlike 74 = .ok (.iconst (-1), 1) := by decide +kernel
theorem dX9_mostAlike_75 : decode cX9_mostAlike 75 = .ok (.invokevirtual 252, 3) := by decide +kernel
theorem dX9_mostAlike_78 : decode cX9_mostAlike 78 = .ok (.iconst 1, 1) := by decide +kernel
theorem dX9_mostAlike_79 : decode cX9_mostAlike 79 = .ok (.iadd, 1) := by decide +kernel
theorem dX9_mostAlike_80 : decode cX9_mostAlike 80 = .ok (.istore 7, 2) := by decide +kernel
theorem dX9_mostAlike_82 : decode cX9_mostAlike 82 = .ok (.iload 7, 2) := by decide +kernel
theorem dX9_mostAlike_84 : decode cX9_mostAlike 84 = .ok (.aload_n 0, 1) := by decide +kernel
theorem dX9_mostAlike_85 : decode cX9_mostAlike 85 = .ok (.getfield 84, 3) := by decide +kernel
theorem dX9_mostAlike_88 : decode cX9_mostAlike 88 = .ok (.arraylength, 1) := by decide +kernel
theorem dX9_mostAlike_89 : decode cX9_mostAlike 89 = .ok (.invokestatic 95, 3) := by decide +kernel
theorem dX9_mostAlike_92 : decode cX9_mostAlike 92 = .ok (.ifCond .eq 28, 3) := by decide +kernel
theorem dX9_mostAlike_95 : decode cX9_mostAlike 95 = .ok (.aload_n 0, 1) := by decide +kernel
theorem dX9_mostAlike_96 : decode cX9_mostAlike 96 = .ok (.getfield 84, 3) := by decide +kernel
theorem dX9_mostAlike_99 : decode cX9_mostAlike 99 = .ok (.iload 7, 2) := by decide +kernel
theorem dX9_mostAlike_101 : decode cX9_mostAlike 101 = .ok (.dup2, 1) := by decide +kernel
theorem dX9_mostAlike_102 : decode cX9_mostAlike 102 = .ok (.iaload, 1) := by decide +kernel
theorem dX9_mostAlike_103 : decode cX9_mostAlike 103 = .ok (.iconst 1, 1) := by decide +kernel
theorem dX9_mostAlike_104 : decode cX9_mostAlike 104 = .ok (.iadd, 1) := by decide +kernel
theorem dX9_mostAlike_105 : decode cX9_mostAlike 105 = .ok (.iastore, 1) := by decide +kernel
theorem dX9_mostAlike_106 : decode cX9_mostAlike 106 = .ok (.iload 5, 2) := by decide +kernel
theorem dX9_mostAlike_108 : decode cX9_mostAlike 108 = .ok (.aload_n 0, 1) := by decide +kernel
theorem dX9_mostAlike_109 : decode cX9_mostAlike 109 = .ok (.getfield 84, 3) := by decide +kernel
theorem dX9_mostAlike_112 : decode cX9_mostAlike 112 = .ok (.iload 7, 2) := by decide +kernel
theorem dX9_mostAlike_114 : decode cX9_mostAlike 114 = .ok (.iaload, 1) := by decide +kernel
theorem dX9_mostAlike_115 : decode cX9_mostAlike 115 = .ok (.invokestatic 412, 3) := by decide +kernel
theorem dX9_mostAlike_118 : decode cX9_mostAlike 118 = .ok (.istore 5, 2) := by decide +kernel
theorem dX9_mostAlike_120 : decode cX9_mostAlike 120 = .ok (.iinc 6 1, 3) := by decide +kernel
theorem dX9_mostAlike_123 : decode cX9_mostAlike 123 = .ok (.goto (-84), 3) := by decide +kernel
theorem dX9_mostAlike_126 : decode cX9_mostAlike 126 = .ok (.iload 5, 2) := by decide +kernel
theorem dX9_mostAlike_128 : decode cX9_mostAlike 128 = .ok (.ireturn, 1) := by decide +kernel
theorem dX9_drawOrders_0 : decode cX9_drawOrders 0 = .ok (.iload_n 1, 1) := by decide +kernel
theorem dX9_drawOrders_1 : decode cX9_drawOrders 1 = .ok (.istore_n 2, 1) := by decide +kernel
theorem dX9_drawOrders_2 : decode cX9_drawOrders 2 = .ok (.iconst 0, 1) := by decide +kernel
theorem dX9_drawOrders_3 : decode cX9_drawOrders 3 = .ok (.istore_n 3, 1) := by decide +kernel
theorem dX9_drawOrders_4 : decode cX9_drawOrders 4 = .ok (.iload_n 3, 1) := by decide +kernel
theorem dX9_drawOrders_5 : decode cX9_drawOrders 5 = .ok (.aload_n 0, 1) := by decide +kernel
theorem dX9_drawOrders_6 : decode cX9_drawOrders 6 = .ok (.getfield 18, 3) := by decide +kernel
theorem dX9_drawOrders_9 : decode cX9_drawOrders 9 = .ok (.getfield 202, 3) := by decide +kernel
theorem dX9_drawOrders_12 : decode cX9_drawOrders 12 = .ok (.if_icmp .ge 32, 3) := by decide +kernel
theorem dX9_drawOrders_15 : decode cX9_drawOrders 15 = .ok (.ldc_w 415, 3) := by decide +kernel
theorem dX9_drawOrders_18 : decode cX9_drawOrders 18 = .ok (.iload_n 2, 1) := by decide +kernel
theorem dX9_drawOrders_19 : decode cX9_drawOrders 19 = .ok (.imul, 1) := by decide +kernel
theorem dX9_drawOrders_20 : decode cX9_drawOrders 20 = .ok (.sipush 12345, 3) := by decide +kernel
theorem dX9_drawOrders_23 : decode cX9_drawOrders 23 = .ok (.iadd, 1) := by decide +kernel
theorem dX9_drawOrders_24 : decode cX9_drawOrders 24 = .ok (.istore_n 2, 1) := by decide +kernel
theorem dX9_drawOrders_25 : decode cX9_drawOrders 25 = .ok (.aload_n 0, 1) := by decide +kernel
theorem dX9_drawOrders_26 : decode cX9_drawOrders 26 = .ok (.getfield 74, 3) := by decide +kernel
theorem dX9_drawOrders_29 : decode cX9_drawOrders 29 = .ok (.iload_n 3, 1) := by decide +kernel
theorem dX9_drawOrders_30 : decode cX9_drawOrders 30 = .ok (.iload_n 2, 1) := by decide +kernel
theorem dX9_drawOrders_31 : decode cX9_drawOrders 31 = .ok (.bipush 16, 2) := by decide +kernel
theorem dX9_drawOrders_33 : decode cX9_drawOrders 33 = .ok (.iushr, 1) := by decide +kernel
theorem dX9_drawOrders_34 : decode cX9_drawOrders 34 = .ok (.bipush 6, 2) := by decide +kernel
theorem dX9_drawOrders_36 : decode cX9_drawOrders 36 = .ok (.irem, 1) := by decide +kernel
theorem dX9_drawOrders_37 : decode cX9_drawOrders 37 = .ok (.iastore, 1) := by decide +kernel
theorem dX9_drawOrders_38 : decode cX9_drawOrders 38 = .ok (.iinc 3 1, 3) := by decide +kernel
theorem dX9_drawOrders_41 : decode cX9_drawOrders 41 = .ok (.goto (-37), 3) := by decide +kernel
theorem dX9_drawOrders_44 : decode cX9_drawOrders 44 = .ok (.return_, 1) := by decide +kernel
theorem dX10_init_0 : decode cX10_init 0 = .ok (.aload_n 0, 1) := by decide +kernel
theorem dX10_init_1 : decode cX10_init 1 = .ok (.invokespecial 1, 3) := by decide +kernel
theorem dX10_init_4 : decode cX10_init 4 = .ok (.aload_n 0, 1) := by decide +kernel
theorem dX10_init_5 : decode cX10_init 5 = .ok (.iconst 2, 1) := by decide +kernel
theorem dX10_init_6 : decode cX10_init 6 = .ok (.newarray .int, 2) := by decide +kernel
theorem dX10_init_8 : decode cX10_init 8 = .ok (.putfield 7, 3) := by decide +kernel
theorem dX10_init_11 : decode cX10_init 11 = .ok (.aload_n 0, 1) := by decide +kernel
theorem dX10_init_12 : decode cX10_init 12 = .ok (.bipush 94, 2) := by decide +kernel
theorem dX10_init_14 : decode cX10_init 14 = .ok (.newarray .int, 2) := by decide +kernel
theorem dX10_init_16 : decode cX10_init 16 = .ok (.putfield 13, 3) := by decide +kernel
theorem dX10_init_19 : decode cX10_init 19 = .ok (.aload_n 0, 1) := by decide +kernel
theorem dX10_init_20 : decode cX10_init 20 = .ok (.bipush 9, 2) := by decide +kernel
theorem dX10_init_22 : decode cX10_init 22 = .ok (.newarray .int, 2) := by decide +kernel
theorem dX10_init_24 : decode cX10_init 24 = .ok (.putfield 16, 3) := by decide +kernel
theorem dX10_init_27 : decode cX10_init 27 = .ok (.aload_n 0, 1) := by decide +kernel
theorem dX10_init_28 : decode cX10_init 28 = .ok (.bipush 9, 2) := by decide +kernel
theorem dX10_init_30 : decode cX10_init 30 = .ok (.newarray .int, 2) := by decide +kernel
theorem dX10_init_32 : decode cX10_init 32 = .ok (.putfield 19, 3) := by decide +kernel
theorem dX10_init_35 : decode cX10_init 35 = .ok (.aload_n 0, 1) := by decide +kernel
theorem dX10_init_36 : decode cX10_init 36 = .ok (.bipush 27, 2) := by decide +kernel
theorem dX10_init_38 : decode cX10_init 38 = .ok (.newarray .int, 2) := by decide +kernel
theorem dX10_init_40 : decode cX10_init 40 = .ok (.putfield 22, 3) := by decide +kernel
theorem dX10_init_43 : decode cX10_init 43 = .ok (.aload_n 0, 1) := by decide +kernel
theorem dX10_init_44 : decode cX10_init 44 = .ok (.bipush 11, 2) := by decide +kernel
theorem dX10_init_46 : decode cX10_init 46 = .ok (.newarray .int, 2) := by decide +kernel
theorem dX10_init_48 : decode cX10_init 48 = .ok (.putfield 25, 3) := by decide +kernel
theorem dX10_init_51 : decode cX10_init 51 = .ok (.aload_n 0, 1) := by decide +kernel
theorem dX10_init_52 : decode cX10_init 52 = .ok (.bipush 11, 2) := by decide +kernel
theorem dX10_init_54 : decode cX10_init 54 = .ok (.newarray .int, 2) := by decide +kernel
theorem dX10_init_56 : decode cX10_init 56 = .ok (.putfield 28, 3) := by decide +kernel
theorem dX10_init_59 : decode cX10_init 59 = .ok (.aload_n 0, 1) := by decide +kernel
theorem dX10_init_60 : decode cX10_init 60 = .ok (.bipush 11, 2) := by decide +kernel
theorem dX10_init_62 : decode cX10_init 62 = .ok (.newarray .int, 2) := by decide +kernel
theorem dX10_init_64 : decode cX10_init 64 = .ok (.putfield 31, 3) := by decide +kernel
theorem dX10_init_67 : decode cX10_init 67 = .ok (.aload_n 0, 1) := by decide +kernel
theorem dX10_init_68 : decode cX10_init 68 = .ok (.iconst 3, 1) := by decide +kernel
theorem dX10_init_69 : decode cX10_init 69 = .ok (.newarray .int, 2) := by decide +kernel
theorem dX10_init_71 : decode cX10_init 71 = .ok (.putfield 34, 3) := by decide +kernel
theorem dX10_init_74 : decode cX10_init 74 = .ok (.aload_n 0, 1) := by decide +kernel
theorem dX10_init_75 : decode cX10_init 75 = .ok (.bipush 8, 2) := by decide +kernel
theorem dX10_init_77 : decode cX10_init 77 = .ok (.newarray .int, 2) := by decide +kernel
theorem dX10_init_79 : decode cX10_init 79 = .ok (.putfield 37, 3) := by decide +kernel
theorem dX10_init_82 : decode cX10_init 82 = .ok (.aload_n 0, 1) := by decide +kernel
theorem dX10_init_83 : decode cX10_init 83 = .ok (.bipush 8, 2) := by decide +kernel
theorem dX10_init_85 : decode cX10_init 85 = .ok (.newarray .int, 2) := by decide +kernel
theorem dX10_init_87 : decode cX10_init 87 = .ok (.putfield 40, 3) := by decide +kernel
theorem dX10_init_90 : decode cX10_init 90 = .ok (.aload_n 0, 1) := by decide +kernel
theorem dX10_init_91 : decode cX10_init 91 = .ok (.bipush 8, 2) := by decide +kernel
theorem dX10_init_93 : decode cX10_init 93 = .ok (.newarray .int, 2) := by decide +kernel
theorem dX10_init_95 : decode cX10_init 95 = .ok (.putfield 43, 3) := by decide +kernel
theorem dX10_init_98 : decode cX10_init 98 = .ok (.aload_n 0, 1) := by decide +kernel
theorem dX10_init_99 : decode cX10_init 99 = .ok (.bipush 6, 2) := by decide +kernel
theorem dX10_init_101 : decode cX10_init 101 = .ok (.newarray .int, 2) := by decide +kernel
theorem dX10_init_103 : decode cX10_init 103 = .ok (.putfield 46, 3) := by decide +kernel
theorem dX10_init_106 : decode cX10_init 106 = .ok (.aload_n 0, 1) := by decide +kernel
theorem dX10_init_107 : decode cX10_init 107 = .ok (.bipush 8, 2) := by decide +kernel
theorem dX10_init_109 : decode cX10_init 109 = .ok (.newarray .int, 2) := by decide +kernel
theorem dX10_init_111 : decode cX10_init 111 = .ok (.putfield 49, 3) := by decide +kernel
theorem dX10_init_114 : decode cX10_init 114 = .ok (.aload_n 0, 1) := by decide +kernel
theorem dX10_init_115 : decode cX10_init 115 = .ok (.bipush 8, 2) := by decide +kernel
theorem dX10_init_117 : decode cX10_init 117 = .ok (.newarray .int, 2) := by decide +kernel
theorem dX10_init_119 : decode cX10_init 119 = .ok (.putfield 52, 3) := by decide +kernel
theorem dX10_init_122 : decode cX10_init 122 = .ok (.aload_n 0, 1) := by decide +kernel
theorem dX10_init_123 : decode cX10_init 123 = .ok (.bipush 80, 2) := by decide +kernel
theorem dX10_init_125 : decode cX10_init 125 = .ok (.newarray .int, 2) := by decide +kernel
theorem dX10_init_127 : decode cX10_init 127 = .ok (.putfield 55, 3) := by decide +kernel
theorem dX10_init_130 : decode cX10_init 130 = .ok (.aload_n 0, 1) := by decide +kernel
theorem dX10_init_131 : decode cX10_init 131 = .ok (.bipush 80, 2) := by decide +kernel
theorem dX10_init_133 : decode cX10_init 133 = .ok (.newarray .int, 2) := by decide +kernel
theorem dX10_init_135 : decode cX10_init 135 = .ok (.putfield 58, 3) := by decide +kernel
theorem dX10_init_138 : decode cX10_init 138 = .ok (.aload_n 0, 1) := by decide +kernel
theorem dX10_init_139 : decode cX10_init 139 = .ok (.bipush 10, 2) := by decide +kernel
theorem dX10_init_141 : decode cX10_init 141 = .ok (.newarray .int, 2) := by decide +kernel
theorem dX10_init_143 : decode cX10_init 143 = .ok (.putfield 61, 3) := by decide +kernel
theorem dX10_init_146 : decode cX10_init 146 = .ok (.aload_n 0, 1) := by decide +kernel
theorem dX10_init_147 : decode cX10_init 147 = .ok (.bipush 10, 2) := by decide +kernel
theorem dX10_init_149 : decode cX10_init 149 = .ok (.newarray .int, 2) := by decide +kernel
theorem dX10_init_151 : decode cX10_init 151 = .ok (.putfield 64, 3) := by decide +kernel
theorem dX10_init_154 : decode cX10_init 154 = .ok (.aload_n 0, 1) := by decide +kernel
theorem dX10_init_155 : decode cX10_init 155 = .ok (.bipush 10, 2) := by decide +kernel
theorem dX10_init_157 : decode cX10_init 157 = .ok (.newarray .int, 2) := by decide +kernel
theorem dX10_init_159 : decode cX10_init 159 = .ok (.putfield 67, 3) := by decide +kernel
theorem dX10_init_162 : decode cX10_init 162 = .ok (.aload_n 0, 1) := by decide +kernel
theorem dX10_init_163 : decode cX10_init 163 = .ok (.bipush 10, 2) := by decide +kernel
theorem dX10_init_165 : decode cX10_init 165 = .ok (.newarray .int, 2) := by decide +kernel
theorem dX10_init_167 : decode cX10_init 167 = .ok (.putfield 70, 3) := by decide +kernel
theorem dX10_init_170 : decode cX10_init 170 = .ok (.aload_n 0, 1) := by decide +kernel
theorem dX10_init_171 : decode cX10_init 171 = .ok (.iconst 2, 1) := by decide +kernel
theorem dX10_init_172 : decode cX10_init 172 = .ok (.newarray .int, 2) := by decide +kernel
theorem dX10_init_174 : decode cX10_init 174 = .ok (.putfield 73, 3) := by decide +kernel
theorem dX10_init_177 : decode cX10_init 177 = .ok (.aload_n 0, 1) := by decide +kernel
theorem dX10_init_178 : decode cX10_init 178 = .ok (.bipush 8, 2) := by decide +kernel
theorem dX10_init_180 : decode cX10_init 180 = .ok (.newarray .int, 2) := by decide +kernel
theorem dX10_init_182 : decode cX10_init 182 = .ok (.putfield 76, 3) := by decide +kernel
theorem dX10_init_185 : decode cX10_init 185 = .ok (.aload_n 0, 1) := by decide +kernel
theorem dX10_init_186 : decode cX10_init 186 = .ok (.bipush 8, 2) := by decide +kernel
theorem dX10_init_188 : decode cX10_init 188 = .ok (.newarray .int, 2) := by decide +kernel
theorem dX10_init_190 : decode cX10_init 190 = .ok (.putfield 79, 3) := by decide +kernel
theorem dX10_init_193 : decode cX10_init 193 = .ok (.aload_n 0, 1) := by decide +kernel
theorem dX10_init_194 : decode cX10_init 194 = .ok (.bipush 60, 2) := by decide +kernel
theorem dX10_init_196 : decode cX10_init 196 = .ok (.newarray .int, 2) := by decide +kernel
theorem dX10_init_198 : decode cX10_init 198 = .ok (.putfield 82, 3) := by decide +kernel
theorem dX10_init_201 : decode cX10_init 201 = .ok (.aload_n 0, 1) := by decide +kernel
theorem dX10_init_202 : decode cX10_init 202 = .ok (.bipush 10, 2) := by decide +kernel
theorem dX10_init_204 : decode cX10_init 204 = .ok (.newarray .int, 2) := by decide +kernel
theorem dX10_init_206 : decode cX10_init 206 = .ok (.putfield 85, 3) := by decide +kernel
theorem dX10_init_209 : decode cX10_init 209 = .ok (.aload_n 0, 1) := by decide +kernel
theorem dX10_init_210 : decode cX10_init 210 = .ok (.iconst 4, 1) := by decide +kernel
theorem dX10_init_211 : decode cX10_init 211 = .ok (.newarray .boolean, 2) := by decide +kernel
theorem dX10_init_213 : decode cX10_init 213 = .ok (.putfield 88, 3) := by decide +kernel
theorem dX10_init_216 : decode cX10_init 216 = .ok (.aload_n 0, 1) := by decide +kernel
theorem dX10_init_217 : decode cX10_init 217 = .ok (.iconst 4, 1) := by decide +kernel
theorem dX10_init_218 : decode cX10_init 218 = .ok (.newarray .int, 2) := by decide +kernel
theorem dX10_init_220 : decode cX10_init 220 = .ok (.putfield 92, 3) := by decide +kernel
theorem dX10_init_223 : decode cX10_init 223 = .ok (.aload_n 0, 1) := by decide +kernel
theorem dX10_init_224 : decode cX10_init 224 = .ok (.iconst 4, 1) := by decide +kernel
theorem dX10_init_225 : decode cX10_init 225 = .ok (.newarray .int, 2) := by decide +kernel
theorem dX10_init_227 : decode cX10_init 227 = .ok (.putfield 95, 3) := by decide +kernel
theorem dX10_init_230 : decode cX10_init 230 = .ok (.aload_n 0, 1) := by decide +kernel
theorem dX10_init_231 : decode cX10_init 231 = .ok (.sipush 240, 3) := by decide +kernel
theorem dX10_init_234 : decode cX10_init 234 = .ok (.newarray .int, 2) := by decide +kernel
theorem dX10_init_236 : decode cX10_init 236 = .ok (.putfield 98, 3) := by decide +kernel
theorem dX10_init_239 : decode cX10_init 239 = .ok (.aload_n 0, 1) := by decide +kernel
theorem dX10_init_240 : decode cX10_init 240 = .ok (.bipush 60, 2) := by decide +kernel
theorem dX10_init_242 : decode cX10_init 242 = .ok (.newarray .int, 2) := by decide +kernel
theorem dX10_init_244 : decode cX10_init 244 = .ok (.putfield 101, 3) := by decide +kernel
theorem dX10_init_247 : decode cX10_init 247 = .ok (.aload_n 0, 1) := by decide +kernel
theorem dX10_init_248 : decode cX10_init 248 = .ok (.getfield 34, 3) := by decide +kernel
theorem dX10_init_251 : decode cX10_init 251 = .ok (.iconst 0, 1) := by decide +kernel
theorem dX10_init_252 : decode cX10_init 252 = .ok (.iconst 3, 1) := by decide +kernel
theorem dX10_init_253 : decode cX10_init 253 = .ok (.iastore, 1) := by decide +kernel
theorem dX10_init_254 : decode cX10_init 254 = .ok (.aload_n 0, 1) := by decide +kernel
theorem dX10_init_255 : decode cX10_init 255 = .ok (.getfield 34, 3) := by decide +kernel
theorem dX10_init_258 : decode cX10_init 258 = .ok (.iconst 1, 1) := by decide +kernel
theorem dX10_init_259 : decode cX10_init 259 = .ok (.iconst 2, 1) := by decide +kernel
theorem dX10_init_260 : decode cX10_init 260 = .ok (.iastore, 1) := by decide +kernel
theorem dX10_init_261 : decode cX10_init 261 = .ok (.aload_n 0, 1) := by decide +kernel
theorem dX10_init_262 : decode cX10_init 262 = .ok (.getfield 34, 3) := by decide +kernel
theorem dX10_init_265 : decode cX10_init 265 = .ok (.iconst 2, 1) := by decide +kernel
theorem dX10_init_266 : decode cX10_init 266 = .ok (.iconst 1, 1) := by decide +kernel
theorem dX10_init_267 : decode cX10_init 267 = .ok (.iastore, 1) := by decide +kernel
theorem dX10_init_268 : decode cX10_init 268 = .ok (.return_, 1) := by decide +kernel
theorem dX10_in_0 : decode cX10_in 0 = .ok (.iload_n 0, 1) := by decide +kernel
theorem dX10_in_1 : decode cX10_in 1 = .ok (.iload_n 1, 1) := by decide +kernel
theorem dX10_in_2 : decode cX10_in 2 = .ok (.if_icmp .lt 12, 3) := by decide +kernel
theorem dX10_in_5 : decode cX10_in 5 = .ok (.iload_n 0, 1) := by decide +kernel
theorem dX10_in_6 : decode cX10_in 6 = .ok (.iload_n 2, 1) := by decide +kernel
theorem dX10_in_7 : decode cX10_in 7 = .ok (.if_icmp .gt 7, 3) := by decide +kernel
theorem dX10_in_10 : decode cX10_in 10 = .ok (.iconst 1, 1) := by decide +kernel
theorem dX10_in_11 : decode cX10_in 11 = .ok (.goto 4, 3) := by decide +kernel
theorem dX10_in_14 : decode cX10_in 14 = .ok (.iconst 0, 1) := by decide +kernel
theorem dX10_in_15 : decode cX10_in 15 = .ok (.ireturn, 1) := by decide +kernel
theorem dX10_isIn_0 : decode cX10_isIn 0 = .ok (.iload_n 0, 1) := by decide +kernel
theorem dX10_isIn_1 : decode cX10_isIn 1 = .ok (.iload_n 1, 1) := by decide +kernel
theorem dX10_isIn_2 : decode cX10_isIn 2 = .ok (.ishr, 1) := by decide +kernel
theorem dX10_isIn_3 : decode cX10_isIn 3 = .ok (.iconst 1, 1) := by decide +kernel
theorem dX10_isIn_4 : decode cX10_isIn 4 = .ok (.iand, 1) := by decide +kernel
theorem dX10_isIn_5 : decode cX10_isIn 5 = .ok (.iconst 1, 1) := by decide +kernel
theorem dX10_isIn_6 : decode cX10_isIn 6 = .ok (.if_icmp .ne 7, 3) := by decide +kernel
theorem dX10_isIn_9 : decode cX10_isIn 9 = .ok (.iconst 1, 1) := by decide +kernel
theorem dX10_isIn_10 : decode cX10_isIn 10 = .ok (.goto 4, 3) := by decide +kernel
theorem dX10_isIn_13 : decode cX10_isIn 13 = .ok (.iconst 0, 1) := by decide +kernel
theorem dX10_isIn_14 : decode cX10_isIn 14 = .ok (.ireturn, 1) := by decide +kernel
theorem dX10_no_0 : decode cX10_no 0 = .ok (.ldc2_w 104, 3) := by decide +kernel
theorem dX10_no_3 : decode cX10_no 3 = .ok (.iload_n 0, 1) := by decide +kernel
theorem dX10_no_4 : decode cX10_no 4 = .ok (.i2l, 1) := by decide +kernel
theorem dX10_no_5 : decode cX10_no 5 = .ok (.lsub, 1) := by decide +kernel
theorem dX10_no_6 : decode cX10_no 6 = .ok (.lreturn, 1) := by decide +kernel
theorem dX10_lowest_0 : decode cX10_lowest 0 = .ok (.lload_n 0, 1) := by decide +kernel
theorem dX10_lowest_1 : decode cX10_lowest 1 = .ok (.lstore 5, 2) := by decide +kernel
theorem dX10_lowest_3 : decode cX10_lowest 3 = .ok (.lload_n 2, 1) := by decide +kernel
theorem dX10_lowest_4 : decode cX10_lowest 4 = .ok (.lstore 7, 2) := by decide +kernel
theorem dX10_lowest_6 : decode cX10_lowest 6 = .ok (.lload 7, 2) := by decide +kernel
theorem dX10_lowest_8 : decode cX10_lowest 8 = .ok (.lconst 0, 1) := by decide +kernel
theorem dX10_lowest_9 : decode cX10_lowest 9 = .ok (.lcmp, 1) := by decide +kernel
theorem dX10_lowest_10 : decode cX10_lowest 10 = .ok (.ifCond .eq 21, 3) := by decide +kernel
theorem dX10_lowest_13 : decode cX10_lowest 13 = .ok (.lload 5, 2) := by decide +kernel
theorem dX10_lowest_15 : decode cX10_lowest 15 = .ok (.lload 7, 2) := by decide +kernel
theorem dX10_lowest_17 : decode cX10_lowest 17 = .ok (.lrem, 1) := by decide +kernel
theorem dX10_lowest_18 : decode cX10_lowest 18 = .ok (.lstore 9, 2) := by decide +kernel
theorem dX10_lowest_20 : decode cX10_lowest 20 = .ok (.lload 7, 2) := by decide +kernel
theorem dX10_lowest_22 : decode cX10_lowest 22 = .ok (.lstore 5, 2) := by decide +kernel
theorem dX10_lowest_24 : decode cX10_lowest 24 = .ok (.lload 9, 2) := by decide +kernel
theorem dX10_lowest_26 : decode cX10_lowest 26 = .ok (.lstore 7, 2) := by decide +kernel
theorem dX10_lowest_28 : decode cX10_lowest 28 = .ok (.goto (-22), 3) := by decide +kernel
theorem dX10_lowest_31 : decode cX10_lowest 31 = .ok (.iload 4, 2) := by decide +kernel
theorem dX10_lowest_33 : decode cX10_lowest 33 = .ok (.ifCond .ne 10, 3) := by decide +kernel
theorem dX10_lowest_36 : decode cX10_lowest 36 = .ok (.lload_n 0, 1) := by decide +kernel
theorem dX10_lowest_37 : decode cX10_lowest 37 = .ok (.lload 5, 2) := by decide +kernel
theorem dX10_lowest_39 : decode cX10_lowest 39 = .ok (.ldiv, 1) := by decide +kernel
theorem dX10_lowest_40 : decode cX10_lowest 40 = .ok (.goto 7, 3) := by decide +kernel
theorem dX10_lowest_43 : decode cX10_lowest 43 = .ok (.lload_n 2, 1) := by decide +kernel
theorem dX10_lowest_44 : decode cX10_lowest 44 = .ok (.lload 5, 2) := by decide +kernel
theorem dX10_lowest_46 : decode cX10_lowest 46 = .ok (.ldiv, 1) := by decide +kernel
theorem dX10_lowest_47 : decode cX10_lowest 47 = .ok (.lreturn, 1) := by decide +kernel
theorem dX10_isText_0 : decode cX10_isText 0 = .ok (.iload_n 0, 1) := by decide +kernel
theorem dX10_isText_1 : decode cX10_isText 1 = .ok (.iconst 0, 1) := by decide +kernel
theorem dX10_isText_2 : decode cX10_isText 2 = .ok (.iconst 1, 1) := by decide +kernel
theorem dX10_isText_3 : decode cX10_isText 3 = .ok (.invokestatic 106, 3) := by decide +kernel
theorem dX10_isText_6 : decode cX10_isText 6 = .ok (.ireturn, 1) := by decide +kernel
theorem dX10_isNight_0 : decode cX10_isNight 0 = .ok (.iload_n 0, 1) := by decide +kernel
theorem dX10_isNight_1 : decode cX10_isNight 1 = .ok (.iconst 0, 1) := by decide +kernel
theorem dX10_isNight_2 : decode cX10_isNight 2 = .ok (.bipush 9, 2) := by decide +kernel
theorem dX10_isNight_4 : decode cX10_isNight 4 = .ok (.invokestatic 106, 3) := by decide +kernel
theorem dX10_isNight_7 : decode cX10_isNight 7 = .ok (.ireturn, 1) := by decide +kernel
theorem dX10_type_0 : decode cX10_type 0 = .ok (.iload_n 1, 1) := by decide +kernel
theorem dX10_type_1 : decode cX10_type 1 = .ok (.invokestatic 110, 3) := by decide +kernel
theorem dX10_type_4 : decode cX10_type 4 = .ok (.ifCond .eq 14, 3) := by decide +kernel
theorem dX10_type_7 : decode cX10_type 7 = .ok (.iload_n 2, 1) := by decide +kernel
theorem dX10_type_8 : decode cX10_type 8 = .ok (.iconst 0, 1) := by decide +kernel
theorem dX10_type_9 : decode cX10_type 9 = .ok (.sipush 255, 3) := by decide +kernel
theorem dX10_type_12 : decode cX10_type 12 = .ok (.invokestatic 106, 3) := by decide +kernel
theorem dX10_type_15 : decode cX10_type 15 = .ok (.ifCond .ne 6, 3) := by decide +kernel
theorem dX10_type_18 : decode cX10_type 18 = .ok (.bipush (-2), 2) := by decide +kernel
theorem dX10_type_20 : decode cX10_type 20 = .ok (.ireturn, 1) := by decide +kernel
theorem dX10_type_21 : decode cX10_type 21 = .ok (.aload_n 0, 1) := by decide +kernel
theorem dX10_type_22 : decode cX10_type 22 = .ok (.getfield 7, 3) := by decide +kernel
theorem dX10_type_25 : decode cX10_type 25 = .ok (.iload_n 1, 1) := by decide +kernel
theorem dX10_type_26 : decode cX10_type 26 = .ok (.iaload, 1) := by decide +kernel
theorem dX10_type_27 : decode cX10_type 27 = .ok (.iload_n 1, 1) := by decide +kernel
theorem dX10_type_28 : decode cX10_type 28 = .ok (.ifCond .ne 8, 3) := by decide +kernel
theorem dX10_type_31 : decode cX10_type 31 = .ok (.bipush 47, 2) := by decide +kernel
theorem dX10_type_33 : decode cX10_type 33 = .ok (.goto 5, 3) := by decide +kernel
theorem dX10_type_36 : decode cX10_type 36 = .ok (.bipush 30, 2) := by decide +kernel
theorem dX10_type_38 : decode cX10_type 38 = .ok (.if_icmp .ne 6, 3) := by decide +kernel
theorem dX10_type_41 : decode cX10_type 41 = .ok (.bipush (-4), 2) := by decide +kernel
theorem dX10_type_43 : decode cX10_type 43 = .ok (.ireturn, 1) := by decide +kernel
theorem dX10_type_44 : decode cX10_type 44 = .ok (.aload_n 0, 1) := by decide +kernel
theorem dX10_type_45 : decode cX10_type 45 = .ok (.getfield 13, 3) := by decide +kernel
theorem dX10_type_48 : decode cX10_type 48 = .ok (.bipush 47, 2) := by decide +kernel
theorem dX10_type_50 : decode cX10_type 50 = .ok (.iload_n 1, 1) := by decide +kernel
theorem dX10_type_51 : decode cX10_type 51 = .ok (.imul, 1) := by decide +kernel
theorem dX10_type_52 : decode cX10_type 52 = .ok (.aload_n 0, 1) := by decide +kernel
theorem dX10_type_53 : decode cX10_type 53 = .ok (.getfield 7, 3) := by decide +kernel
theorem dX10_type_56 : decode cX10_type 56 = .ok (.iload_n 1, 1) := by decide +kernel
theorem dX10_type_57 : decode cX10_type 57 = .ok (.iaload, 1) := by decide +kernel
theorem dX10_type_58 : decode cX10_type 58 = .ok (.iadd, 1) := by decide +kernel
theorem dX10_type_59 : decode cX10_type 59 = .ok (.iload_n 2, 1) := by decide +kernel
theorem dX10_type_60 : decode cX10_type 60 = .ok (.iastore, 1) := by decide +kernel
theorem dX10_type_61 : decode cX10_type 61 = .ok (.aload_n 0, 1) := by decide +kernel
theorem dX10_type_62 : decode cX10_type 62 = .ok (.getfield 7, 3) := by decide +kernel
theorem dX10_type_65 : decode cX10_type 65 = .ok (.iload_n 1, 1) := by decide +kernel
theorem dX10_type_66 : decode cX10_type 66 = .ok (.dup2, 1) := by decide +kernel
theorem dX10_type_67 : decode cX10_type 67 = .ok (.iaload, 1) := by decide +kernel
theorem dX10_type_68 : decode cX10_type 68 = .ok (.iconst 1, 1) := by decide +kernel
theorem dX10_type_69 : decode cX10_type 69 = .ok (.iadd, 1) := by decide +kernel
theorem dX10_type_70 : decode cX10_type 70 = .ok (.iastore, 1) := by decide +kernel
theorem dX10_type_71 : decode cX10_type 71 = .ok (.aload_n 0, 1) := by decide +kernel
theorem dX10_type_72 : decode cX10_type 72 = .ok (.getfield 7, 3) := by decide +kernel
theorem dX10_type_75 : decode cX10_type 75 = .ok (.iload_n 1, 1) := by decide +kernel
theorem dX10_type_76 : decode cX10_type 76 = .ok (.iaload, 1) := by decide +kernel
theorem dX10_type_77 : decode cX10_type 77 = .ok (.ireturn, 1) := by decide +kernel
theorem dX10_wipe_0 : decode cX10_wipe 0 = .ok (.iload_n 1, 1) := by decide +kernel
theorem dX10_wipe_1 : decode cX10_wipe 1 = .ok (.invokestatic 110, 3) := by decide +kernel
theorem dX10_wipe_4 : decode cX10_wipe 4 = .ok (.ifCond .ne 6, 3) := by decide +kernel
theorem dX10_wipe_7 : decode cX10_wipe 7 = .ok (.bipush (-2), 2) := by decide +kernel
theorem dX10_wipe_9 : decode cX10_wipe 9 = .ok (.ireturn, 1) := by decide +kernel
theorem dX10_wipe_10 : decode cX10_wipe 10 = .ok (.aload_n 0, 1) := by decide +kernel
theorem dX10_wipe_11 : decode cX10_wipe 11 = .ok (.getfield 7, 3) := by decide +kernel
theorem dX10_wipe_14 : decode cX10_wipe 14 = .ok (.iload_n 1, 1) := by decide +kernel
theorem dX10_wipe_15 : decode cX10_wipe 15 = .ok (.iaload, 1) := by decide +kernel
theorem dX10_wipe_16 : decode cX10_wipe 16 = .ok (.istore_n 2, 1) := by decide +kernel
theorem dX10_wipe_17 : decode cX10_wipe 17 = .ok (.aload_n 0, 1) := by decide +kernel
theorem dX10_wipe_18 : decode cX10_wipe 18 = .ok (.getfield 7, 3) := by decide +kernel
theorem dX10_wipe_21 : decode cX10_wipe 21 = .ok (.iload_n 1, 1) := by decide +kernel
theorem dX10_wipe_22 : decode cX10_wipe 22 = .ok (.iconst 0, 1) := by decide +kernel
theorem dX10_wipe_23 : decode cX10_wipe 23 = .ok (.iastore, 1) := by decide +kernel
theorem dX10_wipe_24 : decode cX10_wipe 24 = .ok (.iload_n 2, 1) := by decide +kernel
theorem dX10_wipe_25 : decode cX10_wipe 25 = .ok (.ireturn, 1) := by decide +kernel
theorem dX10_undo_0 : decode cX10_undo 0 = .ok (.iload_n 1, 1) := by decide +kernel
theorem dX10_undo_1 : decode cX10_undo 1 = .ok (.invokestatic 110, 3) := by decide +kernel
theorem dX10_undo_4 : decode cX10_undo 4 = .ok (.ifCond .ne 6, 3) := by decide +kernel
theorem dX10_undo_7 : decode cX10_undo 7 = .ok (.bipush (-2), 2) := by decide +kernel
theorem dX10_undo_9 : decode cX10_undo 9 = .ok (.ireturn, 1) := by decide +kernel
theorem dX10_undo_10 : decode cX10_undo 10 = .ok (.aload_n 0, 1) := by decide +kernel
theorem dX10_undo_11 : decode cX10_undo 11 = .ok (.getfield 7, 3) := by decide +kernel
theorem dX10_undo_14 : decode cX10_undo 14 = .ok (.iload_n 1, 1) := by decide +kernel
theorem dX10_undo_15 : decode cX10_undo 15 = .ok (.iaload, 1) := by decide +kernel
theorem dX10_undo_16 : decode cX10_undo 16 = .ok (.ifCond .ne 6, 3) := by decide +kernel
theorem dX10_undo_19 : decode cX10_undo 19 = .ok (.bipush (-3), 2) := by decide +kernel
theorem dX10_undo_21 : decode cX10_undo 21 = .ok (.ireturn, 1) := by decide +kernel
theorem dX10_undo_22 : decode cX10_undo 22 = .ok (.aload_n 0, 1) := by decide +kernel
theorem dX10_undo_23 : decode cX10_undo 23 = .ok (.getfield 7, 3) := by decide +kernel
theorem dX10_undo_26 : decode cX10_undo 26 = .ok (.iload_n 1, 1) := by decide +kernel
theorem dX10_undo_27 : decode cX10_undo 27 = .ok (.dup2, 1) := by decide +kernel
theorem dX10_undo_28 : decode cX10_undo 28 = .ok (.iaload, 1) := by decide +kernel
theorem dX10_undo_29 : decode cX10_undo 29 = .ok (.iconst 1, 1) := by decide +kernel
theorem dX10_undo_30 : decode cX10_undo 30 = .ok (.isub, 1) := by decide +kernel
theorem dX10_undo_31 : decode cX10_undo 31 = .ok (.iastore, 1) := by decide +kernel
theorem dX10_undo_32 : decode cX10_undo 32 = .ok (.aload_n 0, 1) := by decide +kernel
theorem dX10_undo_33 : decode cX10_undo 33 = .ok (.getfield 7, 3) := by decide +kernel
theorem dX10_undo_36 : decode cX10_undo 36 = .ok (.iload_n 1, 1) := by decide +kernel
theorem dX10_undo_37 : decode cX10_undo 37 = .ok (.iaload, 1) := by decide +kernel
theorem dX10_undo_38 : decode cX10_undo 38 = .ok (.ireturn, 1) := by decide +kernel
theorem dX10_byteAt_0 : decode cX10_byteAt 0 = .ok (.iload_n 2, 1) := by decide +kernel
theorem dX10_byteAt_1 : decode cX10_byteAt 1 = .ok (.aload_n 0, 1) := by decide +kernel
theorem dX10_byteAt_2 : decode cX10_byteAt 2 = .ok (.getfield 7, 3) := by decide +kernel
theorem dX10_byteAt_5 : decode cX10_byteAt 5 = .ok (.iload_n 1, 1) := by decide +kernel
theorem dX10_byteAt_6 : decode cX10_byteAt 6 = .ok (.iaload, 1) := by decide +kernel
theorem dX10_byteAt_7 : decode cX10_byteAt 7 = .ok (.if_icmp .ge 17, 3) := by decide +kernel
theorem dX10_byteAt_10 : decode cX10_byteAt 10 = .ok (.aload_n 0, 1) := by decide +kernel
theorem dX10_byteAt_11 : decode cX10_byteAt 11 = .ok (.getfield 13, 3) := by decide +kernel
theorem dX10_byteAt_14 : decode cX10_byteAt 14 = .ok (.bipush 47, 2) := by decide +kernel
theorem dX10_byteAt_16 : decode cX10_byteAt 16 = .ok (.iload_n 1, 1) := by decide +kernel
theorem dX10_byteAt_17 : decode cX10_byteAt 17 = .ok (.imul, 1) := by decide +kernel
theorem dX10_byteAt_18 : decode cX10_byteAt 18 = .ok (.iload_n 2, 1) := by decide +kernel
theorem dX10_byteAt_19 : decode cX10_byteAt 19 = .ok (.iadd, 1) := by decide +kernel
theorem dX10_byteAt_20 : decode cX10_byteAt 20 = .ok (.iaload, 1) := by decide +kernel
theorem dX10_byteAt_21 : decode cX10_byteAt 21 = .ok (.goto 4, 3) := by decide +kernel
theorem dX10_byteAt_24 : decode cX10_byteAt 24 = .ok (.iconst (-1), 1) := by decide +kernel
theorem dX10_byteAt_25 : decode cX10_byteAt 25 = .ok (.ireturn, 1) := by decide +kernel
theorem dX10_letterAt_0 : decode cX10_letterAt 0 = .ok (.aload_n 0, 1) := by decide +kernel
theorem dX10_letterAt_1 : decode cX10_letterAt 1 = .ok (.iload_n 1, 1) := by decide +kernel
theorem dX10_letterAt_2 : decode cX10_letterAt 2 = .ok (.iload_n 2, 1) := by decide +kernel
theorem dX10_letterAt_3 : decode cX10_letterAt 3 = .ok (.invokevirtual 114, 3) := by decide +kernel
theorem dX10_letterAt_6 : decode cX10_letterAt 6 = .ok (.bipush 97, 2) := by decide +kernel
theorem dX10_letterAt_8 : decode cX10_letterAt 8 = .ok (.isub, 1) := by decide +kernel
theorem dX10_letterAt_9 : decode cX10_letterAt 9 = .ok (.istore_n 3, 1) := by decide +kernel
theorem dX10_letterAt_10 : decode cX10_letterAt 10 = .ok (.iload_n 3, 1) := by decide +kernel
theorem dX10_letterAt_11 : decode cX10_letterAt 11 = .ok (.iconst 0, 1) := by decide +kernel
theorem dX10_letterAt_12 : decode cX10_letterAt 12 = .ok (.iconst 2, 1) := by decide +kernel
theorem dX10_letterAt_13 : decode cX10_letterAt 13 = .ok (.invokestatic 106, 3) := by decide +kernel
theorem dX10_letterAt_16 : decode cX10_letterAt 16 = .ok (.ifCond .eq 7, 3) := by decide +kernel
theorem dX10_letterAt_19 : decode cX10_letterAt 19 = .ok (.iload_n 3, 1) := by decide +kernel
theorem dX10_letterAt_20 : decode cX10_letterAt 20 = .ok (.goto 4, 3) := by decide +kernel
theorem dX10_letterAt_23 : decode cX10_letterAt 23 = .ok (.iconst (-1), 1) := by decide +kernel
theorem dX10_letterAt_24 : decode cX10_letterAt 24 = .ok (.ireturn, 1) := by decide +kernel
theorem dX10_readsMember_0 : decode cX10_readsMember 0 = .ok (.aload_n 0, 1) := by decide +kernel
theorem dX10_readsMember_1 : decode cX10_readsMember 1 = .ok (.iconst 0, 1) := by decide +kernel
theorem dX10_readsMember_2 : decode cX10_readsMember 2 = .ok (.iload_n 2, 1) := by decide +kernel
theorem dX10_readsMember_3 : decode cX10_readsMember 3 = .ok (.invokevirtual 114, 3) := by decide +kernel
theorem dX10_readsMember_6 : decode cX10_readsMember 6 = .ok (.istore_n 3, 1) := by decide +kernel
theorem dX10_readsMember_7 : decode cX10_readsMember 7 = .ok (.iload_n 3, 1) := by decide +kernel
theorem dX10_readsMember_8 : decode cX10_readsMember 8 = .ok (.bipush 115, 2) := by decide +kernel
theorem dX10_readsMember_10 : decode cX10_readsMember 10 = .ok (.if_icmp .ne 7, 3) := by decide +kernel
theorem dX10_readsMember_13 : decode cX10_readsMember 13 = .ok (.iconst 0, 1) := by decide +kernel
theorem dX10_readsMember_14 : decode cX10_readsMember 14 = .ok (.goto 24, 3) := by decide +kernel
theorem dX10_readsMember_17 : decode cX10_readsMember 17 = .ok (.iload_n 3, 1) := by decide +kernel
theorem dX10_readsMember_18 : decode cX10_readsMember 18 = .ok (.bipush 98, 2) := by decide +kernel
theorem dX10_readsMember_20 : decode cX10_readsMember 20 = .ok (.if_icmp .ne 7, 3) := by decide +kernel
theorem dX10_readsMember_23 : decode cX10_readsMember 23 = .ok (.iconst 1, 1) := by decide +kernel
theorem dX10_readsMember_24 : decode cX10_readsMember 24 = .ok (.goto 14, 3) := by decide +kernel
theorem dX10_readsMember_27 : decode cX10_readsMember 27 = .ok (.iload_n 3, 1) := by decide +kernel
theorem dX10_readsMember_28 : decode cX10_readsMember 28 = .ok (.bipush 100, 2) := by decide +kernel
theorem dX10_readsMember_30 : decode cX10_readsMember 30 = .ok (.if_icmp .ne 7, 3) := by decide +kernel
theorem dX10_readsMember_33 : decode cX10_readsMember 33 = .ok (.iconst 2, 1) := by decide +kernel
theorem dX10_readsMember_34 : decode cX10_readsMember 34 = .ok (.goto 4, 3) := by decide +kernel
theorem dX10_readsMember_37 : decode cX10_readsMember 37 = .ok (.iconst (-1), 1) := by decide +kernel
theorem dX10_readsMember_38 : decode cX10_readsMember 38 = .ok (.istore 4, 2) := by decide +kernel
theorem dX10_readsMember_40 : decode cX10_readsMember 40 = .ok (.aload_n 0, 1) := by decide +kernel
theorem dX10_readsMember_41 : decode cX10_readsMember 41 = .ok (.iconst 0, 1) := by decide +kernel
theorem dX10_readsMember_42 : decode cX10_readsMember 42 = .ok (.iload_n 2, 1) := by decide +kernel
theorem dX10_readsMember_43 : decode cX10_readsMember 43 = .ok (.iconst 1, 1) := by decide +kernel
theorem dX10_readsMember_44 : decode cX10_readsMember 44 = .ok (.iadd, 1) := by decide +kernel
theorem dX10_readsMember_45 : decode cX10_readsMember 45 = .ok (.invokevirtual 114, 3) := by decide +kernel
theorem dX10_readsMember_48 : decode cX10_readsMember 48 = .ok (.bipush 48, 2) := by decide +kernel
theorem dX10_readsMember_50 : decode cX10_readsMember 50 = .ok (.isub, 1) := by decide +kernel
theorem dX10_readsMember_51 : decode cX10_readsMember 51 = .ok (.istore 5, 2) := by decide +kernel
theorem dX10_readsMember_53 : decode cX10_readsMember 53 = .ok (.iload 4, 2) := by decide +kernel
theorem dX10_readsMember_55 : decode cX10_readsMember 55 = .ok (.iconst (-1), 1) := by decide +kernel
theorem dX10_readsMember_56 : decode cX10_readsMember 56 = .ok (.if_icmp .ne 5, 3) := by decide +kernel
theorem dX10_readsMember_59 : decode cX10_readsMember 59 = .ok (.iconst 0, 1) := by decide +kernel
theorem dX10_readsMember_60 : decode cX10_readsMember 60 = .ok (.ireturn, 1) := by decide +kernel
theorem dX10_readsMember_61 : decode cX10_readsMember 61 = .ok (.iload 5, 2) := by decide +kernel
theorem dX10_readsMember_63 : decode cX10_readsMember 63 = .ok (.iconst 0, 1) := by decide +kernel
theorem dX10_readsMember_64 : decode cX10_readsMember 64 = .ok (.iconst 5, 1) := by decide +kernel
theorem dX10_readsMember_65 : decode cX10_readsMember 65 = .ok (.invokestatic 106, 3) := by decide +kernel
theorem dX10_readsMember_68 : decode cX10_readsMember 68 = .ok (.ifCond .ne 5, 3) := by decide +kernel
theorem dX10_readsMember_71 : decode cX10_readsMember 71 = .ok (.iconst 1, 1) := by decide +kernel
theorem dX10_readsMember_72 : decode cX10_readsMember 72 = .ok (.ireturn, 1) := by decide +kernel
theorem dX10_readsMember_73 : decode cX10_readsMember 73 = .ok (.iconst 0, 1) := by decide +kernel
theorem dX10_readsMember_74 : decode cX10_readsMember 74 = .ok (.istore 6, 2) := by decide +kernel
theorem dX10_readsMember_76 : decode cX10_readsMember 76 = .ok (.iconst 0, 1) := by decide +kernel
theorem dX10_readsMember_77 : decode cX10_readsMember 77 = .ok (.istore 7, 2) := by decide +kernel
theorem dX10_readsMember_79 : decode cX10_readsMember 79 = .ok (.iload 7, 2) := by decide +kernel
theorem dX10_readsMember_81 : decode cX10_readsMember 81 = .ok (.iconst 3, 1) := by decide +kernel
theorem dX10_readsMember_82 : decode cX10_readsMember 82 = .ok (.if_icmp .ge 65, 3) := by decide +kernel
theorem dX10_readsMember_85 : decode cX10_readsMember 85 = .ok (.aload_n 0, 1) := by decide +kernel
theorem dX10_readsMember_86 : decode cX10_readsMember 86 = .ok (.iconst 0, 1) := by decide +kernel
theorem dX10_readsMember_87 : decode cX10_readsMember 87 = .ok (.iload_n 2, 1) := by decide +kernel
theorem dX10_readsMember_88 : decode cX10_readsMember 88 = .ok (.iconst 2, 1) := by decide +kernel
theorem dX10_readsMember_89 : decode cX10_readsMember 89 = .ok (.iadd, 1) := by decide +kernel
theorem dX10_readsMember_90 : decode cX10_readsMember 90 = .ok (.iload 7, 2) := by decide +kernel
theorem dX10_readsMember_92 : decode cX10_readsMember 92 = .ok (.iadd, 1) := by decide +kernel
theorem dX10_readsMember_93 : decode cX10_readsMember 93 = .ok (.invokevirtual 118, 3) := by decide +kernel
theorem dX10_readsMember_96 : decode cX10_readsMember 96 = .ok (.istore 8, 2) := by decide +kernel
theorem dX10_readsMember_98 : decode cX10_readsMember 98 = .ok (.iload 8, 2) := by decide +kernel
theorem dX10_readsMember_100 : decode cX10_readsMember 100 = .ok (.iconst (-1), 1) := by decide +kernel
theorem dX10_readsMember_101 : decode cX10_readsMember 101 = .ok (.if_icmp .eq 13, 3) := by decide +kernel
theorem dX10_readsMember_104 : decode cX10_readsMember 104 = .ok (.iload 6, 2) := by decide +kernel
theorem dX10_readsMember_106 : decode cX10_readsMember 106 = .ok (.iload 8, 2) := by decide +kernel
theorem dX10_readsMember_108 : decode cX10_readsMember 108 = .ok (.invokestatic 121, 3) := by decide +kernel
theorem dX10_readsMember_111 : decode cX10_readsMember 111 = .ok (.ifCond .eq 8, 3) := by decide +kernel
theorem dX10_readsMember_114 : decode cX10_readsMember 114 = .ok (.iconst 2, 1) := by decide +kernel
theorem dX10_readsMember_115 : decode cX10_readsMember 115 = .ok (.iload 7, 2) := by decide +kernel
theorem dX10_readsMember_117 : decode cX10_readsMember 117 = .ok (.iadd, 1) := by decide +kernel
theorem dX10_readsMember_118 : decode cX10_readsMember 118 = .ok (.ireturn, 1) := by decide +kernel
theorem dX10_readsMember_119 : decode cX10_readsMember 119 = .ok (.iload 6, 2) := by decide +kernel
theorem dX10_readsMember_121 : decode cX10_readsMember 121 = .ok (.iconst 1, 1) := by decide +kernel
theorem dX10_readsMember_122 : decode cX10_readsMember 122 = .ok (.iload 8, 2) := by decide +kernel
theorem dX10_readsMember_124 : decode cX10_readsMember 124 = .ok (.ishl, 1) := by decide +kernel
theorem dX10_readsMember_125 : decode cX10_readsMember 125 = .ok (.ior, 1) := by decide +kernel
theorem dX10_readsMember_126 : decode cX10_readsMember 126 = .ok (.istore 6, 2) := by decide +kernel
theorem dX10_readsMember_128 : decode cX10_readsMember 128 = .ok (.aload_n 0, 1) := by decide +kernel
theorem dX10_readsMember_129 : decode cX10_readsMember 129 = .ok (.getfield 22, 3) := by decide +kernel
theorem dX10_readsMember_132 : decode cX10_readsMember 132 = .ok (.iconst 3, 1) := by decide +kernel
theorem dX10_readsMember_133 : decode cX10_readsMember 133 = .ok (.iload_n 1, 1) := by decide +kernel
theorem dX10_readsMember_134 : decode cX10_readsMember 134 = .ok (.imul, 1) := by decide +kernel
theorem dX10_readsMember_135 : decode cX10_readsMember 135 = .ok (.iload 7, 2) := by decide +kernel
theorem dX10_readsMember_137 : decode cX10_readsMember 137 = .ok (.iadd, 1) := by decide +kernel
theorem dX10_readsMember_138 : decode cX10_readsMember 138 = .ok (.iload 8, 2) := by decide +kernel
theorem dX10_readsMember_140 : decode cX10_readsMember 140 = .ok (.iastore, 1) := by decide +kernel
theorem dX10_readsMember_141 : decode cX10_readsMember 141 = .ok (.iinc 7 1, 3) := by decide +kernel
theorem dX10_readsMember_144 : decode cX10_readsMember 144 = .ok (.goto (-65), 3) := by decide +kernel
theorem dX10_readsMember_147 : decode cX10_readsMember 147 = .ok (.aload_n 0, 1) := by decide +kernel
theorem dX10_readsMember_148 : decode cX10_readsMember 148 = .ok (.getfield 16, 3) := by decide +kernel
theorem dX10_readsMember_151 : decode cX10_readsMember 151 = .ok (.iload_n 1, 1) := by decide +kernel
theorem dX10_readsMember_152 : decode cX10_readsMember 152 = .ok (.iload 4, 2) := by decide +kernel
theorem dX10_readsMember_154 : decode cX10_readsMember 154 = .ok (.iastore, 1) := by decide +kernel
theorem dX10_readsMember_155 : decode cX10_readsMember 155 = .ok (.aload_n 0, 1) := by decide +kernel
theorem dX10_readsMember_156 : decode cX10_readsMember 156 = .ok (.getfield 19, 3) := by decide +kernel
theorem dX10_readsMember_159 : decode cX10_readsMember 159 = .ok (.iload_n 1, 1) := by decide +kernel
theorem dX10_readsMember_160 : decode cX10_readsMember 160 = .ok (.iload 5, 2) := by decide +kernel
theorem dX10_readsMember_162 : decode cX10_readsMember 162 = .ok (.iastore, 1) := by decide +kernel
theorem dX10_readsMember_163 : decode cX10_readsMember 163 = .ok (.iconst 5, 1) := by decide +kernel
theorem dX10_readsMember_164 : decode cX10_readsMember 164 = .ok (.ireturn, 1) := by decide +kernel
theorem dX10_readsMembers_0 : decode cX10_readsMembers 0 = .ok (.iconst 0, 1) := by decide +kernel
theorem dX10_readsMembers_1 : decode cX10_readsMembers 1 = .ok (.istore_n 1, 1) := by decide +kernel
theorem dX10_readsMembers_2 : decode cX10_readsMembers 2 = .ok (.iconst 0, 1) := by decide +kernel
theorem dX10_readsMembers_3 : decode cX10_readsMembers 3 = .ok (.istore_n 2, 1) := by decide +kernel
theorem dX10_readsMembers_4 : decode cX10_readsMembers 4 = .ok (.aload_n 0, 1) := by decide +kernel
theorem dX10_readsMembers_5 : decode cX10_readsMembers 5 = .ok (.iconst 0, 1) := by decide +kernel
theorem dX10_readsMembers_6 : decode cX10_readsMembers 6 = .ok (.putfield 125, 3) := by decide +kernel
theorem dX10_readsMembers_9 : decode cX10_readsMembers 9 = .ok (.iload_n 2, 1) := by decide +kernel
theorem dX10_readsMembers_10 : decode cX10_readsMembers 10 = .ok (.aload_n 0, 1) := by decide +kernel
theorem dX10_readsMembers_11 : decode cX10_readsMembers 11 = .ok (.getfield 7, 3) := by decide +kernel
theorem dX10_readsMembers_14 : decode cX10_readsMembers 14 = .ok (.iconst 0, 1) := by decide +kernel
theorem dX10_readsMembers_15 : decode cX10_readsMembers 15 = .ok (.iaload, 1) := by decide +kernel
theorem dX10_readsMembers_16 : decode cX10_readsMembers 16 = .ok (.if_icmp .lt 7, 3) := by decide +kernel
theorem dX10_readsMembers_19 : decode cX10_readsMembers 19 = .ok (.iload_n 2, 1) := by decide +kernel
theorem dX10_readsMembers_20 : decode cX10_readsMembers 20 = .ok (.ifCond .le 71, 3) := by decide +kernel
theorem dX10_readsMembers_23 : decode cX10_readsMembers 23 = .ok (.iload_n 1, 1) := by decide +kernel
theorem dX10_readsMembers_24 : decode cX10_readsMembers 24 = .ok (.bipush 8, 2) := by decide +kernel
theorem dX10_readsMembers_26 : decode cX10_readsMembers 26 = .ok (.if_icmp .ne 7, 3) := by decide +kernel
theorem dX10_readsMembers_29 : decode cX10_readsMembers 29 = .ok (.iconst 0, 1) := by decide +kernel
theorem dX10_readsMembers_30 : decode cX10_readsMembers 30 = .ok (.goto 9, 3) := by decide +kernel
theorem dX10_readsMembers_33 : decode cX10_readsMembers 33 = .ok (.aload_n 0, 1) := by decide +kernel
theorem dX10_readsMembers_34 : decode cX10_readsMembers 34 = .ok (.iload_n 1, 1) := by decide +kernel
theorem dX10_readsMembers_35 : decode cX10_readsMembers 35 = .ok (.iload_n 2, 1) := by decide +kernel
theorem dX10_readsMembers_36 : decode cX10_readsMembers 36 = .ok (.invokevirtual 129, 3) := by decide +kernel
theorem dX10_readsMembers_39 : decode cX10_readsMembers 39 = .ok (.istore_n 3, 1) := by decide +kernel
theorem dX10_readsMembers_40 : decode cX10_readsMembers 40 = .ok (.iload_n 3, 1) := by decide +kernel
theorem dX10_readsMembers_41 : decode cX10_readsMembers 41 = .ok (.iconst 5, 1) := by decide +kernel
theorem dX10_readsMembers_42 : decode cX10_readsMembers 42 = .ok (.if_icmp .ge 7, 3) := by decide +kernel
theorem dX10_readsMembers_45 : decode cX10_readsMembers 45 = .ok (.iload_n 2, 1) := by decide +kernel
theorem dX10_readsMembers_46 : decode cX10_readsMembers 46 = .ok (.iload_n 3, 1) := by decide +kernel
theorem dX10_readsMembers_47 : decode cX10_readsMembers 47 = .ok (.iadd, 1) := by decide +kernel
theorem dX10_readsMembers_48 : decode cX10_readsMembers 48 = .ok (.ireturn, 1) := by decide +kernel
theorem dX10_readsMembers_49 : decode cX10_readsMembers 49 = .ok (.iinc 1 1, 3) := by decide +kernel
theorem dX10_readsMembers_52 : decode cX10_readsMembers 52 = .ok (.iinc 2 5, 3) := by decide +kernel
theorem dX10_readsMembers_55 : decode cX10_readsMembers 55 = .ok (.iload_n 2, 1) := by decide +kernel
theorem dX10_readsMembers_56 : decode cX10_readsMembers 56 = .ok (.aload_n 0, 1) := by decide +kernel
theorem dX10_readsMembers_57 : decode cX10_readsMembers 57 = .ok (.getfield 7, 3) := by decide +kernel
theorem dX10_readsMembers_60 : decode cX10_readsMembers 60 = .ok (.iconst 0, 1) := by decide +kernel
theorem dX10_readsMembers_61 : decode cX10_readsMembers 61 = .ok (.iaload, 1) := by decide +kernel
theorem dX10_readsMembers_62 : decode cX10_readsMembers 62 = .ok (.if_icmp .ne 10, 3) := by decide +kernel
theorem dX10_readsMembers_65 : decode cX10_readsMembers 65 = .ok (.aload_n 0, 1) := by decide +kernel
theorem dX10_readsMembers_66 : decode cX10_readsMembers 66 = .ok (.iload_n 1, 1) := by decide +kernel
theorem dX10_readsMembers_67 : decode cX10_readsMembers 67 = .ok (.putfield 125, 3) := by decide +kernel
theorem dX10_readsMembers_70 : decode cX10_readsMembers 70 = .ok (.iconst (-1), 1) := by decide +kernel
theorem dX10_readsMembers_71 : decode cX10_readsMembers 71 = .ok (.ireturn, 1) := by decide +kernel
theorem dX10_readsMembers_72 : decode cX10_readsMembers 72 = .ok (.aload_n 0, 1) := by decide +kernel
theorem dX10_readsMembers_73 : decode cX10_readsMembers 73 = .ok (.iconst 0, 1) := by decide +kernel
theorem dX10_readsMembers_74 : decode cX10_readsMembers 74 = .ok (.iload_n 2, 1) := by decide +kernel
theorem dX10_readsMembers_75 : decode cX10_readsMembers 75 = .ok (.invokevirtual 114, 3) := by decide +kernel
theorem dX10_readsMembers_78 : decode cX10_readsMembers 78 = .ok (.bipush 59, 2) := by decide +kernel
theorem dX10_readsMembers_80 : decode cX10_readsMembers 80 = .ok (.if_icmp .eq 5, 3) := by decide +kernel
theorem dX10_readsMembers_83 : decode cX10_readsMembers 83 = .ok (.iload_n 2, 1) := by decide +kernel
