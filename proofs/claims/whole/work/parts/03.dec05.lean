theorem dX10_vote_16 : decode cX10_vote 16 = .ok (.aload_n 0, 1) := by decide +kernel
theorem dX10_vote_17 : decode cX10_vote 17 = .ok (.iload_n 1, 1) := by decide +kernel
theorem dX10_vote_18 : decode cX10_vote 18 = .ok (.iload_n 2, 1) := by decide +kernel
theorem dX10_vote_19 : decode cX10_vote 19 = .ok (.invokevirtual 231, 3) := by decide +kernel
theorem dX10_vote_22 : decode cX10_vote 22 = .ok (.goto 5, 3) := by decide +kernel
theorem dX10_vote_25 : decode cX10_vote 25 = .ok (.bipush (-2), 2) := by decide +kernel
theorem dX10_vote_27 : decode cX10_vote 27 = .ok (.ireturn, 1) := by decide +kernel
theorem dX10_houseNow_0 : decode cX10_houseNow 0 = .ok (.iconst (-1), 1) := by decide +kernel
theorem dX10_houseNow_1 : decode cX10_houseNow 1 = .ok (.istore_n 2, 1) := by decide +kernel
theorem dX10_houseNow_2 : decode cX10_houseNow 2 = .ok (.iconst 0, 1) := by decide +kernel
theorem dX10_houseNow_3 : decode cX10_houseNow 3 = .ok (.istore_n 3, 1) := by decide +kernel
theorem dX10_houseNow_4 : decode cX10_houseNow 4 = .ok (.iload_n 3, 1) := by decide +kernel
theorem dX10_houseNow_5 : decode cX10_houseNow 5 = .ok (.iload_n 1, 1) := by decide +kernel
theorem dX10_houseNow_6 : decode cX10_houseNow 6 = .ok (.if_icmp .gt 30, 3) := by decide +kernel
theorem dX10_houseNow_9 : decode cX10_houseNow 9 = .ok (.aload_n 0, 1) := by decide +kernel
theorem dX10_houseNow_10 : decode cX10_houseNow 10 = .ok (.getfield 70, 3) := by decide +kernel
theorem dX10_houseNow_13 : decode cX10_houseNow 13 = .ok (.iload_n 3, 1) := by decide +kernel
theorem dX10_houseNow_14 : decode cX10_houseNow 14 = .ok (.iaload, 1) := by decide +kernel
theorem dX10_houseNow_15 : decode cX10_houseNow 15 = .ok (.iconst (-1), 1) := by decide +kernel
theorem dX10_houseNow_16 : decode cX10_houseNow 16 = .ok (.if_icmp .ne 7, 3) := by decide +kernel
theorem dX10_houseNow_19 : decode cX10_houseNow 19 = .ok (.iload_n 2, 1) := by decide +kernel
theorem dX10_houseNow_20 : decode cX10_houseNow 20 = .ok (.goto 9, 3) := by decide +kernel
theorem dX10_houseNow_23 : decode cX10_houseNow 23 = .ok (.aload_n 0, 1) := by decide +kernel
theorem dX10_houseNow_24 : decode cX10_houseNow 24 = .ok (.getfield 70, 3) := by decide +kernel
theorem dX10_houseNow_27 : decode cX10_houseNow 27 = .ok (.iload_n 3, 1) := by decide +kernel
theorem dX10_houseNow_28 : decode cX10_houseNow 28 = .ok (.iaload, 1) := by decide +kernel
theorem dX10_houseNow_29 : decode cX10_houseNow 29 = .ok (.istore_n 2, 1) := by decide +kernel
theorem dX10_houseNow_30 : decode cX10_houseNow 30 = .ok (.iinc 3 1, 3) := by decide +kernel
theorem dX10_houseNow_33 : decode cX10_houseNow 33 = .ok (.goto (-29), 3) := by decide +kernel
theorem dX10_houseNow_36 : decode cX10_houseNow 36 = .ok (.iload_n 2, 1) := by decide +kernel
theorem dX10_houseNow_37 : decode cX10_houseNow 37 = .ok (.ireturn, 1) := by decide +kernel
theorem dX10_houseOf_0 : decode cX10_houseOf 0 = .ok (.aload_n 0, 1) := by decide +kernel
theorem dX10_houseOf_1 : decode cX10_houseOf 1 = .ok (.invokevirtual 222, 3) := by decide +kernel
theorem dX10_houseOf_4 : decode cX10_houseOf 4 = .ok (.aload_n 0, 1) := by decide +kernel
theorem dX10_houseOf_5 : decode cX10_houseOf 5 = .ok (.iload_n 1, 1) := by decide +kernel
theorem dX10_houseOf_6 : decode cX10_houseOf 6 = .ok (.invokevirtual 234, 3) := by decide +kernel
theorem dX10_houseOf_9 : decode cX10_houseOf 9 = .ok (.ireturn, 1) := by decide +kernel
theorem dX10_house_0 : decode cX10_house 0 = .ok (.iload_n 1, 1) := by decide +kernel
theorem dX10_house_1 : decode cX10_house 1 = .ok (.invokestatic 155, 3) := by decide +kernel
theorem dX10_house_4 : decode cX10_house 4 = .ok (.ifCond .eq 11, 3) := by decide +kernel
theorem dX10_house_7 : decode cX10_house 7 = .ok (.aload_n 0, 1) := by decide +kernel
theorem dX10_house_8 : decode cX10_house 8 = .ok (.iload_n 1, 1) := by decide +kernel
theorem dX10_house_9 : decode cX10_house 9 = .ok (.invokevirtual 237, 3) := by decide +kernel
theorem dX10_house_12 : decode cX10_house 12 = .ok (.goto 5, 3) := by decide +kernel
theorem dX10_house_15 : decode cX10_house 15 = .ok (.bipush (-2), 2) := by decide +kernel
theorem dX10_house_17 : decode cX10_house 17 = .ok (.ireturn, 1) := by decide +kernel
theorem dX10_toldNow_0 : decode cX10_toldNow 0 = .ok (.aload_n 0, 1) := by decide +kernel
theorem dX10_toldNow_1 : decode cX10_toldNow 1 = .ok (.invokevirtual 222, 3) := by decide +kernel
theorem dX10_toldNow_4 : decode cX10_toldNow 4 = .ok (.iconst 0, 1) := by decide +kernel
theorem dX10_toldNow_5 : decode cX10_toldNow 5 = .ok (.istore_n 1, 1) := by decide +kernel
theorem dX10_toldNow_6 : decode cX10_toldNow 6 = .ok (.iconst 0, 1) := by decide +kernel
theorem dX10_toldNow_7 : decode cX10_toldNow 7 = .ok (.istore_n 2, 1) := by decide +kernel
theorem dX10_toldNow_8 : decode cX10_toldNow 8 = .ok (.iload_n 2, 1) := by decide +kernel
theorem dX10_toldNow_9 : decode cX10_toldNow 9 = .ok (.aload_n 0, 1) := by decide +kernel
theorem dX10_toldNow_10 : decode cX10_toldNow 10 = .ok (.getfield 132, 3) := by decide +kernel
theorem dX10_toldNow_13 : decode cX10_toldNow 13 = .ok (.if_icmp .ge 33, 3) := by decide +kernel
theorem dX10_toldNow_16 : decode cX10_toldNow 16 = .ok (.aload_n 0, 1) := by decide +kernel
theorem dX10_toldNow_17 : decode cX10_toldNow 17 = .ok (.getfield 125, 3) := by decide +kernel
theorem dX10_toldNow_20 : decode cX10_toldNow 20 = .ok (.ifCond .le 26, 3) := by decide +kernel
theorem dX10_toldNow_23 : decode cX10_toldNow 23 = .ok (.iload_n 1, 1) := by decide +kernel
theorem dX10_toldNow_24 : decode cX10_toldNow 24 = .ok (.aload_n 0, 1) := by decide +kernel
theorem dX10_toldNow_25 : decode cX10_toldNow 25 = .ok (.getfield 64, 3) := by decide +kernel
theorem dX10_toldNow_28 : decode cX10_toldNow 28 = .ok (.iload_n 2, 1) := by decide +kernel
theorem dX10_toldNow_29 : decode cX10_toldNow 29 = .ok (.iaload, 1) := by decide +kernel
theorem dX10_toldNow_30 : decode cX10_toldNow 30 = .ok (.ifCond .ne 7, 3) := by decide +kernel
theorem dX10_toldNow_33 : decode cX10_toldNow 33 = .ok (.iconst 1, 1) := by decide +kernel
theorem dX10_toldNow_34 : decode cX10_toldNow 34 = .ok (.goto 4, 3) := by decide +kernel
theorem dX10_toldNow_37 : decode cX10_toldNow 37 = .ok (.iconst 0, 1) := by decide +kernel
theorem dX10_toldNow_38 : decode cX10_toldNow 38 = .ok (.iadd, 1) := by decide +kernel
theorem dX10_toldNow_39 : decode cX10_toldNow 39 = .ok (.istore_n 1, 1) := by decide +kernel
theorem dX10_toldNow_40 : decode cX10_toldNow 40 = .ok (.iinc 2 1, 3) := by decide +kernel
theorem dX10_toldNow_43 : decode cX10_toldNow 43 = .ok (.goto (-35), 3) := by decide +kernel
theorem dX10_toldNow_46 : decode cX10_toldNow 46 = .ok (.iload_n 1, 1) := by decide +kernel
theorem dX10_toldNow_47 : decode cX10_toldNow 47 = .ok (.ireturn, 1) := by decide +kernel
theorem dX10_told_0 : decode cX10_told 0 = .ok (.aload_n 0, 1) := by decide +kernel
theorem dX10_told_1 : decode cX10_told 1 = .ok (.invokevirtual 240, 3) := by decide +kernel
theorem dX10_told_4 : decode cX10_told 4 = .ok (.ireturn, 1) := by decide +kernel
theorem dX10_pleasures_0 : decode cX10_pleasures 0 = .ok (.iconst 0, 1) := by decide +kernel
theorem dX10_pleasures_1 : decode cX10_pleasures 1 = .ok (.istore_n 2, 1) := by decide +kernel
theorem dX10_pleasures_2 : decode cX10_pleasures 2 = .ok (.iconst 0, 1) := by decide +kernel
theorem dX10_pleasures_3 : decode cX10_pleasures 3 = .ok (.istore_n 3, 1) := by decide +kernel
theorem dX10_pleasures_4 : decode cX10_pleasures 4 = .ok (.iload_n 3, 1) := by decide +kernel
theorem dX10_pleasures_5 : decode cX10_pleasures 5 = .ok (.aload_n 0, 1) := by decide +kernel
theorem dX10_pleasures_6 : decode cX10_pleasures 6 = .ok (.getfield 132, 3) := by decide +kernel
theorem dX10_pleasures_9 : decode cX10_pleasures 9 = .ok (.if_icmp .ge 54, 3) := by decide +kernel
theorem dX10_pleasures_12 : decode cX10_pleasures 12 = .ok (.iload_n 2, 1) := by decide +kernel
theorem dX10_pleasures_13 : decode cX10_pleasures 13 = .ok (.aload_n 0, 1) := by decide +kernel
theorem dX10_pleasures_14 : decode cX10_pleasures 14 = .ok (.getfield 70, 3) := by decide +kernel
theorem dX10_pleasures_17 : decode cX10_pleasures 17 = .ok (.iload_n 3, 1) := by decide +kernel
theorem dX10_pleasures_18 : decode cX10_pleasures 18 = .ok (.iaload, 1) := by decide +kernel
theorem dX10_pleasures_19 : decode cX10_pleasures 19 = .ok (.aload_n 0, 1) := by decide +kernel
theorem dX10_pleasures_20 : decode cX10_pleasures 20 = .ok (.getfield 61, 3) := by decide +kernel
theorem dX10_pleasures_23 : decode cX10_pleasures 23 = .ok (.iload_n 3, 1) := by decide +kernel
theorem dX10_pleasures_24 : decode cX10_pleasures 24 = .ok (.iaload, 1) := by decide +kernel
theorem dX10_pleasures_25 : decode cX10_pleasures 25 = .ok (.iload_n 1, 1) := by decide +kernel
theorem dX10_pleasures_26 : decode cX10_pleasures 26 = .ok (.invokestatic 121, 3) := by decide +kernel
theorem dX10_pleasures_29 : decode cX10_pleasures 29 = .ok (.ifCond .eq 12, 3) := by decide +kernel
theorem dX10_pleasures_32 : decode cX10_pleasures 32 = .ok (.aload_n 0, 1) := by decide +kernel
theorem dX10_pleasures_33 : decode cX10_pleasures 33 = .ok (.getfield 28, 3) := by decide +kernel
theorem dX10_pleasures_36 : decode cX10_pleasures 36 = .ok (.iload_n 3, 1) := by decide +kernel
theorem dX10_pleasures_37 : decode cX10_pleasures 37 = .ok (.iaload, 1) := by decide +kernel
theorem dX10_pleasures_38 : decode cX10_pleasures 38 = .ok (.goto 9, 3) := by decide +kernel
theorem dX10_pleasures_41 : decode cX10_pleasures 41 = .ok (.aload_n 0, 1) := by decide +kernel
theorem dX10_pleasures_42 : decode cX10_pleasures 42 = .ok (.getfield 25, 3) := by decide +kernel
theorem dX10_pleasures_45 : decode cX10_pleasures 45 = .ok (.iload_n 3, 1) := by decide +kernel
theorem dX10_pleasures_46 : decode cX10_pleasures 46 = .ok (.iaload, 1) := by decide +kernel
theorem dX10_pleasures_47 : decode cX10_pleasures 47 = .ok (.if_icmp .ne 7, 3) := by decide +kernel
theorem dX10_pleasures_50 : decode cX10_pleasures 50 = .ok (.iconst 1, 1) := by decide +kernel
theorem dX10_pleasures_51 : decode cX10_pleasures 51 = .ok (.goto 4, 3) := by decide +kernel
theorem dX10_pleasures_54 : decode cX10_pleasures 54 = .ok (.iconst 0, 1) := by decide +kernel
theorem dX10_pleasures_55 : decode cX10_pleasures 55 = .ok (.iadd, 1) := by decide +kernel
theorem dX10_pleasures_56 : decode cX10_pleasures 56 = .ok (.istore_n 2, 1) := by decide +kernel
theorem dX10_pleasures_57 : decode cX10_pleasures 57 = .ok (.iinc 3 1, 3) := by decide +kernel
theorem dX10_pleasures_60 : decode cX10_pleasures 60 = .ok (.goto (-56), 3) := by decide +kernel
theorem dX10_pleasures_63 : decode cX10_pleasures 63 = .ok (.iload_n 2, 1) := by decide +kernel
theorem dX10_pleasures_64 : decode cX10_pleasures 64 = .ok (.ireturn, 1) := by decide +kernel
theorem dX10_pleasedNow_0 : decode cX10_pleasedNow 0 = .ok (.aload_n 0, 1) := by decide +kernel
theorem dX10_pleasedNow_1 : decode cX10_pleasedNow 1 = .ok (.invokevirtual 222, 3) := by decide +kernel
theorem dX10_pleasedNow_4 : decode cX10_pleasedNow 4 = .ok (.iconst (-1), 1) := by decide +kernel
theorem dX10_pleasedNow_5 : decode cX10_pleasedNow 5 = .ok (.istore_n 1, 1) := by decide +kernel
theorem dX10_pleasedNow_6 : decode cX10_pleasedNow 6 = .ok (.iconst 0, 1) := by decide +kernel
theorem dX10_pleasedNow_7 : decode cX10_pleasedNow 7 = .ok (.istore_n 2, 1) := by decide +kernel
theorem dX10_pleasedNow_8 : decode cX10_pleasedNow 8 = .ok (.iload_n 2, 1) := by decide +kernel
theorem dX10_pleasedNow_9 : decode cX10_pleasedNow 9 = .ok (.aload_n 0, 1) := by decide +kernel
theorem dX10_pleasedNow_10 : decode cX10_pleasedNow 10 = .ok (.getfield 125, 3) := by decide +kernel
theorem dX10_pleasedNow_13 : decode cX10_pleasedNow 13 = .ok (.if_icmp .ge 33, 3) := by decide +kernel
theorem dX10_pleasedNow_16 : decode cX10_pleasedNow 16 = .ok (.iload_n 1, 1) := by decide +kernel
theorem dX10_pleasedNow_17 : decode cX10_pleasedNow 17 = .ok (.iconst (-1), 1) := by decide +kernel
theorem dX10_pleasedNow_18 : decode cX10_pleasedNow 18 = .ok (.if_icmp .eq 16, 3) := by decide +kernel
theorem dX10_pleasedNow_21 : decode cX10_pleasedNow 21 = .ok (.aload_n 0, 1) := by decide +kernel
theorem dX10_pleasedNow_22 : decode cX10_pleasedNow 22 = .ok (.iload_n 2, 1) := by decide +kernel
theorem dX10_pleasedNow_23 : decode cX10_pleasedNow 23 = .ok (.invokevirtual 243, 3) := by decide +kernel
theorem dX10_pleasedNow_26 : decode cX10_pleasedNow 26 = .ok (.aload_n 0, 1) := by decide +kernel
theorem dX10_pleasedNow_27 : decode cX10_pleasedNow 27 = .ok (.iload_n 1, 1) := by decide +kernel
theorem dX10_pleasedNow_28 : decode cX10_pleasedNow 28 = .ok (.invokevirtual 243, 3) := by decide +kernel
theorem dX10_pleasedNow_31 : decode cX10_pleasedNow 31 = .ok (.if_icmp .le 7, 3) := by decide +kernel
theorem dX10_pleasedNow_34 : decode cX10_pleasedNow 34 = .ok (.iload_n 2, 1) := by decide +kernel
theorem dX10_pleasedNow_35 : decode cX10_pleasedNow 35 = .ok (.goto 4, 3) := by decide +kernel
theorem dX10_pleasedNow_38 : decode cX10_pleasedNow 38 = .ok (.iload_n 1, 1) := by decide +kernel
theorem dX10_pleasedNow_39 : decode cX10_pleasedNow 39 = .ok (.istore_n 1, 1) := by decide +kernel
theorem dX10_pleasedNow_40 : decode cX10_pleasedNow 40 = .ok (.iinc 2 1, 3) := by decide +kernel
theorem dX10_pleasedNow_43 : decode cX10_pleasedNow 43 = .ok (.goto (-35), 3) := by decide +kernel
theorem dX10_pleasedNow_46 : decode cX10_pleasedNow 46 = .ok (.iload_n 1, 1) := by decide +kernel
theorem dX10_pleasedNow_47 : decode cX10_pleasedNow 47 = .ok (.ireturn, 1) := by decide +kernel
theorem dX10_pleased_0 : decode cX10_pleased 0 = .ok (.aload_n 0, 1) := by decide +kernel
theorem dX10_pleased_1 : decode cX10_pleased 1 = .ok (.invokevirtual 246, 3) := by decide +kernel
theorem dX10_pleased_4 : decode cX10_pleased 4 = .ok (.ireturn, 1) := by decide +kernel
theorem dX10_isTurned_0 : decode cX10_isTurned 0 = .ok (.aload_n 0, 1) := by decide +kernel
theorem dX10_isTurned_1 : decode cX10_isTurned 1 = .ok (.iload_n 1, 1) := by decide +kernel
theorem dX10_isTurned_2 : decode cX10_isTurned 2 = .ok (.putfield 195, 3) := by decide +kernel
theorem dX10_isTurned_5 : decode cX10_isTurned 5 = .ok (.aload_n 0, 1) := by decide +kernel
theorem dX10_isTurned_6 : decode cX10_isTurned 6 = .ok (.iload_n 2, 1) := by decide +kernel
theorem dX10_isTurned_7 : decode cX10_isTurned 7 = .ok (.putfield 198, 3) := by decide +kernel
theorem dX10_isTurned_10 : decode cX10_isTurned 10 = .ok (.aload_n 0, 1) := by decide +kernel
theorem dX10_isTurned_11 : decode cX10_isTurned 11 = .ok (.invokevirtual 219, 3) := by decide +kernel
theorem dX10_isTurned_14 : decode cX10_isTurned 14 = .ok (.aload_n 0, 1) := by decide +kernel
theorem dX10_isTurned_15 : decode cX10_isTurned 15 = .ok (.getfield 70, 3) := by decide +kernel
theorem dX10_isTurned_18 : decode cX10_isTurned 18 = .ok (.iload_n 1, 1) := by decide +kernel
theorem dX10_isTurned_19 : decode cX10_isTurned 19 = .ok (.iaload, 1) := by decide +kernel
theorem dX10_isTurned_20 : decode cX10_isTurned 20 = .ok (.iload_n 3, 1) := by decide +kernel
theorem dX10_isTurned_21 : decode cX10_isTurned 21 = .ok (.if_icmp .eq 7, 3) := by decide +kernel
theorem dX10_isTurned_24 : decode cX10_isTurned 24 = .ok (.iconst 1, 1) := by decide +kernel
theorem dX10_isTurned_25 : decode cX10_isTurned 25 = .ok (.goto 4, 3) := by decide +kernel
theorem dX10_isTurned_28 : decode cX10_isTurned 28 = .ok (.iconst 0, 1) := by decide +kernel
theorem dX10_isTurned_29 : decode cX10_isTurned 29 = .ok (.ireturn, 1) := by decide +kernel
theorem dX10_liftBy_0 : decode cX10_liftBy 0 = .ok (.aload_n 0, 1) := by decide +kernel
theorem dX10_liftBy_1 : decode cX10_liftBy 1 = .ok (.invokevirtual 222, 3) := by decide +kernel
theorem dX10_liftBy_4 : decode cX10_liftBy 4 = .ok (.aload_n 0, 1) := by decide +kernel
theorem dX10_liftBy_5 : decode cX10_liftBy 5 = .ok (.getfield 70, 3) := by decide +kernel
theorem dX10_liftBy_8 : decode cX10_liftBy 8 = .ok (.iload_n 1, 1) := by decide +kernel
theorem dX10_liftBy_9 : decode cX10_liftBy 9 = .ok (.iaload, 1) := by decide +kernel
theorem dX10_liftBy_10 : decode cX10_liftBy 10 = .ok (.istore_n 2, 1) := by decide +kernel
theorem dX10_liftBy_11 : decode cX10_liftBy 11 = .ok (.iload_n 2, 1) := by decide +kernel
theorem dX10_liftBy_12 : decode cX10_liftBy 12 = .ok (.iconst (-1), 1) := by decide +kernel
theorem dX10_liftBy_13 : decode cX10_liftBy 13 = .ok (.if_icmp .ne 5, 3) := by decide +kernel
theorem dX10_liftBy_16 : decode cX10_liftBy 16 = .ok (.iconst (-1), 1) := by decide +kernel
theorem dX10_liftBy_17 : decode cX10_liftBy 17 = .ok (.ireturn, 1) := by decide +kernel
theorem dX10_liftBy_18 : decode cX10_liftBy 18 = .ok (.iconst 0, 1) := by decide +kernel
theorem dX10_liftBy_19 : decode cX10_liftBy 19 = .ok (.istore_n 3, 1) := by decide +kernel
theorem dX10_liftBy_20 : decode cX10_liftBy 20 = .ok (.iload_n 3, 1) := by decide +kernel
theorem dX10_liftBy_21 : decode cX10_liftBy 21 = .ok (.aload_n 0, 1) := by decide +kernel
theorem dX10_liftBy_22 : decode cX10_liftBy 22 = .ok (.getfield 125, 3) := by decide +kernel
theorem dX10_liftBy_25 : decode cX10_liftBy 25 = .ok (.if_icmp .ge 30, 3) := by decide +kernel
theorem dX10_liftBy_28 : decode cX10_liftBy 28 = .ok (.aload_n 0, 1) := by decide +kernel
theorem dX10_liftBy_29 : decode cX10_liftBy 29 = .ok (.getfield 73, 3) := by decide +kernel
theorem dX10_liftBy_32 : decode cX10_liftBy 32 = .ok (.iconst 0, 1) := by decide +kernel
theorem dX10_liftBy_33 : decode cX10_liftBy 33 = .ok (.iload_n 3, 1) := by decide +kernel
theorem dX10_liftBy_34 : decode cX10_liftBy 34 = .ok (.iastore, 1) := by decide +kernel
theorem dX10_liftBy_35 : decode cX10_liftBy 35 = .ok (.aload_n 0, 1) := by decide +kernel
theorem dX10_liftBy_36 : decode cX10_liftBy 36 = .ok (.iload_n 1, 1) := by decide +kernel
theorem dX10_liftBy_37 : decode cX10_liftBy 37 = .ok (.iconst 1, 1) := by decide +kernel
theorem dX10_liftBy_38 : decode cX10_liftBy 38 = .ok (.iload_n 3, 1) := by decide +kernel
theorem dX10_liftBy_39 : decode cX10_liftBy 39 = .ok (.ishl, 1) := by decide +kernel
theorem dX10_liftBy_40 : decode cX10_liftBy 40 = .ok (.iload_n 2, 1) := by decide +kernel
theorem dX10_liftBy_41 : decode cX10_liftBy 41 = .ok (.invokevirtual 249, 3) := by decide +kernel
theorem dX10_liftBy_44 : decode cX10_liftBy 44 = .ok (.ifCond .eq 5, 3) := by decide +kernel
theorem dX10_liftBy_47 : decode cX10_liftBy 47 = .ok (.iconst 1, 1) := by decide +kernel
theorem dX10_liftBy_48 : decode cX10_liftBy 48 = .ok (.ireturn, 1) := by decide +kernel
theorem dX10_liftBy_49 : decode cX10_liftBy 49 = .ok (.iinc 3 1, 3) := by decide +kernel
theorem dX10_liftBy_52 : decode cX10_liftBy 52 = .ok (.goto (-32), 3) := by decide +kernel
theorem dX10_liftBy_55 : decode cX10_liftBy 55 = .ok (.iconst 0, 1) := by decide +kernel
theorem dX10_liftBy_56 : decode cX10_liftBy 56 = .ok (.istore_n 3, 1) := by decide +kernel
theorem dX10_liftBy_57 : decode cX10_liftBy 57 = .ok (.iload_n 3, 1) := by decide +kernel
theorem dX10_liftBy_58 : decode cX10_liftBy 58 = .ok (.aload_n 0, 1) := by decide +kernel
theorem dX10_liftBy_59 : decode cX10_liftBy 59 = .ok (.getfield 125, 3) := by decide +kernel
theorem dX10_liftBy_62 : decode cX10_liftBy 62 = .ok (.if_icmp .ge 63, 3) := by decide +kernel
theorem dX10_liftBy_65 : decode cX10_liftBy 65 = .ok (.iload_n 3, 1) := by decide +kernel
theorem dX10_liftBy_66 : decode cX10_liftBy 66 = .ok (.iconst 1, 1) := by decide +kernel
theorem dX10_liftBy_67 : decode cX10_liftBy 67 = .ok (.iadd, 1) := by decide +kernel
theorem dX10_liftBy_68 : decode cX10_liftBy 68 = .ok (.istore 4, 2) := by decide +kernel
theorem dX10_liftBy_70 : decode cX10_liftBy 70 = .ok (.iload 4, 2) := by decide +kernel
theorem dX10_liftBy_72 : decode cX10_liftBy 72 = .ok (.aload_n 0, 1) := by decide +kernel
theorem dX10_liftBy_73 : decode cX10_liftBy 73 = .ok (.getfield 125, 3) := by decide +kernel
theorem dX10_liftBy_76 : decode cX10_liftBy 76 = .ok (.if_icmp .ge 43, 3) := by decide +kernel
theorem dX10_liftBy_79 : decode cX10_liftBy 79 = .ok (.aload_n 0, 1) := by decide +kernel
theorem dX10_liftBy_80 : decode cX10_liftBy 80 = .ok (.getfield 73, 3) := by decide +kernel
theorem dX10_liftBy_83 : decode cX10_liftBy 83 = .ok (.iconst 0, 1) := by decide +kernel
theorem dX10_liftBy_84 : decode cX10_liftBy 84 = .ok (.iload_n 3, 1) := by decide +kernel
theorem dX10_liftBy_85 : decode cX10_liftBy 85 = .ok (.iastore, 1) := by decide +kernel
theorem dX10_liftBy_86 : decode cX10_liftBy 86 = .ok (.aload_n 0, 1) := by decide +kernel
theorem dX10_liftBy_87 : decode cX10_liftBy 87 = .ok (.getfield 73, 3) := by decide +kernel
theorem dX10_liftBy_90 : decode cX10_liftBy 90 = .ok (.iconst 1, 1) := by decide +kernel
theorem dX10_liftBy_91 : decode cX10_liftBy 91 = .ok (.iload 4, 2) := by decide +kernel
theorem dX10_liftBy_93 : decode cX10_liftBy 93 = .ok (.iastore, 1) := by decide +kernel
theorem dX10_liftBy_94 : decode cX10_liftBy 94 = .ok (.aload_n 0, 1) := by decide +kernel
theorem dX10_liftBy_95 : decode cX10_liftBy 95 = .ok (.iload_n 1, 1) := by decide +kernel
theorem dX10_liftBy_96 : decode cX10_liftBy 96 = .ok (.iconst 1, 1) := by decide +kernel
theorem dX10_liftBy_97 : decode cX10_liftBy 97 = .ok (.iload_n 3, 1) := by decide +kernel
theorem dX10_liftBy_98 : decode cX10_liftBy 98 = .ok (.ishl, 1) := by decide +kernel
theorem dX10_liftBy_99 : decode cX10_liftBy 99 = .ok (.iconst 1, 1) := by decide +kernel
theorem dX10_liftBy_100 : decode cX10_liftBy 100 = .ok (.iload 4, 2) := by decide +kernel
theorem dX10_liftBy_102 : decode cX10_liftBy 102 = .ok (.ishl, 1) := by decide +kernel
theorem dX10_liftBy_103 : decode cX10_liftBy 103 = .ok (.ior, 1) := by decide +kernel
theorem dX10_liftBy_104 : decode cX10_liftBy 104 = .ok (.iload_n 2, 1) := by decide +kernel
theorem dX10_liftBy_105 : decode cX10_liftBy 105 = .ok (.invokevirtual 249, 3) := by decide +kernel
theorem dX10_liftBy_108 : decode cX10_liftBy 108 = .ok (.ifCond .eq 5, 3) := by decide +kernel
theorem dX10_liftBy_111 : decode cX10_liftBy 111 = .ok (.iconst 2, 1) := by decide +kernel
theorem dX10_liftBy_112 : decode cX10_liftBy 112 = .ok (.ireturn, 1) := by decide +kernel
theorem dX10_liftBy_113 : decode cX10_liftBy 113 = .ok (.iinc 4 1, 3) := by decide +kernel
theorem dX10_liftBy_116 : decode cX10_liftBy 116 = .ok (.goto (-46), 3) := by decide +kernel
theorem dX10_liftBy_119 : decode cX10_liftBy 119 = .ok (.iinc 3 1, 3) := by decide +kernel
theorem dX10_liftBy_122 : decode cX10_liftBy 122 = .ok (.goto (-65), 3) := by decide +kernel
theorem dX10_liftBy_125 : decode cX10_liftBy 125 = .ok (.iconst (-1), 1) := by decide +kernel
theorem dX10_liftBy_126 : decode cX10_liftBy 126 = .ok (.ireturn, 1) := by decide +kernel
theorem dX10_ofRow_0 : decode cX10_ofRow 0 = .ok (.iload_n 2, 1) := by decide +kernel
theorem dX10_ofRow_1 : decode cX10_ofRow 1 = .ok (.iconst (-1), 1) := by decide +kernel
theorem dX10_ofRow_2 : decode cX10_ofRow 2 = .ok (.if_icmp .ne 7, 3) := by decide +kernel
theorem dX10_ofRow_5 : decode cX10_ofRow 5 = .ok (.iload_n 1, 1) := by decide +kernel
theorem dX10_ofRow_6 : decode cX10_ofRow 6 = .ok (.goto 18, 3) := by decide +kernel
theorem dX10_ofRow_9 : decode cX10_ofRow 9 = .ok (.iload_n 2, 1) := by decide +kernel
theorem dX10_ofRow_10 : decode cX10_ofRow 10 = .ok (.iload_n 1, 1) := by decide +kernel
theorem dX10_ofRow_11 : decode cX10_ofRow 11 = .ok (.if_icmp .ge 12, 3) := by decide +kernel
theorem dX10_ofRow_14 : decode cX10_ofRow 14 = .ok (.aload_n 0, 1) := by decide +kernel
theorem dX10_ofRow_15 : decode cX10_ofRow 15 = .ok (.getfield 73, 3) := by decide +kernel
theorem dX10_ofRow_18 : decode cX10_ofRow 18 = .ok (.iload_n 2, 1) := by decide +kernel
theorem dX10_ofRow_19 : decode cX10_ofRow 19 = .ok (.iaload, 1) := by decide +kernel
theorem dX10_ofRow_20 : decode cX10_ofRow 20 = .ok (.goto 4, 3) := by decide +kernel
theorem dX10_ofRow_23 : decode cX10_ofRow 23 = .ok (.iconst (-1), 1) := by decide +kernel
theorem dX10_ofRow_24 : decode cX10_ofRow 24 = .ok (.ireturn, 1) := by decide +kernel
theorem dX10_lift_0 : decode cX10_lift 0 = .ok (.iload_n 1, 1) := by decide +kernel
theorem dX10_lift_1 : decode cX10_lift 1 = .ok (.invokestatic 155, 3) := by decide +kernel
theorem dX10_lift_4 : decode cX10_lift 4 = .ok (.ifCond .eq 25, 3) := by decide +kernel
theorem dX10_lift_7 : decode cX10_lift 7 = .ok (.iload_n 2, 1) := by decide +kernel
theorem dX10_lift_8 : decode cX10_lift 8 = .ok (.iconst (-1), 1) := by decide +kernel
theorem dX10_lift_9 : decode cX10_lift 9 = .ok (.iconst 1, 1) := by decide +kernel
theorem dX10_lift_10 : decode cX10_lift 10 = .ok (.invokestatic 106, 3) := by decide +kernel
theorem dX10_lift_13 : decode cX10_lift 13 = .ok (.ifCond .eq 16, 3) := by decide +kernel
theorem dX10_lift_16 : decode cX10_lift 16 = .ok (.aload_n 0, 1) := by decide +kernel
theorem dX10_lift_17 : decode cX10_lift 17 = .ok (.aload_n 0, 1) := by decide +kernel
theorem dX10_lift_18 : decode cX10_lift 18 = .ok (.iload_n 1, 1) := by decide +kernel
theorem dX10_lift_19 : decode cX10_lift 19 = .ok (.invokevirtual 252, 3) := by decide +kernel
theorem dX10_lift_22 : decode cX10_lift 22 = .ok (.iload_n 2, 1) := by decide +kernel
theorem dX10_lift_23 : decode cX10_lift 23 = .ok (.invokevirtual 255, 3) := by decide +kernel
theorem dX10_lift_26 : decode cX10_lift 26 = .ok (.goto 5, 3) := by decide +kernel
theorem dX10_lift_29 : decode cX10_lift 29 = .ok (.bipush (-2), 2) := by decide +kernel
theorem dX10_lift_31 : decode cX10_lift 31 = .ok (.ireturn, 1) := by decide +kernel
theorem dX10_puts_0 : decode cX10_puts 0 = .ok (.aload_n 0, 1) := by decide +kernel
theorem dX10_puts_1 : decode cX10_puts 1 = .ok (.iload_n 1, 1) := by decide +kernel
theorem dX10_puts_2 : decode cX10_puts 2 = .ok (.iload_n 2, 1) := by decide +kernel
theorem dX10_puts_3 : decode cX10_puts 3 = .ok (.invokevirtual 208, 3) := by decide +kernel
theorem dX10_puts_6 : decode cX10_puts 6 = .ok (.aload_n 0, 1) := by decide +kernel
theorem dX10_puts_7 : decode cX10_puts 7 = .ok (.iload_n 1, 1) := by decide +kernel
theorem dX10_puts_8 : decode cX10_puts 8 = .ok (.iload_n 2, 1) := by decide +kernel
theorem dX10_puts_9 : decode cX10_puts 9 = .ok (.iconst 1, 1) := by decide +kernel
theorem dX10_puts_10 : decode cX10_puts 10 = .ok (.iconst 0, 1) := by decide +kernel
theorem dX10_puts_11 : decode cX10_puts 11 = .ok (.invokevirtual 212, 3) := by decide +kernel
theorem dX10_puts_14 : decode cX10_puts 14 = .ok (.ireturn, 1) := by decide +kernel
theorem dX10_agendaOf_0 : decode cX10_agendaOf 0 = .ok (.aload_n 0, 1) := by decide +kernel
theorem dX10_agendaOf_1 : decode cX10_agendaOf 1 = .ok (.invokevirtual 146, 3) := by decide +kernel
theorem dX10_agendaOf_4 : decode cX10_agendaOf 4 = .ok (.iconst 0, 1) := by decide +kernel
theorem dX10_agendaOf_5 : decode cX10_agendaOf 5 = .ok (.istore_n 2, 1) := by decide +kernel
theorem dX10_agendaOf_6 : decode cX10_agendaOf 6 = .ok (.iload_n 2, 1) := by decide +kernel
theorem dX10_agendaOf_7 : decode cX10_agendaOf 7 = .ok (.aload_n 0, 1) := by decide +kernel
theorem dX10_agendaOf_8 : decode cX10_agendaOf 8 = .ok (.getfield 125, 3) := by decide +kernel
theorem dX10_agendaOf_11 : decode cX10_agendaOf 11 = .ok (.if_icmp .ge 35, 3) := by decide +kernel
theorem dX10_agendaOf_14 : decode cX10_agendaOf 14 = .ok (.aload_n 0, 1) := by decide +kernel
theorem dX10_agendaOf_15 : decode cX10_agendaOf 15 = .ok (.getfield 49, 3) := by decide +kernel
theorem dX10_agendaOf_18 : decode cX10_agendaOf 18 = .ok (.iload_n 2, 1) := by decide +kernel
theorem dX10_agendaOf_19 : decode cX10_agendaOf 19 = .ok (.aload_n 0, 1) := by decide +kernel
theorem dX10_agendaOf_20 : decode cX10_agendaOf 20 = .ok (.getfield 19, 3) := by decide +kernel
theorem dX10_agendaOf_23 : decode cX10_agendaOf 23 = .ok (.iload_n 2, 1) := by decide +kernel
theorem dX10_agendaOf_24 : decode cX10_agendaOf 24 = .ok (.iaload, 1) := by decide +kernel
theorem dX10_agendaOf_25 : decode cX10_agendaOf 25 = .ok (.iastore, 1) := by decide +kernel
theorem dX10_agendaOf_26 : decode cX10_agendaOf 26 = .ok (.aload_n 0, 1) := by decide +kernel
theorem dX10_agendaOf_27 : decode cX10_agendaOf 27 = .ok (.getfield 52, 3) := by decide +kernel
theorem dX10_agendaOf_30 : decode cX10_agendaOf 30 = .ok (.iload_n 2, 1) := by decide +kernel
theorem dX10_agendaOf_31 : decode cX10_agendaOf 31 = .ok (.iconst 5, 1) := by decide +kernel
theorem dX10_agendaOf_32 : decode cX10_agendaOf 32 = .ok (.aload_n 0, 1) := by decide +kernel
theorem dX10_agendaOf_33 : decode cX10_agendaOf 33 = .ok (.getfield 19, 3) := by decide +kernel
theorem dX10_agendaOf_36 : decode cX10_agendaOf 36 = .ok (.iload_n 2, 1) := by decide +kernel
theorem dX10_agendaOf_37 : decode cX10_agendaOf 37 = .ok (.iaload, 1) := by decide +kernel
theorem dX10_agendaOf_38 : decode cX10_agendaOf 38 = .ok (.isub, 1) := by decide +kernel
theorem dX10_agendaOf_39 : decode cX10_agendaOf 39 = .ok (.iastore, 1) := by decide +kernel
theorem dX10_agendaOf_40 : decode cX10_agendaOf 40 = .ok (.iinc 2 1, 3) := by decide +kernel
theorem dX10_agendaOf_43 : decode cX10_agendaOf 43 = .ok (.goto (-37), 3) := by decide +kernel
theorem dX10_agendaOf_46 : decode cX10_agendaOf 46 = .ok (.iconst 0, 1) := by decide +kernel
theorem dX10_agendaOf_47 : decode cX10_agendaOf 47 = .ok (.istore_n 2, 1) := by decide +kernel
theorem dX10_agendaOf_48 : decode cX10_agendaOf 48 = .ok (.iload_n 2, 1) := by decide +kernel
theorem dX10_agendaOf_49 : decode cX10_agendaOf 49 = .ok (.iconst 3, 1) := by decide +kernel
theorem dX10_agendaOf_50 : decode cX10_agendaOf 50 = .ok (.if_icmp .ge 65, 3) := by decide +kernel
theorem dX10_agendaOf_53 : decode cX10_agendaOf 53 = .ok (.aload_n 0, 1) := by decide +kernel
theorem dX10_agendaOf_54 : decode cX10_agendaOf 54 = .ok (.getfield 125, 3) := by decide +kernel
theorem dX10_agendaOf_57 : decode cX10_agendaOf 57 = .ok (.ifCond .le 58, 3) := by decide +kernel
theorem dX10_agendaOf_60 : decode cX10_agendaOf 60 = .ok (.iload_n 2, 1) := by decide +kernel
theorem dX10_agendaOf_61 : decode cX10_agendaOf 61 = .ok (.iconst 2, 1) := by decide +kernel
theorem dX10_agendaOf_62 : decode cX10_agendaOf 62 = .ok (.if_icmp .ne 7, 3) := by decide +kernel
theorem dX10_agendaOf_65 : decode cX10_agendaOf 65 = .ok (.iconst 1, 1) := by decide +kernel
theorem dX10_agendaOf_66 : decode cX10_agendaOf 66 = .ok (.goto 4, 3) := by decide +kernel
theorem dX10_agendaOf_69 : decode cX10_agendaOf 69 = .ok (.iconst 0, 1) := by decide +kernel
theorem dX10_agendaOf_70 : decode cX10_agendaOf 70 = .ok (.istore_n 3, 1) := by decide +kernel
theorem dX10_agendaOf_71 : decode cX10_agendaOf 71 = .ok (.iload_n 2, 1) := by decide +kernel
theorem dX10_agendaOf_72 : decode cX10_agendaOf 72 = .ok (.ifCond .ne 7, 3) := by decide +kernel
theorem dX10_agendaOf_75 : decode cX10_agendaOf 75 = .ok (.iconst 1, 1) := by decide +kernel
theorem dX10_agendaOf_76 : decode cX10_agendaOf 76 = .ok (.goto 4, 3) := by decide +kernel
theorem dX10_agendaOf_79 : decode cX10_agendaOf 79 = .ok (.iconst 2, 1) := by decide +kernel
theorem dX10_agendaOf_80 : decode cX10_agendaOf 80 = .ok (.istore 4, 2) := by decide +kernel
theorem dX10_agendaOf_82 : decode cX10_agendaOf 82 = .ok (.aload_n 0, 1) := by decide +kernel
theorem dX10_agendaOf_83 : decode cX10_agendaOf 83 = .ok (.iload_n 3, 1) := by decide +kernel
theorem dX10_agendaOf_84 : decode cX10_agendaOf 84 = .ok (.iload 4, 2) := by decide +kernel
theorem dX10_agendaOf_86 : decode cX10_agendaOf 86 = .ok (.invokevirtual 258, 3) := by decide +kernel
theorem dX10_agendaOf_89 : decode cX10_agendaOf 89 = .ok (.istore 5, 2) := by decide +kernel
theorem dX10_agendaOf_91 : decode cX10_agendaOf 91 = .ok (.aload_n 0, 1) := by decide +kernel
theorem dX10_agendaOf_92 : decode cX10_agendaOf 92 = .ok (.iload 5, 2) := by decide +kernel
theorem dX10_agendaOf_94 : decode cX10_agendaOf 94 = .ok (.iconst 3, 1) := by decide +kernel
theorem dX10_agendaOf_95 : decode cX10_agendaOf 95 = .ok (.iload_n 3, 1) := by decide +kernel
theorem dX10_agendaOf_96 : decode cX10_agendaOf 96 = .ok (.isub, 1) := by decide +kernel
theorem dX10_agendaOf_97 : decode cX10_agendaOf 97 = .ok (.iload 4, 2) := by decide +kernel
theorem dX10_agendaOf_99 : decode cX10_agendaOf 99 = .ok (.isub, 1) := by decide +kernel
theorem dX10_agendaOf_100 : decode cX10_agendaOf 100 = .ok (.invokevirtual 258, 3) := by decide +kernel
theorem dX10_agendaOf_103 : decode cX10_agendaOf 103 = .ok (.iload_n 1, 1) := by decide +kernel
theorem dX10_agendaOf_104 : decode cX10_agendaOf 104 = .ok (.if_icmp .ne 5, 3) := by decide +kernel
theorem dX10_agendaOf_107 : decode cX10_agendaOf 107 = .ok (.iload_n 2, 1) := by decide +kernel
theorem dX10_agendaOf_108 : decode cX10_agendaOf 108 = .ok (.ireturn, 1) := by decide +kernel
theorem dX10_agendaOf_109 : decode cX10_agendaOf 109 = .ok (.iinc 2 1, 3) := by decide +kernel
theorem dX10_agendaOf_112 : decode cX10_agendaOf 112 = .ok (.goto (-64), 3) := by decide +kernel
theorem dX10_agendaOf_115 : decode cX10_agendaOf 115 = .ok (.iconst (-1), 1) := by decide +kernel
theorem dX10_agendaOf_116 : decode cX10_agendaOf 116 = .ok (.ireturn, 1) := by decide +kernel
theorem dX10_agenda_0 : decode cX10_agenda 0 = .ok (.iload_n 1, 1) := by decide +kernel
theorem dX10_agenda_1 : decode cX10_agenda 1 = .ok (.iconst 0, 1) := by decide +kernel
theorem dX10_agenda_2 : decode cX10_agenda 2 = .ok (.iconst 2, 1) := by decide +kernel
theorem dX10_agenda_3 : decode cX10_agenda 3 = .ok (.invokestatic 106, 3) := by decide +kernel
theorem dX10_agenda_6 : decode cX10_agenda 6 = .ok (.ifCond .eq 11, 3) := by decide +kernel
theorem dX10_agenda_9 : decode cX10_agenda 9 = .ok (.aload_n 0, 1) := by decide +kernel
theorem dX10_agenda_10 : decode cX10_agenda 10 = .ok (.iload_n 1, 1) := by decide +kernel
theorem dX10_agenda_11 : decode cX10_agenda 11 = .ok (.invokevirtual 261, 3) := by decide +kernel
theorem dX10_agenda_14 : decode cX10_agenda 14 = .ok (.goto 5, 3) := by decide +kernel
theorem dX10_agenda_17 : decode cX10_agenda 17 = .ok (.bipush (-2), 2) := by decide +kernel
theorem dX10_agenda_19 : decode cX10_agenda 19 = .ok (.ireturn, 1) := by decide +kernel
theorem dX10_weightOf_0 : decode cX10_weightOf 0 = .ok (.iconst 0, 1) := by decide +kernel
theorem dX10_weightOf_1 : decode cX10_weightOf 1 = .ok (.istore_n 2, 1) := by decide +kernel
theorem dX10_weightOf_2 : decode cX10_weightOf 2 = .ok (.iconst 0, 1) := by decide +kernel
theorem dX10_weightOf_3 : decode cX10_weightOf 3 = .ok (.istore_n 3, 1) := by decide +kernel
theorem dX10_weightOf_4 : decode cX10_weightOf 4 = .ok (.iload_n 3, 1) := by decide +kernel
theorem dX10_weightOf_5 : decode cX10_weightOf 5 = .ok (.aload_n 0, 1) := by decide +kernel
theorem dX10_weightOf_6 : decode cX10_weightOf 6 = .ok (.getfield 125, 3) := by decide +kernel
theorem dX10_weightOf_9 : decode cX10_weightOf 9 = .ok (.if_icmp .ge 35, 3) := by decide +kernel
theorem dX10_weightOf_12 : decode cX10_weightOf 12 = .ok (.iload_n 2, 1) := by decide +kernel
theorem dX10_weightOf_13 : decode cX10_weightOf 13 = .ok (.iload_n 1, 1) := by decide +kernel
theorem dX10_weightOf_14 : decode cX10_weightOf 14 = .ok (.iload_n 3, 1) := by decide +kernel
theorem dX10_weightOf_15 : decode cX10_weightOf 15 = .ok (.invokestatic 121, 3) := by decide +kernel
theorem dX10_weightOf_18 : decode cX10_weightOf 18 = .ok (.ifCond .eq 17, 3) := by decide +kernel
theorem dX10_weightOf_21 : decode cX10_weightOf 21 = .ok (.aload_n 0, 1) := by decide +kernel
theorem dX10_weightOf_22 : decode cX10_weightOf 22 = .ok (.getfield 34, 3) := by decide +kernel
theorem dX10_weightOf_25 : decode cX10_weightOf 25 = .ok (.aload_n 0, 1) := by decide +kernel
theorem dX10_weightOf_26 : decode cX10_weightOf 26 = .ok (.getfield 16, 3) := by decide +kernel
theorem dX10_weightOf_29 : decode cX10_weightOf 29 = .ok (.iload_n 3, 1) := by decide +kernel
theorem dX10_weightOf_30 : decode cX10_weightOf 30 = .ok (.iaload, 1) := by decide +kernel
theorem dX10_weightOf_31 : decode cX10_weightOf 31 = .ok (.iaload, 1) := by decide +kernel
theorem dX10_weightOf_32 : decode cX10_weightOf 32 = .ok (.goto 4, 3) := by decide +kernel
theorem dX10_weightOf_35 : decode cX10_weightOf 35 = .ok (.iconst 0, 1) := by decide +kernel
theorem dX10_weightOf_36 : decode cX10_weightOf 36 = .ok (.iadd, 1) := by decide +kernel
theorem dX10_weightOf_37 : decode cX10_weightOf 37 = .ok (.istore_n 2, 1) := by decide +kernel
theorem dX10_weightOf_38 : decode cX10_weightOf 38 = .ok (.iinc 3 1, 3) := by decide +kernel
theorem dX10_weightOf_41 : decode cX10_weightOf 41 = .ok (.goto (-37), 3) := by decide +kernel
theorem dX10_weightOf_44 : decode cX10_weightOf 44 = .ok (.iload_n 2, 1) := by decide +kernel
theorem dX10_weightOf_45 : decode cX10_weightOf 45 = .ok (.ireturn, 1) := by decide +kernel
theorem dX10_orders_0 : decode cX10_orders 0 = .ok (.lconst 1, 1) := by decide +kernel
theorem dX10_orders_1 : decode cX10_orders 1 = .ok (.lstore_n 1, 1) := by decide +kernel
theorem dX10_orders_2 : decode cX10_orders 2 = .ok (.iconst 2, 1) := by decide +kernel
theorem dX10_orders_3 : decode cX10_orders 3 = .ok (.istore_n 3, 1) := by decide +kernel
theorem dX10_orders_4 : decode cX10_orders 4 = .ok (.iload_n 3, 1) := by decide +kernel
theorem dX10_orders_5 : decode cX10_orders 5 = .ok (.iload_n 0, 1) := by decide +kernel
theorem dX10_orders_6 : decode cX10_orders 6 = .ok (.if_icmp .gt 14, 3) := by decide +kernel
theorem dX10_orders_9 : decode cX10_orders 9 = .ok (.lload_n 1, 1) := by decide +kernel
theorem dX10_orders_10 : decode cX10_orders 10 = .ok (.iload_n 3, 1) := by decide +kernel
theorem dX10_orders_11 : decode cX10_orders 11 = .ok (.i2l, 1) := by decide +kernel
theorem dX10_orders_12 : decode cX10_orders 12 = .ok (.lmul, 1) := by decide +kernel
theorem dX10_orders_13 : decode cX10_orders 13 = .ok (.lstore_n 1, 1) := by decide +kernel
theorem dX10_orders_14 : decode cX10_orders 14 = .ok (.iinc 3 1, 3) := by decide +kernel
theorem dX10_orders_17 : decode cX10_orders 17 = .ok (.goto (-13), 3) := by decide +kernel
theorem dX10_orders_20 : decode cX10_orders 20 = .ok (.lload_n 1, 1) := by decide +kernel
theorem dX10_orders_21 : decode cX10_orders 21 = .ok (.lreturn, 1) := by decide +kernel
theorem dX10_powerOf_0 : decode cX10_powerOf 0 = .ok (.aload_n 0, 1) := by decide +kernel
theorem dX10_powerOf_1 : decode cX10_powerOf 1 = .ok (.iconst 1, 1) := by decide +kernel
theorem dX10_powerOf_2 : decode cX10_powerOf 2 = .ok (.aload_n 0, 1) := by decide +kernel
theorem dX10_powerOf_3 : decode cX10_powerOf 3 = .ok (.getfield 125, 3) := by decide +kernel
theorem dX10_powerOf_6 : decode cX10_powerOf 6 = .ok (.ishl, 1) := by decide +kernel
theorem dX10_powerOf_7 : decode cX10_powerOf 7 = .ok (.iconst 1, 1) := by decide +kernel
theorem dX10_powerOf_8 : decode cX10_powerOf 8 = .ok (.isub, 1) := by decide +kernel
theorem dX10_powerOf_9 : decode cX10_powerOf 9 = .ok (.invokevirtual 264, 3) := by decide +kernel
theorem dX10_powerOf_12 : decode cX10_powerOf 12 = .ok (.istore_n 3, 1) := by decide +kernel
theorem dX10_powerOf_13 : decode cX10_powerOf 13 = .ok (.lconst 0, 1) := by decide +kernel
theorem dX10_powerOf_14 : decode cX10_powerOf 14 = .ok (.lstore 4, 2) := by decide +kernel
theorem dX10_powerOf_16 : decode cX10_powerOf 16 = .ok (.iconst 0, 1) := by decide +kernel
theorem dX10_powerOf_17 : decode cX10_powerOf 17 = .ok (.istore 6, 2) := by decide +kernel
theorem dX10_powerOf_19 : decode cX10_powerOf 19 = .ok (.iload 6, 2) := by decide +kernel
theorem dX10_powerOf_21 : decode cX10_powerOf 21 = .ok (.iconst 1, 1) := by decide +kernel
theorem dX10_powerOf_22 : decode cX10_powerOf 22 = .ok (.aload_n 0, 1) := by decide +kernel
theorem dX10_powerOf_23 : decode cX10_powerOf 23 = .ok (.getfield 125, 3) := by decide +kernel
theorem dX10_powerOf_26 : decode cX10_powerOf 26 = .ok (.ishl, 1) := by decide +kernel
theorem dX10_powerOf_27 : decode cX10_powerOf 27 = .ok (.if_icmp .ge 126, 3) := by decide +kernel
theorem dX10_powerOf_30 : decode cX10_powerOf 30 = .ok (.aload_n 0, 1) := by decide +kernel
theorem dX10_powerOf_31 : decode cX10_powerOf 31 = .ok (.iload 6, 2) := by decide +kernel
theorem dX10_powerOf_33 : decode cX10_powerOf 33 = .ok (.invokevirtual 264, 3) := by decide +kernel
theorem dX10_powerOf_36 : decode cX10_powerOf 36 = .ok (.istore 7, 2) := by decide +kernel
theorem dX10_powerOf_38 : decode cX10_powerOf 38 = .ok (.iload 6, 2) := by decide +kernel
theorem dX10_powerOf_40 : decode cX10_powerOf 40 = .ok (.iload_n 1, 1) := by decide +kernel
theorem dX10_powerOf_41 : decode cX10_powerOf 41 = .ok (.invokestatic 121, 3) := by decide +kernel
theorem dX10_powerOf_44 : decode cX10_powerOf 44 = .ok (.ifCond .ne 35, 3) := by decide +kernel
theorem dX10_powerOf_47 : decode cX10_powerOf 47 = .ok (.iconst 2, 1) := by decide +kernel
theorem dX10_powerOf_48 : decode cX10_powerOf 48 = .ok (.iload 7, 2) := by decide +kernel
theorem dX10_powerOf_50 : decode cX10_powerOf 50 = .ok (.imul, 1) := by decide +kernel
theorem dX10_powerOf_51 : decode cX10_powerOf 51 = .ok (.iload_n 3, 1) := by decide +kernel
theorem dX10_powerOf_52 : decode cX10_powerOf 52 = .ok (.if_icmp .gt 27, 3) := by decide +kernel
theorem dX10_powerOf_55 : decode cX10_powerOf 55 = .ok (.iconst 2, 1) := by decide +kernel
theorem dX10_powerOf_56 : decode cX10_powerOf 56 = .ok (.iload 7, 2) := by decide +kernel
theorem dX10_powerOf_58 : decode cX10_powerOf 58 = .ok (.aload_n 0, 1) := by decide +kernel
theorem dX10_powerOf_59 : decode cX10_powerOf 59 = .ok (.getfield 34, 3) := by decide +kernel
theorem dX10_powerOf_62 : decode cX10_powerOf 62 = .ok (.aload_n 0, 1) := by decide +kernel
theorem dX10_powerOf_63 : decode cX10_powerOf 63 = .ok (.getfield 16, 3) := by decide +kernel
theorem dX10_powerOf_66 : decode cX10_powerOf 66 = .ok (.iload_n 1, 1) := by decide +kernel
theorem dX10_powerOf_67 : decode cX10_powerOf 67 = .ok (.iaload, 1) := by decide +kernel
theorem dX10_powerOf_68 : decode cX10_powerOf 68 = .ok (.iaload, 1) := by decide +kernel
theorem dX10_powerOf_69 : decode cX10_powerOf 69 = .ok (.iadd, 1) := by decide +kernel
theorem dX10_powerOf_70 : decode cX10_powerOf 70 = .ok (.imul, 1) := by decide +kernel
theorem dX10_powerOf_71 : decode cX10_powerOf 71 = .ok (.iload_n 3, 1) := by decide +kernel
theorem dX10_powerOf_72 : decode cX10_powerOf 72 = .ok (.if_icmp .le 7, 3) := by decide +kernel
theorem dX10_powerOf_75 : decode cX10_powerOf 75 = .ok (.iconst 1, 1) := by decide +kernel
theorem dX10_powerOf_76 : decode cX10_powerOf 76 = .ok (.goto 4, 3) := by decide +kernel
theorem dX10_powerOf_79 : decode cX10_powerOf 79 = .ok (.iconst 0, 1) := by decide +kernel
theorem dX10_powerOf_80 : decode cX10_powerOf 80 = .ok (.istore 8, 2) := by decide +kernel
theorem dX10_powerOf_82 : decode cX10_powerOf 82 = .ok (.iconst 0, 1) := by decide +kernel
theorem dX10_powerOf_83 : decode cX10_powerOf 83 = .ok (.istore 9, 2) := by decide +kernel
theorem dX10_powerOf_85 : decode cX10_powerOf 85 = .ok (.iconst 0, 1) := by decide +kernel
theorem dX10_powerOf_86 : decode cX10_powerOf 86 = .ok (.istore 10, 2) := by decide +kernel
theorem dX10_powerOf_88 : decode cX10_powerOf 88 = .ok (.iload 10, 2) := by decide +kernel
theorem dX10_powerOf_90 : decode cX10_powerOf 90 = .ok (.aload_n 0, 1) := by decide +kernel
theorem dX10_powerOf_91 : decode cX10_powerOf 91 = .ok (.getfield 125, 3) := by decide +kernel
theorem dX10_powerOf_94 : decode cX10_powerOf 94 = .ok (.if_icmp .ge 21, 3) := by decide +kernel
theorem dX10_powerOf_97 : decode cX10_powerOf 97 = .ok (.iload 9, 2) := by decide +kernel
theorem dX10_powerOf_99 : decode cX10_powerOf 99 = .ok (.iload 6, 2) := by decide +kernel
theorem dX10_powerOf_101 : decode cX10_powerOf 101 = .ok (.iload 10, 2) := by decide +kernel
theorem dX10_powerOf_103 : decode cX10_powerOf 103 = .ok (.ishr, 1) := by decide +kernel
theorem dX10_powerOf_104 : decode cX10_powerOf 104 = .ok (.iconst 1, 1) := by decide +kernel
theorem dX10_powerOf_105 : decode cX10_powerOf 105 = .ok (.iand, 1) := by decide +kernel
theorem dX10_powerOf_106 : decode cX10_powerOf 106 = .ok (.iadd, 1) := by decide +kernel
theorem dX10_powerOf_107 : decode cX10_powerOf 107 = .ok (.istore 9, 2) := by decide +kernel
theorem dX10_powerOf_109 : decode cX10_powerOf 109 = .ok (.iinc 10 1, 3) := by decide +kernel
theorem dX10_powerOf_112 : decode cX10_powerOf 112 = .ok (.goto (-24), 3) := by decide +kernel
theorem dX10_powerOf_115 : decode cX10_powerOf 115 = .ok (.lload 4, 2) := by decide +kernel
theorem dX10_powerOf_117 : decode cX10_powerOf 117 = .ok (.iload 8, 2) := by decide +kernel
theorem dX10_powerOf_119 : decode cX10_powerOf 119 = .ok (.ifCond .eq 24, 3) := by decide +kernel
theorem dX10_powerOf_122 : decode cX10_powerOf 122 = .ok (.iload 9, 2) := by decide +kernel
theorem dX10_powerOf_124 : decode cX10_powerOf 124 = .ok (.invokestatic 267, 3) := by decide +kernel
theorem dX10_powerOf_127 : decode cX10_powerOf 127 = .ok (.aload_n 0, 1) := by decide +kernel
theorem dX10_powerOf_128 : decode cX10_powerOf 128 = .ok (.getfield 125, 3) := by decide +kernel
theorem dX10_powerOf_131 : decode cX10_powerOf 131 = .ok (.iconst 1, 1) := by decide +kernel
theorem dX10_powerOf_132 : decode cX10_powerOf 132 = .ok (.isub, 1) := by decide +kernel
theorem dX10_powerOf_133 : decode cX10_powerOf 133 = .ok (.iload 9, 2) := by decide +kernel
theorem dX10_powerOf_135 : decode cX10_powerOf 135 = .ok (.isub, 1) := by decide +kernel
theorem dX10_powerOf_136 : decode cX10_powerOf 136 = .ok (.invokestatic 267, 3) := by decide +kernel
theorem dX10_powerOf_139 : decode cX10_powerOf 139 = .ok (.lmul, 1) := by decide +kernel
theorem dX10_powerOf_140 : decode cX10_powerOf 140 = .ok (.goto 4, 3) := by decide +kernel
theorem dX10_powerOf_143 : decode cX10_powerOf 143 = .ok (.lconst 0, 1) := by decide +kernel
theorem dX10_powerOf_144 : decode cX10_powerOf 144 = .ok (.ladd, 1) := by decide +kernel
theorem dX10_powerOf_145 : decode cX10_powerOf 145 = .ok (.lstore 4, 2) := by decide +kernel
theorem dX10_powerOf_147 : decode cX10_powerOf 147 = .ok (.iinc 6 1, 3) := by decide +kernel
theorem dX10_powerOf_150 : decode cX10_powerOf 150 = .ok (.goto (-131), 3) := by decide +kernel
theorem dX10_powerOf_153 : decode cX10_powerOf 153 = .ok (.lload 4, 2) := by decide +kernel
theorem dX10_powerOf_155 : decode cX10_powerOf 155 = .ok (.aload_n 0, 1) := by decide +kernel
theorem dX10_powerOf_156 : decode cX10_powerOf 156 = .ok (.getfield 125, 3) := by decide +kernel
theorem dX10_powerOf_159 : decode cX10_powerOf 159 = .ok (.invokestatic 267, 3) := by decide +kernel
theorem dX10_powerOf_162 : decode cX10_powerOf 162 = .ok (.iload_n 2, 1) := by decide +kernel
theorem dX10_powerOf_163 : decode cX10_powerOf 163 = .ok (.invokestatic 271, 3) := by decide +kernel
theorem dX10_powerOf_166 : decode cX10_powerOf 166 = .ok (.lreturn, 1) := by decide +kernel
theorem dX10_power_0 : decode cX10_power 0 = .ok (.aload_n 0, 1) := by decide +kernel
theorem dX10_power_1 : decode cX10_power 1 = .ok (.iload_n 1, 1) := by decide +kernel
theorem dX10_power_2 : decode cX10_power 2 = .ok (.invokevirtual 149, 3) := by decide +kernel
theorem dX10_power_5 : decode cX10_power 5 = .ok (.ifCond .eq 21, 3) := by decide +kernel
theorem dX10_power_8 : decode cX10_power 8 = .ok (.iload_n 2, 1) := by decide +kernel
theorem dX10_power_9 : decode cX10_power 9 = .ok (.iconst 0, 1) := by decide +kernel
theorem dX10_power_10 : decode cX10_power 10 = .ok (.iconst 1, 1) := by decide +kernel
theorem dX10_power_11 : decode cX10_power 11 = .ok (.invokestatic 106, 3) := by decide +kernel
theorem dX10_power_14 : decode cX10_power 14 = .ok (.ifCond .eq 12, 3) := by decide +kernel
theorem dX10_power_17 : decode cX10_power 17 = .ok (.aload_n 0, 1) := by decide +kernel
theorem dX10_power_18 : decode cX10_power 18 = .ok (.iload_n 1, 1) := by decide +kernel
theorem dX10_power_19 : decode cX10_power 19 = .ok (.iload_n 2, 1) := by decide +kernel
theorem dX10_power_20 : decode cX10_power 20 = .ok (.invokevirtual 275, 3) := by decide +kernel
theorem dX10_power_23 : decode cX10_power 23 = .ok (.goto 8, 3) := by decide +kernel
theorem dX10_power_26 : decode cX10_power 26 = .ok (.bipush (-2), 2) := by decide +kernel
theorem dX10_power_28 : decode cX10_power 28 = .ok (.invokestatic 279, 3) := by decide +kernel
theorem dX10_power_31 : decode cX10_power 31 = .ok (.lreturn, 1) := by decide +kernel
theorem dX10_beats_0 : decode cX10_beats 0 = .ok (.iconst 0, 1) := by decide +kernel
theorem dX10_beats_1 : decode cX10_beats 1 = .ok (.istore_n 3, 1) := by decide +kernel
theorem dX10_beats_2 : decode cX10_beats 2 = .ok (.iconst 0, 1) := by decide +kernel
theorem dX10_beats_3 : decode cX10_beats 3 = .ok (.istore 4, 2) := by decide +kernel
theorem dX10_beats_5 : decode cX10_beats 5 = .ok (.iload 4, 2) := by decide +kernel
theorem dX10_beats_7 : decode cX10_beats 7 = .ok (.aload_n 0, 1) := by decide +kernel
theorem dX10_beats_8 : decode cX10_beats 8 = .ok (.getfield 125, 3) := by decide +kernel
theorem dX10_beats_11 : decode cX10_beats 11 = .ok (.if_icmp .ge 28, 3) := by decide +kernel
theorem dX10_beats_14 : decode cX10_beats 14 = .ok (.iload_n 3, 1) := by decide +kernel
theorem dX10_beats_15 : decode cX10_beats 15 = .ok (.aload_n 0, 1) := by decide +kernel
theorem dX10_beats_16 : decode cX10_beats 16 = .ok (.iload 4, 2) := by decide +kernel
theorem dX10_beats_18 : decode cX10_beats 18 = .ok (.iload_n 1, 1) := by decide +kernel
theorem dX10_beats_19 : decode cX10_beats 19 = .ok (.iload_n 2, 1) := by decide +kernel
theorem dX10_beats_20 : decode cX10_beats 20 = .ok (.invokevirtual 177, 3) := by decide +kernel
theorem dX10_beats_23 : decode cX10_beats 23 = .ok (.ifCond .eq 7, 3) := by decide +kernel
theorem dX10_beats_26 : decode cX10_beats 26 = .ok (.iconst (-1), 1) := by decide +kernel
theorem dX10_beats_27 : decode cX10_beats 27 = .ok (.goto 4, 3) := by decide +kernel
theorem dX10_beats_30 : decode cX10_beats 30 = .ok (.iconst 1, 1) := by decide +kernel
theorem dX10_beats_31 : decode cX10_beats 31 = .ok (.iadd, 1) := by decide +kernel
theorem dX10_beats_32 : decode cX10_beats 32 = .ok (.istore_n 3, 1) := by decide +kernel
theorem dX10_beats_33 : decode cX10_beats 33 = .ok (.iinc 4 1, 3) := by decide +kernel
theorem dX10_beats_36 : decode cX10_beats 36 = .ok (.goto (-31), 3) := by decide +kernel
theorem dX10_beats_39 : decode cX10_beats 39 = .ok (.iload_n 3, 1) := by decide +kernel
theorem dX10_beats_40 : decode cX10_beats 40 = .ok (.ifCond .le 7, 3) := by decide +kernel
theorem dX10_beats_43 : decode cX10_beats 43 = .ok (.iconst 1, 1) := by decide +kernel
theorem dX10_beats_44 : decode cX10_beats 44 = .ok (.goto 4, 3) := by decide +kernel
theorem dX10_beats_47 : decode cX10_beats 47 = .ok (.iconst 0, 1) := by decide +kernel
theorem dX10_beats_48 : decode cX10_beats 48 = .ok (.ireturn, 1) := by decide +kernel
theorem dX10_ringNow_0 : decode cX10_ringNow 0 = .ok (.aload_n 0, 1) := by decide +kernel
theorem dX10_ringNow_1 : decode cX10_ringNow 1 = .ok (.invokevirtual 146, 3) := by decide +kernel
theorem dX10_ringNow_4 : decode cX10_ringNow 4 = .ok (.aload_n 0, 1) := by decide +kernel
theorem dX10_ringNow_5 : decode cX10_ringNow 5 = .ok (.iconst 0, 1) := by decide +kernel
theorem dX10_ringNow_6 : decode cX10_ringNow 6 = .ok (.iconst 1, 1) := by decide +kernel
theorem dX10_ringNow_7 : decode cX10_ringNow 7 = .ok (.invokevirtual 282, 3) := by decide +kernel
theorem dX10_ringNow_10 : decode cX10_ringNow 10 = .ok (.ifCond .eq 25, 3) := by decide +kernel
theorem dX10_ringNow_13 : decode cX10_ringNow 13 = .ok (.aload_n 0, 1) := by decide +kernel
theorem dX10_ringNow_14 : decode cX10_ringNow 14 = .ok (.iconst 1, 1) := by decide +kernel
theorem dX10_ringNow_15 : decode cX10_ringNow 15 = .ok (.iconst 2, 1) := by decide +kernel
theorem dX10_ringNow_16 : decode cX10_ringNow 16 = .ok (.invokevirtual 282, 3) := by decide +kernel
theorem dX10_ringNow_19 : decode cX10_ringNow 19 = .ok (.ifCond .eq 16, 3) := by decide +kernel
theorem dX10_ringNow_22 : decode cX10_ringNow 22 = .ok (.aload_n 0, 1) := by decide +kernel
theorem dX10_ringNow_23 : decode cX10_ringNow 23 = .ok (.iconst 2, 1) := by decide +kernel
theorem dX10_ringNow_24 : decode cX10_ringNow 24 = .ok (.iconst 0, 1) := by decide +kernel
theorem dX10_ringNow_25 : decode cX10_ringNow 25 = .ok (.invokevirtual 282, 3) := by decide +kernel
theorem dX10_ringNow_28 : decode cX10_ringNow 28 = .ok (.ifCond .eq 7, 3) := by decide +kernel
theorem dX10_ringNow_31 : decode cX10_ringNow 31 = .ok (.iconst 1, 1) := by decide +kernel
theorem dX10_ringNow_32 : decode cX10_ringNow 32 = .ok (.goto 35, 3) := by decide +kernel
theorem dX10_ringNow_35 : decode cX10_ringNow 35 = .ok (.aload_n 0, 1) := by decide +kernel
theorem dX10_ringNow_36 : decode cX10_ringNow 36 = .ok (.iconst 1, 1) := by decide +kernel
theorem dX10_ringNow_37 : decode cX10_ringNow 37 = .ok (.iconst 0, 1) := by decide +kernel
theorem dX10_ringNow_38 : decode cX10_ringNow 38 = .ok (.invokevirtual 282, 3) := by decide +kernel
theorem dX10_ringNow_41 : decode cX10_ringNow 41 = .ok (.ifCond .eq 25, 3) := by decide +kernel
theorem dX10_ringNow_44 : decode cX10_ringNow 44 = .ok (.aload_n 0, 1) := by decide +kernel
theorem dX10_ringNow_45 : decode cX10_ringNow 45 = .ok (.iconst 2, 1) := by decide +kernel
theorem dX10_ringNow_46 : decode cX10_ringNow 46 = .ok (.iconst 1, 1) := by decide +kernel
theorem dX10_ringNow_47 : decode cX10_ringNow 47 = .ok (.invokevirtual 282, 3) := by decide +kernel
theorem dX10_ringNow_50 : decode cX10_ringNow 50 = .ok (.ifCond .eq 16, 3) := by decide +kernel
theorem dX10_ringNow_53 : decode cX10_ringNow 53 = .ok (.aload_n 0, 1) := by decide +kernel
theorem dX10_ringNow_54 : decode cX10_ringNow 54 = .ok (.iconst 0, 1) := by decide +kernel
theorem dX10_ringNow_55 : decode cX10_ringNow 55 = .ok (.iconst 2, 1) := by decide +kernel
theorem dX10_ringNow_56 : decode cX10_ringNow 56 = .ok (.invokevirtual 282, 3) := by decide +kernel
theorem dX10_ringNow_59 : decode cX10_ringNow 59 = .ok (.ifCond .eq 7, 3) := by decide +kernel
theorem dX10_ringNow_62 : decode cX10_ringNow 62 = .ok (.iconst 2, 1) := by decide +kernel
theorem dX10_ringNow_63 : decode cX10_ringNow 63 = .ok (.goto 4, 3) := by decide +kernel
theorem dX10_ringNow_66 : decode cX10_ringNow 66 = .ok (.iconst 0, 1) := by decide +kernel
theorem dX10_ringNow_67 : decode cX10_ringNow 67 = .ok (.ireturn, 1) := by decide +kernel
theorem dX10_ring_0 : decode cX10_ring 0 = .ok (.aload_n 0, 1) := by decide +kernel
theorem dX10_ring_1 : decode cX10_ring 1 = .ok (.invokevirtual 285, 3) := by decide +kernel
theorem dX10_ring_4 : decode cX10_ring 4 = .ok (.ireturn, 1) := by decide +kernel
theorem dX10_shamOf_0 : decode cX10_shamOf 0 = .ok (.aload_n 0, 1) := by decide +kernel
theorem dX10_shamOf_1 : decode cX10_shamOf 1 = .ok (.invokevirtual 222, 3) := by decide +kernel
theorem dX10_shamOf_4 : decode cX10_shamOf 4 = .ok (.iload_n 1, 1) := by decide +kernel
theorem dX10_shamOf_5 : decode cX10_shamOf 5 = .ok (.aload_n 0, 1) := by decide +kernel
theorem dX10_shamOf_6 : decode cX10_shamOf 6 = .ok (.getfield 132, 3) := by decide +kernel
theorem dX10_shamOf_9 : decode cX10_shamOf 9 = .ok (.if_icmp .lt 5, 3) := by decide +kernel
theorem dX10_shamOf_12 : decode cX10_shamOf 12 = .ok (.iconst (-1), 1) := by decide +kernel
theorem dX10_shamOf_13 : decode cX10_shamOf 13 = .ok (.ireturn, 1) := by decide +kernel
theorem dX10_shamOf_14 : decode cX10_shamOf 14 = .ok (.aload_n 0, 1) := by decide +kernel
theorem dX10_shamOf_15 : decode cX10_shamOf 15 = .ok (.aload_n 0, 1) := by decide +kernel
theorem dX10_shamOf_16 : decode cX10_shamOf 16 = .ok (.getfield 61, 3) := by decide +kernel
theorem dX10_shamOf_19 : decode cX10_shamOf 19 = .ok (.iload_n 1, 1) := by decide +kernel
theorem dX10_shamOf_20 : decode cX10_shamOf 20 = .ok (.iaload, 1) := by decide +kernel
theorem dX10_shamOf_21 : decode cX10_shamOf 21 = .ok (.putfield 180, 3) := by decide +kernel
theorem dX10_shamOf_24 : decode cX10_shamOf 24 = .ok (.aload_n 0, 1) := by decide +kernel
theorem dX10_shamOf_25 : decode cX10_shamOf 25 = .ok (.aload_n 0, 1) := by decide +kernel
theorem dX10_shamOf_26 : decode cX10_shamOf 26 = .ok (.getfield 67, 3) := by decide +kernel
theorem dX10_shamOf_29 : decode cX10_shamOf 29 = .ok (.iload_n 1, 1) := by decide +kernel
theorem dX10_shamOf_30 : decode cX10_shamOf 30 = .ok (.iaload, 1) := by decide +kernel
theorem dX10_shamOf_31 : decode cX10_shamOf 31 = .ok (.putfield 183, 3) := by decide +kernel
theorem dX10_shamOf_34 : decode cX10_shamOf 34 = .ok (.aload_n 0, 1) := by decide +kernel
theorem dX10_shamOf_35 : decode cX10_shamOf 35 = .ok (.getfield 70, 3) := by decide +kernel
theorem dX10_shamOf_38 : decode cX10_shamOf 38 = .ok (.iload_n 1, 1) := by decide +kernel
theorem dX10_shamOf_39 : decode cX10_shamOf 39 = .ok (.iaload, 1) := by decide +kernel
theorem dX10_shamOf_40 : decode cX10_shamOf 40 = .ok (.istore_n 3, 1) := by decide +kernel
theorem dX10_shamOf_41 : decode cX10_shamOf 41 = .ok (.aload_n 0, 1) := by decide +kernel
theorem dX10_shamOf_42 : decode cX10_shamOf 42 = .ok (.aload_n 0, 1) := by decide +kernel
theorem dX10_shamOf_43 : decode cX10_shamOf 43 = .ok (.getfield 25, 3) := by decide +kernel
theorem dX10_shamOf_46 : decode cX10_shamOf 46 = .ok (.iload_n 1, 1) := by decide +kernel
theorem dX10_shamOf_47 : decode cX10_shamOf 47 = .ok (.iaload, 1) := by decide +kernel
theorem dX10_shamOf_48 : decode cX10_shamOf 48 = .ok (.aload_n 0, 1) := by decide +kernel
theorem dX10_shamOf_49 : decode cX10_shamOf 49 = .ok (.getfield 28, 3) := by decide +kernel
theorem dX10_shamOf_52 : decode cX10_shamOf 52 = .ok (.iload_n 1, 1) := by decide +kernel
theorem dX10_shamOf_53 : decode cX10_shamOf 53 = .ok (.iaload, 1) := by decide +kernel
theorem dX10_shamOf_54 : decode cX10_shamOf 54 = .ok (.aload_n 0, 1) := by decide +kernel
theorem dX10_shamOf_55 : decode cX10_shamOf 55 = .ok (.getfield 31, 3) := by decide +kernel
theorem dX10_shamOf_58 : decode cX10_shamOf 58 = .ok (.iload_n 1, 1) := by decide +kernel
theorem dX10_shamOf_59 : decode cX10_shamOf 59 = .ok (.iaload, 1) := by decide +kernel
theorem dX10_shamOf_60 : decode cX10_shamOf 60 = .ok (.iconst 1, 1) := by decide +kernel
theorem dX10_shamOf_61 : decode cX10_shamOf 61 = .ok (.iload_n 2, 1) := by decide +kernel
theorem dX10_shamOf_62 : decode cX10_shamOf 62 = .ok (.ishl, 1) := by decide +kernel
theorem dX10_shamOf_63 : decode cX10_shamOf 63 = .ok (.invokevirtual 212, 3) := by decide +kernel
theorem dX10_shamOf_66 : decode cX10_shamOf 66 = .ok (.istore 4, 2) := by decide +kernel
theorem dX10_shamOf_68 : decode cX10_shamOf 68 = .ok (.iload 4, 2) := by decide +kernel
theorem dX10_shamOf_70 : decode cX10_shamOf 70 = .ok (.iload_n 3, 1) := by decide +kernel
theorem dX10_shamOf_71 : decode cX10_shamOf 71 = .ok (.if_icmp .eq 18, 3) := by decide +kernel
theorem dX10_shamOf_74 : decode cX10_shamOf 74 = .ok (.aload_n 0, 1) := by decide +kernel
theorem dX10_shamOf_75 : decode cX10_shamOf 75 = .ok (.iload_n 2, 1) := by decide +kernel
theorem dX10_shamOf_76 : decode cX10_shamOf 76 = .ok (.iload_n 3, 1) := by decide +kernel
theorem dX10_shamOf_77 : decode cX10_shamOf 77 = .ok (.iload 4, 2) := by decide +kernel
theorem dX10_shamOf_79 : decode cX10_shamOf 79 = .ok (.invokevirtual 177, 3) := by decide +kernel
theorem dX10_shamOf_82 : decode cX10_shamOf 82 = .ok (.ifCond .eq 7, 3) := by decide +kernel
theorem dX10_shamOf_85 : decode cX10_shamOf 85 = .ok (.iconst 1, 1) := by decide +kernel
theorem dX10_shamOf_86 : decode cX10_shamOf 86 = .ok (.goto 4, 3) := by decide +kernel
theorem dX10_shamOf_89 : decode cX10_shamOf 89 = .ok (.iconst 0, 1) := by decide +kernel
theorem dX10_shamOf_90 : decode cX10_shamOf 90 = .ok (.ireturn, 1) := by decide +kernel
theorem dX10_sham_0 : decode cX10_sham 0 = .ok (.iload_n 1, 1) := by decide +kernel
theorem dX10_sham_1 : decode cX10_sham 1 = .ok (.invokestatic 155, 3) := by decide +kernel
theorem dX10_sham_4 : decode cX10_sham 4 = .ok (.ifCond .eq 20, 3) := by decide +kernel
theorem dX10_sham_7 : decode cX10_sham 7 = .ok (.aload_n 0, 1) := by decide +kernel
theorem dX10_sham_8 : decode cX10_sham 8 = .ok (.iload_n 2, 1) := by decide +kernel
theorem dX10_sham_9 : decode cX10_sham 9 = .ok (.invokevirtual 149, 3) := by decide +kernel
theorem dX10_sham_12 : decode cX10_sham 12 = .ok (.ifCond .eq 12, 3) := by decide +kernel
theorem dX10_sham_15 : decode cX10_sham 15 = .ok (.aload_n 0, 1) := by decide +kernel
theorem dX10_sham_16 : decode cX10_sham 16 = .ok (.iload_n 1, 1) := by decide +kernel
theorem dX10_sham_17 : decode cX10_sham 17 = .ok (.iload_n 2, 1) := by decide +kernel
theorem dX10_sham_18 : decode cX10_sham 18 = .ok (.invokevirtual 288, 3) := by decide +kernel
theorem dX10_sham_21 : decode cX10_sham 21 = .ok (.goto 5, 3) := by decide +kernel
theorem dX10_sham_24 : decode cX10_sham 24 = .ok (.bipush (-2), 2) := by decide +kernel
theorem dX10_sham_26 : decode cX10_sham 26 = .ok (.ireturn, 1) := by decide +kernel
theorem dX10_seen_0 : decode cX10_seen 0 = .ok (.iload_n 1, 1) := by decide +kernel
theorem dX10_seen_1 : decode cX10_seen 1 = .ok (.invokestatic 155, 3) := by decide +kernel
theorem dX10_seen_4 : decode cX10_seen 4 = .ok (.ifCond .eq 12, 3) := by decide +kernel
theorem dX10_seen_7 : decode cX10_seen 7 = .ok (.iload_n 2, 1) := by decide +kernel
theorem dX10_seen_8 : decode cX10_seen 8 = .ok (.iconst 0, 1) := by decide +kernel
theorem dX10_seen_9 : decode cX10_seen 9 = .ok (.iconst 3, 1) := by decide +kernel
theorem dX10_seen_10 : decode cX10_seen 10 = .ok (.invokestatic 106, 3) := by decide +kernel
theorem dX10_seen_13 : decode cX10_seen 13 = .ok (.ifCond .ne 6, 3) := by decide +kernel
theorem dX10_seen_16 : decode cX10_seen 16 = .ok (.bipush (-2), 2) := by decide +kernel
theorem dX10_seen_18 : decode cX10_seen 18 = .ok (.ireturn, 1) := by decide +kernel
theorem dX10_seen_19 : decode cX10_seen 19 = .ok (.aload_n 0, 1) := by decide +kernel
theorem dX10_seen_20 : decode cX10_seen 20 = .ok (.getfield 291, 3) := by decide +kernel
theorem dX10_seen_23 : decode cX10_seen 23 = .ok (.bipush 8, 2) := by decide +kernel
theorem dX10_seen_25 : decode cX10_seen 25 = .ok (.if_icmp .ne 6, 3) := by decide +kernel
theorem dX10_seen_28 : decode cX10_seen 28 = .ok (.bipush (-4), 2) := by decide +kernel
theorem dX10_seen_30 : decode cX10_seen 30 = .ok (.ireturn, 1) := by decide +kernel
theorem dX10_seen_31 : decode cX10_seen 31 = .ok (.aload_n 0, 1) := by decide +kernel
theorem dX10_seen_32 : decode cX10_seen 32 = .ok (.getfield 76, 3) := by decide +kernel
theorem dX10_seen_35 : decode cX10_seen 35 = .ok (.aload_n 0, 1) := by decide +kernel
theorem dX10_seen_36 : decode cX10_seen 36 = .ok (.getfield 291, 3) := by decide +kernel
theorem dX10_seen_39 : decode cX10_seen 39 = .ok (.iload_n 1, 1) := by decide +kernel
theorem dX10_seen_40 : decode cX10_seen 40 = .ok (.iastore, 1) := by decide +kernel
theorem dX10_seen_41 : decode cX10_seen 41 = .ok (.aload_n 0, 1) := by decide +kernel
theorem dX10_seen_42 : decode cX10_seen 42 = .ok (.getfield 79, 3) := by decide +kernel
theorem dX10_seen_45 : decode cX10_seen 45 = .ok (.aload_n 0, 1) := by decide +kernel
theorem dX10_seen_46 : decode cX10_seen 46 = .ok (.getfield 291, 3) := by decide +kernel
theorem dX10_seen_49 : decode cX10_seen 49 = .ok (.iload_n 2, 1) := by decide +kernel
theorem dX10_seen_50 : decode cX10_seen 50 = .ok (.iastore, 1) := by decide +kernel
theorem dX10_seen_51 : decode cX10_seen 51 = .ok (.aload_n 0, 1) := by decide +kernel
theorem dX10_seen_52 : decode cX10_seen 52 = .ok (.dup, 1) := by decide +kernel
theorem dX10_seen_53 : decode cX10_seen 53 = .ok (.getfield 291, 3) := by decide +kernel
theorem dX10_seen_56 : decode cX10_seen 56 = .ok (.iconst 1, 1) := by decide +kernel
theorem dX10_seen_57 : decode cX10_seen 57 = .ok (.iadd, 1) := by decide +kernel
theorem dX10_seen_58 : decode cX10_seen 58 = .ok (.putfield 291, 3) := by decide +kernel
theorem dX10_seen_61 : decode cX10_seen 61 = .ok (.aload_n 0, 1) := by decide +kernel
theorem dX10_seen_62 : decode cX10_seen 62 = .ok (.getfield 291, 3) := by decide +kernel
theorem dX10_seen_65 : decode cX10_seen 65 = .ok (.ireturn, 1) := by decide +kernel
theorem dX10_forget_0 : decode cX10_forget 0 = .ok (.aload_n 0, 1) := by decide +kernel
theorem dX10_forget_1 : decode cX10_forget 1 = .ok (.getfield 291, 3) := by decide +kernel
theorem dX10_forget_4 : decode cX10_forget 4 = .ok (.istore_n 1, 1) := by decide +kernel
theorem dX10_forget_5 : decode cX10_forget 5 = .ok (.aload_n 0, 1) := by decide +kernel
theorem dX10_forget_6 : decode cX10_forget 6 = .ok (.iconst 0, 1) := by decide +kernel
theorem dX10_forget_7 : decode cX10_forget 7 = .ok (.putfield 291, 3) := by decide +kernel
theorem dX10_forget_10 : decode cX10_forget 10 = .ok (.iload_n 1, 1) := by decide +kernel
theorem dX10_forget_11 : decode cX10_forget 11 = .ok (.ireturn, 1) := by decide +kernel
theorem dX10_isSeen_0 : decode cX10_isSeen 0 = .ok (.aload_n 0, 1) := by decide +kernel
theorem dX10_isSeen_1 : decode cX10_isSeen 1 = .ok (.invokevirtual 219, 3) := by decide +kernel
theorem dX10_isSeen_4 : decode cX10_isSeen 4 = .ok (.iconst 1, 1) := by decide +kernel
theorem dX10_isSeen_5 : decode cX10_isSeen 5 = .ok (.istore_n 1, 1) := by decide +kernel
theorem dX10_isSeen_6 : decode cX10_isSeen 6 = .ok (.iconst 0, 1) := by decide +kernel
theorem dX10_isSeen_7 : decode cX10_isSeen 7 = .ok (.istore_n 2, 1) := by decide +kernel
theorem dX10_isSeen_8 : decode cX10_isSeen 8 = .ok (.iload_n 2, 1) := by decide +kernel
theorem dX10_isSeen_9 : decode cX10_isSeen 9 = .ok (.aload_n 0, 1) := by decide +kernel
theorem dX10_isSeen_10 : decode cX10_isSeen 10 = .ok (.getfield 291, 3) := by decide +kernel
theorem dX10_isSeen_13 : decode cX10_isSeen 13 = .ok (.if_icmp .ge 50, 3) := by decide +kernel
theorem dX10_isSeen_16 : decode cX10_isSeen 16 = .ok (.iload_n 1, 1) := by decide +kernel
theorem dX10_isSeen_17 : decode cX10_isSeen 17 = .ok (.ifCond .eq 46, 3) := by decide +kernel
theorem dX10_isSeen_20 : decode cX10_isSeen 20 = .ok (.aload_n 0, 1) := by decide +kernel
theorem dX10_isSeen_21 : decode cX10_isSeen 21 = .ok (.getfield 70, 3) := by decide +kernel
theorem dX10_isSeen_24 : decode cX10_isSeen 24 = .ok (.aload_n 0, 1) := by decide +kernel
theorem dX10_isSeen_25 : decode cX10_isSeen 25 = .ok (.getfield 76, 3) := by decide +kernel
theorem dX10_isSeen_28 : decode cX10_isSeen 28 = .ok (.iload_n 2, 1) := by decide +kernel
theorem dX10_isSeen_29 : decode cX10_isSeen 29 = .ok (.iaload, 1) := by decide +kernel
theorem dX10_isSeen_30 : decode cX10_isSeen 30 = .ok (.iaload, 1) := by decide +kernel
theorem dX10_isSeen_31 : decode cX10_isSeen 31 = .ok (.istore_n 3, 1) := by decide +kernel
theorem dX10_isSeen_32 : decode cX10_isSeen 32 = .ok (.iload_n 3, 1) := by decide +kernel
theorem dX10_isSeen_33 : decode cX10_isSeen 33 = .ok (.iconst (-1), 1) := by decide +kernel
theorem dX10_isSeen_34 : decode cX10_isSeen 34 = .ok (.if_icmp .ne 7, 3) := by decide +kernel
theorem dX10_isSeen_37 : decode cX10_isSeen 37 = .ok (.iconst 3, 1) := by decide +kernel
theorem dX10_isSeen_38 : decode cX10_isSeen 38 = .ok (.goto 4, 3) := by decide +kernel
theorem dX10_isSeen_41 : decode cX10_isSeen 41 = .ok (.iload_n 3, 1) := by decide +kernel
theorem dX10_isSeen_42 : decode cX10_isSeen 42 = .ok (.aload_n 0, 1) := by decide +kernel
theorem dX10_isSeen_43 : decode cX10_isSeen 43 = .ok (.getfield 79, 3) := by decide +kernel
theorem dX10_isSeen_46 : decode cX10_isSeen 46 = .ok (.iload_n 2, 1) := by decide +kernel
theorem dX10_isSeen_47 : decode cX10_isSeen 47 = .ok (.iaload, 1) := by decide +kernel
theorem dX10_isSeen_48 : decode cX10_isSeen 48 = .ok (.if_icmp .ne 7, 3) := by decide +kernel
theorem dX10_isSeen_51 : decode cX10_isSeen 51 = .ok (.iconst 1, 1) := by decide +kernel
theorem dX10_isSeen_52 : decode cX10_isSeen 52 = .ok (.goto 4, 3) := by decide +kernel
theorem dX10_isSeen_55 : decode cX10_isSeen 55 = .ok (.iconst 0, 1) := by decide +kernel
theorem dX10_isSeen_56 : decode cX10_isSeen 56 = .ok (.istore_n 1, 1) := by decide +kernel
theorem dX10_isSeen_57 : decode cX10_isSeen 57 = .ok (.iinc 2 1, 3) := by decide +kernel
theorem dX10_isSeen_60 : decode cX10_isSeen 60 = .ok (.goto (-52), 3) := by decide +kernel
theorem dX10_isSeen_63 : decode cX10_isSeen 63 = .ok (.iload_n 1, 1) := by decide +kernel
theorem dX10_isSeen_64 : decode cX10_isSeen 64 = .ok (.ireturn, 1) := by decide +kernel
theorem dX10_neverNow_0 : decode cX10_neverNow 0 = .ok (.aload_n 0, 1) := by decide +kernel
theorem dX10_neverNow_1 : decode cX10_neverNow 1 = .ok (.invokevirtual 216, 3) := by decide +kernel
theorem dX10_neverNow_4 : decode cX10_neverNow 4 = .ok (.iconst 0, 1) := by decide +kernel
theorem dX10_neverNow_5 : decode cX10_neverNow 5 = .ok (.istore_n 1, 1) := by decide +kernel
theorem dX10_neverNow_6 : decode cX10_neverNow 6 = .ok (.iconst 0, 1) := by decide +kernel
theorem dX10_neverNow_7 : decode cX10_neverNow 7 = .ok (.istore_n 2, 1) := by decide +kernel
theorem dX10_neverNow_8 : decode cX10_neverNow 8 = .ok (.iload_n 2, 1) := by decide +kernel
theorem dX10_neverNow_9 : decode cX10_neverNow 9 = .ok (.aload_n 0, 1) := by decide +kernel
theorem dX10_neverNow_10 : decode cX10_neverNow 10 = .ok (.getfield 161, 3) := by decide +kernel
theorem dX10_neverNow_13 : decode cX10_neverNow 13 = .ok (.if_icmp .ge 33, 3) := by decide +kernel
theorem dX10_neverNow_16 : decode cX10_neverNow 16 = .ok (.aload_n 0, 1) := by decide +kernel
theorem dX10_neverNow_17 : decode cX10_neverNow 17 = .ok (.iconst 1, 1) := by decide +kernel
theorem dX10_neverNow_18 : decode cX10_neverNow 18 = .ok (.iload_n 2, 1) := by decide +kernel
theorem dX10_neverNow_19 : decode cX10_neverNow 19 = .ok (.ishl, 1) := by decide +kernel
theorem dX10_neverNow_20 : decode cX10_neverNow 20 = .ok (.putfield 192, 3) := by decide +kernel
theorem dX10_neverNow_23 : decode cX10_neverNow 23 = .ok (.iload_n 1, 1) := by decide +kernel
theorem dX10_neverNow_24 : decode cX10_neverNow 24 = .ok (.aload_n 0, 1) := by decide +kernel
theorem dX10_neverNow_25 : decode cX10_neverNow 25 = .ok (.invokevirtual 294, 3) := by decide +kernel
theorem dX10_neverNow_28 : decode cX10_neverNow 28 = .ok (.ifCond .eq 9, 3) := by decide +kernel
theorem dX10_neverNow_31 : decode cX10_neverNow 31 = .ok (.iconst 1, 1) := by decide +kernel
theorem dX10_neverNow_32 : decode cX10_neverNow 32 = .ok (.iload_n 2, 1) := by decide +kernel
theorem dX10_neverNow_33 : decode cX10_neverNow 33 = .ok (.ishl, 1) := by decide +kernel
theorem dX10_neverNow_34 : decode cX10_neverNow 34 = .ok (.goto 4, 3) := by decide +kernel
theorem dX10_neverNow_37 : decode cX10_neverNow 37 = .ok (.iconst 0, 1) := by decide +kernel
theorem dX10_neverNow_38 : decode cX10_neverNow 38 = .ok (.ior, 1) := by decide +kernel
theorem dX10_neverNow_39 : decode cX10_neverNow 39 = .ok (.istore_n 1, 1) := by decide +kernel
theorem dX10_neverNow_40 : decode cX10_neverNow 40 = .ok (.iinc 2 1, 3) := by decide +kernel
theorem dX10_neverNow_43 : decode cX10_neverNow 43 = .ok (.goto (-35), 3) := by decide +kernel
theorem dX10_neverNow_46 : decode cX10_neverNow 46 = .ok (.iload_n 1, 1) := by decide +kernel
theorem dX10_neverNow_47 : decode cX10_neverNow 47 = .ok (.ireturn, 1) := by decide +kernel
theorem dX10_never_0 : decode cX10_never 0 = .ok (.aload_n 0, 1) := by decide +kernel
theorem dX10_never_1 : decode cX10_never 1 = .ok (.invokevirtual 298, 3) := by decide +kernel
theorem dX10_never_4 : decode cX10_never 4 = .ok (.ireturn, 1) := by decide +kernel
theorem dX10_takesOrder_0 : decode cX10_takesOrder 0 = .ok (.iload_n 2, 1) := by decide +kernel
theorem dX10_takesOrder_1 : decode cX10_takesOrder 1 = .ok (.iconst 2, 1) := by decide +kernel
theorem dX10_takesOrder_2 : decode cX10_takesOrder 2 = .ok (.idiv, 1) := by decide +kernel
theorem dX10_takesOrder_3 : decode cX10_takesOrder 3 = .ok (.istore_n 3, 1) := by decide +kernel
theorem dX10_takesOrder_4 : decode cX10_takesOrder 4 = .ok (.iload_n 3, 1) := by decide +kernel
theorem dX10_takesOrder_5 : decode cX10_takesOrder 5 = .ok (.ifCond .ne 7, 3) := by decide +kernel
theorem dX10_takesOrder_8 : decode cX10_takesOrder 8 = .ok (.iconst 1, 1) := by decide +kernel
theorem dX10_takesOrder_9 : decode cX10_takesOrder 9 = .ok (.goto 4, 3) := by decide +kernel
theorem dX10_takesOrder_12 : decode cX10_takesOrder 12 = .ok (.iconst 0, 1) := by decide +kernel
theorem dX10_takesOrder_13 : decode cX10_takesOrder 13 = .ok (.istore 4, 2) := by decide +kernel
theorem dX10_takesOrder_15 : decode cX10_takesOrder 15 = .ok (.iload_n 3, 1) := by decide +kernel
theorem dX10_takesOrder_16 : decode cX10_takesOrder 16 = .ok (.iconst 2, 1) := by decide +kernel
theorem dX10_takesOrder_17 : decode cX10_takesOrder 17 = .ok (.if_icmp .ne 7, 3) := by decide +kernel
theorem dX10_takesOrder_20 : decode cX10_takesOrder 20 = .ok (.iconst 1, 1) := by decide +kernel
theorem dX10_takesOrder_21 : decode cX10_takesOrder 21 = .ok (.goto 4, 3) := by decide +kernel
theorem dX10_takesOrder_24 : decode cX10_takesOrder 24 = .ok (.iconst 2, 1) := by decide +kernel
theorem dX10_takesOrder_25 : decode cX10_takesOrder 25 = .ok (.istore 5, 2) := by decide +kernel
theorem dX10_takesOrder_27 : decode cX10_takesOrder 27 = .ok (.aload_n 0, 1) := by decide +kernel
theorem dX10_takesOrder_28 : decode cX10_takesOrder 28 = .ok (.getfield 22, 3) := by decide +kernel
theorem dX10_takesOrder_31 : decode cX10_takesOrder 31 = .ok (.iconst 3, 1) := by decide +kernel
theorem dX10_takesOrder_32 : decode cX10_takesOrder 32 = .ok (.iload_n 1, 1) := by decide +kernel
theorem dX10_takesOrder_33 : decode cX10_takesOrder 33 = .ok (.imul, 1) := by decide +kernel
theorem dX10_takesOrder_34 : decode cX10_takesOrder 34 = .ok (.iload_n 3, 1) := by decide +kernel
theorem dX10_takesOrder_35 : decode cX10_takesOrder 35 = .ok (.iastore, 1) := by decide +kernel
theorem dX10_takesOrder_36 : decode cX10_takesOrder 36 = .ok (.aload_n 0, 1) := by decide +kernel
theorem dX10_takesOrder_37 : decode cX10_takesOrder 37 = .ok (.getfield 22, 3) := by decide +kernel
theorem dX10_takesOrder_40 : decode cX10_takesOrder 40 = .ok (.iconst 3, 1) := by decide +kernel
theorem dX10_takesOrder_41 : decode cX10_takesOrder 41 = .ok (.iload_n 1, 1) := by decide +kernel
theorem dX10_takesOrder_42 : decode cX10_takesOrder 42 = .ok (.imul, 1) := by decide +kernel
theorem dX10_takesOrder_43 : decode cX10_takesOrder 43 = .ok (.iconst 1, 1) := by decide +kernel
theorem dX10_takesOrder_44 : decode cX10_takesOrder 44 = .ok (.iadd, 1) := by decide +kernel
theorem dX10_takesOrder_45 : decode cX10_takesOrder 45 = .ok (.iload_n 2, 1) := by decide +kernel
theorem dX10_takesOrder_46 : decode cX10_takesOrder 46 = .ok (.iconst 2, 1) := by decide +kernel
theorem dX10_takesOrder_47 : decode cX10_takesOrder 47 = .ok (.irem, 1) := by decide +kernel
theorem dX10_takesOrder_48 : decode cX10_takesOrder 48 = .ok (.ifCond .ne 8, 3) := by decide +kernel
theorem dX10_takesOrder_51 : decode cX10_takesOrder 51 = .ok (.iload 4, 2) := by decide +kernel
theorem dX10_takesOrder_53 : decode cX10_takesOrder 53 = .ok (.goto 5, 3) := by decide +kernel
theorem dX10_takesOrder_56 : decode cX10_takesOrder 56 = .ok (.iload 5, 2) := by decide +kernel
theorem dX10_takesOrder_58 : decode cX10_takesOrder 58 = .ok (.iastore, 1) := by decide +kernel
theorem dX10_takesOrder_59 : decode cX10_takesOrder 59 = .ok (.aload_n 0, 1) := by decide +kernel
theorem dX10_takesOrder_60 : decode cX10_takesOrder 60 = .ok (.getfield 22, 3) := by decide +kernel
theorem dX10_takesOrder_63 : decode cX10_takesOrder 63 = .ok (.iconst 3, 1) := by decide +kernel
theorem dX10_takesOrder_64 : decode cX10_takesOrder 64 = .ok (.iload_n 1, 1) := by decide +kernel
theorem dX10_takesOrder_65 : decode cX10_takesOrder 65 = .ok (.imul, 1) := by decide +kernel
theorem dX10_takesOrder_66 : decode cX10_takesOrder 66 = .ok (.iconst 2, 1) := by decide +kernel
theorem dX10_takesOrder_67 : decode cX10_takesOrder 67 = .ok (.iadd, 1) := by decide +kernel
theorem dX10_takesOrder_68 : decode cX10_takesOrder 68 = .ok (.iload_n 2, 1) := by decide +kernel
theorem dX10_takesOrder_69 : decode cX10_takesOrder 69 = .ok (.iconst 2, 1) := by decide +kernel
theorem dX10_takesOrder_70 : decode cX10_takesOrder 70 = .ok (.irem, 1) := by decide +kernel
theorem dX10_takesOrder_71 : decode cX10_takesOrder 71 = .ok (.ifCond .ne 8, 3) := by decide +kernel
theorem dX10_takesOrder_74 : decode cX10_takesOrder 74 = .ok (.iload 5, 2) := by decide +kernel
theorem dX10_takesOrder_76 : decode cX10_takesOrder 76 = .ok (.goto 5, 3) := by decide +kernel
theorem dX10_takesOrder_79 : decode cX10_takesOrder 79 = .ok (.iload 4, 2) := by decide +kernel
theorem dX10_takesOrder_81 : decode cX10_takesOrder 81 = .ok (.iastore, 1) := by decide +kernel
theorem dX10_takesOrder_82 : decode cX10_takesOrder 82 = .ok (.return_, 1) := by decide +kernel
theorem dX10_wouldBy_0 : decode cX10_wouldBy 0 = .ok (.aload_n 0, 1) := by decide +kernel
theorem dX10_wouldBy_1 : decode cX10_wouldBy 1 = .ok (.invokevirtual 216, 3) := by decide +kernel
theorem dX10_wouldBy_4 : decode cX10_wouldBy 4 = .ok (.aload_n 0, 1) := by decide +kernel
theorem dX10_wouldBy_5 : decode cX10_wouldBy 5 = .ok (.getfield 22, 3) := by decide +kernel
theorem dX10_wouldBy_8 : decode cX10_wouldBy 8 = .ok (.iconst 3, 1) := by decide +kernel
theorem dX10_wouldBy_9 : decode cX10_wouldBy 9 = .ok (.iload_n 1, 1) := by decide +kernel
theorem dX10_wouldBy_10 : decode cX10_wouldBy 10 = .ok (.imul, 1) := by decide +kernel
theorem dX10_wouldBy_11 : decode cX10_wouldBy 11 = .ok (.iaload, 1) := by decide +kernel
theorem dX10_wouldBy_12 : decode cX10_wouldBy 12 = .ok (.istore_n 2, 1) := by decide +kernel
theorem dX10_wouldBy_13 : decode cX10_wouldBy 13 = .ok (.aload_n 0, 1) := by decide +kernel
theorem dX10_wouldBy_14 : decode cX10_wouldBy 14 = .ok (.getfield 22, 3) := by decide +kernel
theorem dX10_wouldBy_17 : decode cX10_wouldBy 17 = .ok (.iconst 3, 1) := by decide +kernel
theorem dX10_wouldBy_18 : decode cX10_wouldBy 18 = .ok (.iload_n 1, 1) := by decide +kernel
theorem dX10_wouldBy_19 : decode cX10_wouldBy 19 = .ok (.imul, 1) := by decide +kernel
theorem dX10_wouldBy_20 : decode cX10_wouldBy 20 = .ok (.iconst 1, 1) := by decide +kernel
theorem dX10_wouldBy_21 : decode cX10_wouldBy 21 = .ok (.iadd, 1) := by decide +kernel
theorem dX10_wouldBy_22 : decode cX10_wouldBy 22 = .ok (.iaload, 1) := by decide +kernel
theorem dX10_wouldBy_23 : decode cX10_wouldBy 23 = .ok (.istore_n 3, 1) := by decide +kernel
theorem dX10_wouldBy_24 : decode cX10_wouldBy 24 = .ok (.aload_n 0, 1) := by decide +kernel
theorem dX10_wouldBy_25 : decode cX10_wouldBy 25 = .ok (.getfield 22, 3) := by decide +kernel
theorem dX10_wouldBy_28 : decode cX10_wouldBy 28 = .ok (.iconst 3, 1) := by decide +kernel
theorem dX10_wouldBy_29 : decode cX10_wouldBy 29 = .ok (.iload_n 1, 1) := by decide +kernel
theorem dX10_wouldBy_30 : decode cX10_wouldBy 30 = .ok (.imul, 1) := by decide +kernel
theorem dX10_wouldBy_31 : decode cX10_wouldBy 31 = .ok (.iconst 2, 1) := by decide +kernel
theorem dX10_wouldBy_32 : decode cX10_wouldBy 32 = .ok (.iadd, 1) := by decide +kernel
theorem dX10_wouldBy_33 : decode cX10_wouldBy 33 = .ok (.iaload, 1) := by decide +kernel
theorem dX10_wouldBy_34 : decode cX10_wouldBy 34 = .ok (.istore 4, 2) := by decide +kernel
theorem dX10_wouldBy_36 : decode cX10_wouldBy 36 = .ok (.iconst 0, 1) := by decide +kernel
theorem dX10_wouldBy_37 : decode cX10_wouldBy 37 = .ok (.istore 5, 2) := by decide +kernel
theorem dX10_wouldBy_39 : decode cX10_wouldBy 39 = .ok (.iconst 0, 1) := by decide +kernel
theorem dX10_wouldBy_40 : decode cX10_wouldBy 40 = .ok (.istore 6, 2) := by decide +kernel
theorem dX10_wouldBy_42 : decode cX10_wouldBy 42 = .ok (.iload 6, 2) := by decide +kernel
theorem dX10_wouldBy_44 : decode cX10_wouldBy 44 = .ok (.bipush 6, 2) := by decide +kernel
theorem dX10_wouldBy_46 : decode cX10_wouldBy 46 = .ok (.if_icmp .ge 72, 3) := by decide +kernel
theorem dX10_wouldBy_49 : decode cX10_wouldBy 49 = .ok (.aload_n 0, 1) := by decide +kernel
theorem dX10_wouldBy_50 : decode cX10_wouldBy 50 = .ok (.iload_n 1, 1) := by decide +kernel
theorem dX10_wouldBy_51 : decode cX10_wouldBy 51 = .ok (.iload 6, 2) := by decide +kernel
theorem dX10_wouldBy_53 : decode cX10_wouldBy 53 = .ok (.invokevirtual 301, 3) := by decide +kernel
theorem dX10_wouldBy_56 : decode cX10_wouldBy 56 = .ok (.iload 5, 2) := by decide +kernel
theorem dX10_wouldBy_58 : decode cX10_wouldBy 58 = .ok (.aload_n 0, 1) := by decide +kernel
theorem dX10_wouldBy_59 : decode cX10_wouldBy 59 = .ok (.invokevirtual 294, 3) := by decide +kernel
theorem dX10_wouldBy_62 : decode cX10_wouldBy 62 = .ok (.ifCond .eq 10, 3) := by decide +kernel
theorem dX10_wouldBy_65 : decode cX10_wouldBy 65 = .ok (.iconst 1, 1) := by decide +kernel
theorem dX10_wouldBy_66 : decode cX10_wouldBy 66 = .ok (.iload 6, 2) := by decide +kernel
theorem dX10_wouldBy_68 : decode cX10_wouldBy 68 = .ok (.ishl, 1) := by decide +kernel
theorem dX10_wouldBy_69 : decode cX10_wouldBy 69 = .ok (.goto 4, 3) := by decide +kernel
theorem dX10_wouldBy_72 : decode cX10_wouldBy 72 = .ok (.iconst 0, 1) := by decide +kernel
theorem dX10_wouldBy_73 : decode cX10_wouldBy 73 = .ok (.ior, 1) := by decide +kernel
theorem dX10_wouldBy_74 : decode cX10_wouldBy 74 = .ok (.istore 5, 2) := by decide +kernel
theorem dX10_wouldBy_76 : decode cX10_wouldBy 76 = .ok (.iconst 0, 1) := by decide +kernel
theorem dX10_wouldBy_77 : decode cX10_wouldBy 77 = .ok (.istore 7, 2) := by decide +kernel
theorem dX10_wouldBy_79 : decode cX10_wouldBy 79 = .ok (.iload 7, 2) := by decide +kernel
theorem dX10_wouldBy_81 : decode cX10_wouldBy 81 = .ok (.bipush 10, 2) := by decide +kernel
theorem dX10_wouldBy_83 : decode cX10_wouldBy 83 = .ok (.if_icmp .ge 29, 3) := by decide +kernel
theorem dX10_wouldBy_86 : decode cX10_wouldBy 86 = .ok (.aload_n 0, 1) := by decide +kernel
theorem dX10_wouldBy_87 : decode cX10_wouldBy 87 = .ok (.getfield 82, 3) := by decide +kernel
theorem dX10_wouldBy_90 : decode cX10_wouldBy 90 = .ok (.bipush 10, 2) := by decide +kernel
theorem dX10_wouldBy_92 : decode cX10_wouldBy 92 = .ok (.iload 6, 2) := by decide +kernel
theorem dX10_wouldBy_94 : decode cX10_wouldBy 94 = .ok (.imul, 1) := by decide +kernel
theorem dX10_wouldBy_95 : decode cX10_wouldBy 95 = .ok (.iload 7, 2) := by decide +kernel
theorem dX10_wouldBy_97 : decode cX10_wouldBy 97 = .ok (.iadd, 1) := by decide +kernel
theorem dX10_wouldBy_98 : decode cX10_wouldBy 98 = .ok (.aload_n 0, 1) := by decide +kernel
theorem dX10_wouldBy_99 : decode cX10_wouldBy 99 = .ok (.getfield 70, 3) := by decide +kernel
theorem dX10_wouldBy_102 : decode cX10_wouldBy 102 = .ok (.iload 7, 2) := by decide +kernel
theorem dX10_wouldBy_104 : decode cX10_wouldBy 104 = .ok (.iaload, 1) := by decide +kernel
theorem dX10_wouldBy_105 : decode cX10_wouldBy 105 = .ok (.iastore, 1) := by decide +kernel
theorem dX10_wouldBy_106 : decode cX10_wouldBy 106 = .ok (.iinc 7 1, 3) := by decide +kernel
theorem dX10_wouldBy_109 : decode cX10_wouldBy 109 = .ok (.goto (-30), 3) := by decide +kernel
theorem dX10_wouldBy_112 : decode cX10_wouldBy 112 = .ok (.iinc 6 1, 3) := by decide +kernel
theorem dX10_wouldBy_115 : decode cX10_wouldBy 115 = .ok (.goto (-73), 3) := by decide +kernel
theorem dX10_wouldBy_118 : decode cX10_wouldBy 118 = .ok (.aload_n 0, 1) := by decide +kernel
theorem dX10_wouldBy_119 : decode cX10_wouldBy 119 = .ok (.getfield 22, 3) := by decide +kernel
theorem dX10_wouldBy_122 : decode cX10_wouldBy 122 = .ok (.iconst 3, 1) := by decide +kernel
theorem dX10_wouldBy_123 : decode cX10_wouldBy 123 = .ok (.iload_n 1, 1) := by decide +kernel
theorem dX10_wouldBy_124 : decode cX10_wouldBy 124 = .ok (.imul, 1) := by decide +kernel
theorem dX10_wouldBy_125 : decode cX10_wouldBy 125 = .ok (.iload_n 2, 1) := by decide +kernel
theorem dX10_wouldBy_126 : decode cX10_wouldBy 126 = .ok (.iastore, 1) := by decide +kernel
theorem dX10_wouldBy_127 : decode cX10_wouldBy 127 = .ok (.aload_n 0, 1) := by decide +kernel
theorem dX10_wouldBy_128 : decode cX10_wouldBy 128 = .ok (.getfield 22, 3) := by decide +kernel
theorem dX10_wouldBy_131 : decode cX10_wouldBy 131 = .ok (.iconst 3, 1) := by decide +kernel
theorem dX10_wouldBy_132 : decode cX10_wouldBy 132 = .ok (.iload_n 1, 1) := by decide +kernel
theorem dX10_wouldBy_133 : decode cX10_wouldBy 133 = .ok (.imul, 1) := by decide +kernel
theorem dX10_wouldBy_134 : decode cX10_wouldBy 134 = .ok (.iconst 1, 1) := by decide +kernel
theorem dX10_wouldBy_135 : decode cX10_wouldBy 135 = .ok (.iadd, 1) := by decide +kernel
theorem dX10_wouldBy_136 : decode cX10_wouldBy 136 = .ok (.iload_n 3, 1) := by decide +kernel
theorem dX10_wouldBy_137 : decode cX10_wouldBy 137 = .ok (.iastore, 1) := by decide +kernel
theorem dX10_wouldBy_138 : decode cX10_wouldBy 138 = .ok (.aload_n 0, 1) := by decide +kernel
theorem dX10_wouldBy_139 : decode cX10_wouldBy 139 = .ok (.getfield 22, 3) := by decide +kernel
theorem dX10_wouldBy_142 : decode cX10_wouldBy 142 = .ok (.iconst 3, 1) := by decide +kernel
theorem dX10_wouldBy_143 : decode cX10_wouldBy 143 = .ok (.iload_n 1, 1) := by decide +kernel
theorem dX10_wouldBy_144 : decode cX10_wouldBy 144 = .ok (.imul, 1) := by decide +kernel
theorem dX10_wouldBy_145 : decode cX10_wouldBy 145 = .ok (.iconst 2, 1) := by decide +kernel
theorem dX10_wouldBy_146 : decode cX10_wouldBy 146 = .ok (.iadd, 1) := by decide +kernel
theorem dX10_wouldBy_147 : decode cX10_wouldBy 147 = .ok (.iload 4, 2) := by decide +kernel
theorem dX10_wouldBy_149 : decode cX10_wouldBy 149 = .ok (.iastore, 1) := by decide +kernel
theorem dX10_wouldBy_150 : decode cX10_wouldBy 150 = .ok (.iload 5, 2) := by decide +kernel
theorem dX10_wouldBy_152 : decode cX10_wouldBy 152 = .ok (.ireturn, 1) := by decide +kernel
theorem dX10_would_0 : decode cX10_would 0 = .ok (.aload_n 0, 1) := by decide +kernel
theorem dX10_would_1 : decode cX10_would 1 = .ok (.iload_n 1, 1) := by decide +kernel
theorem dX10_would_2 : decode cX10_would 2 = .ok (.invokevirtual 149, 3) := by decide +kernel
theorem dX10_would_5 : decode cX10_would 5 = .ok (.ifCond .eq 11, 3) := by decide +kernel
theorem dX10_would_8 : decode cX10_would 8 = .ok (.aload_n 0, 1) := by decide +kernel
theorem dX10_would_9 : decode cX10_would 9 = .ok (.iload_n 1, 1) := by decide +kernel
theorem dX10_would_10 : decode cX10_would 10 = .ok (.invokevirtual 304, 3) := by decide +kernel
theorem dX10_would_13 : decode cX10_would 13 = .ok (.goto 5, 3) := by decide +kernel
theorem dX10_would_16 : decode cX10_would 16 = .ok (.bipush (-2), 2) := by decide +kernel
theorem dX10_would_18 : decode cX10_would 18 = .ok (.ireturn, 1) := by decide +kernel
theorem dX10_askOf_0 : decode cX10_askOf 0 = .ok (.aload_n 0, 1) := by decide +kernel
theorem dX10_askOf_1 : decode cX10_askOf 1 = .ok (.iload_n 1, 1) := by decide +kernel
theorem dX10_askOf_2 : decode cX10_askOf 2 = .ok (.invokevirtual 304, 3) := by decide +kernel
theorem dX10_askOf_5 : decode cX10_askOf 5 = .ok (.istore_n 2, 1) := by decide +kernel
theorem dX10_askOf_6 : decode cX10_askOf 6 = .ok (.iconst (-1), 1) := by decide +kernel
theorem dX10_askOf_7 : decode cX10_askOf 7 = .ok (.istore_n 3, 1) := by decide +kernel
theorem dX10_askOf_8 : decode cX10_askOf 8 = .ok (.iconst 0, 1) := by decide +kernel
theorem dX10_askOf_9 : decode cX10_askOf 9 = .ok (.istore 4, 2) := by decide +kernel
theorem dX10_askOf_11 : decode cX10_askOf 11 = .ok (.iconst 0, 1) := by decide +kernel
theorem dX10_askOf_12 : decode cX10_askOf 12 = .ok (.istore 5, 2) := by decide +kernel
theorem dX10_askOf_14 : decode cX10_askOf 14 = .ok (.iload 5, 2) := by decide +kernel
theorem dX10_askOf_16 : decode cX10_askOf 16 = .ok (.bipush 10, 2) := by decide +kernel
theorem dX10_askOf_18 : decode cX10_askOf 18 = .ok (.if_icmp .ge 165, 3) := by decide +kernel
theorem dX10_askOf_21 : decode cX10_askOf 21 = .ok (.iconst 0, 1) := by decide +kernel
theorem dX10_askOf_22 : decode cX10_askOf 22 = .ok (.istore 6, 2) := by decide +kernel
theorem dX10_askOf_24 : decode cX10_askOf 24 = .ok (.iconst 0, 1) := by decide +kernel
theorem dX10_askOf_25 : decode cX10_askOf 25 = .ok (.istore 7, 2) := by decide +kernel
theorem dX10_askOf_27 : decode cX10_askOf 27 = .ok (.iload 7, 2) := by decide +kernel
theorem dX10_askOf_29 : decode cX10_askOf 29 = .ok (.bipush 6, 2) := by decide +kernel
theorem dX10_askOf_31 : decode cX10_askOf 31 = .ok (.if_icmp .ge 101, 3) := by decide +kernel
theorem dX10_askOf_34 : decode cX10_askOf 34 = .ok (.iconst 0, 1) := by decide +kernel
theorem dX10_askOf_35 : decode cX10_askOf 35 = .ok (.istore 8, 2) := by decide +kernel
theorem dX10_askOf_37 : decode cX10_askOf 37 = .ok (.iconst 0, 1) := by decide +kernel
theorem dX10_askOf_38 : decode cX10_askOf 38 = .ok (.istore 9, 2) := by decide +kernel
theorem dX10_askOf_40 : decode cX10_askOf 40 = .ok (.iload 9, 2) := by decide +kernel
theorem dX10_askOf_42 : decode cX10_askOf 42 = .ok (.bipush 6, 2) := by decide +kernel
theorem dX10_askOf_44 : decode cX10_askOf 44 = .ok (.if_icmp .ge 66, 3) := by decide +kernel
theorem dX10_askOf_47 : decode cX10_askOf 47 = .ok (.iload 8, 2) := by decide +kernel
theorem dX10_askOf_49 : decode cX10_askOf 49 = .ok (.iload_n 2, 1) := by decide +kernel
theorem dX10_askOf_50 : decode cX10_askOf 50 = .ok (.iload 7, 2) := by decide +kernel
theorem dX10_askOf_52 : decode cX10_askOf 52 = .ok (.invokestatic 121, 3) := by decide +kernel
theorem dX10_askOf_55 : decode cX10_askOf 55 = .ok (.ifCond .eq 45, 3) := by decide +kernel
theorem dX10_askOf_58 : decode cX10_askOf 58 = .ok (.iload_n 2, 1) := by decide +kernel
theorem dX10_askOf_59 : decode cX10_askOf 59 = .ok (.iload 9, 2) := by decide +kernel
theorem dX10_askOf_61 : decode cX10_askOf 61 = .ok (.invokestatic 121, 3) := by decide +kernel
theorem dX10_askOf_64 : decode cX10_askOf 64 = .ok (.ifCond .eq 36, 3) := by decide +kernel
theorem dX10_askOf_67 : decode cX10_askOf 67 = .ok (.aload_n 0, 1) := by decide +kernel
theorem dX10_askOf_68 : decode cX10_askOf 68 = .ok (.getfield 82, 3) := by decide +kernel
theorem dX10_askOf_71 : decode cX10_askOf 71 = .ok (.bipush 10, 2) := by decide +kernel
theorem dX10_askOf_73 : decode cX10_askOf 73 = .ok (.iload 7, 2) := by decide +kernel
theorem dX10_askOf_75 : decode cX10_askOf 75 = .ok (.imul, 1) := by decide +kernel
theorem dX10_askOf_76 : decode cX10_askOf 76 = .ok (.iload 5, 2) := by decide +kernel
theorem dX10_askOf_78 : decode cX10_askOf 78 = .ok (.iadd, 1) := by decide +kernel
theorem dX10_askOf_79 : decode cX10_askOf 79 = .ok (.iaload, 1) := by decide +kernel
theorem dX10_askOf_80 : decode cX10_askOf 80 = .ok (.aload_n 0, 1) := by decide +kernel
theorem dX10_askOf_81 : decode cX10_askOf 81 = .ok (.getfield 82, 3) := by decide +kernel
theorem dX10_askOf_84 : decode cX10_askOf 84 = .ok (.bipush 10, 2) := by decide +kernel
theorem dX10_askOf_86 : decode cX10_askOf 86 = .ok (.iload 9, 2) := by decide +kernel
theorem dX10_askOf_88 : decode cX10_askOf 88 = .ok (.imul, 1) := by decide +kernel
theorem dX10_askOf_89 : decode cX10_askOf 89 = .ok (.iload 5, 2) := by decide +kernel
theorem dX10_askOf_91 : decode cX10_askOf 91 = .ok (.iadd, 1) := by decide +kernel
theorem dX10_askOf_92 : decode cX10_askOf 92 = .ok (.iaload, 1) := by decide +kernel
theorem dX10_askOf_93 : decode cX10_askOf 93 = .ok (.if_icmp .ne 7, 3) := by decide +kernel
theorem dX10_askOf_96 : decode cX10_askOf 96 = .ok (.iconst 1, 1) := by decide +kernel
theorem dX10_askOf_97 : decode cX10_askOf 97 = .ok (.goto 4, 3) := by decide +kernel
theorem dX10_askOf_100 : decode cX10_askOf 100 = .ok (.iconst 0, 1) := by decide +kernel
theorem dX10_askOf_101 : decode cX10_askOf 101 = .ok (.iadd, 1) := by decide +kernel
theorem dX10_askOf_102 : decode cX10_askOf 102 = .ok (.istore 8, 2) := by decide +kernel
theorem dX10_askOf_104 : decode cX10_askOf 104 = .ok (.iinc 9 1, 3) := by decide +kernel
theorem dX10_askOf_107 : decode cX10_askOf 107 = .ok (.goto (-67), 3) := by decide +kernel
