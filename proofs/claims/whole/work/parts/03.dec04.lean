theorem dX10_readsMembers_84 : decode cX10_readsMembers 84 = .ok (.ireturn, 1) := by decide +kernel
theorem dX10_readsMembers_85 : decode cX10_readsMembers 85 = .ok (.iinc 2 1, 3) := by decide +kernel
theorem dX10_readsMembers_88 : decode cX10_readsMembers 88 = .ok (.goto (-79), 3) := by decide +kernel
theorem dX10_readsMembers_91 : decode cX10_readsMembers 91 = .ok (.iconst (-1), 1) := by decide +kernel
theorem dX10_readsMembers_92 : decode cX10_readsMembers 92 = .ok (.ireturn, 1) := by decide +kernel
theorem dX10_readsMotions_0 : decode cX10_readsMotions 0 = .ok (.iconst 0, 1) := by decide +kernel
theorem dX10_readsMotions_1 : decode cX10_readsMotions 1 = .ok (.istore_n 1, 1) := by decide +kernel
theorem dX10_readsMotions_2 : decode cX10_readsMotions 2 = .ok (.aload_n 0, 1) := by decide +kernel
theorem dX10_readsMotions_3 : decode cX10_readsMotions 3 = .ok (.iconst 0, 1) := by decide +kernel
theorem dX10_readsMotions_4 : decode cX10_readsMotions 4 = .ok (.putfield 132, 3) := by decide +kernel
theorem dX10_readsMotions_7 : decode cX10_readsMotions 7 = .ok (.iconst 3, 1) := by decide +kernel
theorem dX10_readsMotions_8 : decode cX10_readsMotions 8 = .ok (.iload_n 1, 1) := by decide +kernel
theorem dX10_readsMotions_9 : decode cX10_readsMotions 9 = .ok (.imul, 1) := by decide +kernel
theorem dX10_readsMotions_10 : decode cX10_readsMotions 10 = .ok (.aload_n 0, 1) := by decide +kernel
theorem dX10_readsMotions_11 : decode cX10_readsMotions 11 = .ok (.getfield 7, 3) := by decide +kernel
theorem dX10_readsMotions_14 : decode cX10_readsMotions 14 = .ok (.iconst 1, 1) := by decide +kernel
theorem dX10_readsMotions_15 : decode cX10_readsMotions 15 = .ok (.iaload, 1) := by decide +kernel
theorem dX10_readsMotions_16 : decode cX10_readsMotions 16 = .ok (.if_icmp .ge 107, 3) := by decide +kernel
theorem dX10_readsMotions_19 : decode cX10_readsMotions 19 = .ok (.aload_n 0, 1) := by decide +kernel
theorem dX10_readsMotions_20 : decode cX10_readsMotions 20 = .ok (.iconst 1, 1) := by decide +kernel
theorem dX10_readsMotions_21 : decode cX10_readsMotions 21 = .ok (.iconst 3, 1) := by decide +kernel
theorem dX10_readsMotions_22 : decode cX10_readsMotions 22 = .ok (.iload_n 1, 1) := by decide +kernel
theorem dX10_readsMotions_23 : decode cX10_readsMotions 23 = .ok (.imul, 1) := by decide +kernel
theorem dX10_readsMotions_24 : decode cX10_readsMotions 24 = .ok (.invokevirtual 118, 3) := by decide +kernel
theorem dX10_readsMotions_27 : decode cX10_readsMotions 27 = .ok (.istore_n 2, 1) := by decide +kernel
theorem dX10_readsMotions_28 : decode cX10_readsMotions 28 = .ok (.aload_n 0, 1) := by decide +kernel
theorem dX10_readsMotions_29 : decode cX10_readsMotions 29 = .ok (.iconst 1, 1) := by decide +kernel
theorem dX10_readsMotions_30 : decode cX10_readsMotions 30 = .ok (.iconst 3, 1) := by decide +kernel
theorem dX10_readsMotions_31 : decode cX10_readsMotions 31 = .ok (.iload_n 1, 1) := by decide +kernel
theorem dX10_readsMotions_32 : decode cX10_readsMotions 32 = .ok (.imul, 1) := by decide +kernel
theorem dX10_readsMotions_33 : decode cX10_readsMotions 33 = .ok (.iconst 1, 1) := by decide +kernel
theorem dX10_readsMotions_34 : decode cX10_readsMotions 34 = .ok (.iadd, 1) := by decide +kernel
theorem dX10_readsMotions_35 : decode cX10_readsMotions 35 = .ok (.invokevirtual 118, 3) := by decide +kernel
theorem dX10_readsMotions_38 : decode cX10_readsMotions 38 = .ok (.istore_n 3, 1) := by decide +kernel
theorem dX10_readsMotions_39 : decode cX10_readsMotions 39 = .ok (.aload_n 0, 1) := by decide +kernel
theorem dX10_readsMotions_40 : decode cX10_readsMotions 40 = .ok (.iconst 1, 1) := by decide +kernel
theorem dX10_readsMotions_41 : decode cX10_readsMotions 41 = .ok (.iconst 3, 1) := by decide +kernel
theorem dX10_readsMotions_42 : decode cX10_readsMotions 42 = .ok (.iload_n 1, 1) := by decide +kernel
theorem dX10_readsMotions_43 : decode cX10_readsMotions 43 = .ok (.imul, 1) := by decide +kernel
theorem dX10_readsMotions_44 : decode cX10_readsMotions 44 = .ok (.iconst 2, 1) := by decide +kernel
theorem dX10_readsMotions_45 : decode cX10_readsMotions 45 = .ok (.iadd, 1) := by decide +kernel
theorem dX10_readsMotions_46 : decode cX10_readsMotions 46 = .ok (.invokevirtual 114, 3) := by decide +kernel
theorem dX10_readsMotions_49 : decode cX10_readsMotions 49 = .ok (.bipush 48, 2) := by decide +kernel
theorem dX10_readsMotions_51 : decode cX10_readsMotions 51 = .ok (.isub, 1) := by decide +kernel
theorem dX10_readsMotions_52 : decode cX10_readsMotions 52 = .ok (.istore 4, 2) := by decide +kernel
theorem dX10_readsMotions_54 : decode cX10_readsMotions 54 = .ok (.iload_n 2, 1) := by decide +kernel
theorem dX10_readsMotions_55 : decode cX10_readsMotions 55 = .ok (.iconst (-1), 1) := by decide +kernel
theorem dX10_readsMotions_56 : decode cX10_readsMotions 56 = .ok (.if_icmp .ne 7, 3) := by decide +kernel
theorem dX10_readsMotions_59 : decode cX10_readsMotions 59 = .ok (.iconst 3, 1) := by decide +kernel
theorem dX10_readsMotions_60 : decode cX10_readsMotions 60 = .ok (.iload_n 1, 1) := by decide +kernel
theorem dX10_readsMotions_61 : decode cX10_readsMotions 61 = .ok (.imul, 1) := by decide +kernel
theorem dX10_readsMotions_62 : decode cX10_readsMotions 62 = .ok (.ireturn, 1) := by decide +kernel
theorem dX10_readsMotions_63 : decode cX10_readsMotions 63 = .ok (.iload_n 3, 1) := by decide +kernel
theorem dX10_readsMotions_64 : decode cX10_readsMotions 64 = .ok (.iconst (-1), 1) := by decide +kernel
theorem dX10_readsMotions_65 : decode cX10_readsMotions 65 = .ok (.if_icmp .eq 8, 3) := by decide +kernel
theorem dX10_readsMotions_68 : decode cX10_readsMotions 68 = .ok (.iload_n 3, 1) := by decide +kernel
theorem dX10_readsMotions_69 : decode cX10_readsMotions 69 = .ok (.iload_n 2, 1) := by decide +kernel
theorem dX10_readsMotions_70 : decode cX10_readsMotions 70 = .ok (.if_icmp .ne 9, 3) := by decide +kernel
theorem dX10_readsMotions_73 : decode cX10_readsMotions 73 = .ok (.iconst 3, 1) := by decide +kernel
theorem dX10_readsMotions_74 : decode cX10_readsMotions 74 = .ok (.iload_n 1, 1) := by decide +kernel
theorem dX10_readsMotions_75 : decode cX10_readsMotions 75 = .ok (.imul, 1) := by decide +kernel
theorem dX10_readsMotions_76 : decode cX10_readsMotions 76 = .ok (.iconst 1, 1) := by decide +kernel
theorem dX10_readsMotions_77 : decode cX10_readsMotions 77 = .ok (.iadd, 1) := by decide +kernel
theorem dX10_readsMotions_78 : decode cX10_readsMotions 78 = .ok (.ireturn, 1) := by decide +kernel
theorem dX10_readsMotions_79 : decode cX10_readsMotions 79 = .ok (.iload 4, 2) := by decide +kernel
theorem dX10_readsMotions_81 : decode cX10_readsMotions 81 = .ok (.iconst 1, 1) := by decide +kernel
theorem dX10_readsMotions_82 : decode cX10_readsMotions 82 = .ok (.iconst 2, 1) := by decide +kernel
theorem dX10_readsMotions_83 : decode cX10_readsMotions 83 = .ok (.invokestatic 106, 3) := by decide +kernel
theorem dX10_readsMotions_86 : decode cX10_readsMotions 86 = .ok (.ifCond .ne 9, 3) := by decide +kernel
theorem dX10_readsMotions_89 : decode cX10_readsMotions 89 = .ok (.iconst 3, 1) := by decide +kernel
theorem dX10_readsMotions_90 : decode cX10_readsMotions 90 = .ok (.iload_n 1, 1) := by decide +kernel
theorem dX10_readsMotions_91 : decode cX10_readsMotions 91 = .ok (.imul, 1) := by decide +kernel
theorem dX10_readsMotions_92 : decode cX10_readsMotions 92 = .ok (.iconst 2, 1) := by decide +kernel
theorem dX10_readsMotions_93 : decode cX10_readsMotions 93 = .ok (.iadd, 1) := by decide +kernel
theorem dX10_readsMotions_94 : decode cX10_readsMotions 94 = .ok (.ireturn, 1) := by decide +kernel
theorem dX10_readsMotions_95 : decode cX10_readsMotions 95 = .ok (.aload_n 0, 1) := by decide +kernel
theorem dX10_readsMotions_96 : decode cX10_readsMotions 96 = .ok (.getfield 25, 3) := by decide +kernel
theorem dX10_readsMotions_99 : decode cX10_readsMotions 99 = .ok (.iload_n 1, 1) := by decide +kernel
theorem dX10_readsMotions_100 : decode cX10_readsMotions 100 = .ok (.iload_n 2, 1) := by decide +kernel
theorem dX10_readsMotions_101 : decode cX10_readsMotions 101 = .ok (.iastore, 1) := by decide +kernel
theorem dX10_readsMotions_102 : decode cX10_readsMotions 102 = .ok (.aload_n 0, 1) := by decide +kernel
theorem dX10_readsMotions_103 : decode cX10_readsMotions 103 = .ok (.getfield 28, 3) := by decide +kernel
theorem dX10_readsMotions_106 : decode cX10_readsMotions 106 = .ok (.iload_n 1, 1) := by decide +kernel
theorem dX10_readsMotions_107 : decode cX10_readsMotions 107 = .ok (.iload_n 3, 1) := by decide +kernel
theorem dX10_readsMotions_108 : decode cX10_readsMotions 108 = .ok (.iastore, 1) := by decide +kernel
theorem dX10_readsMotions_109 : decode cX10_readsMotions 109 = .ok (.aload_n 0, 1) := by decide +kernel
theorem dX10_readsMotions_110 : decode cX10_readsMotions 110 = .ok (.getfield 31, 3) := by decide +kernel
theorem dX10_readsMotions_113 : decode cX10_readsMotions 113 = .ok (.iload_n 1, 1) := by decide +kernel
theorem dX10_readsMotions_114 : decode cX10_readsMotions 114 = .ok (.iload 4, 2) := by decide +kernel
theorem dX10_readsMotions_116 : decode cX10_readsMotions 116 = .ok (.iastore, 1) := by decide +kernel
theorem dX10_readsMotions_117 : decode cX10_readsMotions 117 = .ok (.iinc 1 1, 3) := by decide +kernel
theorem dX10_readsMotions_120 : decode cX10_readsMotions 120 = .ok (.goto (-113), 3) := by decide +kernel
theorem dX10_readsMotions_123 : decode cX10_readsMotions 123 = .ok (.aload_n 0, 1) := by decide +kernel
theorem dX10_readsMotions_124 : decode cX10_readsMotions 124 = .ok (.iload_n 1, 1) := by decide +kernel
theorem dX10_readsMotions_125 : decode cX10_readsMotions 125 = .ok (.putfield 132, 3) := by decide +kernel
theorem dX10_readsMotions_128 : decode cX10_readsMotions 128 = .ok (.iconst (-1), 1) := by decide +kernel
theorem dX10_readsMotions_129 : decode cX10_readsMotions 129 = .ok (.ireturn, 1) := by decide +kernel
theorem dX10_faultOf_0 : decode cX10_faultOf 0 = .ok (.aload_n 0, 1) := by decide +kernel
theorem dX10_faultOf_1 : decode cX10_faultOf 1 = .ok (.invokevirtual 135, 3) := by decide +kernel
theorem dX10_faultOf_4 : decode cX10_faultOf 4 = .ok (.istore_n 2, 1) := by decide +kernel
theorem dX10_faultOf_5 : decode cX10_faultOf 5 = .ok (.aload_n 0, 1) := by decide +kernel
theorem dX10_faultOf_6 : decode cX10_faultOf 6 = .ok (.invokevirtual 139, 3) := by decide +kernel
theorem dX10_faultOf_9 : decode cX10_faultOf 9 = .ok (.istore_n 3, 1) := by decide +kernel
theorem dX10_faultOf_10 : decode cX10_faultOf 10 = .ok (.iload_n 1, 1) := by decide +kernel
theorem dX10_faultOf_11 : decode cX10_faultOf 11 = .ok (.ifCond .ne 7, 3) := by decide +kernel
theorem dX10_faultOf_14 : decode cX10_faultOf 14 = .ok (.iload_n 2, 1) := by decide +kernel
theorem dX10_faultOf_15 : decode cX10_faultOf 15 = .ok (.goto 4, 3) := by decide +kernel
theorem dX10_faultOf_18 : decode cX10_faultOf 18 = .ok (.iload_n 3, 1) := by decide +kernel
theorem dX10_faultOf_19 : decode cX10_faultOf 19 = .ok (.ireturn, 1) := by decide +kernel
theorem dX10_reads_0 : decode cX10_reads 0 = .ok (.aload_n 0, 1) := by decide +kernel
theorem dX10_reads_1 : decode cX10_reads 1 = .ok (.iconst 0, 1) := by decide +kernel
theorem dX10_reads_2 : decode cX10_reads 2 = .ok (.invokevirtual 142, 3) := by decide +kernel
theorem dX10_reads_5 : decode cX10_reads 5 = .ok (.istore_n 1, 1) := by decide +kernel
theorem dX10_reads_6 : decode cX10_reads 6 = .ok (.return_, 1) := by decide +kernel
theorem dX10_fault_0 : decode cX10_fault 0 = .ok (.iload_n 1, 1) := by decide +kernel
theorem dX10_fault_1 : decode cX10_fault 1 = .ok (.invokestatic 110, 3) := by decide +kernel
theorem dX10_fault_4 : decode cX10_fault 4 = .ok (.ifCond .eq 11, 3) := by decide +kernel
theorem dX10_fault_7 : decode cX10_fault 7 = .ok (.aload_n 0, 1) := by decide +kernel
theorem dX10_fault_8 : decode cX10_fault 8 = .ok (.iload_n 1, 1) := by decide +kernel
theorem dX10_fault_9 : decode cX10_fault 9 = .ok (.invokevirtual 142, 3) := by decide +kernel
theorem dX10_fault_12 : decode cX10_fault 12 = .ok (.goto 5, 3) := by decide +kernel
theorem dX10_fault_15 : decode cX10_fault 15 = .ok (.bipush (-2), 2) := by decide +kernel
theorem dX10_fault_17 : decode cX10_fault 17 = .ok (.ireturn, 1) := by decide +kernel
theorem dX10_isMember_0 : decode cX10_isMember 0 = .ok (.aload_n 0, 1) := by decide +kernel
theorem dX10_isMember_1 : decode cX10_isMember 1 = .ok (.invokevirtual 146, 3) := by decide +kernel
theorem dX10_isMember_4 : decode cX10_isMember 4 = .ok (.iload_n 1, 1) := by decide +kernel
theorem dX10_isMember_5 : decode cX10_isMember 5 = .ok (.iconst 0, 1) := by decide +kernel
theorem dX10_isMember_6 : decode cX10_isMember 6 = .ok (.aload_n 0, 1) := by decide +kernel
theorem dX10_isMember_7 : decode cX10_isMember 7 = .ok (.getfield 125, 3) := by decide +kernel
theorem dX10_isMember_10 : decode cX10_isMember 10 = .ok (.iconst 1, 1) := by decide +kernel
theorem dX10_isMember_11 : decode cX10_isMember 11 = .ok (.isub, 1) := by decide +kernel
theorem dX10_isMember_12 : decode cX10_isMember 12 = .ok (.invokestatic 106, 3) := by decide +kernel
theorem dX10_isMember_15 : decode cX10_isMember 15 = .ok (.ireturn, 1) := by decide +kernel
theorem dX10_memberOf_0 : decode cX10_memberOf 0 = .ok (.iload_n 2, 1) := by decide +kernel
theorem dX10_memberOf_1 : decode cX10_memberOf 1 = .ok (.ifCond .ne 12, 3) := by decide +kernel
theorem dX10_memberOf_4 : decode cX10_memberOf 4 = .ok (.aload_n 0, 1) := by decide +kernel
theorem dX10_memberOf_5 : decode cX10_memberOf 5 = .ok (.getfield 16, 3) := by decide +kernel
theorem dX10_memberOf_8 : decode cX10_memberOf 8 = .ok (.iload_n 1, 1) := by decide +kernel
theorem dX10_memberOf_9 : decode cX10_memberOf 9 = .ok (.iaload, 1) := by decide +kernel
theorem dX10_memberOf_10 : decode cX10_memberOf 10 = .ok (.goto 29, 3) := by decide +kernel
theorem dX10_memberOf_13 : decode cX10_memberOf 13 = .ok (.iload_n 2, 1) := by decide +kernel
theorem dX10_memberOf_14 : decode cX10_memberOf 14 = .ok (.iconst 1, 1) := by decide +kernel
theorem dX10_memberOf_15 : decode cX10_memberOf 15 = .ok (.if_icmp .ne 12, 3) := by decide +kernel
theorem dX10_memberOf_18 : decode cX10_memberOf 18 = .ok (.aload_n 0, 1) := by decide +kernel
theorem dX10_memberOf_19 : decode cX10_memberOf 19 = .ok (.getfield 19, 3) := by decide +kernel
theorem dX10_memberOf_22 : decode cX10_memberOf 22 = .ok (.iload_n 1, 1) := by decide +kernel
theorem dX10_memberOf_23 : decode cX10_memberOf 23 = .ok (.iaload, 1) := by decide +kernel
theorem dX10_memberOf_24 : decode cX10_memberOf 24 = .ok (.goto 15, 3) := by decide +kernel
theorem dX10_memberOf_27 : decode cX10_memberOf 27 = .ok (.aload_n 0, 1) := by decide +kernel
theorem dX10_memberOf_28 : decode cX10_memberOf 28 = .ok (.getfield 22, 3) := by decide +kernel
theorem dX10_memberOf_31 : decode cX10_memberOf 31 = .ok (.iconst 3, 1) := by decide +kernel
theorem dX10_memberOf_32 : decode cX10_memberOf 32 = .ok (.iload_n 1, 1) := by decide +kernel
theorem dX10_memberOf_33 : decode cX10_memberOf 33 = .ok (.imul, 1) := by decide +kernel
theorem dX10_memberOf_34 : decode cX10_memberOf 34 = .ok (.iload_n 2, 1) := by decide +kernel
theorem dX10_memberOf_35 : decode cX10_memberOf 35 = .ok (.iadd, 1) := by decide +kernel
theorem dX10_memberOf_36 : decode cX10_memberOf 36 = .ok (.iconst 2, 1) := by decide +kernel
theorem dX10_memberOf_37 : decode cX10_memberOf 37 = .ok (.isub, 1) := by decide +kernel
theorem dX10_memberOf_38 : decode cX10_memberOf 38 = .ok (.iaload, 1) := by decide +kernel
theorem dX10_memberOf_39 : decode cX10_memberOf 39 = .ok (.ireturn, 1) := by decide +kernel
theorem dX10_member_0 : decode cX10_member 0 = .ok (.aload_n 0, 1) := by decide +kernel
theorem dX10_member_1 : decode cX10_member 1 = .ok (.iload_n 1, 1) := by decide +kernel
theorem dX10_member_2 : decode cX10_member 2 = .ok (.invokevirtual 149, 3) := by decide +kernel
theorem dX10_member_5 : decode cX10_member 5 = .ok (.ifCond .eq 21, 3) := by decide +kernel
theorem dX10_member_8 : decode cX10_member 8 = .ok (.iload_n 2, 1) := by decide +kernel
theorem dX10_member_9 : decode cX10_member 9 = .ok (.iconst 0, 1) := by decide +kernel
theorem dX10_member_10 : decode cX10_member 10 = .ok (.iconst 4, 1) := by decide +kernel
theorem dX10_member_11 : decode cX10_member 11 = .ok (.invokestatic 106, 3) := by decide +kernel
theorem dX10_member_14 : decode cX10_member 14 = .ok (.ifCond .eq 12, 3) := by decide +kernel
theorem dX10_member_17 : decode cX10_member 17 = .ok (.aload_n 0, 1) := by decide +kernel
theorem dX10_member_18 : decode cX10_member 18 = .ok (.iload_n 1, 1) := by decide +kernel
theorem dX10_member_19 : decode cX10_member 19 = .ok (.iload_n 2, 1) := by decide +kernel
theorem dX10_member_20 : decode cX10_member 20 = .ok (.invokevirtual 152, 3) := by decide +kernel
theorem dX10_member_23 : decode cX10_member 23 = .ok (.goto 5, 3) := by decide +kernel
theorem dX10_member_26 : decode cX10_member 26 = .ok (.bipush (-2), 2) := by decide +kernel
theorem dX10_member_28 : decode cX10_member 28 = .ok (.ireturn, 1) := by decide +kernel
theorem dX10_motionOf_0 : decode cX10_motionOf 0 = .ok (.aload_n 0, 1) := by decide +kernel
theorem dX10_motionOf_1 : decode cX10_motionOf 1 = .ok (.invokevirtual 146, 3) := by decide +kernel
theorem dX10_motionOf_4 : decode cX10_motionOf 4 = .ok (.iload_n 1, 1) := by decide +kernel
theorem dX10_motionOf_5 : decode cX10_motionOf 5 = .ok (.aload_n 0, 1) := by decide +kernel
theorem dX10_motionOf_6 : decode cX10_motionOf 6 = .ok (.getfield 132, 3) := by decide +kernel
theorem dX10_motionOf_9 : decode cX10_motionOf 9 = .ok (.if_icmp .lt 7, 3) := by decide +kernel
theorem dX10_motionOf_12 : decode cX10_motionOf 12 = .ok (.iconst (-1), 1) := by decide +kernel
theorem dX10_motionOf_13 : decode cX10_motionOf 13 = .ok (.goto 36, 3) := by decide +kernel
theorem dX10_motionOf_16 : decode cX10_motionOf 16 = .ok (.iload_n 2, 1) := by decide +kernel
theorem dX10_motionOf_17 : decode cX10_motionOf 17 = .ok (.ifCond .ne 12, 3) := by decide +kernel
theorem dX10_motionOf_20 : decode cX10_motionOf 20 = .ok (.aload_n 0, 1) := by decide +kernel
theorem dX10_motionOf_21 : decode cX10_motionOf 21 = .ok (.getfield 25, 3) := by decide +kernel
theorem dX10_motionOf_24 : decode cX10_motionOf 24 = .ok (.iload_n 1, 1) := by decide +kernel
theorem dX10_motionOf_25 : decode cX10_motionOf 25 = .ok (.iaload, 1) := by decide +kernel
theorem dX10_motionOf_26 : decode cX10_motionOf 26 = .ok (.goto 23, 3) := by decide +kernel
theorem dX10_motionOf_29 : decode cX10_motionOf 29 = .ok (.iload_n 2, 1) := by decide +kernel
theorem dX10_motionOf_30 : decode cX10_motionOf 30 = .ok (.iconst 1, 1) := by decide +kernel
theorem dX10_motionOf_31 : decode cX10_motionOf 31 = .ok (.if_icmp .ne 12, 3) := by decide +kernel
theorem dX10_motionOf_34 : decode cX10_motionOf 34 = .ok (.aload_n 0, 1) := by decide +kernel
theorem dX10_motionOf_35 : decode cX10_motionOf 35 = .ok (.getfield 28, 3) := by decide +kernel
theorem dX10_motionOf_38 : decode cX10_motionOf 38 = .ok (.iload_n 1, 1) := by decide +kernel
theorem dX10_motionOf_39 : decode cX10_motionOf 39 = .ok (.iaload, 1) := by decide +kernel
theorem dX10_motionOf_40 : decode cX10_motionOf 40 = .ok (.goto 9, 3) := by decide +kernel
theorem dX10_motionOf_43 : decode cX10_motionOf 43 = .ok (.aload_n 0, 1) := by decide +kernel
theorem dX10_motionOf_44 : decode cX10_motionOf 44 = .ok (.getfield 31, 3) := by decide +kernel
theorem dX10_motionOf_47 : decode cX10_motionOf 47 = .ok (.iload_n 1, 1) := by decide +kernel
theorem dX10_motionOf_48 : decode cX10_motionOf 48 = .ok (.iaload, 1) := by decide +kernel
theorem dX10_motionOf_49 : decode cX10_motionOf 49 = .ok (.ireturn, 1) := by decide +kernel
theorem dX10_motion_0 : decode cX10_motion 0 = .ok (.iload_n 1, 1) := by decide +kernel
theorem dX10_motion_1 : decode cX10_motion 1 = .ok (.invokestatic 155, 3) := by decide +kernel
theorem dX10_motion_4 : decode cX10_motion 4 = .ok (.ifCond .eq 21, 3) := by decide +kernel
theorem dX10_motion_7 : decode cX10_motion 7 = .ok (.iload_n 2, 1) := by decide +kernel
theorem dX10_motion_8 : decode cX10_motion 8 = .ok (.iconst 0, 1) := by decide +kernel
theorem dX10_motion_9 : decode cX10_motion 9 = .ok (.iconst 2, 1) := by decide +kernel
theorem dX10_motion_10 : decode cX10_motion 10 = .ok (.invokestatic 106, 3) := by decide +kernel
theorem dX10_motion_13 : decode cX10_motion 13 = .ok (.ifCond .eq 12, 3) := by decide +kernel
theorem dX10_motion_16 : decode cX10_motion 16 = .ok (.aload_n 0, 1) := by decide +kernel
theorem dX10_motion_17 : decode cX10_motion 17 = .ok (.iload_n 1, 1) := by decide +kernel
theorem dX10_motion_18 : decode cX10_motion 18 = .ok (.iload_n 2, 1) := by decide +kernel
theorem dX10_motion_19 : decode cX10_motion 19 = .ok (.invokevirtual 158, 3) := by decide +kernel
theorem dX10_motion_22 : decode cX10_motion 22 = .ok (.goto 5, 3) := by decide +kernel
theorem dX10_motion_25 : decode cX10_motion 25 = .ok (.bipush (-2), 2) := by decide +kernel
theorem dX10_motion_27 : decode cX10_motion 27 = .ok (.ireturn, 1) := by decide +kernel
theorem dX10_weight_0 : decode cX10_weight 0 = .ok (.iload_n 1, 1) := by decide +kernel
theorem dX10_weight_1 : decode cX10_weight 1 = .ok (.iconst 0, 1) := by decide +kernel
theorem dX10_weight_2 : decode cX10_weight 2 = .ok (.iconst 2, 1) := by decide +kernel
theorem dX10_weight_3 : decode cX10_weight 3 = .ok (.invokestatic 106, 3) := by decide +kernel
theorem dX10_weight_6 : decode cX10_weight 6 = .ok (.ifCond .eq 13, 3) := by decide +kernel
theorem dX10_weight_9 : decode cX10_weight 9 = .ok (.iload_n 2, 1) := by decide +kernel
theorem dX10_weight_10 : decode cX10_weight 10 = .ok (.iconst 0, 1) := by decide +kernel
theorem dX10_weight_11 : decode cX10_weight 11 = .ok (.bipush 9, 2) := by decide +kernel
theorem dX10_weight_13 : decode cX10_weight 13 = .ok (.invokestatic 106, 3) := by decide +kernel
theorem dX10_weight_16 : decode cX10_weight 16 = .ok (.ifCond .ne 6, 3) := by decide +kernel
theorem dX10_weight_19 : decode cX10_weight 19 = .ok (.bipush (-2), 2) := by decide +kernel
theorem dX10_weight_21 : decode cX10_weight 21 = .ok (.ireturn, 1) := by decide +kernel
theorem dX10_weight_22 : decode cX10_weight 22 = .ok (.aload_n 0, 1) := by decide +kernel
theorem dX10_weight_23 : decode cX10_weight 23 = .ok (.getfield 34, 3) := by decide +kernel
theorem dX10_weight_26 : decode cX10_weight 26 = .ok (.iload_n 1, 1) := by decide +kernel
theorem dX10_weight_27 : decode cX10_weight 27 = .ok (.iaload, 1) := by decide +kernel
theorem dX10_weight_28 : decode cX10_weight 28 = .ok (.istore_n 3, 1) := by decide +kernel
theorem dX10_weight_29 : decode cX10_weight 29 = .ok (.aload_n 0, 1) := by decide +kernel
theorem dX10_weight_30 : decode cX10_weight 30 = .ok (.getfield 34, 3) := by decide +kernel
theorem dX10_weight_33 : decode cX10_weight 33 = .ok (.iload_n 1, 1) := by decide +kernel
theorem dX10_weight_34 : decode cX10_weight 34 = .ok (.iload_n 2, 1) := by decide +kernel
theorem dX10_weight_35 : decode cX10_weight 35 = .ok (.iastore, 1) := by decide +kernel
theorem dX10_weight_36 : decode cX10_weight 36 = .ok (.iload_n 3, 1) := by decide +kernel
theorem dX10_weight_37 : decode cX10_weight 37 = .ok (.ireturn, 1) := by decide +kernel
theorem dX10_fold_0 : decode cX10_fold 0 = .ok (.iload_n 1, 1) := by decide +kernel
theorem dX10_fold_1 : decode cX10_fold 1 = .ok (.invokestatic 155, 3) := by decide +kernel
theorem dX10_fold_4 : decode cX10_fold 4 = .ok (.ifCond .eq 22, 3) := by decide +kernel
theorem dX10_fold_7 : decode cX10_fold 7 = .ok (.iload_n 2, 1) := by decide +kernel
theorem dX10_fold_8 : decode cX10_fold 8 = .ok (.iconst 0, 1) := by decide +kernel
theorem dX10_fold_9 : decode cX10_fold 9 = .ok (.bipush 7, 2) := by decide +kernel
theorem dX10_fold_11 : decode cX10_fold 11 = .ok (.invokestatic 106, 3) := by decide +kernel
theorem dX10_fold_14 : decode cX10_fold 14 = .ok (.ifCond .eq 12, 3) := by decide +kernel
theorem dX10_fold_17 : decode cX10_fold 17 = .ok (.iload_n 3, 1) := by decide +kernel
theorem dX10_fold_18 : decode cX10_fold 18 = .ok (.iconst 0, 1) := by decide +kernel
theorem dX10_fold_19 : decode cX10_fold 19 = .ok (.iconst 5, 1) := by decide +kernel
theorem dX10_fold_20 : decode cX10_fold 20 = .ok (.invokestatic 106, 3) := by decide +kernel
theorem dX10_fold_23 : decode cX10_fold 23 = .ok (.ifCond .ne 6, 3) := by decide +kernel
theorem dX10_fold_26 : decode cX10_fold 26 = .ok (.bipush (-2), 2) := by decide +kernel
theorem dX10_fold_28 : decode cX10_fold 28 = .ok (.ireturn, 1) := by decide +kernel
theorem dX10_fold_29 : decode cX10_fold 29 = .ok (.aload_n 0, 1) := by decide +kernel
theorem dX10_fold_30 : decode cX10_fold 30 = .ok (.getfield 161, 3) := by decide +kernel
theorem dX10_fold_33 : decode cX10_fold 33 = .ok (.bipush 8, 2) := by decide +kernel
theorem dX10_fold_35 : decode cX10_fold 35 = .ok (.if_icmp .ne 6, 3) := by decide +kernel
theorem dX10_fold_38 : decode cX10_fold 38 = .ok (.bipush (-4), 2) := by decide +kernel
theorem dX10_fold_40 : decode cX10_fold 40 = .ok (.ireturn, 1) := by decide +kernel
theorem dX10_fold_41 : decode cX10_fold 41 = .ok (.aload_n 0, 1) := by decide +kernel
theorem dX10_fold_42 : decode cX10_fold 42 = .ok (.getfield 37, 3) := by decide +kernel
theorem dX10_fold_45 : decode cX10_fold 45 = .ok (.aload_n 0, 1) := by decide +kernel
theorem dX10_fold_46 : decode cX10_fold 46 = .ok (.getfield 161, 3) := by decide +kernel
theorem dX10_fold_49 : decode cX10_fold 49 = .ok (.iload_n 1, 1) := by decide +kernel
theorem dX10_fold_50 : decode cX10_fold 50 = .ok (.iastore, 1) := by decide +kernel
theorem dX10_fold_51 : decode cX10_fold 51 = .ok (.aload_n 0, 1) := by decide +kernel
theorem dX10_fold_52 : decode cX10_fold 52 = .ok (.getfield 40, 3) := by decide +kernel
theorem dX10_fold_55 : decode cX10_fold 55 = .ok (.aload_n 0, 1) := by decide +kernel
theorem dX10_fold_56 : decode cX10_fold 56 = .ok (.getfield 161, 3) := by decide +kernel
theorem dX10_fold_59 : decode cX10_fold 59 = .ok (.iload_n 2, 1) := by decide +kernel
theorem dX10_fold_60 : decode cX10_fold 60 = .ok (.iastore, 1) := by decide +kernel
theorem dX10_fold_61 : decode cX10_fold 61 = .ok (.aload_n 0, 1) := by decide +kernel
theorem dX10_fold_62 : decode cX10_fold 62 = .ok (.getfield 43, 3) := by decide +kernel
theorem dX10_fold_65 : decode cX10_fold 65 = .ok (.aload_n 0, 1) := by decide +kernel
theorem dX10_fold_66 : decode cX10_fold 66 = .ok (.getfield 161, 3) := by decide +kernel
theorem dX10_fold_69 : decode cX10_fold 69 = .ok (.iload_n 3, 1) := by decide +kernel
theorem dX10_fold_70 : decode cX10_fold 70 = .ok (.iastore, 1) := by decide +kernel
theorem dX10_fold_71 : decode cX10_fold 71 = .ok (.aload_n 0, 1) := by decide +kernel
theorem dX10_fold_72 : decode cX10_fold 72 = .ok (.dup, 1) := by decide +kernel
theorem dX10_fold_73 : decode cX10_fold 73 = .ok (.getfield 161, 3) := by decide +kernel
theorem dX10_fold_76 : decode cX10_fold 76 = .ok (.iconst 1, 1) := by decide +kernel
theorem dX10_fold_77 : decode cX10_fold 77 = .ok (.iadd, 1) := by decide +kernel
theorem dX10_fold_78 : decode cX10_fold 78 = .ok (.putfield 161, 3) := by decide +kernel
theorem dX10_fold_81 : decode cX10_fold 81 = .ok (.aload_n 0, 1) := by decide +kernel
theorem dX10_fold_82 : decode cX10_fold 82 = .ok (.getfield 161, 3) := by decide +kernel
theorem dX10_fold_85 : decode cX10_fold 85 = .ok (.ireturn, 1) := by decide +kernel
theorem dX10_jar_0 : decode cX10_jar 0 = .ok (.iload_n 1, 1) := by decide +kernel
theorem dX10_jar_1 : decode cX10_jar 1 = .ok (.invokestatic 155, 3) := by decide +kernel
theorem dX10_jar_4 : decode cX10_jar 4 = .ok (.ifCond .ne 6, 3) := by decide +kernel
theorem dX10_jar_7 : decode cX10_jar 7 = .ok (.bipush (-2), 2) := by decide +kernel
theorem dX10_jar_9 : decode cX10_jar 9 = .ok (.ireturn, 1) := by decide +kernel
theorem dX10_jar_10 : decode cX10_jar 10 = .ok (.aload_n 0, 1) := by decide +kernel
theorem dX10_jar_11 : decode cX10_jar 11 = .ok (.getfield 164, 3) := by decide +kernel
theorem dX10_jar_14 : decode cX10_jar 14 = .ok (.bipush 6, 2) := by decide +kernel
theorem dX10_jar_16 : decode cX10_jar 16 = .ok (.if_icmp .ne 6, 3) := by decide +kernel
theorem dX10_jar_19 : decode cX10_jar 19 = .ok (.bipush (-4), 2) := by decide +kernel
theorem dX10_jar_21 : decode cX10_jar 21 = .ok (.ireturn, 1) := by decide +kernel
theorem dX10_jar_22 : decode cX10_jar 22 = .ok (.aload_n 0, 1) := by decide +kernel
theorem dX10_jar_23 : decode cX10_jar 23 = .ok (.getfield 46, 3) := by decide +kernel
theorem dX10_jar_26 : decode cX10_jar 26 = .ok (.aload_n 0, 1) := by decide +kernel
theorem dX10_jar_27 : decode cX10_jar 27 = .ok (.getfield 164, 3) := by decide +kernel
theorem dX10_jar_30 : decode cX10_jar 30 = .ok (.iload_n 1, 1) := by decide +kernel
theorem dX10_jar_31 : decode cX10_jar 31 = .ok (.iastore, 1) := by decide +kernel
theorem dX10_jar_32 : decode cX10_jar 32 = .ok (.aload_n 0, 1) := by decide +kernel
theorem dX10_jar_33 : decode cX10_jar 33 = .ok (.dup, 1) := by decide +kernel
theorem dX10_jar_34 : decode cX10_jar 34 = .ok (.getfield 164, 3) := by decide +kernel
theorem dX10_jar_37 : decode cX10_jar 37 = .ok (.iconst 1, 1) := by decide +kernel
theorem dX10_jar_38 : decode cX10_jar 38 = .ok (.iadd, 1) := by decide +kernel
theorem dX10_jar_39 : decode cX10_jar 39 = .ok (.putfield 164, 3) := by decide +kernel
theorem dX10_jar_42 : decode cX10_jar 42 = .ok (.aload_n 0, 1) := by decide +kernel
theorem dX10_jar_43 : decode cX10_jar 43 = .ok (.getfield 164, 3) := by decide +kernel
theorem dX10_jar_46 : decode cX10_jar 46 = .ok (.ireturn, 1) := by decide +kernel
theorem dX10_back_0 : decode cX10_back 0 = .ok (.iload_n 1, 1) := by decide +kernel
theorem dX10_back_1 : decode cX10_back 1 = .ok (.iconst 0, 1) := by decide +kernel
theorem dX10_back_2 : decode cX10_back 2 = .ok (.iconst 1, 1) := by decide +kernel
theorem dX10_back_3 : decode cX10_back 3 = .ok (.invokestatic 106, 3) := by decide +kernel
theorem dX10_back_6 : decode cX10_back 6 = .ok (.ifCond .ne 6, 3) := by decide +kernel
theorem dX10_back_9 : decode cX10_back 9 = .ok (.bipush (-2), 2) := by decide +kernel
theorem dX10_back_11 : decode cX10_back 11 = .ok (.ireturn, 1) := by decide +kernel
theorem dX10_back_12 : decode cX10_back 12 = .ok (.iload_n 1, 1) := by decide +kernel
theorem dX10_back_13 : decode cX10_back 13 = .ok (.ifCond .ne 10, 3) := by decide +kernel
theorem dX10_back_16 : decode cX10_back 16 = .ok (.aload_n 0, 1) := by decide +kernel
theorem dX10_back_17 : decode cX10_back 17 = .ok (.getfield 161, 3) := by decide +kernel
theorem dX10_back_20 : decode cX10_back 20 = .ok (.goto 7, 3) := by decide +kernel
theorem dX10_back_23 : decode cX10_back 23 = .ok (.aload_n 0, 1) := by decide +kernel
theorem dX10_back_24 : decode cX10_back 24 = .ok (.getfield 164, 3) := by decide +kernel
theorem dX10_back_27 : decode cX10_back 27 = .ok (.istore_n 2, 1) := by decide +kernel
theorem dX10_back_28 : decode cX10_back 28 = .ok (.iload_n 2, 1) := by decide +kernel
theorem dX10_back_29 : decode cX10_back 29 = .ok (.ifCond .ne 6, 3) := by decide +kernel
theorem dX10_back_32 : decode cX10_back 32 = .ok (.bipush (-3), 2) := by decide +kernel
theorem dX10_back_34 : decode cX10_back 34 = .ok (.ireturn, 1) := by decide +kernel
theorem dX10_back_35 : decode cX10_back 35 = .ok (.aload_n 0, 1) := by decide +kernel
theorem dX10_back_36 : decode cX10_back 36 = .ok (.dup, 1) := by decide +kernel
theorem dX10_back_37 : decode cX10_back 37 = .ok (.getfield 161, 3) := by decide +kernel
theorem dX10_back_40 : decode cX10_back 40 = .ok (.iload_n 1, 1) := by decide +kernel
theorem dX10_back_41 : decode cX10_back 41 = .ok (.ifCond .ne 7, 3) := by decide +kernel
theorem dX10_back_44 : decode cX10_back 44 = .ok (.iconst 1, 1) := by decide +kernel
theorem dX10_back_45 : decode cX10_back 45 = .ok (.goto 4, 3) := by decide +kernel
theorem dX10_back_48 : decode cX10_back 48 = .ok (.iconst 0, 1) := by decide +kernel
theorem dX10_back_49 : decode cX10_back 49 = .ok (.isub, 1) := by decide +kernel
theorem dX10_back_50 : decode cX10_back 50 = .ok (.putfield 161, 3) := by decide +kernel
theorem dX10_back_53 : decode cX10_back 53 = .ok (.aload_n 0, 1) := by decide +kernel
theorem dX10_back_54 : decode cX10_back 54 = .ok (.dup, 1) := by decide +kernel
theorem dX10_back_55 : decode cX10_back 55 = .ok (.getfield 164, 3) := by decide +kernel
theorem dX10_back_58 : decode cX10_back 58 = .ok (.iload_n 1, 1) := by decide +kernel
theorem dX10_back_59 : decode cX10_back 59 = .ok (.iconst 1, 1) := by decide +kernel
theorem dX10_back_60 : decode cX10_back 60 = .ok (.if_icmp .ne 7, 3) := by decide +kernel
theorem dX10_back_63 : decode cX10_back 63 = .ok (.iconst 1, 1) := by decide +kernel
theorem dX10_back_64 : decode cX10_back 64 = .ok (.goto 4, 3) := by decide +kernel
theorem dX10_back_67 : decode cX10_back 67 = .ok (.iconst 0, 1) := by decide +kernel
theorem dX10_back_68 : decode cX10_back 68 = .ok (.isub, 1) := by decide +kernel
theorem dX10_back_69 : decode cX10_back 69 = .ok (.putfield 164, 3) := by decide +kernel
theorem dX10_back_72 : decode cX10_back 72 = .ok (.iload_n 2, 1) := by decide +kernel
theorem dX10_back_73 : decode cX10_back 73 = .ok (.iconst 1, 1) := by decide +kernel
theorem dX10_back_74 : decode cX10_back 74 = .ok (.isub, 1) := by decide +kernel
theorem dX10_back_75 : decode cX10_back 75 = .ok (.ireturn, 1) := by decide +kernel
theorem dX10_read_0 : decode cX10_read 0 = .ok (.iload_n 1, 1) := by decide +kernel
theorem dX10_read_1 : decode cX10_read 1 = .ok (.invokestatic 167, 3) := by decide +kernel
theorem dX10_read_4 : decode cX10_read 4 = .ok (.ifCond .ne 6, 3) := by decide +kernel
theorem dX10_read_7 : decode cX10_read 7 = .ok (.bipush (-2), 2) := by decide +kernel
theorem dX10_read_9 : decode cX10_read 9 = .ok (.ireturn, 1) := by decide +kernel
theorem dX10_read_10 : decode cX10_read 10 = .ok (.aload_n 0, 1) := by decide +kernel
theorem dX10_read_11 : decode cX10_read 11 = .ok (.getfield 88, 3) := by decide +kernel
theorem dX10_read_14 : decode cX10_read 14 = .ok (.iload_n 1, 1) := by decide +kernel
theorem dX10_read_15 : decode cX10_read 15 = .ok (.baload, 1) := by decide +kernel
theorem dX10_read_16 : decode cX10_read 16 = .ok (.ifCond .ne 9, 3) := by decide +kernel
theorem dX10_read_19 : decode cX10_read 19 = .ok (.aload_n 0, 1) := by decide +kernel
theorem dX10_read_20 : decode cX10_read 20 = .ok (.iconst 1, 1) := by decide +kernel
theorem dX10_read_21 : decode cX10_read 21 = .ok (.invokevirtual 170, 3) := by decide +kernel
theorem dX10_read_24 : decode cX10_read 24 = .ok (.ireturn, 1) := by decide +kernel
theorem dX10_read_25 : decode cX10_read 25 = .ok (.iconst 0, 1) := by decide +kernel
theorem dX10_read_26 : decode cX10_read 26 = .ok (.istore_n 2, 1) := by decide +kernel
theorem dX10_read_27 : decode cX10_read 27 = .ok (.iconst 3, 1) := by decide +kernel
theorem dX10_read_28 : decode cX10_read 28 = .ok (.iload_n 2, 1) := by decide +kernel
theorem dX10_read_29 : decode cX10_read 29 = .ok (.imul, 1) := by decide +kernel
theorem dX10_read_30 : decode cX10_read 30 = .ok (.iconst 2, 1) := by decide +kernel
theorem dX10_read_31 : decode cX10_read 31 = .ok (.iadd, 1) := by decide +kernel
theorem dX10_read_32 : decode cX10_read 32 = .ok (.aload_n 0, 1) := by decide +kernel
theorem dX10_read_33 : decode cX10_read 33 = .ok (.getfield 95, 3) := by decide +kernel
theorem dX10_read_36 : decode cX10_read 36 = .ok (.iload_n 1, 1) := by decide +kernel
theorem dX10_read_37 : decode cX10_read 37 = .ok (.iaload, 1) := by decide +kernel
theorem dX10_read_38 : decode cX10_read 38 = .ok (.if_icmp .ge 59, 3) := by decide +kernel
theorem dX10_read_41 : decode cX10_read 41 = .ok (.aload_n 0, 1) := by decide +kernel
theorem dX10_read_42 : decode cX10_read 42 = .ok (.aload_n 0, 1) := by decide +kernel
theorem dX10_read_43 : decode cX10_read 43 = .ok (.getfield 98, 3) := by decide +kernel
theorem dX10_read_46 : decode cX10_read 46 = .ok (.bipush 60, 2) := by decide +kernel
theorem dX10_read_48 : decode cX10_read 48 = .ok (.iload_n 1, 1) := by decide +kernel
theorem dX10_read_49 : decode cX10_read 49 = .ok (.imul, 1) := by decide +kernel
theorem dX10_read_50 : decode cX10_read 50 = .ok (.iconst 3, 1) := by decide +kernel
theorem dX10_read_51 : decode cX10_read 51 = .ok (.iload_n 2, 1) := by decide +kernel
theorem dX10_read_52 : decode cX10_read 52 = .ok (.imul, 1) := by decide +kernel
theorem dX10_read_53 : decode cX10_read 53 = .ok (.iadd, 1) := by decide +kernel
theorem dX10_read_54 : decode cX10_read 54 = .ok (.iaload, 1) := by decide +kernel
theorem dX10_read_55 : decode cX10_read 55 = .ok (.aload_n 0, 1) := by decide +kernel
theorem dX10_read_56 : decode cX10_read 56 = .ok (.getfield 98, 3) := by decide +kernel
theorem dX10_read_59 : decode cX10_read 59 = .ok (.bipush 60, 2) := by decide +kernel
theorem dX10_read_61 : decode cX10_read 61 = .ok (.iload_n 1, 1) := by decide +kernel
theorem dX10_read_62 : decode cX10_read 62 = .ok (.imul, 1) := by decide +kernel
theorem dX10_read_63 : decode cX10_read 63 = .ok (.iconst 3, 1) := by decide +kernel
theorem dX10_read_64 : decode cX10_read 64 = .ok (.iload_n 2, 1) := by decide +kernel
theorem dX10_read_65 : decode cX10_read 65 = .ok (.imul, 1) := by decide +kernel
theorem dX10_read_66 : decode cX10_read 66 = .ok (.iadd, 1) := by decide +kernel
theorem dX10_read_67 : decode cX10_read 67 = .ok (.iconst 1, 1) := by decide +kernel
theorem dX10_read_68 : decode cX10_read 68 = .ok (.iadd, 1) := by decide +kernel
theorem dX10_read_69 : decode cX10_read 69 = .ok (.iaload, 1) := by decide +kernel
theorem dX10_read_70 : decode cX10_read 70 = .ok (.aload_n 0, 1) := by decide +kernel
theorem dX10_read_71 : decode cX10_read 71 = .ok (.getfield 98, 3) := by decide +kernel
theorem dX10_read_74 : decode cX10_read 74 = .ok (.bipush 60, 2) := by decide +kernel
theorem dX10_read_76 : decode cX10_read 76 = .ok (.iload_n 1, 1) := by decide +kernel
theorem dX10_read_77 : decode cX10_read 77 = .ok (.imul, 1) := by decide +kernel
theorem dX10_read_78 : decode cX10_read 78 = .ok (.iconst 3, 1) := by decide +kernel
theorem dX10_read_79 : decode cX10_read 79 = .ok (.iload_n 2, 1) := by decide +kernel
theorem dX10_read_80 : decode cX10_read 80 = .ok (.imul, 1) := by decide +kernel
theorem dX10_read_81 : decode cX10_read 81 = .ok (.iadd, 1) := by decide +kernel
theorem dX10_read_82 : decode cX10_read 82 = .ok (.iconst 2, 1) := by decide +kernel
theorem dX10_read_83 : decode cX10_read 83 = .ok (.iadd, 1) := by decide +kernel
theorem dX10_read_84 : decode cX10_read 84 = .ok (.iaload, 1) := by decide +kernel
theorem dX10_read_85 : decode cX10_read 85 = .ok (.invokevirtual 173, 3) := by decide +kernel
theorem dX10_read_88 : decode cX10_read 88 = .ok (.ifCond .le 9, 3) := by decide +kernel
theorem dX10_read_91 : decode cX10_read 91 = .ok (.iinc 2 1, 3) := by decide +kernel
theorem dX10_read_94 : decode cX10_read 94 = .ok (.goto (-67), 3) := by decide +kernel
theorem dX10_read_97 : decode cX10_read 97 = .ok (.iload_n 2, 1) := by decide +kernel
theorem dX10_read_98 : decode cX10_read 98 = .ok (.ireturn, 1) := by decide +kernel
theorem dX10_isOther_0 : decode cX10_isOther 0 = .ok (.iconst 0, 1) := by decide +kernel
theorem dX10_isOther_1 : decode cX10_isOther 1 = .ok (.istore 4, 2) := by decide +kernel
theorem dX10_isOther_3 : decode cX10_isOther 3 = .ok (.iload 4, 2) := by decide +kernel
theorem dX10_isOther_5 : decode cX10_isOther 5 = .ok (.iconst 3, 1) := by decide +kernel
theorem dX10_isOther_6 : decode cX10_isOther 6 = .ok (.if_icmp .ge 43, 3) := by decide +kernel
theorem dX10_isOther_9 : decode cX10_isOther 9 = .ok (.aload_n 0, 1) := by decide +kernel
theorem dX10_isOther_10 : decode cX10_isOther 10 = .ok (.getfield 22, 3) := by decide +kernel
theorem dX10_isOther_13 : decode cX10_isOther 13 = .ok (.iconst 3, 1) := by decide +kernel
theorem dX10_isOther_14 : decode cX10_isOther 14 = .ok (.iload_n 1, 1) := by decide +kernel
theorem dX10_isOther_15 : decode cX10_isOther 15 = .ok (.imul, 1) := by decide +kernel
theorem dX10_isOther_16 : decode cX10_isOther 16 = .ok (.iload 4, 2) := by decide +kernel
theorem dX10_isOther_18 : decode cX10_isOther 18 = .ok (.iadd, 1) := by decide +kernel
theorem dX10_isOther_19 : decode cX10_isOther 19 = .ok (.iaload, 1) := by decide +kernel
theorem dX10_isOther_20 : decode cX10_isOther 20 = .ok (.iload_n 2, 1) := by decide +kernel
theorem dX10_isOther_21 : decode cX10_isOther 21 = .ok (.if_icmp .ne 5, 3) := by decide +kernel
theorem dX10_isOther_24 : decode cX10_isOther 24 = .ok (.iconst 0, 1) := by decide +kernel
theorem dX10_isOther_25 : decode cX10_isOther 25 = .ok (.ireturn, 1) := by decide +kernel
theorem dX10_isOther_26 : decode cX10_isOther 26 = .ok (.aload_n 0, 1) := by decide +kernel
theorem dX10_isOther_27 : decode cX10_isOther 27 = .ok (.getfield 22, 3) := by decide +kernel
theorem dX10_isOther_30 : decode cX10_isOther 30 = .ok (.iconst 3, 1) := by decide +kernel
theorem dX10_isOther_31 : decode cX10_isOther 31 = .ok (.iload_n 1, 1) := by decide +kernel
theorem dX10_isOther_32 : decode cX10_isOther 32 = .ok (.imul, 1) := by decide +kernel
theorem dX10_isOther_33 : decode cX10_isOther 33 = .ok (.iload 4, 2) := by decide +kernel
theorem dX10_isOther_35 : decode cX10_isOther 35 = .ok (.iadd, 1) := by decide +kernel
theorem dX10_isOther_36 : decode cX10_isOther 36 = .ok (.iaload, 1) := by decide +kernel
theorem dX10_isOther_37 : decode cX10_isOther 37 = .ok (.iload_n 3, 1) := by decide +kernel
theorem dX10_isOther_38 : decode cX10_isOther 38 = .ok (.if_icmp .ne 5, 3) := by decide +kernel
theorem dX10_isOther_41 : decode cX10_isOther 41 = .ok (.iconst 1, 1) := by decide +kernel
theorem dX10_isOther_42 : decode cX10_isOther 42 = .ok (.ireturn, 1) := by decide +kernel
theorem dX10_isOther_43 : decode cX10_isOther 43 = .ok (.iinc 4 1, 3) := by decide +kernel
theorem dX10_isOther_46 : decode cX10_isOther 46 = .ok (.goto (-43), 3) := by decide +kernel
theorem dX10_isOther_49 : decode cX10_isOther 49 = .ok (.iconst 0, 1) := by decide +kernel
theorem dX10_isOther_50 : decode cX10_isOther 50 = .ok (.ireturn, 1) := by decide +kernel
theorem dX10_leansOther_0 : decode cX10_leansOther 0 = .ok (.iconst 0, 1) := by decide +kernel
theorem dX10_leansOther_1 : decode cX10_leansOther 1 = .ok (.istore 4, 2) := by decide +kernel
theorem dX10_leansOther_3 : decode cX10_leansOther 3 = .ok (.iconst 0, 1) := by decide +kernel
theorem dX10_leansOther_4 : decode cX10_leansOther 4 = .ok (.istore 5, 2) := by decide +kernel
theorem dX10_leansOther_6 : decode cX10_leansOther 6 = .ok (.iload 5, 2) := by decide +kernel
theorem dX10_leansOther_8 : decode cX10_leansOther 8 = .ok (.aload_n 0, 1) := by decide +kernel
theorem dX10_leansOther_9 : decode cX10_leansOther 9 = .ok (.getfield 125, 3) := by decide +kernel
theorem dX10_leansOther_12 : decode cX10_leansOther 12 = .ok (.if_icmp .ge 56, 3) := by decide +kernel
theorem dX10_leansOther_15 : decode cX10_leansOther 15 = .ok (.aload_n 0, 1) := by decide +kernel
theorem dX10_leansOther_16 : decode cX10_leansOther 16 = .ok (.getfield 52, 3) := by decide +kernel
theorem dX10_leansOther_19 : decode cX10_leansOther 19 = .ok (.iload_n 1, 1) := by decide +kernel
theorem dX10_leansOther_20 : decode cX10_leansOther 20 = .ok (.iaload, 1) := by decide +kernel
theorem dX10_leansOther_21 : decode cX10_leansOther 21 = .ok (.iconst 2, 1) := by decide +kernel
theorem dX10_leansOther_22 : decode cX10_leansOther 22 = .ok (.if_icmp .ge 46, 3) := by decide +kernel
theorem dX10_leansOther_25 : decode cX10_leansOther 25 = .ok (.aload_n 0, 1) := by decide +kernel
theorem dX10_leansOther_26 : decode cX10_leansOther 26 = .ok (.getfield 49, 3) := by decide +kernel
theorem dX10_leansOther_29 : decode cX10_leansOther 29 = .ok (.iload 5, 2) := by decide +kernel
theorem dX10_leansOther_31 : decode cX10_leansOther 31 = .ok (.iaload, 1) := by decide +kernel
theorem dX10_leansOther_32 : decode cX10_leansOther 32 = .ok (.aload_n 0, 1) := by decide +kernel
theorem dX10_leansOther_33 : decode cX10_leansOther 33 = .ok (.getfield 49, 3) := by decide +kernel
theorem dX10_leansOther_36 : decode cX10_leansOther 36 = .ok (.iload_n 1, 1) := by decide +kernel
theorem dX10_leansOther_37 : decode cX10_leansOther 37 = .ok (.iaload, 1) := by decide +kernel
theorem dX10_leansOther_38 : decode cX10_leansOther 38 = .ok (.if_icmp .ne 24, 3) := by decide +kernel
theorem dX10_leansOther_41 : decode cX10_leansOther 41 = .ok (.iload 4, 2) := by decide +kernel
theorem dX10_leansOther_43 : decode cX10_leansOther 43 = .ok (.aload_n 0, 1) := by decide +kernel
theorem dX10_leansOther_44 : decode cX10_leansOther 44 = .ok (.iload 5, 2) := by decide +kernel
theorem dX10_leansOther_46 : decode cX10_leansOther 46 = .ok (.iload_n 2, 1) := by decide +kernel
theorem dX10_leansOther_47 : decode cX10_leansOther 47 = .ok (.iload_n 3, 1) := by decide +kernel
theorem dX10_leansOther_48 : decode cX10_leansOther 48 = .ok (.invokevirtual 177, 3) := by decide +kernel
theorem dX10_leansOther_51 : decode cX10_leansOther 51 = .ok (.ifCond .eq 7, 3) := by decide +kernel
theorem dX10_leansOther_54 : decode cX10_leansOther 54 = .ok (.iconst 1, 1) := by decide +kernel
theorem dX10_leansOther_55 : decode cX10_leansOther 55 = .ok (.goto 4, 3) := by decide +kernel
theorem dX10_leansOther_58 : decode cX10_leansOther 58 = .ok (.iconst (-1), 1) := by decide +kernel
theorem dX10_leansOther_59 : decode cX10_leansOther 59 = .ok (.iadd, 1) := by decide +kernel
theorem dX10_leansOther_60 : decode cX10_leansOther 60 = .ok (.istore 4, 2) := by decide +kernel
theorem dX10_leansOther_62 : decode cX10_leansOther 62 = .ok (.iinc 5 1, 3) := by decide +kernel
theorem dX10_leansOther_65 : decode cX10_leansOther 65 = .ok (.goto (-59), 3) := by decide +kernel
theorem dX10_leansOther_68 : decode cX10_leansOther 68 = .ok (.iload 4, 2) := by decide +kernel
theorem dX10_leansOther_70 : decode cX10_leansOther 70 = .ok (.ifCond .ne 13, 3) := by decide +kernel
theorem dX10_leansOther_73 : decode cX10_leansOther 73 = .ok (.aload_n 0, 1) := by decide +kernel
theorem dX10_leansOther_74 : decode cX10_leansOther 74 = .ok (.iload_n 1, 1) := by decide +kernel
theorem dX10_leansOther_75 : decode cX10_leansOther 75 = .ok (.iload_n 2, 1) := by decide +kernel
theorem dX10_leansOther_76 : decode cX10_leansOther 76 = .ok (.iload_n 3, 1) := by decide +kernel
theorem dX10_leansOther_77 : decode cX10_leansOther 77 = .ok (.invokevirtual 177, 3) := by decide +kernel
theorem dX10_leansOther_80 : decode cX10_leansOther 80 = .ok (.goto 13, 3) := by decide +kernel
theorem dX10_leansOther_83 : decode cX10_leansOther 83 = .ok (.iload 4, 2) := by decide +kernel
theorem dX10_leansOther_85 : decode cX10_leansOther 85 = .ok (.ifCond .le 7, 3) := by decide +kernel
theorem dX10_leansOther_88 : decode cX10_leansOther 88 = .ok (.iconst 1, 1) := by decide +kernel
theorem dX10_leansOther_89 : decode cX10_leansOther 89 = .ok (.goto 4, 3) := by decide +kernel
theorem dX10_leansOther_92 : decode cX10_leansOther 92 = .ok (.iconst 0, 1) := by decide +kernel
theorem dX10_leansOther_93 : decode cX10_leansOther 93 = .ok (.ireturn, 1) := by decide +kernel
theorem dX10_leans_0 : decode cX10_leans 0 = .ok (.aload_n 0, 1) := by decide +kernel
theorem dX10_leans_1 : decode cX10_leans 1 = .ok (.iconst 0, 1) := by decide +kernel
theorem dX10_leans_2 : decode cX10_leans 2 = .ok (.putfield 180, 3) := by decide +kernel
theorem dX10_leans_5 : decode cX10_leans 5 = .ok (.aload_n 0, 1) := by decide +kernel
theorem dX10_leans_6 : decode cX10_leans 6 = .ok (.iconst (-1), 1) := by decide +kernel
theorem dX10_leans_7 : decode cX10_leans 7 = .ok (.putfield 183, 3) := by decide +kernel
theorem dX10_leans_10 : decode cX10_leans 10 = .ok (.iconst 0, 1) := by decide +kernel
theorem dX10_leans_11 : decode cX10_leans 11 = .ok (.istore_n 3, 1) := by decide +kernel
theorem dX10_leans_12 : decode cX10_leans 12 = .ok (.iload_n 3, 1) := by decide +kernel
theorem dX10_leans_13 : decode cX10_leans 13 = .ok (.aload_n 0, 1) := by decide +kernel
theorem dX10_leans_14 : decode cX10_leans 14 = .ok (.getfield 125, 3) := by decide +kernel
theorem dX10_leans_17 : decode cX10_leans 17 = .ok (.if_icmp .ge 73, 3) := by decide +kernel
theorem dX10_leans_20 : decode cX10_leans 20 = .ok (.aload_n 0, 1) := by decide +kernel
theorem dX10_leans_21 : decode cX10_leans 21 = .ok (.dup, 1) := by decide +kernel
theorem dX10_leans_22 : decode cX10_leans 22 = .ok (.getfield 180, 3) := by decide +kernel
theorem dX10_leans_25 : decode cX10_leans 25 = .ok (.aload_n 0, 1) := by decide +kernel
theorem dX10_leans_26 : decode cX10_leans 26 = .ok (.iload_n 3, 1) := by decide +kernel
theorem dX10_leans_27 : decode cX10_leans 27 = .ok (.iload_n 1, 1) := by decide +kernel
theorem dX10_leans_28 : decode cX10_leans 28 = .ok (.iload_n 2, 1) := by decide +kernel
theorem dX10_leans_29 : decode cX10_leans 29 = .ok (.invokevirtual 186, 3) := by decide +kernel
theorem dX10_leans_32 : decode cX10_leans 32 = .ok (.ifCond .eq 9, 3) := by decide +kernel
theorem dX10_leans_35 : decode cX10_leans 35 = .ok (.iconst 1, 1) := by decide +kernel
theorem dX10_leans_36 : decode cX10_leans 36 = .ok (.iload_n 3, 1) := by decide +kernel
theorem dX10_leans_37 : decode cX10_leans 37 = .ok (.ishl, 1) := by decide +kernel
theorem dX10_leans_38 : decode cX10_leans 38 = .ok (.goto 4, 3) := by decide +kernel
theorem dX10_leans_41 : decode cX10_leans 41 = .ok (.iconst 0, 1) := by decide +kernel
theorem dX10_leans_42 : decode cX10_leans 42 = .ok (.ior, 1) := by decide +kernel
theorem dX10_leans_43 : decode cX10_leans 43 = .ok (.putfield 180, 3) := by decide +kernel
theorem dX10_leans_46 : decode cX10_leans 46 = .ok (.aload_n 0, 1) := by decide +kernel
theorem dX10_leans_47 : decode cX10_leans 47 = .ok (.aload_n 0, 1) := by decide +kernel
theorem dX10_leans_48 : decode cX10_leans 48 = .ok (.getfield 183, 3) := by decide +kernel
theorem dX10_leans_51 : decode cX10_leans 51 = .ok (.iconst (-1), 1) := by decide +kernel
theorem dX10_leans_52 : decode cX10_leans 52 = .ok (.if_icmp .eq 21, 3) := by decide +kernel
theorem dX10_leans_55 : decode cX10_leans 55 = .ok (.aload_n 0, 1) := by decide +kernel
theorem dX10_leans_56 : decode cX10_leans 56 = .ok (.getfield 49, 3) := by decide +kernel
theorem dX10_leans_59 : decode cX10_leans 59 = .ok (.iload_n 3, 1) := by decide +kernel
theorem dX10_leans_60 : decode cX10_leans 60 = .ok (.iaload, 1) := by decide +kernel
theorem dX10_leans_61 : decode cX10_leans 61 = .ok (.aload_n 0, 1) := by decide +kernel
theorem dX10_leans_62 : decode cX10_leans 62 = .ok (.getfield 49, 3) := by decide +kernel
theorem dX10_leans_65 : decode cX10_leans 65 = .ok (.aload_n 0, 1) := by decide +kernel
theorem dX10_leans_66 : decode cX10_leans 66 = .ok (.getfield 183, 3) := by decide +kernel
theorem dX10_leans_69 : decode cX10_leans 69 = .ok (.iaload, 1) := by decide +kernel
theorem dX10_leans_70 : decode cX10_leans 70 = .ok (.if_icmp .ge 7, 3) := by decide +kernel
theorem dX10_leans_73 : decode cX10_leans 73 = .ok (.iload_n 3, 1) := by decide +kernel
theorem dX10_leans_74 : decode cX10_leans 74 = .ok (.goto 7, 3) := by decide +kernel
theorem dX10_leans_77 : decode cX10_leans 77 = .ok (.aload_n 0, 1) := by decide +kernel
theorem dX10_leans_78 : decode cX10_leans 78 = .ok (.getfield 183, 3) := by decide +kernel
theorem dX10_leans_81 : decode cX10_leans 81 = .ok (.putfield 183, 3) := by decide +kernel
theorem dX10_leans_84 : decode cX10_leans 84 = .ok (.iinc 3 1, 3) := by decide +kernel
theorem dX10_leans_87 : decode cX10_leans 87 = .ok (.goto (-75), 3) := by decide +kernel
theorem dX10_leans_90 : decode cX10_leans 90 = .ok (.return_, 1) := by decide +kernel
theorem dX10_carries_0 : decode cX10_carries 0 = .ok (.aload_n 0, 1) := by decide +kernel
theorem dX10_carries_1 : decode cX10_carries 1 = .ok (.getfield 180, 3) := by decide +kernel
theorem dX10_carries_4 : decode cX10_carries 4 = .ok (.iload 4, 2) := by decide +kernel
theorem dX10_carries_6 : decode cX10_carries 6 = .ok (.ixor, 1) := by decide +kernel
theorem dX10_carries_7 : decode cX10_carries 7 = .ok (.istore 5, 2) := by decide +kernel
theorem dX10_carries_9 : decode cX10_carries 9 = .ok (.iconst 0, 1) := by decide +kernel
theorem dX10_carries_10 : decode cX10_carries 10 = .ok (.istore 6, 2) := by decide +kernel
theorem dX10_carries_12 : decode cX10_carries 12 = .ok (.iconst 0, 1) := by decide +kernel
theorem dX10_carries_13 : decode cX10_carries 13 = .ok (.istore 7, 2) := by decide +kernel
theorem dX10_carries_15 : decode cX10_carries 15 = .ok (.iload 7, 2) := by decide +kernel
theorem dX10_carries_17 : decode cX10_carries 17 = .ok (.aload_n 0, 1) := by decide +kernel
theorem dX10_carries_18 : decode cX10_carries 18 = .ok (.getfield 125, 3) := by decide +kernel
theorem dX10_carries_21 : decode cX10_carries 21 = .ok (.if_icmp .ge 55, 3) := by decide +kernel
theorem dX10_carries_24 : decode cX10_carries 24 = .ok (.iload_n 3, 1) := by decide +kernel
theorem dX10_carries_25 : decode cX10_carries 25 = .ok (.iconst 1, 1) := by decide +kernel
theorem dX10_carries_26 : decode cX10_carries 26 = .ok (.if_icmp .ne 7, 3) := by decide +kernel
theorem dX10_carries_29 : decode cX10_carries 29 = .ok (.iconst 1, 1) := by decide +kernel
theorem dX10_carries_30 : decode cX10_carries 30 = .ok (.goto 15, 3) := by decide +kernel
theorem dX10_carries_33 : decode cX10_carries 33 = .ok (.aload_n 0, 1) := by decide +kernel
theorem dX10_carries_34 : decode cX10_carries 34 = .ok (.getfield 34, 3) := by decide +kernel
theorem dX10_carries_37 : decode cX10_carries 37 = .ok (.aload_n 0, 1) := by decide +kernel
theorem dX10_carries_38 : decode cX10_carries 38 = .ok (.getfield 16, 3) := by decide +kernel
theorem dX10_carries_41 : decode cX10_carries 41 = .ok (.iload 7, 2) := by decide +kernel
theorem dX10_carries_43 : decode cX10_carries 43 = .ok (.iaload, 1) := by decide +kernel
theorem dX10_carries_44 : decode cX10_carries 44 = .ok (.iaload, 1) := by decide +kernel
theorem dX10_carries_45 : decode cX10_carries 45 = .ok (.istore 8, 2) := by decide +kernel
theorem dX10_carries_47 : decode cX10_carries 47 = .ok (.iload 6, 2) := by decide +kernel
theorem dX10_carries_49 : decode cX10_carries 49 = .ok (.iload 5, 2) := by decide +kernel
theorem dX10_carries_51 : decode cX10_carries 51 = .ok (.iload 7, 2) := by decide +kernel
theorem dX10_carries_53 : decode cX10_carries 53 = .ok (.invokestatic 121, 3) := by decide +kernel
theorem dX10_carries_56 : decode cX10_carries 56 = .ok (.ifCond .eq 8, 3) := by decide +kernel
theorem dX10_carries_59 : decode cX10_carries 59 = .ok (.iload 8, 2) := by decide +kernel
theorem dX10_carries_61 : decode cX10_carries 61 = .ok (.goto 6, 3) := by decide +kernel
theorem dX10_carries_64 : decode cX10_carries 64 = .ok (.iload 8, 2) := by decide +kernel
theorem dX10_carries_66 : decode cX10_carries 66 = .ok (.ineg, 1) := by decide +kernel
theorem dX10_carries_67 : decode cX10_carries 67 = .ok (.iadd, 1) := by decide +kernel
theorem dX10_carries_68 : decode cX10_carries 68 = .ok (.istore 6, 2) := by decide +kernel
theorem dX10_carries_70 : decode cX10_carries 70 = .ok (.iinc 7 1, 3) := by decide +kernel
theorem dX10_carries_73 : decode cX10_carries 73 = .ok (.goto (-58), 3) := by decide +kernel
theorem dX10_carries_76 : decode cX10_carries 76 = .ok (.aload_n 0, 1) := by decide +kernel
theorem dX10_carries_77 : decode cX10_carries 77 = .ok (.iload 6, 2) := by decide +kernel
theorem dX10_carries_79 : decode cX10_carries 79 = .ok (.ifCond .ge 9, 3) := by decide +kernel
theorem dX10_carries_82 : decode cX10_carries 82 = .ok (.iload 6, 2) := by decide +kernel
theorem dX10_carries_84 : decode cX10_carries 84 = .ok (.ineg, 1) := by decide +kernel
theorem dX10_carries_85 : decode cX10_carries 85 = .ok (.goto 5, 3) := by decide +kernel
theorem dX10_carries_88 : decode cX10_carries 88 = .ok (.iload 6, 2) := by decide +kernel
theorem dX10_carries_90 : decode cX10_carries 90 = .ok (.putfield 189, 3) := by decide +kernel
theorem dX10_carries_93 : decode cX10_carries 93 = .ok (.aload_n 0, 1) := by decide +kernel
theorem dX10_carries_94 : decode cX10_carries 94 = .ok (.getfield 125, 3) := by decide +kernel
theorem dX10_carries_97 : decode cX10_carries 97 = .ok (.ifCond .ne 7, 3) := by decide +kernel
theorem dX10_carries_100 : decode cX10_carries 100 = .ok (.iconst (-1), 1) := by decide +kernel
theorem dX10_carries_101 : decode cX10_carries 101 = .ok (.goto 30, 3) := by decide +kernel
theorem dX10_carries_104 : decode cX10_carries 104 = .ok (.iload 6, 2) := by decide +kernel
theorem dX10_carries_106 : decode cX10_carries 106 = .ok (.ifCond .gt 20, 3) := by decide +kernel
theorem dX10_carries_109 : decode cX10_carries 109 = .ok (.iload 6, 2) := by decide +kernel
theorem dX10_carries_111 : decode cX10_carries 111 = .ok (.ifCond .ne 19, 3) := by decide +kernel
theorem dX10_carries_114 : decode cX10_carries 114 = .ok (.iload 5, 2) := by decide +kernel
theorem dX10_carries_116 : decode cX10_carries 116 = .ok (.aload_n 0, 1) := by decide +kernel
theorem dX10_carries_117 : decode cX10_carries 117 = .ok (.getfield 183, 3) := by decide +kernel
theorem dX10_carries_120 : decode cX10_carries 120 = .ok (.invokestatic 121, 3) := by decide +kernel
theorem dX10_carries_123 : decode cX10_carries 123 = .ok (.ifCond .eq 7, 3) := by decide +kernel
theorem dX10_carries_126 : decode cX10_carries 126 = .ok (.iload_n 2, 1) := by decide +kernel
theorem dX10_carries_127 : decode cX10_carries 127 = .ok (.goto 4, 3) := by decide +kernel
theorem dX10_carries_130 : decode cX10_carries 130 = .ok (.iload_n 1, 1) := by decide +kernel
theorem dX10_carries_131 : decode cX10_carries 131 = .ok (.ireturn, 1) := by decide +kernel
theorem dX10_asTold_0 : decode cX10_asTold 0 = .ok (.aload_n 0, 1) := by decide +kernel
theorem dX10_asTold_1 : decode cX10_asTold 1 = .ok (.invokevirtual 146, 3) := by decide +kernel
theorem dX10_asTold_4 : decode cX10_asTold 4 = .ok (.aload_n 0, 1) := by decide +kernel
theorem dX10_asTold_5 : decode cX10_asTold 5 = .ok (.iconst 0, 1) := by decide +kernel
theorem dX10_asTold_6 : decode cX10_asTold 6 = .ok (.putfield 192, 3) := by decide +kernel
theorem dX10_asTold_9 : decode cX10_asTold 9 = .ok (.aload_n 0, 1) := by decide +kernel
theorem dX10_asTold_10 : decode cX10_asTold 10 = .ok (.iconst (-1), 1) := by decide +kernel
theorem dX10_asTold_11 : decode cX10_asTold 11 = .ok (.putfield 195, 3) := by decide +kernel
theorem dX10_asTold_14 : decode cX10_asTold 14 = .ok (.aload_n 0, 1) := by decide +kernel
theorem dX10_asTold_15 : decode cX10_asTold 15 = .ok (.iconst 0, 1) := by decide +kernel
theorem dX10_asTold_16 : decode cX10_asTold 16 = .ok (.putfield 198, 3) := by decide +kernel
theorem dX10_asTold_19 : decode cX10_asTold 19 = .ok (.aload_n 0, 1) := by decide +kernel
theorem dX10_asTold_20 : decode cX10_asTold 20 = .ok (.iconst 0, 1) := by decide +kernel
theorem dX10_asTold_21 : decode cX10_asTold 21 = .ok (.putfield 201, 3) := by decide +kernel
theorem dX10_asTold_24 : decode cX10_asTold 24 = .ok (.iconst 0, 1) := by decide +kernel
theorem dX10_asTold_25 : decode cX10_asTold 25 = .ok (.istore_n 1, 1) := by decide +kernel
theorem dX10_asTold_26 : decode cX10_asTold 26 = .ok (.iload_n 1, 1) := by decide +kernel
theorem dX10_asTold_27 : decode cX10_asTold 27 = .ok (.aload_n 0, 1) := by decide +kernel
theorem dX10_asTold_28 : decode cX10_asTold 28 = .ok (.getfield 164, 3) := by decide +kernel
theorem dX10_asTold_31 : decode cX10_asTold 31 = .ok (.if_icmp .ge 26, 3) := by decide +kernel
theorem dX10_asTold_34 : decode cX10_asTold 34 = .ok (.aload_n 0, 1) := by decide +kernel
theorem dX10_asTold_35 : decode cX10_asTold 35 = .ok (.dup, 1) := by decide +kernel
theorem dX10_asTold_36 : decode cX10_asTold 36 = .ok (.getfield 201, 3) := by decide +kernel
theorem dX10_asTold_39 : decode cX10_asTold 39 = .ok (.iconst 1, 1) := by decide +kernel
theorem dX10_asTold_40 : decode cX10_asTold 40 = .ok (.aload_n 0, 1) := by decide +kernel
theorem dX10_asTold_41 : decode cX10_asTold 41 = .ok (.getfield 46, 3) := by decide +kernel
theorem dX10_asTold_44 : decode cX10_asTold 44 = .ok (.iload_n 1, 1) := by decide +kernel
theorem dX10_asTold_45 : decode cX10_asTold 45 = .ok (.iaload, 1) := by decide +kernel
theorem dX10_asTold_46 : decode cX10_asTold 46 = .ok (.ishl, 1) := by decide +kernel
theorem dX10_asTold_47 : decode cX10_asTold 47 = .ok (.ior, 1) := by decide +kernel
theorem dX10_asTold_48 : decode cX10_asTold 48 = .ok (.putfield 201, 3) := by decide +kernel
theorem dX10_asTold_51 : decode cX10_asTold 51 = .ok (.iinc 1 1, 3) := by decide +kernel
theorem dX10_asTold_54 : decode cX10_asTold 54 = .ok (.goto (-28), 3) := by decide +kernel
theorem dX10_asTold_57 : decode cX10_asTold 57 = .ok (.return_, 1) := by decide +kernel
theorem dX10_laysOut_0 : decode cX10_laysOut 0 = .ok (.iconst 0, 1) := by decide +kernel
theorem dX10_laysOut_1 : decode cX10_laysOut 1 = .ok (.istore_n 2, 1) := by decide +kernel
theorem dX10_laysOut_2 : decode cX10_laysOut 2 = .ok (.iload_n 2, 1) := by decide +kernel
theorem dX10_laysOut_3 : decode cX10_laysOut 3 = .ok (.aload_n 0, 1) := by decide +kernel
theorem dX10_laysOut_4 : decode cX10_laysOut 4 = .ok (.getfield 125, 3) := by decide +kernel
theorem dX10_laysOut_7 : decode cX10_laysOut 7 = .ok (.if_icmp .ge 144, 3) := by decide +kernel
theorem dX10_laysOut_10 : decode cX10_laysOut 10 = .ok (.iconst 0, 1) := by decide +kernel
theorem dX10_laysOut_11 : decode cX10_laysOut 11 = .ok (.istore_n 3, 1) := by decide +kernel
theorem dX10_laysOut_12 : decode cX10_laysOut 12 = .ok (.iload_n 3, 1) := by decide +kernel
theorem dX10_laysOut_13 : decode cX10_laysOut 13 = .ok (.aload_n 0, 1) := by decide +kernel
theorem dX10_laysOut_14 : decode cX10_laysOut 14 = .ok (.getfield 161, 3) := by decide +kernel
theorem dX10_laysOut_17 : decode cX10_laysOut 17 = .ok (.if_icmp .ge 52, 3) := by decide +kernel
theorem dX10_laysOut_20 : decode cX10_laysOut 20 = .ok (.aload_n 0, 1) := by decide +kernel
theorem dX10_laysOut_21 : decode cX10_laysOut 21 = .ok (.getfield 37, 3) := by decide +kernel
theorem dX10_laysOut_24 : decode cX10_laysOut 24 = .ok (.iload_n 3, 1) := by decide +kernel
theorem dX10_laysOut_25 : decode cX10_laysOut 25 = .ok (.iaload, 1) := by decide +kernel
theorem dX10_laysOut_26 : decode cX10_laysOut 26 = .ok (.iload_n 1, 1) := by decide +kernel
theorem dX10_laysOut_27 : decode cX10_laysOut 27 = .ok (.if_icmp .ne 36, 3) := by decide +kernel
theorem dX10_laysOut_30 : decode cX10_laysOut 30 = .ok (.aload_n 0, 1) := by decide +kernel
theorem dX10_laysOut_31 : decode cX10_laysOut 31 = .ok (.getfield 40, 3) := by decide +kernel
theorem dX10_laysOut_34 : decode cX10_laysOut 34 = .ok (.iload_n 3, 1) := by decide +kernel
theorem dX10_laysOut_35 : decode cX10_laysOut 35 = .ok (.iaload, 1) := by decide +kernel
theorem dX10_laysOut_36 : decode cX10_laysOut 36 = .ok (.iload_n 2, 1) := by decide +kernel
theorem dX10_laysOut_37 : decode cX10_laysOut 37 = .ok (.if_icmp .ne 26, 3) := by decide +kernel
theorem dX10_laysOut_40 : decode cX10_laysOut 40 = .ok (.aload_n 0, 1) := by decide +kernel
theorem dX10_laysOut_41 : decode cX10_laysOut 41 = .ok (.getfield 192, 3) := by decide +kernel
theorem dX10_laysOut_44 : decode cX10_laysOut 44 = .ok (.iload_n 3, 1) := by decide +kernel
theorem dX10_laysOut_45 : decode cX10_laysOut 45 = .ok (.invokestatic 121, 3) := by decide +kernel
theorem dX10_laysOut_48 : decode cX10_laysOut 48 = .ok (.ifCond .ne 15, 3) := by decide +kernel
theorem dX10_laysOut_51 : decode cX10_laysOut 51 = .ok (.aload_n 0, 1) := by decide +kernel
theorem dX10_laysOut_52 : decode cX10_laysOut 52 = .ok (.getfield 49, 3) := by decide +kernel
theorem dX10_laysOut_55 : decode cX10_laysOut 55 = .ok (.iload_n 2, 1) := by decide +kernel
theorem dX10_laysOut_56 : decode cX10_laysOut 56 = .ok (.aload_n 0, 1) := by decide +kernel
theorem dX10_laysOut_57 : decode cX10_laysOut 57 = .ok (.getfield 43, 3) := by decide +kernel
theorem dX10_laysOut_60 : decode cX10_laysOut 60 = .ok (.iload_n 3, 1) := by decide +kernel
theorem dX10_laysOut_61 : decode cX10_laysOut 61 = .ok (.iaload, 1) := by decide +kernel
theorem dX10_laysOut_62 : decode cX10_laysOut 62 = .ok (.iastore, 1) := by decide +kernel
theorem dX10_laysOut_63 : decode cX10_laysOut 63 = .ok (.iinc 3 1, 3) := by decide +kernel
theorem dX10_laysOut_66 : decode cX10_laysOut 66 = .ok (.goto (-54), 3) := by decide +kernel
theorem dX10_laysOut_69 : decode cX10_laysOut 69 = .ok (.aload_n 0, 1) := by decide +kernel
theorem dX10_laysOut_70 : decode cX10_laysOut 70 = .ok (.getfield 49, 3) := by decide +kernel
theorem dX10_laysOut_73 : decode cX10_laysOut 73 = .ok (.iload_n 2, 1) := by decide +kernel
theorem dX10_laysOut_74 : decode cX10_laysOut 74 = .ok (.aload_n 0, 1) := by decide +kernel
theorem dX10_laysOut_75 : decode cX10_laysOut 75 = .ok (.getfield 195, 3) := by decide +kernel
theorem dX10_laysOut_78 : decode cX10_laysOut 78 = .ok (.iload_n 1, 1) := by decide +kernel
theorem dX10_laysOut_79 : decode cX10_laysOut 79 = .ok (.if_icmp .ne 18, 3) := by decide +kernel
theorem dX10_laysOut_82 : decode cX10_laysOut 82 = .ok (.aload_n 0, 1) := by decide +kernel
theorem dX10_laysOut_83 : decode cX10_laysOut 83 = .ok (.getfield 198, 3) := by decide +kernel
theorem dX10_laysOut_86 : decode cX10_laysOut 86 = .ok (.iload_n 2, 1) := by decide +kernel
theorem dX10_laysOut_87 : decode cX10_laysOut 87 = .ok (.invokestatic 121, 3) := by decide +kernel
theorem dX10_laysOut_90 : decode cX10_laysOut 90 = .ok (.ifCond .eq 7, 3) := by decide +kernel
theorem dX10_laysOut_93 : decode cX10_laysOut 93 = .ok (.iconst 0, 1) := by decide +kernel
theorem dX10_laysOut_94 : decode cX10_laysOut 94 = .ok (.goto 9, 3) := by decide +kernel
theorem dX10_laysOut_97 : decode cX10_laysOut 97 = .ok (.aload_n 0, 1) := by decide +kernel
theorem dX10_laysOut_98 : decode cX10_laysOut 98 = .ok (.getfield 49, 3) := by decide +kernel
theorem dX10_laysOut_101 : decode cX10_laysOut 101 = .ok (.iload_n 2, 1) := by decide +kernel
theorem dX10_laysOut_102 : decode cX10_laysOut 102 = .ok (.iaload, 1) := by decide +kernel
theorem dX10_laysOut_103 : decode cX10_laysOut 103 = .ok (.iastore, 1) := by decide +kernel
theorem dX10_laysOut_104 : decode cX10_laysOut 104 = .ok (.iconst 5, 1) := by decide +kernel
theorem dX10_laysOut_105 : decode cX10_laysOut 105 = .ok (.aload_n 0, 1) := by decide +kernel
theorem dX10_laysOut_106 : decode cX10_laysOut 106 = .ok (.getfield 49, 3) := by decide +kernel
theorem dX10_laysOut_109 : decode cX10_laysOut 109 = .ok (.iload_n 2, 1) := by decide +kernel
theorem dX10_laysOut_110 : decode cX10_laysOut 110 = .ok (.iaload, 1) := by decide +kernel
theorem dX10_laysOut_111 : decode cX10_laysOut 111 = .ok (.isub, 1) := by decide +kernel
theorem dX10_laysOut_112 : decode cX10_laysOut 112 = .ok (.aload_n 0, 1) := by decide +kernel
theorem dX10_laysOut_113 : decode cX10_laysOut 113 = .ok (.getfield 201, 3) := by decide +kernel
theorem dX10_laysOut_116 : decode cX10_laysOut 116 = .ok (.iload_n 1, 1) := by decide +kernel
theorem dX10_laysOut_117 : decode cX10_laysOut 117 = .ok (.invokestatic 121, 3) := by decide +kernel
theorem dX10_laysOut_120 : decode cX10_laysOut 120 = .ok (.ifCond .eq 7, 3) := by decide +kernel
theorem dX10_laysOut_123 : decode cX10_laysOut 123 = .ok (.iconst 3, 1) := by decide +kernel
theorem dX10_laysOut_124 : decode cX10_laysOut 124 = .ok (.goto 4, 3) := by decide +kernel
theorem dX10_laysOut_127 : decode cX10_laysOut 127 = .ok (.iconst 0, 1) := by decide +kernel
theorem dX10_laysOut_128 : decode cX10_laysOut 128 = .ok (.isub, 1) := by decide +kernel
theorem dX10_laysOut_129 : decode cX10_laysOut 129 = .ok (.istore_n 3, 1) := by decide +kernel
theorem dX10_laysOut_130 : decode cX10_laysOut 130 = .ok (.aload_n 0, 1) := by decide +kernel
theorem dX10_laysOut_131 : decode cX10_laysOut 131 = .ok (.getfield 52, 3) := by decide +kernel
theorem dX10_laysOut_134 : decode cX10_laysOut 134 = .ok (.iload_n 2, 1) := by decide +kernel
theorem dX10_laysOut_135 : decode cX10_laysOut 135 = .ok (.iload_n 3, 1) := by decide +kernel
theorem dX10_laysOut_136 : decode cX10_laysOut 136 = .ok (.ifCond .le 7, 3) := by decide +kernel
theorem dX10_laysOut_139 : decode cX10_laysOut 139 = .ok (.iload_n 3, 1) := by decide +kernel
theorem dX10_laysOut_140 : decode cX10_laysOut 140 = .ok (.goto 4, 3) := by decide +kernel
theorem dX10_laysOut_143 : decode cX10_laysOut 143 = .ok (.iconst 0, 1) := by decide +kernel
theorem dX10_laysOut_144 : decode cX10_laysOut 144 = .ok (.iastore, 1) := by decide +kernel
theorem dX10_laysOut_145 : decode cX10_laysOut 145 = .ok (.iinc 2 1, 3) := by decide +kernel
theorem dX10_laysOut_148 : decode cX10_laysOut 148 = .ok (.goto (-146), 3) := by decide +kernel
theorem dX10_laysOut_151 : decode cX10_laysOut 151 = .ok (.return_, 1) := by decide +kernel
theorem dX10_runs_0 : decode cX10_runs 0 = .ok (.iconst 0, 1) := by decide +kernel
theorem dX10_runs_1 : decode cX10_runs 1 = .ok (.istore_n 1, 1) := by decide +kernel
theorem dX10_runs_2 : decode cX10_runs 2 = .ok (.iload_n 1, 1) := by decide +kernel
theorem dX10_runs_3 : decode cX10_runs 3 = .ok (.aload_n 0, 1) := by decide +kernel
theorem dX10_runs_4 : decode cX10_runs 4 = .ok (.getfield 125, 3) := by decide +kernel
theorem dX10_runs_7 : decode cX10_runs 7 = .ok (.if_icmp .ge 21, 3) := by decide +kernel
theorem dX10_runs_10 : decode cX10_runs 10 = .ok (.aload_n 0, 1) := by decide +kernel
theorem dX10_runs_11 : decode cX10_runs 11 = .ok (.getfield 49, 3) := by decide +kernel
theorem dX10_runs_14 : decode cX10_runs 14 = .ok (.iload_n 1, 1) := by decide +kernel
theorem dX10_runs_15 : decode cX10_runs 15 = .ok (.aload_n 0, 1) := by decide +kernel
theorem dX10_runs_16 : decode cX10_runs 16 = .ok (.getfield 19, 3) := by decide +kernel
theorem dX10_runs_19 : decode cX10_runs 19 = .ok (.iload_n 1, 1) := by decide +kernel
theorem dX10_runs_20 : decode cX10_runs 20 = .ok (.iaload, 1) := by decide +kernel
theorem dX10_runs_21 : decode cX10_runs 21 = .ok (.iastore, 1) := by decide +kernel
theorem dX10_runs_22 : decode cX10_runs 22 = .ok (.iinc 1 1, 3) := by decide +kernel
theorem dX10_runs_25 : decode cX10_runs 25 = .ok (.goto (-23), 3) := by decide +kernel
theorem dX10_runs_28 : decode cX10_runs 28 = .ok (.iconst 0, 1) := by decide +kernel
theorem dX10_runs_29 : decode cX10_runs 29 = .ok (.istore_n 1, 1) := by decide +kernel
theorem dX10_runs_30 : decode cX10_runs 30 = .ok (.iload_n 1, 1) := by decide +kernel
theorem dX10_runs_31 : decode cX10_runs 31 = .ok (.bipush 10, 2) := by decide +kernel
theorem dX10_runs_33 : decode cX10_runs 33 = .ok (.if_icmp .ge 154, 3) := by decide +kernel
theorem dX10_runs_36 : decode cX10_runs 36 = .ok (.aload_n 0, 1) := by decide +kernel
theorem dX10_runs_37 : decode cX10_runs 37 = .ok (.iload_n 1, 1) := by decide +kernel
theorem dX10_runs_38 : decode cX10_runs 38 = .ok (.invokevirtual 204, 3) := by decide +kernel
theorem dX10_runs_41 : decode cX10_runs 41 = .ok (.iconst 0, 1) := by decide +kernel
theorem dX10_runs_42 : decode cX10_runs 42 = .ok (.istore_n 2, 1) := by decide +kernel
theorem dX10_runs_43 : decode cX10_runs 43 = .ok (.iload_n 2, 1) := by decide +kernel
theorem dX10_runs_44 : decode cX10_runs 44 = .ok (.aload_n 0, 1) := by decide +kernel
theorem dX10_runs_45 : decode cX10_runs 45 = .ok (.getfield 125, 3) := by decide +kernel
theorem dX10_runs_48 : decode cX10_runs 48 = .ok (.if_icmp .ge 43, 3) := by decide +kernel
theorem dX10_runs_51 : decode cX10_runs 51 = .ok (.aload_n 0, 1) := by decide +kernel
theorem dX10_runs_52 : decode cX10_runs 52 = .ok (.getfield 55, 3) := by decide +kernel
theorem dX10_runs_55 : decode cX10_runs 55 = .ok (.bipush 8, 2) := by decide +kernel
theorem dX10_runs_57 : decode cX10_runs 57 = .ok (.iload_n 1, 1) := by decide +kernel
theorem dX10_runs_58 : decode cX10_runs 58 = .ok (.imul, 1) := by decide +kernel
theorem dX10_runs_59 : decode cX10_runs 59 = .ok (.iload_n 2, 1) := by decide +kernel
theorem dX10_runs_60 : decode cX10_runs 60 = .ok (.iadd, 1) := by decide +kernel
theorem dX10_runs_61 : decode cX10_runs 61 = .ok (.aload_n 0, 1) := by decide +kernel
theorem dX10_runs_62 : decode cX10_runs 62 = .ok (.getfield 49, 3) := by decide +kernel
theorem dX10_runs_65 : decode cX10_runs 65 = .ok (.iload_n 2, 1) := by decide +kernel
theorem dX10_runs_66 : decode cX10_runs 66 = .ok (.iaload, 1) := by decide +kernel
theorem dX10_runs_67 : decode cX10_runs 67 = .ok (.iastore, 1) := by decide +kernel
theorem dX10_runs_68 : decode cX10_runs 68 = .ok (.aload_n 0, 1) := by decide +kernel
theorem dX10_runs_69 : decode cX10_runs 69 = .ok (.getfield 58, 3) := by decide +kernel
theorem dX10_runs_72 : decode cX10_runs 72 = .ok (.bipush 8, 2) := by decide +kernel
theorem dX10_runs_74 : decode cX10_runs 74 = .ok (.iload_n 1, 1) := by decide +kernel
theorem dX10_runs_75 : decode cX10_runs 75 = .ok (.imul, 1) := by decide +kernel
theorem dX10_runs_76 : decode cX10_runs 76 = .ok (.iload_n 2, 1) := by decide +kernel
theorem dX10_runs_77 : decode cX10_runs 77 = .ok (.iadd, 1) := by decide +kernel
theorem dX10_runs_78 : decode cX10_runs 78 = .ok (.aload_n 0, 1) := by decide +kernel
theorem dX10_runs_79 : decode cX10_runs 79 = .ok (.getfield 52, 3) := by decide +kernel
theorem dX10_runs_82 : decode cX10_runs 82 = .ok (.iload_n 2, 1) := by decide +kernel
theorem dX10_runs_83 : decode cX10_runs 83 = .ok (.iaload, 1) := by decide +kernel
theorem dX10_runs_84 : decode cX10_runs 84 = .ok (.iastore, 1) := by decide +kernel
theorem dX10_runs_85 : decode cX10_runs 85 = .ok (.iinc 2 1, 3) := by decide +kernel
theorem dX10_runs_88 : decode cX10_runs 88 = .ok (.goto (-45), 3) := by decide +kernel
theorem dX10_runs_91 : decode cX10_runs 91 = .ok (.aload_n 0, 1) := by decide +kernel
theorem dX10_runs_92 : decode cX10_runs 92 = .ok (.getfield 70, 3) := by decide +kernel
theorem dX10_runs_95 : decode cX10_runs 95 = .ok (.iload_n 1, 1) := by decide +kernel
theorem dX10_runs_96 : decode cX10_runs 96 = .ok (.iconst (-1), 1) := by decide +kernel
theorem dX10_runs_97 : decode cX10_runs 97 = .ok (.iastore, 1) := by decide +kernel
theorem dX10_runs_98 : decode cX10_runs 98 = .ok (.iload_n 1, 1) := by decide +kernel
theorem dX10_runs_99 : decode cX10_runs 99 = .ok (.aload_n 0, 1) := by decide +kernel
theorem dX10_runs_100 : decode cX10_runs 100 = .ok (.getfield 132, 3) := by decide +kernel
theorem dX10_runs_103 : decode cX10_runs 103 = .ok (.if_icmp .ge 78, 3) := by decide +kernel
theorem dX10_runs_106 : decode cX10_runs 106 = .ok (.aload_n 0, 1) := by decide +kernel
theorem dX10_runs_107 : decode cX10_runs 107 = .ok (.aload_n 0, 1) := by decide +kernel
theorem dX10_runs_108 : decode cX10_runs 108 = .ok (.getfield 25, 3) := by decide +kernel
theorem dX10_runs_111 : decode cX10_runs 111 = .ok (.iload_n 1, 1) := by decide +kernel
theorem dX10_runs_112 : decode cX10_runs 112 = .ok (.iaload, 1) := by decide +kernel
theorem dX10_runs_113 : decode cX10_runs 113 = .ok (.aload_n 0, 1) := by decide +kernel
theorem dX10_runs_114 : decode cX10_runs 114 = .ok (.getfield 28, 3) := by decide +kernel
theorem dX10_runs_117 : decode cX10_runs 117 = .ok (.iload_n 1, 1) := by decide +kernel
theorem dX10_runs_118 : decode cX10_runs 118 = .ok (.iaload, 1) := by decide +kernel
theorem dX10_runs_119 : decode cX10_runs 119 = .ok (.invokevirtual 208, 3) := by decide +kernel
theorem dX10_runs_122 : decode cX10_runs 122 = .ok (.aload_n 0, 1) := by decide +kernel
theorem dX10_runs_123 : decode cX10_runs 123 = .ok (.getfield 70, 3) := by decide +kernel
theorem dX10_runs_126 : decode cX10_runs 126 = .ok (.iload_n 1, 1) := by decide +kernel
theorem dX10_runs_127 : decode cX10_runs 127 = .ok (.aload_n 0, 1) := by decide +kernel
theorem dX10_runs_128 : decode cX10_runs 128 = .ok (.aload_n 0, 1) := by decide +kernel
theorem dX10_runs_129 : decode cX10_runs 129 = .ok (.getfield 25, 3) := by decide +kernel
theorem dX10_runs_132 : decode cX10_runs 132 = .ok (.iload_n 1, 1) := by decide +kernel
theorem dX10_runs_133 : decode cX10_runs 133 = .ok (.iaload, 1) := by decide +kernel
theorem dX10_runs_134 : decode cX10_runs 134 = .ok (.aload_n 0, 1) := by decide +kernel
theorem dX10_runs_135 : decode cX10_runs 135 = .ok (.getfield 28, 3) := by decide +kernel
theorem dX10_runs_138 : decode cX10_runs 138 = .ok (.iload_n 1, 1) := by decide +kernel
theorem dX10_runs_139 : decode cX10_runs 139 = .ok (.iaload, 1) := by decide +kernel
theorem dX10_runs_140 : decode cX10_runs 140 = .ok (.aload_n 0, 1) := by decide +kernel
theorem dX10_runs_141 : decode cX10_runs 141 = .ok (.getfield 31, 3) := by decide +kernel
theorem dX10_runs_144 : decode cX10_runs 144 = .ok (.iload_n 1, 1) := by decide +kernel
theorem dX10_runs_145 : decode cX10_runs 145 = .ok (.iaload, 1) := by decide +kernel
theorem dX10_runs_146 : decode cX10_runs 146 = .ok (.iconst 0, 1) := by decide +kernel
theorem dX10_runs_147 : decode cX10_runs 147 = .ok (.invokevirtual 212, 3) := by decide +kernel
theorem dX10_runs_150 : decode cX10_runs 150 = .ok (.iastore, 1) := by decide +kernel
theorem dX10_runs_151 : decode cX10_runs 151 = .ok (.aload_n 0, 1) := by decide +kernel
theorem dX10_runs_152 : decode cX10_runs 152 = .ok (.getfield 61, 3) := by decide +kernel
theorem dX10_runs_155 : decode cX10_runs 155 = .ok (.iload_n 1, 1) := by decide +kernel
theorem dX10_runs_156 : decode cX10_runs 156 = .ok (.aload_n 0, 1) := by decide +kernel
theorem dX10_runs_157 : decode cX10_runs 157 = .ok (.getfield 180, 3) := by decide +kernel
theorem dX10_runs_160 : decode cX10_runs 160 = .ok (.iastore, 1) := by decide +kernel
theorem dX10_runs_161 : decode cX10_runs 161 = .ok (.aload_n 0, 1) := by decide +kernel
theorem dX10_runs_162 : decode cX10_runs 162 = .ok (.getfield 64, 3) := by decide +kernel
theorem dX10_runs_165 : decode cX10_runs 165 = .ok (.iload_n 1, 1) := by decide +kernel
theorem dX10_runs_166 : decode cX10_runs 166 = .ok (.aload_n 0, 1) := by decide +kernel
theorem dX10_runs_167 : decode cX10_runs 167 = .ok (.getfield 189, 3) := by decide +kernel
theorem dX10_runs_170 : decode cX10_runs 170 = .ok (.iastore, 1) := by decide +kernel
theorem dX10_runs_171 : decode cX10_runs 171 = .ok (.aload_n 0, 1) := by decide +kernel
theorem dX10_runs_172 : decode cX10_runs 172 = .ok (.getfield 67, 3) := by decide +kernel
theorem dX10_runs_175 : decode cX10_runs 175 = .ok (.iload_n 1, 1) := by decide +kernel
theorem dX10_runs_176 : decode cX10_runs 176 = .ok (.aload_n 0, 1) := by decide +kernel
theorem dX10_runs_177 : decode cX10_runs 177 = .ok (.getfield 183, 3) := by decide +kernel
theorem dX10_runs_180 : decode cX10_runs 180 = .ok (.iastore, 1) := by decide +kernel
theorem dX10_runs_181 : decode cX10_runs 181 = .ok (.iinc 1 1, 3) := by decide +kernel
theorem dX10_runs_184 : decode cX10_runs 184 = .ok (.goto (-154), 3) := by decide +kernel
theorem dX10_runs_187 : decode cX10_runs 187 = .ok (.return_, 1) := by decide +kernel
theorem dX10_runsTold_0 : decode cX10_runsTold 0 = .ok (.aload_n 0, 1) := by decide +kernel
theorem dX10_runsTold_1 : decode cX10_runsTold 1 = .ok (.invokevirtual 216, 3) := by decide +kernel
theorem dX10_runsTold_4 : decode cX10_runsTold 4 = .ok (.aload_n 0, 1) := by decide +kernel
theorem dX10_runsTold_5 : decode cX10_runsTold 5 = .ok (.invokevirtual 219, 3) := by decide +kernel
theorem dX10_runsTold_8 : decode cX10_runsTold 8 = .ok (.return_, 1) := by decide +kernel
theorem dX10_liesOf_0 : decode cX10_liesOf 0 = .ok (.aload_n 0, 1) := by decide +kernel
theorem dX10_liesOf_1 : decode cX10_liesOf 1 = .ok (.invokevirtual 222, 3) := by decide +kernel
theorem dX10_liesOf_4 : decode cX10_liesOf 4 = .ok (.iload_n 3, 1) := by decide +kernel
theorem dX10_liesOf_5 : decode cX10_liesOf 5 = .ok (.ifCond .ne 17, 3) := by decide +kernel
theorem dX10_liesOf_8 : decode cX10_liesOf 8 = .ok (.aload_n 0, 1) := by decide +kernel
theorem dX10_liesOf_9 : decode cX10_liesOf 9 = .ok (.getfield 55, 3) := by decide +kernel
theorem dX10_liesOf_12 : decode cX10_liesOf 12 = .ok (.bipush 8, 2) := by decide +kernel
theorem dX10_liesOf_14 : decode cX10_liesOf 14 = .ok (.iload_n 1, 1) := by decide +kernel
theorem dX10_liesOf_15 : decode cX10_liesOf 15 = .ok (.imul, 1) := by decide +kernel
theorem dX10_liesOf_16 : decode cX10_liesOf 16 = .ok (.iload_n 2, 1) := by decide +kernel
theorem dX10_liesOf_17 : decode cX10_liesOf 17 = .ok (.iadd, 1) := by decide +kernel
theorem dX10_liesOf_18 : decode cX10_liesOf 18 = .ok (.iaload, 1) := by decide +kernel
theorem dX10_liesOf_19 : decode cX10_liesOf 19 = .ok (.goto 52, 3) := by decide +kernel
theorem dX10_liesOf_22 : decode cX10_liesOf 22 = .ok (.iload_n 3, 1) := by decide +kernel
theorem dX10_liesOf_23 : decode cX10_liesOf 23 = .ok (.iconst 1, 1) := by decide +kernel
theorem dX10_liesOf_24 : decode cX10_liesOf 24 = .ok (.if_icmp .ne 17, 3) := by decide +kernel
theorem dX10_liesOf_27 : decode cX10_liesOf 27 = .ok (.aload_n 0, 1) := by decide +kernel
theorem dX10_liesOf_28 : decode cX10_liesOf 28 = .ok (.getfield 58, 3) := by decide +kernel
theorem dX10_liesOf_31 : decode cX10_liesOf 31 = .ok (.bipush 8, 2) := by decide +kernel
theorem dX10_liesOf_33 : decode cX10_liesOf 33 = .ok (.iload_n 1, 1) := by decide +kernel
theorem dX10_liesOf_34 : decode cX10_liesOf 34 = .ok (.imul, 1) := by decide +kernel
theorem dX10_liesOf_35 : decode cX10_liesOf 35 = .ok (.iload_n 2, 1) := by decide +kernel
theorem dX10_liesOf_36 : decode cX10_liesOf 36 = .ok (.iadd, 1) := by decide +kernel
theorem dX10_liesOf_37 : decode cX10_liesOf 37 = .ok (.iaload, 1) := by decide +kernel
theorem dX10_liesOf_38 : decode cX10_liesOf 38 = .ok (.goto 33, 3) := by decide +kernel
theorem dX10_liesOf_41 : decode cX10_liesOf 41 = .ok (.iload_n 1, 1) := by decide +kernel
theorem dX10_liesOf_42 : decode cX10_liesOf 42 = .ok (.aload_n 0, 1) := by decide +kernel
theorem dX10_liesOf_43 : decode cX10_liesOf 43 = .ok (.getfield 132, 3) := by decide +kernel
theorem dX10_liesOf_46 : decode cX10_liesOf 46 = .ok (.if_icmp .lt 7, 3) := by decide +kernel
theorem dX10_liesOf_49 : decode cX10_liesOf 49 = .ok (.iconst (-1), 1) := by decide +kernel
theorem dX10_liesOf_50 : decode cX10_liesOf 50 = .ok (.goto 21, 3) := by decide +kernel
theorem dX10_liesOf_53 : decode cX10_liesOf 53 = .ok (.aload_n 0, 1) := by decide +kernel
theorem dX10_liesOf_54 : decode cX10_liesOf 54 = .ok (.getfield 61, 3) := by decide +kernel
theorem dX10_liesOf_57 : decode cX10_liesOf 57 = .ok (.iload_n 1, 1) := by decide +kernel
theorem dX10_liesOf_58 : decode cX10_liesOf 58 = .ok (.iaload, 1) := by decide +kernel
theorem dX10_liesOf_59 : decode cX10_liesOf 59 = .ok (.iload_n 2, 1) := by decide +kernel
theorem dX10_liesOf_60 : decode cX10_liesOf 60 = .ok (.invokestatic 121, 3) := by decide +kernel
theorem dX10_liesOf_63 : decode cX10_liesOf 63 = .ok (.ifCond .eq 7, 3) := by decide +kernel
theorem dX10_liesOf_66 : decode cX10_liesOf 66 = .ok (.iconst 1, 1) := by decide +kernel
theorem dX10_liesOf_67 : decode cX10_liesOf 67 = .ok (.goto 4, 3) := by decide +kernel
theorem dX10_liesOf_70 : decode cX10_liesOf 70 = .ok (.iconst 0, 1) := by decide +kernel
theorem dX10_liesOf_71 : decode cX10_liesOf 71 = .ok (.ireturn, 1) := by decide +kernel
theorem dX10_lies_0 : decode cX10_lies 0 = .ok (.iload_n 1, 1) := by decide +kernel
theorem dX10_lies_1 : decode cX10_lies 1 = .ok (.invokestatic 155, 3) := by decide +kernel
theorem dX10_lies_4 : decode cX10_lies 4 = .ok (.ifCond .eq 30, 3) := by decide +kernel
theorem dX10_lies_7 : decode cX10_lies 7 = .ok (.aload_n 0, 1) := by decide +kernel
theorem dX10_lies_8 : decode cX10_lies 8 = .ok (.iload_n 2, 1) := by decide +kernel
theorem dX10_lies_9 : decode cX10_lies 9 = .ok (.invokevirtual 149, 3) := by decide +kernel
theorem dX10_lies_12 : decode cX10_lies 12 = .ok (.ifCond .eq 22, 3) := by decide +kernel
theorem dX10_lies_15 : decode cX10_lies 15 = .ok (.iload_n 3, 1) := by decide +kernel
theorem dX10_lies_16 : decode cX10_lies 16 = .ok (.iconst 0, 1) := by decide +kernel
theorem dX10_lies_17 : decode cX10_lies 17 = .ok (.iconst 2, 1) := by decide +kernel
theorem dX10_lies_18 : decode cX10_lies 18 = .ok (.invokestatic 106, 3) := by decide +kernel
theorem dX10_lies_21 : decode cX10_lies 21 = .ok (.ifCond .eq 13, 3) := by decide +kernel
theorem dX10_lies_24 : decode cX10_lies 24 = .ok (.aload_n 0, 1) := by decide +kernel
theorem dX10_lies_25 : decode cX10_lies 25 = .ok (.iload_n 1, 1) := by decide +kernel
theorem dX10_lies_26 : decode cX10_lies 26 = .ok (.iload_n 2, 1) := by decide +kernel
theorem dX10_lies_27 : decode cX10_lies 27 = .ok (.iload_n 3, 1) := by decide +kernel
theorem dX10_lies_28 : decode cX10_lies 28 = .ok (.invokevirtual 225, 3) := by decide +kernel
theorem dX10_lies_31 : decode cX10_lies 31 = .ok (.goto 5, 3) := by decide +kernel
theorem dX10_lies_34 : decode cX10_lies 34 = .ok (.bipush (-2), 2) := by decide +kernel
theorem dX10_lies_36 : decode cX10_lies 36 = .ok (.ireturn, 1) := by decide +kernel
theorem dX10_forFirst_0 : decode cX10_forFirst 0 = .ok (.iconst 0, 1) := by decide +kernel
theorem dX10_forFirst_1 : decode cX10_forFirst 1 = .ok (.istore_n 2, 1) := by decide +kernel
theorem dX10_forFirst_2 : decode cX10_forFirst 2 = .ok (.iconst 0, 1) := by decide +kernel
theorem dX10_forFirst_3 : decode cX10_forFirst 3 = .ok (.istore_n 3, 1) := by decide +kernel
theorem dX10_forFirst_4 : decode cX10_forFirst 4 = .ok (.iload_n 3, 1) := by decide +kernel
theorem dX10_forFirst_5 : decode cX10_forFirst 5 = .ok (.aload_n 0, 1) := by decide +kernel
theorem dX10_forFirst_6 : decode cX10_forFirst 6 = .ok (.getfield 125, 3) := by decide +kernel
theorem dX10_forFirst_9 : decode cX10_forFirst 9 = .ok (.if_icmp .ge 30, 3) := by decide +kernel
theorem dX10_forFirst_12 : decode cX10_forFirst 12 = .ok (.iload_n 2, 1) := by decide +kernel
theorem dX10_forFirst_13 : decode cX10_forFirst 13 = .ok (.aload_n 0, 1) := by decide +kernel
theorem dX10_forFirst_14 : decode cX10_forFirst 14 = .ok (.getfield 61, 3) := by decide +kernel
theorem dX10_forFirst_17 : decode cX10_forFirst 17 = .ok (.iload_n 1, 1) := by decide +kernel
theorem dX10_forFirst_18 : decode cX10_forFirst 18 = .ok (.iaload, 1) := by decide +kernel
theorem dX10_forFirst_19 : decode cX10_forFirst 19 = .ok (.iload_n 3, 1) := by decide +kernel
theorem dX10_forFirst_20 : decode cX10_forFirst 20 = .ok (.invokestatic 121, 3) := by decide +kernel
theorem dX10_forFirst_23 : decode cX10_forFirst 23 = .ok (.ifCond .eq 7, 3) := by decide +kernel
theorem dX10_forFirst_26 : decode cX10_forFirst 26 = .ok (.iconst 0, 1) := by decide +kernel
theorem dX10_forFirst_27 : decode cX10_forFirst 27 = .ok (.goto 4, 3) := by decide +kernel
theorem dX10_forFirst_30 : decode cX10_forFirst 30 = .ok (.iconst 1, 1) := by decide +kernel
theorem dX10_forFirst_31 : decode cX10_forFirst 31 = .ok (.iadd, 1) := by decide +kernel
theorem dX10_forFirst_32 : decode cX10_forFirst 32 = .ok (.istore_n 2, 1) := by decide +kernel
theorem dX10_forFirst_33 : decode cX10_forFirst 33 = .ok (.iinc 3 1, 3) := by decide +kernel
theorem dX10_forFirst_36 : decode cX10_forFirst 36 = .ok (.goto (-32), 3) := by decide +kernel
theorem dX10_forFirst_39 : decode cX10_forFirst 39 = .ok (.iload_n 2, 1) := by decide +kernel
theorem dX10_forFirst_40 : decode cX10_forFirst 40 = .ok (.ireturn, 1) := by decide +kernel
theorem dX10_voteOf_0 : decode cX10_voteOf 0 = .ok (.aload_n 0, 1) := by decide +kernel
theorem dX10_voteOf_1 : decode cX10_voteOf 1 = .ok (.invokevirtual 222, 3) := by decide +kernel
theorem dX10_voteOf_4 : decode cX10_voteOf 4 = .ok (.iload_n 1, 1) := by decide +kernel
theorem dX10_voteOf_5 : decode cX10_voteOf 5 = .ok (.aload_n 0, 1) := by decide +kernel
theorem dX10_voteOf_6 : decode cX10_voteOf 6 = .ok (.getfield 132, 3) := by decide +kernel
theorem dX10_voteOf_9 : decode cX10_voteOf 9 = .ok (.if_icmp .ge 10, 3) := by decide +kernel
theorem dX10_voteOf_12 : decode cX10_voteOf 12 = .ok (.aload_n 0, 1) := by decide +kernel
theorem dX10_voteOf_13 : decode cX10_voteOf 13 = .ok (.getfield 125, 3) := by decide +kernel
theorem dX10_voteOf_16 : decode cX10_voteOf 16 = .ok (.ifCond .ne 5, 3) := by decide +kernel
theorem dX10_voteOf_19 : decode cX10_voteOf 19 = .ok (.iconst (-1), 1) := by decide +kernel
theorem dX10_voteOf_20 : decode cX10_voteOf 20 = .ok (.ireturn, 1) := by decide +kernel
theorem dX10_voteOf_21 : decode cX10_voteOf 21 = .ok (.iload_n 2, 1) := by decide +kernel
theorem dX10_voteOf_22 : decode cX10_voteOf 22 = .ok (.ifCond .ne 11, 3) := by decide +kernel
theorem dX10_voteOf_25 : decode cX10_voteOf 25 = .ok (.aload_n 0, 1) := by decide +kernel
theorem dX10_voteOf_26 : decode cX10_voteOf 26 = .ok (.iload_n 1, 1) := by decide +kernel
theorem dX10_voteOf_27 : decode cX10_voteOf 27 = .ok (.invokevirtual 228, 3) := by decide +kernel
theorem dX10_voteOf_30 : decode cX10_voteOf 30 = .ok (.goto 37, 3) := by decide +kernel
theorem dX10_voteOf_33 : decode cX10_voteOf 33 = .ok (.iload_n 2, 1) := by decide +kernel
theorem dX10_voteOf_34 : decode cX10_voteOf 34 = .ok (.iconst 1, 1) := by decide +kernel
theorem dX10_voteOf_35 : decode cX10_voteOf 35 = .ok (.if_icmp .ne 12, 3) := by decide +kernel
theorem dX10_voteOf_38 : decode cX10_voteOf 38 = .ok (.aload_n 0, 1) := by decide +kernel
theorem dX10_voteOf_39 : decode cX10_voteOf 39 = .ok (.getfield 64, 3) := by decide +kernel
theorem dX10_voteOf_42 : decode cX10_voteOf 42 = .ok (.iload_n 1, 1) := by decide +kernel
theorem dX10_voteOf_43 : decode cX10_voteOf 43 = .ok (.iaload, 1) := by decide +kernel
theorem dX10_voteOf_44 : decode cX10_voteOf 44 = .ok (.goto 23, 3) := by decide +kernel
theorem dX10_voteOf_47 : decode cX10_voteOf 47 = .ok (.iload_n 2, 1) := by decide +kernel
theorem dX10_voteOf_48 : decode cX10_voteOf 48 = .ok (.iconst 2, 1) := by decide +kernel
theorem dX10_voteOf_49 : decode cX10_voteOf 49 = .ok (.if_icmp .ne 12, 3) := by decide +kernel
theorem dX10_voteOf_52 : decode cX10_voteOf 52 = .ok (.aload_n 0, 1) := by decide +kernel
theorem dX10_voteOf_53 : decode cX10_voteOf 53 = .ok (.getfield 70, 3) := by decide +kernel
theorem dX10_voteOf_56 : decode cX10_voteOf 56 = .ok (.iload_n 1, 1) := by decide +kernel
theorem dX10_voteOf_57 : decode cX10_voteOf 57 = .ok (.iaload, 1) := by decide +kernel
theorem dX10_voteOf_58 : decode cX10_voteOf 58 = .ok (.goto 9, 3) := by decide +kernel
theorem dX10_voteOf_61 : decode cX10_voteOf 61 = .ok (.aload_n 0, 1) := by decide +kernel
theorem dX10_voteOf_62 : decode cX10_voteOf 62 = .ok (.getfield 67, 3) := by decide +kernel
theorem dX10_voteOf_65 : decode cX10_voteOf 65 = .ok (.iload_n 1, 1) := by decide +kernel
theorem dX10_voteOf_66 : decode cX10_voteOf 66 = .ok (.iaload, 1) := by decide +kernel
theorem dX10_voteOf_67 : decode cX10_voteOf 67 = .ok (.ireturn, 1) := by decide +kernel
theorem dX10_vote_0 : decode cX10_vote 0 = .ok (.iload_n 1, 1) := by decide +kernel
theorem dX10_vote_1 : decode cX10_vote 1 = .ok (.invokestatic 155, 3) := by decide +kernel
theorem dX10_vote_4 : decode cX10_vote 4 = .ok (.ifCond .eq 21, 3) := by decide +kernel
theorem dX10_vote_7 : decode cX10_vote 7 = .ok (.iload_n 2, 1) := by decide +kernel
theorem dX10_vote_8 : decode cX10_vote 8 = .ok (.iconst 0, 1) := by decide +kernel
theorem dX10_vote_9 : decode cX10_vote 9 = .ok (.iconst 3, 1) := by decide +kernel
theorem dX10_vote_10 : decode cX10_vote 10 = .ok (.invokestatic 106, 3) := by decide +kernel
theorem dX10_vote_13 : decode cX10_vote 13 = .ok (.ifCond .eq 12, 3) := by decide +kernel
