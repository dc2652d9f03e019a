section
-- ===== PART A: goes FIRST, ahead of the names: the tables' words, and 'selects' of the private methods out of them =====
/-- a private method of a class that the tables say can be made, by its rows of tables_1 -/
def lw_okq (q : MethodName × Nat) : Prop := (q.1.cls ≠ "java/lang/invoke/MethodHandle" ∧ q.1.cls ≠ "java/lang/invoke/VarHandle") ∧ Cond.instantiable q.1.cls q.2 ∈ tables_1 ∧ Cond.privateMethod q.1 ∈ tables_1 ∧ Cond.instanceMethod q.1 ∈ tables_1
theorem lw_p0 : lw_okq (⟨"LinenHouse", "takeAgain", "(I)V"⟩, 14) := ⟨⟨by decide +kernel, by decide +kernel⟩, List.mem_of_getElem? (i := 16) (by decide +kernel), List.mem_of_getElem? (i := 309) (by decide +kernel), List.mem_of_getElem? (i := 310) (by decide +kernel)⟩
theorem lw_p1 : lw_okq (⟨"LinenHouse", "isMember", "(I)Z"⟩, 14) := ⟨⟨by decide +kernel, by decide +kernel⟩, List.mem_of_getElem? (i := 16) (by decide +kernel), List.mem_of_getElem? (i := 363) (by decide +kernel), List.mem_of_getElem? (i := 364) (by decide +kernel)⟩
theorem lw_p2 : lw_okq (⟨"LinenHouse", "found", "(I)I"⟩, 14) := ⟨⟨by decide +kernel, by decide +kernel⟩, List.mem_of_getElem? (i := 16) (by decide +kernel), List.mem_of_getElem? (i := 410) (by decide +kernel), List.mem_of_getElem? (i := 411) (by decide +kernel)⟩
theorem lw_p3 : lw_okq (⟨"LinenHouse", "carriedAsTold", "(I)I"⟩, 14) := ⟨⟨by decide +kernel, by decide +kernel⟩, List.mem_of_getElem? (i := 16) (by decide +kernel), List.mem_of_getElem? (i := 418) (by decide +kernel), List.mem_of_getElem? (i := 419) (by decide +kernel)⟩
theorem lw_p4 : lw_okq (⟨"LinenHouse", "lastPut", "(I)I"⟩, 14) := ⟨⟨by decide +kernel, by decide +kernel⟩, List.mem_of_getElem? (i := 16) (by decide +kernel), List.mem_of_getElem? (i := 480) (by decide +kernel), List.mem_of_getElem? (i := 481) (by decide +kernel)⟩
theorem lw_p5 : lw_okq (⟨"LinenHouse", "findLift", "(I)I"⟩, 14) := ⟨⟨by decide +kernel, by decide +kernel⟩, List.mem_of_getElem? (i := 16) (by decide +kernel), List.mem_of_getElem? (i := 500) (by decide +kernel), List.mem_of_getElem? (i := 501) (by decide +kernel)⟩
theorem lw_p6 : lw_okq (⟨"LinenHouse", "carriedRaising", "(III)I"⟩, 14) := ⟨⟨by decide +kernel, by decide +kernel⟩, List.mem_of_getElem? (i := 16) (by decide +kernel), List.mem_of_getElem? (i := 504) (by decide +kernel), List.mem_of_getElem? (i := 505) (by decide +kernel)⟩
theorem lw_p7 : lw_okq (⟨"LinenHouse", "leftBy", "(I)I"⟩, 14) := ⟨⟨by decide +kernel, by decide +kernel⟩, List.mem_of_getElem? (i := 16) (by decide +kernel), List.mem_of_getElem? (i := 520) (by decide +kernel), List.mem_of_getElem? (i := 521) (by decide +kernel)⟩
theorem lw_p8 : lw_okq (⟨"LinenHouse", "carriedAtFirst", "(II)I"⟩, 14) := ⟨⟨by decide +kernel, by decide +kernel⟩, List.mem_of_getElem? (i := 16) (by decide +kernel), List.mem_of_getElem? (i := 524) (by decide +kernel), List.mem_of_getElem? (i := 525) (by decide +kernel)⟩
theorem lw_p9 : lw_okq (⟨"LinenHouse$Shares", "weighSets", "()V"⟩, 2) := ⟨⟨by decide +kernel, by decide +kernel⟩, List.mem_of_getElem? (i := 204) (by decide +kernel), List.mem_of_getElem? (i := 545) (by decide +kernel), List.mem_of_getElem? (i := 546) (by decide +kernel)⟩
theorem lw_p10 : lw_okq (⟨"LinenHouse", "seenSo", "([II)Z"⟩, 14) := ⟨⟨by decide +kernel, by decide +kernel⟩, List.mem_of_getElem? (i := 16) (by decide +kernel), List.mem_of_getElem? (i := 601) (by decide +kernel), List.mem_of_getElem? (i := 602) (by decide +kernel)⟩
theorem lw_p11 : lw_okq (⟨"LinenHouse", "ordersSeenSo", "(I)I"⟩, 14) := ⟨⟨by decide +kernel, by decide +kernel⟩, List.mem_of_getElem? (i := 16) (by decide +kernel), List.mem_of_getElem? (i := 609) (by decide +kernel), List.mem_of_getElem? (i := 610) (by decide +kernel)⟩
theorem lw_p12 : lw_okq (⟨"LinenHouse", "tryOrder", "(II)V"⟩, 14) := ⟨⟨by decide +kernel, by decide +kernel⟩, List.mem_of_getElem? (i := 16) (by decide +kernel), List.mem_of_getElem? (i := 613) (by decide +kernel), List.mem_of_getElem? (i := 614) (by decide +kernel)⟩
theorem lw_p13 : lw_okq (⟨"LinenHouse", "nightToAsk", "(II)I"⟩, 14) := ⟨⟨by decide +kernel, by decide +kernel⟩, List.mem_of_getElem? (i := 16) (by decide +kernel), List.mem_of_getElem? (i := 621) (by decide +kernel), List.mem_of_getElem? (i := 622) (by decide +kernel)⟩
theorem lw_p14 : lw_okq (⟨"LinenHouse", "mostAlike", "(III)I"⟩, 14) := ⟨⟨by decide +kernel, by decide +kernel⟩, List.mem_of_getElem? (i := 16) (by decide +kernel), List.mem_of_getElem? (i := 625) (by decide +kernel), List.mem_of_getElem? (i := 626) (by decide +kernel)⟩
theorem lw_p15 : lw_okq (⟨"LinenHouse", "drawOrders", "(I)V"⟩, 14) := ⟨⟨by decide +kernel, by decide +kernel⟩, List.mem_of_getElem? (i := 16) (by decide +kernel), List.mem_of_getElem? (i := 639) (by decide +kernel), List.mem_of_getElem? (i := 640) (by decide +kernel)⟩
def lw_privs_1 : List (MethodName × Nat) := [(⟨"LinenHouse", "takeAgain", "(I)V"⟩, 14), (⟨"LinenHouse", "isMember", "(I)Z"⟩, 14), (⟨"LinenHouse", "found", "(I)I"⟩, 14), (⟨"LinenHouse", "carriedAsTold", "(I)I"⟩, 14), (⟨"LinenHouse", "lastPut", "(I)I"⟩, 14), (⟨"LinenHouse", "findLift", "(I)I"⟩, 14), (⟨"LinenHouse", "carriedRaising", "(III)I"⟩, 14), (⟨"LinenHouse", "leftBy", "(I)I"⟩, 14), (⟨"LinenHouse", "carriedAtFirst", "(II)I"⟩, 14), (⟨"LinenHouse$Shares", "weighSets", "()V"⟩, 2), (⟨"LinenHouse", "seenSo", "([II)Z"⟩, 14), (⟨"LinenHouse", "ordersSeenSo", "(I)I"⟩, 14), (⟨"LinenHouse", "tryOrder", "(II)V"⟩, 14), (⟨"LinenHouse", "nightToAsk", "(II)I"⟩, 14), (⟨"LinenHouse", "mostAlike", "(III)I"⟩, 14), (⟨"LinenHouse", "drawOrders", "(I)V"⟩, 14)]
theorem lw_r1 : ∀ q ∈ lw_privs_1, lw_okq q := List.forall_mem_cons.mpr ⟨lw_p0, List.forall_mem_cons.mpr ⟨lw_p1, List.forall_mem_cons.mpr ⟨lw_p2, List.forall_mem_cons.mpr ⟨lw_p3, List.forall_mem_cons.mpr ⟨lw_p4, List.forall_mem_cons.mpr ⟨lw_p5, List.forall_mem_cons.mpr ⟨lw_p6, List.forall_mem_cons.mpr ⟨lw_p7, List.forall_mem_cons.mpr ⟨lw_p8, List.forall_mem_cons.mpr ⟨lw_p9, List.forall_mem_cons.mpr ⟨lw_p10, List.forall_mem_cons.mpr ⟨lw_p11, List.forall_mem_cons.mpr ⟨lw_p12, List.forall_mem_cons.mpr ⟨lw_p13, List.forall_mem_cons.mpr ⟨lw_p14, List.forall_mem_cons.mpr ⟨lw_p15, fun _ h => absurd h List.not_mem_nil⟩⟩⟩⟩⟩⟩⟩⟩⟩⟩⟩⟩⟩⟩⟩⟩
theorem lw_p16 : lw_okq (⟨"LinenHouse", "carriedAsTried", "(I)I"⟩, 14) := ⟨⟨by decide +kernel, by decide +kernel⟩, List.mem_of_getElem? (i := 16) (by decide +kernel), List.mem_of_getElem? (i := 644) (by decide +kernel), List.mem_of_getElem? (i := 645) (by decide +kernel)⟩
theorem lw_p17 : lw_okq (⟨"LinenHouse", "itemRefusal", "(III)I"⟩, 14) := ⟨⟨by decide +kernel, by decide +kernel⟩, List.mem_of_getElem? (i := 16) (by decide +kernel), List.mem_of_getElem? (i := 666) (by decide +kernel), List.mem_of_getElem? (i := 667) (by decide +kernel)⟩
theorem lw_p18 : lw_okq (⟨"LinenHouse", "digestMember", "(JI)J"⟩, 14) := ⟨⟨by decide +kernel, by decide +kernel⟩, List.mem_of_getElem? (i := 16) (by decide +kernel), List.mem_of_getElem? (i := 707) (by decide +kernel), List.mem_of_getElem? (i := 708) (by decide +kernel)⟩
theorem lw_p19 : lw_okq (⟨"LinenHouse", "digestNight", "(JI)J"⟩, 14) := ⟨⟨by decide +kernel, by decide +kernel⟩, List.mem_of_getElem? (i := 16) (by decide +kernel), List.mem_of_getElem? (i := 717) (by decide +kernel), List.mem_of_getElem? (i := 718) (by decide +kernel)⟩
theorem lw_p20 : lw_okq (⟨"LinenHouse", "digestPlans", "(J)J"⟩, 14) := ⟨⟨by decide +kernel, by decide +kernel⟩, List.mem_of_getElem? (i := 16) (by decide +kernel), List.mem_of_getElem? (i := 725) (by decide +kernel), List.mem_of_getElem? (i := 726) (by decide +kernel)⟩
theorem lw_p21 : lw_okq (⟨"LinenHouseModel", "faultOf", "(I)I"⟩, 44) := ⟨⟨by decide +kernel, by decide +kernel⟩, List.mem_of_getElem? (i := 736) (by decide +kernel), List.mem_of_getElem? (i := 898) (by decide +kernel), List.mem_of_getElem? (i := 899) (by decide +kernel)⟩
theorem lw_p22 : lw_okq (⟨"LinenHouseModel", "readsMembers", "()I"⟩, 44) := ⟨⟨by decide +kernel, by decide +kernel⟩, List.mem_of_getElem? (i := 736) (by decide +kernel), List.mem_of_getElem? (i := 902) (by decide +kernel), List.mem_of_getElem? (i := 903) (by decide +kernel)⟩
theorem lw_p23 : lw_okq (⟨"LinenHouseModel", "readsMember", "(II)I"⟩, 44) := ⟨⟨by decide +kernel, by decide +kernel⟩, List.mem_of_getElem? (i := 736) (by decide +kernel), List.mem_of_getElem? (i := 906) (by decide +kernel), List.mem_of_getElem? (i := 907) (by decide +kernel)⟩
theorem lw_p24 : lw_okq (⟨"LinenHouseModel", "byteAt", "(II)I"⟩, 44) := ⟨⟨by decide +kernel, by decide +kernel⟩, List.mem_of_getElem? (i := 736) (by decide +kernel), List.mem_of_getElem? (i := 910) (by decide +kernel), List.mem_of_getElem? (i := 911) (by decide +kernel)⟩
theorem lw_p25 : lw_okq (⟨"LinenHouseModel", "letterAt", "(II)I"⟩, 44) := ⟨⟨by decide +kernel, by decide +kernel⟩, List.mem_of_getElem? (i := 736) (by decide +kernel), List.mem_of_getElem? (i := 914) (by decide +kernel), List.mem_of_getElem? (i := 915) (by decide +kernel)⟩
theorem lw_p26 : lw_okq (⟨"LinenHouseModel", "readsMotions", "()I"⟩, 44) := ⟨⟨by decide +kernel, by decide +kernel⟩, List.mem_of_getElem? (i := 736) (by decide +kernel), List.mem_of_getElem? (i := 921) (by decide +kernel), List.mem_of_getElem? (i := 922) (by decide +kernel)⟩
theorem lw_p27 : lw_okq (⟨"LinenHouseModel", "isMember", "(I)Z"⟩, 44) := ⟨⟨by decide +kernel, by decide +kernel⟩, List.mem_of_getElem? (i := 736) (by decide +kernel), List.mem_of_getElem? (i := 929) (by decide +kernel), List.mem_of_getElem? (i := 930) (by decide +kernel)⟩
theorem lw_p28 : lw_okq (⟨"LinenHouseModel", "reads", "()V"⟩, 44) := ⟨⟨by decide +kernel, by decide +kernel⟩, List.mem_of_getElem? (i := 736) (by decide +kernel), List.mem_of_getElem? (i := 933) (by decide +kernel), List.mem_of_getElem? (i := 934) (by decide +kernel)⟩
theorem lw_p29 : lw_okq (⟨"LinenHouseModel", "memberOf", "(II)I"⟩, 44) := ⟨⟨by decide +kernel, by decide +kernel⟩, List.mem_of_getElem? (i := 736) (by decide +kernel), List.mem_of_getElem? (i := 937) (by decide +kernel), List.mem_of_getElem? (i := 938) (by decide +kernel)⟩
theorem lw_p30 : lw_okq (⟨"LinenHouseModel", "motionOf", "(II)I"⟩, 44) := ⟨⟨by decide +kernel, by decide +kernel⟩, List.mem_of_getElem? (i := 736) (by decide +kernel), List.mem_of_getElem? (i := 948) (by decide +kernel), List.mem_of_getElem? (i := 949) (by decide +kernel)⟩
theorem lw_p31 : lw_okq (⟨"LinenHouseModel", "meets", "(I)I"⟩, 44) := ⟨⟨by decide +kernel, by decide +kernel⟩, List.mem_of_getElem? (i := 736) (by decide +kernel), List.mem_of_getElem? (i := 975) (by decide +kernel), List.mem_of_getElem? (i := 976) (by decide +kernel)⟩
def lw_privs_2 : List (MethodName × Nat) := [(⟨"LinenHouse", "carriedAsTried", "(I)I"⟩, 14), (⟨"LinenHouse", "itemRefusal", "(III)I"⟩, 14), (⟨"LinenHouse", "digestMember", "(JI)J"⟩, 14), (⟨"LinenHouse", "digestNight", "(JI)J"⟩, 14), (⟨"LinenHouse", "digestPlans", "(J)J"⟩, 14), (⟨"LinenHouseModel", "faultOf", "(I)I"⟩, 44), (⟨"LinenHouseModel", "readsMembers", "()I"⟩, 44), (⟨"LinenHouseModel", "readsMember", "(II)I"⟩, 44), (⟨"LinenHouseModel", "byteAt", "(II)I"⟩, 44), (⟨"LinenHouseModel", "letterAt", "(II)I"⟩, 44), (⟨"LinenHouseModel", "readsMotions", "()I"⟩, 44), (⟨"LinenHouseModel", "isMember", "(I)Z"⟩, 44), (⟨"LinenHouseModel", "reads", "()V"⟩, 44), (⟨"LinenHouseModel", "memberOf", "(II)I"⟩, 44), (⟨"LinenHouseModel", "motionOf", "(II)I"⟩, 44), (⟨"LinenHouseModel", "meets", "(I)I"⟩, 44)]
theorem lw_r2 : ∀ q ∈ lw_privs_2, lw_okq q := List.forall_mem_cons.mpr ⟨lw_p16, List.forall_mem_cons.mpr ⟨lw_p17, List.forall_mem_cons.mpr ⟨lw_p18, List.forall_mem_cons.mpr ⟨lw_p19, List.forall_mem_cons.mpr ⟨lw_p20, List.forall_mem_cons.mpr ⟨lw_p21, List.forall_mem_cons.mpr ⟨lw_p22, List.forall_mem_cons.mpr ⟨lw_p23, List.forall_mem_cons.mpr ⟨lw_p24, List.forall_mem_cons.mpr ⟨lw_p25, List.forall_mem_cons.mpr ⟨lw_p26, List.forall_mem_cons.mpr ⟨lw_p27, List.forall_mem_cons.mpr ⟨lw_p28, List.forall_mem_cons.mpr ⟨lw_p29, List.forall_mem_cons.mpr ⟨lw_p30, List.forall_mem_cons.mpr ⟨lw_p31, fun _ h => absurd h List.not_mem_nil⟩⟩⟩⟩⟩⟩⟩⟩⟩⟩⟩⟩⟩⟩⟩⟩
theorem lw_p32 : lw_okq (⟨"LinenHouseModel", "liesOf", "(III)I"⟩, 44) := ⟨⟨by decide +kernel, by decide +kernel⟩, List.mem_of_getElem? (i := 736) (by decide +kernel), List.mem_of_getElem? (i := 984) (by decide +kernel), List.mem_of_getElem? (i := 985) (by decide +kernel)⟩
theorem lw_p33 : lw_okq (⟨"LinenHouseModel", "runsTold", "()V"⟩, 44) := ⟨⟨by decide +kernel, by decide +kernel⟩, List.mem_of_getElem? (i := 736) (by decide +kernel), List.mem_of_getElem? (i := 988) (by decide +kernel), List.mem_of_getElem? (i := 989) (by decide +kernel)⟩
theorem lw_p34 : lw_okq (⟨"LinenHouseModel", "asTold", "()V"⟩, 44) := ⟨⟨by decide +kernel, by decide +kernel⟩, List.mem_of_getElem? (i := 736) (by decide +kernel), List.mem_of_getElem? (i := 992) (by decide +kernel), List.mem_of_getElem? (i := 993) (by decide +kernel)⟩
theorem lw_p35 : lw_okq (⟨"LinenHouseModel", "runs", "()V"⟩, 44) := ⟨⟨by decide +kernel, by decide +kernel⟩, List.mem_of_getElem? (i := 736) (by decide +kernel), List.mem_of_getElem? (i := 996) (by decide +kernel), List.mem_of_getElem? (i := 997) (by decide +kernel)⟩
theorem lw_p36 : lw_okq (⟨"LinenHouseModel", "laysOut", "(I)V"⟩, 44) := ⟨⟨by decide +kernel, by decide +kernel⟩, List.mem_of_getElem? (i := 736) (by decide +kernel), List.mem_of_getElem? (i := 1000) (by decide +kernel), List.mem_of_getElem? (i := 1001) (by decide +kernel)⟩
theorem lw_p37 : lw_okq (⟨"LinenHouseModel", "leans", "(II)V"⟩, 44) := ⟨⟨by decide +kernel, by decide +kernel⟩, List.mem_of_getElem? (i := 736) (by decide +kernel), List.mem_of_getElem? (i := 1004) (by decide +kernel), List.mem_of_getElem? (i := 1005) (by decide +kernel)⟩
theorem lw_p38 : lw_okq (⟨"LinenHouseModel", "leansOther", "(III)Z"⟩, 44) := ⟨⟨by decide +kernel, by decide +kernel⟩, List.mem_of_getElem? (i := 736) (by decide +kernel), List.mem_of_getElem? (i := 1008) (by decide +kernel), List.mem_of_getElem? (i := 1009) (by decide +kernel)⟩
theorem lw_p39 : lw_okq (⟨"LinenHouseModel", "isOther", "(III)Z"⟩, 44) := ⟨⟨by decide +kernel, by decide +kernel⟩, List.mem_of_getElem? (i := 736) (by decide +kernel), List.mem_of_getElem? (i := 1012) (by decide +kernel), List.mem_of_getElem? (i := 1013) (by decide +kernel)⟩
theorem lw_p40 : lw_okq (⟨"LinenHouseModel", "carries", "(IIII)I"⟩, 44) := ⟨⟨by decide +kernel, by decide +kernel⟩, List.mem_of_getElem? (i := 736) (by decide +kernel), List.mem_of_getElem? (i := 1016) (by decide +kernel), List.mem_of_getElem? (i := 1017) (by decide +kernel)⟩
theorem lw_p41 : lw_okq (⟨"LinenHouseModel", "voteOf", "(II)I"⟩, 44) := ⟨⟨by decide +kernel, by decide +kernel⟩, List.mem_of_getElem? (i := 736) (by decide +kernel), List.mem_of_getElem? (i := 1024) (by decide +kernel), List.mem_of_getElem? (i := 1025) (by decide +kernel)⟩
theorem lw_p42 : lw_okq (⟨"LinenHouseModel", "forFirst", "(I)I"⟩, 44) := ⟨⟨by decide +kernel, by decide +kernel⟩, List.mem_of_getElem? (i := 736) (by decide +kernel), List.mem_of_getElem? (i := 1028) (by decide +kernel), List.mem_of_getElem? (i := 1029) (by decide +kernel)⟩
theorem lw_p43 : lw_okq (⟨"LinenHouseModel", "houseOf", "(I)I"⟩, 44) := ⟨⟨by decide +kernel, by decide +kernel⟩, List.mem_of_getElem? (i := 736) (by decide +kernel), List.mem_of_getElem? (i := 1036) (by decide +kernel), List.mem_of_getElem? (i := 1037) (by decide +kernel)⟩
theorem lw_p44 : lw_okq (⟨"LinenHouseModel", "houseNow", "(I)I"⟩, 44) := ⟨⟨by decide +kernel, by decide +kernel⟩, List.mem_of_getElem? (i := 736) (by decide +kernel), List.mem_of_getElem? (i := 1040) (by decide +kernel), List.mem_of_getElem? (i := 1041) (by decide +kernel)⟩
theorem lw_p45 : lw_okq (⟨"LinenHouseModel", "toldNow", "()I"⟩, 44) := ⟨⟨by decide +kernel, by decide +kernel⟩, List.mem_of_getElem? (i := 736) (by decide +kernel), List.mem_of_getElem? (i := 1048) (by decide +kernel), List.mem_of_getElem? (i := 1049) (by decide +kernel)⟩
theorem lw_p46 : lw_okq (⟨"LinenHouseModel", "pleasedNow", "()I"⟩, 44) := ⟨⟨by decide +kernel, by decide +kernel⟩, List.mem_of_getElem? (i := 736) (by decide +kernel), List.mem_of_getElem? (i := 1056) (by decide +kernel), List.mem_of_getElem? (i := 1057) (by decide +kernel)⟩
theorem lw_p47 : lw_okq (⟨"LinenHouseModel", "pleasures", "(I)I"⟩, 44) := ⟨⟨by decide +kernel, by decide +kernel⟩, List.mem_of_getElem? (i := 736) (by decide +kernel), List.mem_of_getElem? (i := 1060) (by decide +kernel), List.mem_of_getElem? (i := 1061) (by decide +kernel)⟩
def lw_privs_3 : List (MethodName × Nat) := [(⟨"LinenHouseModel", "liesOf", "(III)I"⟩, 44), (⟨"LinenHouseModel", "runsTold", "()V"⟩, 44), (⟨"LinenHouseModel", "asTold", "()V"⟩, 44), (⟨"LinenHouseModel", "runs", "()V"⟩, 44), (⟨"LinenHouseModel", "laysOut", "(I)V"⟩, 44), (⟨"LinenHouseModel", "leans", "(II)V"⟩, 44), (⟨"LinenHouseModel", "leansOther", "(III)Z"⟩, 44), (⟨"LinenHouseModel", "isOther", "(III)Z"⟩, 44), (⟨"LinenHouseModel", "carries", "(IIII)I"⟩, 44), (⟨"LinenHouseModel", "voteOf", "(II)I"⟩, 44), (⟨"LinenHouseModel", "forFirst", "(I)I"⟩, 44), (⟨"LinenHouseModel", "houseOf", "(I)I"⟩, 44), (⟨"LinenHouseModel", "houseNow", "(I)I"⟩, 44), (⟨"LinenHouseModel", "toldNow", "()I"⟩, 44), (⟨"LinenHouseModel", "pleasedNow", "()I"⟩, 44), (⟨"LinenHouseModel", "pleasures", "(I)I"⟩, 44)]
theorem lw_r3 : ∀ q ∈ lw_privs_3, lw_okq q := List.forall_mem_cons.mpr ⟨lw_p32, List.forall_mem_cons.mpr ⟨lw_p33, List.forall_mem_cons.mpr ⟨lw_p34, List.forall_mem_cons.mpr ⟨lw_p35, List.forall_mem_cons.mpr ⟨lw_p36, List.forall_mem_cons.mpr ⟨lw_p37, List.forall_mem_cons.mpr ⟨lw_p38, List.forall_mem_cons.mpr ⟨lw_p39, List.forall_mem_cons.mpr ⟨lw_p40, List.forall_mem_cons.mpr ⟨lw_p41, List.forall_mem_cons.mpr ⟨lw_p42, List.forall_mem_cons.mpr ⟨lw_p43, List.forall_mem_cons.mpr ⟨lw_p44, List.forall_mem_cons.mpr ⟨lw_p45, List.forall_mem_cons.mpr ⟨lw_p46, List.forall_mem_cons.mpr ⟨lw_p47, fun _ h => absurd h List.not_mem_nil⟩⟩⟩⟩⟩⟩⟩⟩⟩⟩⟩⟩⟩⟩⟩⟩
theorem lw_p48 : lw_okq (⟨"LinenHouseModel", "liftBy", "(I)I"⟩, 44) := ⟨⟨by decide +kernel, by decide +kernel⟩, List.mem_of_getElem? (i := 736) (by decide +kernel), List.mem_of_getElem? (i := 1068) (by decide +kernel), List.mem_of_getElem? (i := 1069) (by decide +kernel)⟩
theorem lw_p49 : lw_okq (⟨"LinenHouseModel", "isTurned", "(III)Z"⟩, 44) := ⟨⟨by decide +kernel, by decide +kernel⟩, List.mem_of_getElem? (i := 736) (by decide +kernel), List.mem_of_getElem? (i := 1072) (by decide +kernel), List.mem_of_getElem? (i := 1073) (by decide +kernel)⟩
theorem lw_p50 : lw_okq (⟨"LinenHouseModel", "ofRow", "(II)I"⟩, 44) := ⟨⟨by decide +kernel, by decide +kernel⟩, List.mem_of_getElem? (i := 736) (by decide +kernel), List.mem_of_getElem? (i := 1076) (by decide +kernel), List.mem_of_getElem? (i := 1077) (by decide +kernel)⟩
theorem lw_p51 : lw_okq (⟨"LinenHouseModel", "agendaOf", "(I)I"⟩, 44) := ⟨⟨by decide +kernel, by decide +kernel⟩, List.mem_of_getElem? (i := 736) (by decide +kernel), List.mem_of_getElem? (i := 1084) (by decide +kernel), List.mem_of_getElem? (i := 1085) (by decide +kernel)⟩
theorem lw_p52 : lw_okq (⟨"LinenHouseModel", "puts", "(II)I"⟩, 44) := ⟨⟨by decide +kernel, by decide +kernel⟩, List.mem_of_getElem? (i := 736) (by decide +kernel), List.mem_of_getElem? (i := 1088) (by decide +kernel), List.mem_of_getElem? (i := 1089) (by decide +kernel)⟩
theorem lw_p53 : lw_okq (⟨"LinenHouseModel", "powerOf", "(II)J"⟩, 44) := ⟨⟨by decide +kernel, by decide +kernel⟩, List.mem_of_getElem? (i := 736) (by decide +kernel), List.mem_of_getElem? (i := 1096) (by decide +kernel), List.mem_of_getElem? (i := 1097) (by decide +kernel)⟩
theorem lw_p54 : lw_okq (⟨"LinenHouseModel", "weightOf", "(I)I"⟩, 44) := ⟨⟨by decide +kernel, by decide +kernel⟩, List.mem_of_getElem? (i := 736) (by decide +kernel), List.mem_of_getElem? (i := 1100) (by decide +kernel), List.mem_of_getElem? (i := 1101) (by decide +kernel)⟩
theorem lw_p55 : lw_okq (⟨"LinenHouseModel", "ringNow", "()I"⟩, 44) := ⟨⟨by decide +kernel, by decide +kernel⟩, List.mem_of_getElem? (i := 736) (by decide +kernel), List.mem_of_getElem? (i := 1118) (by decide +kernel), List.mem_of_getElem? (i := 1119) (by decide +kernel)⟩
theorem lw_p56 : lw_okq (⟨"LinenHouseModel", "beats", "(II)Z"⟩, 44) := ⟨⟨by decide +kernel, by decide +kernel⟩, List.mem_of_getElem? (i := 736) (by decide +kernel), List.mem_of_getElem? (i := 1122) (by decide +kernel), List.mem_of_getElem? (i := 1123) (by decide +kernel)⟩
theorem lw_p57 : lw_okq (⟨"LinenHouseModel", "shamOf", "(II)I"⟩, 44) := ⟨⟨by decide +kernel, by decide +kernel⟩, List.mem_of_getElem? (i := 736) (by decide +kernel), List.mem_of_getElem? (i := 1130) (by decide +kernel), List.mem_of_getElem? (i := 1131) (by decide +kernel)⟩
theorem lw_p58 : lw_okq (⟨"LinenHouseModel", "neverNow", "()I"⟩, 44) := ⟨⟨by decide +kernel, by decide +kernel⟩, List.mem_of_getElem? (i := 736) (by decide +kernel), List.mem_of_getElem? (i := 1146) (by decide +kernel), List.mem_of_getElem? (i := 1147) (by decide +kernel)⟩
theorem lw_p59 : lw_okq (⟨"LinenHouseModel", "isSeen", "()Z"⟩, 44) := ⟨⟨by decide +kernel, by decide +kernel⟩, List.mem_of_getElem? (i := 736) (by decide +kernel), List.mem_of_getElem? (i := 1150) (by decide +kernel), List.mem_of_getElem? (i := 1151) (by decide +kernel)⟩
theorem lw_p60 : lw_okq (⟨"LinenHouseModel", "wouldBy", "(I)I"⟩, 44) := ⟨⟨by decide +kernel, by decide +kernel⟩, List.mem_of_getElem? (i := 736) (by decide +kernel), List.mem_of_getElem? (i := 1158) (by decide +kernel), List.mem_of_getElem? (i := 1159) (by decide +kernel)⟩
theorem lw_p61 : lw_okq (⟨"LinenHouseModel", "takesOrder", "(II)V"⟩, 44) := ⟨⟨by decide +kernel, by decide +kernel⟩, List.mem_of_getElem? (i := 736) (by decide +kernel), List.mem_of_getElem? (i := 1162) (by decide +kernel), List.mem_of_getElem? (i := 1163) (by decide +kernel)⟩
theorem lw_p62 : lw_okq (⟨"LinenHouseModel", "askOf", "(I)I"⟩, 44) := ⟨⟨by decide +kernel, by decide +kernel⟩, List.mem_of_getElem? (i := 736) (by decide +kernel), List.mem_of_getElem? (i := 1170) (by decide +kernel), List.mem_of_getElem? (i := 1171) (by decide +kernel)⟩
theorem lw_p63 : lw_okq (⟨"LinenHouseModel", "ajarOf", "(IIIII)J"⟩, 44) := ⟨⟨by decide +kernel, by decide +kernel⟩, List.mem_of_getElem? (i := 736) (by decide +kernel), List.mem_of_getElem? (i := 1178) (by decide +kernel), List.mem_of_getElem? (i := 1179) (by decide +kernel)⟩
def lw_privs_4 : List (MethodName × Nat) := [(⟨"LinenHouseModel", "liftBy", "(I)I"⟩, 44), (⟨"LinenHouseModel", "isTurned", "(III)Z"⟩, 44), (⟨"LinenHouseModel", "ofRow", "(II)I"⟩, 44), (⟨"LinenHouseModel", "agendaOf", "(I)I"⟩, 44), (⟨"LinenHouseModel", "puts", "(II)I"⟩, 44), (⟨"LinenHouseModel", "powerOf", "(II)J"⟩, 44), (⟨"LinenHouseModel", "weightOf", "(I)I"⟩, 44), (⟨"LinenHouseModel", "ringNow", "()I"⟩, 44), (⟨"LinenHouseModel", "beats", "(II)Z"⟩, 44), (⟨"LinenHouseModel", "shamOf", "(II)I"⟩, 44), (⟨"LinenHouseModel", "neverNow", "()I"⟩, 44), (⟨"LinenHouseModel", "isSeen", "()Z"⟩, 44), (⟨"LinenHouseModel", "wouldBy", "(I)I"⟩, 44), (⟨"LinenHouseModel", "takesOrder", "(II)V"⟩, 44), (⟨"LinenHouseModel", "askOf", "(I)I"⟩, 44), (⟨"LinenHouseModel", "ajarOf", "(IIIII)J"⟩, 44)]
theorem lw_r4 : ∀ q ∈ lw_privs_4, lw_okq q := List.forall_mem_cons.mpr ⟨lw_p48, List.forall_mem_cons.mpr ⟨lw_p49, List.forall_mem_cons.mpr ⟨lw_p50, List.forall_mem_cons.mpr ⟨lw_p51, List.forall_mem_cons.mpr ⟨lw_p52, List.forall_mem_cons.mpr ⟨lw_p53, List.forall_mem_cons.mpr ⟨lw_p54, List.forall_mem_cons.mpr ⟨lw_p55, List.forall_mem_cons.mpr ⟨lw_p56, List.forall_mem_cons.mpr ⟨lw_p57, List.forall_mem_cons.mpr ⟨lw_p58, List.forall_mem_cons.mpr ⟨lw_p59, List.forall_mem_cons.mpr ⟨lw_p60, List.forall_mem_cons.mpr ⟨lw_p61, List.forall_mem_cons.mpr ⟨lw_p62, List.forall_mem_cons.mpr ⟨lw_p63, fun _ h => absurd h List.not_mem_nil⟩⟩⟩⟩⟩⟩⟩⟩⟩⟩⟩⟩⟩⟩⟩⟩
theorem lw_p64 : lw_okq (⟨"LinenHouseModel", "eveningsOf", "(II)I"⟩, 44) := ⟨⟨by decide +kernel, by decide +kernel⟩, List.mem_of_getElem? (i := 736) (by decide +kernel), List.mem_of_getElem? (i := 1186) (by decide +kernel), List.mem_of_getElem? (i := 1187) (by decide +kernel)⟩
theorem lw_p65 : lw_okq (⟨"LinenHouseModel", "lacks", "(III)I"⟩, 44) := ⟨⟨by decide +kernel, by decide +kernel⟩, List.mem_of_getElem? (i := 736) (by decide +kernel), List.mem_of_getElem? (i := 1203) (by decide +kernel), List.mem_of_getElem? (i := 1204) (by decide +kernel)⟩
theorem lw_p66 : lw_okq (⟨"LinenHouseModel", "keep", "(III)V"⟩, 44) := ⟨⟨by decide +kernel, by decide +kernel⟩, List.mem_of_getElem? (i := 736) (by decide +kernel), List.mem_of_getElem? (i := 1207) (by decide +kernel), List.mem_of_getElem? (i := 1208) (by decide +kernel)⟩
theorem lw_p67 : lw_okq (⟨"LinenHouseModel", "sumOf", "(I)I"⟩, 44) := ⟨⟨by decide +kernel, by decide +kernel⟩, List.mem_of_getElem? (i := 736) (by decide +kernel), List.mem_of_getElem? (i := 1228) (by decide +kernel), List.mem_of_getElem? (i := 1229) (by decide +kernel)⟩
theorem lw_p68 : lw_okq (⟨"LinenHouseModel", "memberDigest", "(JI)J"⟩, 44) := ⟨⟨by decide +kernel, by decide +kernel⟩, List.mem_of_getElem? (i := 736) (by decide +kernel), List.mem_of_getElem? (i := 1239) (by decide +kernel), List.mem_of_getElem? (i := 1240) (by decide +kernel)⟩
theorem lw_p69 : lw_okq (⟨"LinenHouseModel", "nightsDigest", "(JII)J"⟩, 44) := ⟨⟨by decide +kernel, by decide +kernel⟩, List.mem_of_getElem? (i := 736) (by decide +kernel), List.mem_of_getElem? (i := 1243) (by decide +kernel), List.mem_of_getElem? (i := 1244) (by decide +kernel)⟩
theorem lw_p70 : lw_okq (⟨"LinenHouseModel", "nightDigest", "(JI)J"⟩, 44) := ⟨⟨by decide +kernel, by decide +kernel⟩, List.mem_of_getElem? (i := 736) (by decide +kernel), List.mem_of_getElem? (i := 1247) (by decide +kernel), List.mem_of_getElem? (i := 1248) (by decide +kernel)⟩
def lw_privs_5 : List (MethodName × Nat) := [(⟨"LinenHouseModel", "eveningsOf", "(II)I"⟩, 44), (⟨"LinenHouseModel", "lacks", "(III)I"⟩, 44), (⟨"LinenHouseModel", "keep", "(III)V"⟩, 44), (⟨"LinenHouseModel", "sumOf", "(I)I"⟩, 44), (⟨"LinenHouseModel", "memberDigest", "(JI)J"⟩, 44), (⟨"LinenHouseModel", "nightsDigest", "(JII)J"⟩, 44), (⟨"LinenHouseModel", "nightDigest", "(JI)J"⟩, 44)]
theorem lw_r5 : ∀ q ∈ lw_privs_5, lw_okq q := List.forall_mem_cons.mpr ⟨lw_p64, List.forall_mem_cons.mpr ⟨lw_p65, List.forall_mem_cons.mpr ⟨lw_p66, List.forall_mem_cons.mpr ⟨lw_p67, List.forall_mem_cons.mpr ⟨lw_p68, List.forall_mem_cons.mpr ⟨lw_p69, List.forall_mem_cons.mpr ⟨lw_p70, fun _ h => absurd h List.not_mem_nil⟩⟩⟩⟩⟩⟩⟩
def lw_privs : List (MethodName × Nat) := lw_privs_1 ++ (lw_privs_2 ++ (lw_privs_3 ++ (lw_privs_4 ++ (lw_privs_5))))
def lw_tbl : List Cond := k2_sels lw_privs ++ tables_1
theorem lw_privs_ok : ∀ q ∈ lw_privs, lw_okq q := by
  show ∀ q ∈ lw_privs_1 ++ (lw_privs_2 ++ (lw_privs_3 ++ (lw_privs_4 ++ (lw_privs_5)))), lw_okq q
  exact List.forall_mem_append.mpr ⟨lw_r1, List.forall_mem_append.mpr ⟨lw_r2, List.forall_mem_append.mpr ⟨lw_r3, List.forall_mem_append.mpr ⟨lw_r4, lw_r5⟩⟩⟩⟩
end
section
def RX0 : String := "LinenHouse$Chamber"
def TX0 : u_T := fun k => match k with
  | 0 => ("LinenHouse$Chamber", "roll", "LLinenHouse$Roll;", true)
  | 1 => ("LinenHouse$Chamber", "motions", "LLinenHouse$Motions;", true)
  | 2 => ("LinenHouse$Chamber", "folds", "LLinenHouse$Folds;", true)
  | 3 => ("LinenHouse$Chamber", "first", "I", false)
  | 4 => ("LinenHouse$Chamber", "other", "I", false)
  | 5 => ("LinenHouse$Chamber", "byWeight", "Z", false)
  | 6 => ("LinenHouse$Chamber", "shelf", "[I", true)
  | 7 => ("LinenHouse$Chamber", "since", "[I", true)
  | 8 => ("LinenHouse$Chamber", "shelfLead", "[I", true)
  | 9 => ("LinenHouse$Chamber", "vote", "[I", true)
  | 10 => ("LinenHouse$Chamber", "speaker", "I", false)
  | 11 => ("LinenHouse$Chamber", "firsts", "I", false)
  | _ => ("LinenHouse$Chamber", "lead", "I", false)
def tyX0 : Nat → FieldType := fun k => match k with
  | 0 => .object "LinenHouse$Roll"
  | 1 => .object "LinenHouse$Motions"
  | 2 => .object "LinenHouse$Folds"
  | 3 => .int
  | 4 => .int
  | 5 => .boolean
  | 6 => .array .int
  | 7 => .array .int
  | 8 => .array .int
  | 9 => .array .int
  | 10 => .int
  | 11 => .int
  | _ => .int
abbrev wsX00 : List Cond := u_ws RX0 TX0 13
theorem nmX0 : ∀ a, a < 13 → ∀ b, b < 13 → a ≠ b → (TX0 a).2.1 ≠ (TX0 b).2.1 := by decide +kernel
theorem tyX0_ok : ∀ k, k < 13 → parseFieldDescriptor (TX0 k).2.2.1 = some (tyX0 k) := by decide +kernel
abbrev cX0_init : ByteArray := prog_2_method_1_code
def yX0_init : MethodName := ⟨RX0, "<init>", "(LLinenHouse$Roll;LLinenHouse$Motions;LLinenHouse$Folds;)V"⟩
abbrev cX0_isPut : ByteArray := prog_2_method_2_code
def yX0_isPut : MethodName := ⟨RX0, "isPut", "(I)Z"⟩
abbrev cX0_carried : ByteArray := prog_2_method_3_code
def yX0_carried : MethodName := ⟨RX0, "carried", "(I[IZI)I"⟩
abbrev cX0_open : ByteArray := prog_2_method_4_code
def yX0_open : MethodName := ⟨RX0, "open", "(I)V"⟩
abbrev cX0_openPair : ByteArray := prog_2_method_5_code
def yX0_openPair : MethodName := ⟨RX0, "openPair", "(II)V"⟩
abbrev cX0_layAtFirst : ByteArray := prog_2_method_6_code
def yX0_layAtFirst : MethodName := ⟨RX0, "layAtFirst", "()V"⟩
abbrev cX0_lay : ByteArray := prog_2_method_7_code
def yX0_lay : MethodName := ⟨RX0, "lay", "(II)V"⟩
abbrev cX0_raise : ByteArray := prog_2_method_8_code
def yX0_raise : MethodName := ⟨RX0, "raise", "(I)V"⟩
abbrev cX0_lean : ByteArray := prog_2_method_9_code
def yX0_lean : MethodName := ⟨RX0, "lean", "([IZ)V"⟩
abbrev cX0_tally : ByteArray := prog_2_method_10_code
def yX0_tally : MethodName := ⟨RX0, "tally", "()I"⟩
abbrev cX0_votesFor : ByteArray := prog_2_method_11_code
def yX0_votesFor : MethodName := ⟨RX0, "votesFor", "(I)I"⟩
def RX1 : String := "LinenHouse$Folds"
def TX1 : u_T := fun k => match k with
  | 0 => ("LinenHouse$Folds", "n", "I", false)
  | 1 => ("LinenHouse$Folds", "night", "[I", true)
  | 2 => ("LinenHouse$Folds", "member", "[I", true)
  | _ => ("LinenHouse$Folds", "shelf", "[I", true)
def tyX1 : Nat → FieldType := fun k => match k with
  | 0 => .int
  | 1 => .array .int
  | 2 => .array .int
  | _ => .array .int
abbrev wsX10 : List Cond := u_ws RX1 TX1 4
theorem nmX1 : ∀ a, a < 4 → ∀ b, b < 4 → a ≠ b → (TX1 a).2.1 ≠ (TX1 b).2.1 := by decide +kernel
theorem tyX1_ok : ∀ k, k < 4 → parseFieldDescriptor (TX1 k).2.2.1 = some (tyX1 k) := by decide +kernel
abbrev cX1_init : ByteArray := prog_3_method_1_code
def yX1_init : MethodName := ⟨RX1, "<init>", "()V"⟩
abbrev cX1_add : ByteArray := prog_3_method_2_code
def yX1_add : MethodName := ⟨RX1, "add", "(III)Z"⟩
def RX2 : String := "LinenHouse$Jars"
def TX2 : u_T := fun k => match k with
  | 0 => ("LinenHouse$Jars", "n", "I", false)
  | _ => ("LinenHouse$Jars", "night", "[I", true)
def tyX2 : Nat → FieldType := fun k => match k with
  | 0 => .int
  | _ => .array .int
abbrev wsX20 : List Cond := u_ws RX2 TX2 2
theorem nmX2 : ∀ a, a < 2 → ∀ b, b < 2 → a ≠ b → (TX2 a).2.1 ≠ (TX2 b).2.1 := by decide +kernel
theorem tyX2_ok : ∀ k, k < 2 → parseFieldDescriptor (TX2 k).2.2.1 = some (tyX2 k) := by decide +kernel
abbrev cX2_init : ByteArray := prog_4_method_1_code
def yX2_init : MethodName := ⟨RX2, "<init>", "()V"⟩
abbrev cX2_add : ByteArray := prog_4_method_2_code
def yX2_add : MethodName := ⟨RX2, "add", "(I)Z"⟩
abbrev cX2_has : ByteArray := prog_4_method_3_code
def yX2_has : MethodName := ⟨RX2, "has", "(I)Z"⟩
def RX3 : String := "LinenHouse$Motions"
def TX3 : u_T := fun k => match k with
  | 0 => ("LinenHouse$Motions", "n", "I", false)
  | 1 => ("LinenHouse$Motions", "fault", "I", false)
  | 2 => ("LinenHouse$Motions", "first", "[I", true)
  | 3 => ("LinenHouse$Motions", "other", "[I", true)
  | _ => ("LinenHouse$Motions", "how", "[I", true)
def tyX3 : Nat → FieldType := fun k => match k with
  | 0 => .int
  | 1 => .int
  | 2 => .array .int
  | 3 => .array .int
  | _ => .array .int
abbrev wsX30 : List Cond := u_ws RX3 TX3 5
theorem nmX3 : ∀ a, a < 5 → ∀ b, b < 5 → a ≠ b → (TX3 a).2.1 ≠ (TX3 b).2.1 := by decide +kernel
theorem tyX3_ok : ∀ k, k < 5 → parseFieldDescriptor (TX3 k).2.2.1 = some (tyX3 k) := by decide +kernel
abbrev cX3_init : ByteArray := prog_5_method_1_code
def yX3_init : MethodName := ⟨RX3, "<init>", "()V"⟩
abbrev cX3_take : ByteArray := prog_5_method_2_code
def yX3_take : MethodName := ⟨RX3, "take", "(LLinenHouse$Text;)V"⟩
abbrev cX3_findFault : ByteArray := prog_5_method_3_code
def yX3_findFault : MethodName := ⟨RX3, "findFault", "(LLinenHouse$Text;)I"⟩
abbrev cX3_fits : ByteArray := prog_5_method_4_code
def yX3_fits : MethodName := ⟨RX3, "fits", "(LLinenHouse$Text;I)Z"⟩
def RX4 : String := "LinenHouse$Roll"
def TX4 : u_T := fun k => match k with
  | 0 => ("LinenHouse$Roll", "n", "I", false)
  | 1 => ("LinenHouse$Roll", "fault", "I", false)
  | 2 => ("LinenHouse$Roll", "sort", "[I", true)
  | 3 => ("LinenHouse$Roll", "shelf", "[I", true)
  | 4 => ("LinenHouse$Roll", "order", "[I", true)
  | _ => ("LinenHouse$Roll", "weight", "[I", true)
def tyX4 : Nat → FieldType := fun k => match k with
  | 0 => .int
  | 1 => .int
  | 2 => .array .int
  | 3 => .array .int
  | 4 => .array .int
  | _ => .array .int
abbrev wsX40 : List Cond := u_ws RX4 TX4 6
theorem nmX4 : ∀ a, a < 6 → ∀ b, b < 6 → a ≠ b → (TX4 a).2.1 ≠ (TX4 b).2.1 := by decide +kernel
theorem tyX4_ok : ∀ k, k < 6 → parseFieldDescriptor (TX4 k).2.2.1 = some (tyX4 k) := by decide +kernel
abbrev cX4_init : ByteArray := prog_6_method_1_code
def yX4_init : MethodName := ⟨RX4, "<init>", "()V"⟩
abbrev cX4_take : ByteArray := prog_6_method_2_code
def yX4_take : MethodName := ⟨RX4, "take", "(LLinenHouse$Text;)V"⟩
abbrev cX4_findFault : ByteArray := prog_6_method_3_code
def yX4_findFault : MethodName := ⟨RX4, "findFault", "(LLinenHouse$Text;)I"⟩
abbrev cX4_fits : ByteArray := prog_6_method_4_code
def yX4_fits : MethodName := ⟨RX4, "fits", "(LLinenHouse$Text;I)Z"⟩
abbrev cX4_sortOf : ByteArray := prog_6_method_5_code
def yX4_sortOf : MethodName := ⟨RX4, "sortOf", "(I)I"⟩
abbrev cX4_weightOf : ByteArray := prog_6_method_6_code
def yX4_weightOf : MethodName := ⟨RX4, "weightOf", "(I)I"⟩
abbrev cX4_weightOfAll : ByteArray := prog_6_method_7_code
def yX4_weightOfAll : MethodName := ⟨RX4, "weightOfAll", "()I"⟩
abbrev cX4_lead : ByteArray := prog_6_method_8_code
def yX4_lead : MethodName := ⟨RX4, "lead", "(II)I"⟩
def RX5 : String := "LinenHouse$Shares"
def TX5 : u_T := fun k => match k with
  | 0 => ("LinenHouse$Shares", "roll", "LLinenHouse$Roll;", true)
  | _ => ("LinenHouse$Shares", "weightOfSet", "[I", true)
def tyX5 : Nat → FieldType := fun k => match k with
  | 0 => .object "LinenHouse$Roll"
  | _ => .array .int
abbrev wsX50 : List Cond := u_ws RX5 TX5 2
theorem nmX5 : ∀ a, a < 2 → ∀ b, b < 2 → a ≠ b → (TX5 a).2.1 ≠ (TX5 b).2.1 := by decide +kernel
theorem tyX5_ok : ∀ k, k < 2 → parseFieldDescriptor (TX5 k).2.2.1 = some (tyX5 k) := by decide +kernel
abbrev cX5_init : ByteArray := prog_7_method_1_code
def yX5_init : MethodName := ⟨RX5, "<init>", "(LLinenHouse$Roll;)V"⟩
abbrev cX5_turning : ByteArray := prog_7_method_2_code
def yX5_turning : MethodName := ⟨RX5, "turning", "(I)I"⟩
abbrev cX5_weighSets : ByteArray := prog_7_method_3_code
def yX5_weighSets : MethodName := ⟨RX5, "weighSets", "()V"⟩
def RX6 : String := "LinenHouse$Sheet"
def TX6 : u_T := fun k => match k with
  | 0 => ("LinenHouse$Sheet", "form", "I", false)
  | 1 => ("LinenHouse$Sheet", "size", "I", false)
  | _ => ("LinenHouse$Sheet", "item", "[I", true)
def tyX6 : Nat → FieldType := fun k => match k with
  | 0 => .int
  | 1 => .int
  | _ => .array .int
abbrev wsX60 : List Cond := u_ws RX6 TX6 3
theorem nmX6 : ∀ a, a < 3 → ∀ b, b < 3 → a ≠ b → (TX6 a).2.1 ≠ (TX6 b).2.1 := by decide +kernel
theorem tyX6_ok : ∀ k, k < 3 → parseFieldDescriptor (TX6 k).2.2.1 = some (tyX6 k) := by decide +kernel
abbrev cX6_init : ByteArray := prog_8_method_1_code
def yX6_init : MethodName := ⟨RX6, "<init>", "()V"⟩
abbrev cX6_renew : ByteArray := prog_8_method_2_code
def yX6_renew : MethodName := ⟨RX6, "renew", "(II)V"⟩
abbrev cX6_holds : ByteArray := prog_8_method_3_code
def yX6_holds : MethodName := ⟨RX6, "holds", "(II)Z"⟩
abbrev cX6_set : ByteArray := prog_8_method_4_code
def yX6_set : MethodName := ⟨RX6, "set", "(II)V"⟩
def RX7 : String := "LinenHouse$Sightings"
def TX7 : u_T := fun k => match k with
  | 0 => ("LinenHouse$Sightings", "n", "I", false)
  | 1 => ("LinenHouse$Sightings", "night", "[I", true)
  | _ => ("LinenHouse$Sightings", "one", "[I", true)
def tyX7 : Nat → FieldType := fun k => match k with
  | 0 => .int
  | 1 => .array .int
  | _ => .array .int
abbrev wsX70 : List Cond := u_ws RX7 TX7 3
theorem nmX7 : ∀ a, a < 3 → ∀ b, b < 3 → a ≠ b → (TX7 a).2.1 ≠ (TX7 b).2.1 := by decide +kernel
theorem tyX7_ok : ∀ k, k < 3 → parseFieldDescriptor (TX7 k).2.2.1 = some (tyX7 k) := by decide +kernel
abbrev cX7_init : ByteArray := prog_9_method_1_code
def yX7_init : MethodName := ⟨RX7, "<init>", "()V"⟩
abbrev cX7_add : ByteArray := prog_9_method_2_code
def yX7_add : MethodName := ⟨RX7, "add", "(II)Z"⟩
def RX8 : String := "LinenHouse$Text"
def TX8 : u_T := fun k => match k with
  | 0 => ("LinenHouse$Text", "bytes", "[I", true)
  | _ => ("LinenHouse$Text", "n", "I", false)
def tyX8 : Nat → FieldType := fun k => match k with
  | 0 => .array .int
  | _ => .int
abbrev wsX80 : List Cond := u_ws RX8 TX8 2
theorem nmX8 : ∀ a, a < 2 → ∀ b, b < 2 → a ≠ b → (TX8 a).2.1 ≠ (TX8 b).2.1 := by decide +kernel
theorem tyX8_ok : ∀ k, k < 2 → parseFieldDescriptor (TX8 k).2.2.1 = some (tyX8 k) := by decide +kernel
abbrev cX8_init : ByteArray := prog_10_method_1_code
def yX8_init : MethodName := ⟨RX8, "<init>", "(I)V"⟩
abbrev cX8_add : ByteArray := prog_10_method_2_code
def yX8_add : MethodName := ⟨RX8, "add", "(I)Z"⟩
abbrev cX8_at : ByteArray := prog_10_method_3_code
def yX8_at : MethodName := ⟨RX8, "at", "(I)I"⟩
abbrev cX8_isLetter : ByteArray := prog_10_method_4_code
def yX8_isLetter : MethodName := ⟨RX8, "isLetter", "(I)Z"⟩
def RX9 : String := "LinenHouse"
def TX9 : u_T := fun k => match k with
  | 0 => ("LinenHouse", "texts", "[LLinenHouse$Text;", true)
  | 1 => ("LinenHouse", "roll", "LLinenHouse$Roll;", true)
  | 2 => ("LinenHouse", "motions", "LLinenHouse$Motions;", true)
  | 3 => ("LinenHouse", "folds", "LLinenHouse$Folds;", true)
  | 4 => ("LinenHouse", "jars", "LLinenHouse$Jars;", true)
  | 5 => ("LinenHouse", "sightings", "LLinenHouse$Sightings;", true)
  | 6 => ("LinenHouse", "chamber", "LLinenHouse$Chamber;", true)
  | 7 => ("LinenHouse", "shares", "LLinenHouse$Shares;", true)
  | 8 => ("LinenHouse", "sheets", "[LLinenHouse$Sheet;", true)
  | 9 => ("LinenHouse", "tried", "[I", true)
  | 10 => ("LinenHouse", "timesPleased", "[I", true)
  | 11 => ("LinenHouse", "raised", "[I", true)
  | 12 => ("LinenHouse", "alike", "[I", true)
  | _ => ("LinenHouse", "latestFinding", "I", false)
def tyX9 : Nat → FieldType := fun k => match k with
  | 0 => .array (.object "LinenHouse$Text")
  | 1 => .object "LinenHouse$Roll"
  | 2 => .object "LinenHouse$Motions"
  | 3 => .object "LinenHouse$Folds"
  | 4 => .object "LinenHouse$Jars"
  | 5 => .object "LinenHouse$Sightings"
  | 6 => .object "LinenHouse$Chamber"
  | 7 => .object "LinenHouse$Shares"
  | 8 => .array (.object "LinenHouse$Sheet")
  | 9 => .array .int
  | 10 => .array .int
  | 11 => .array .int
  | 12 => .array .int
  | _ => .int
abbrev wsX90 : List Cond := u_ws RX9 TX9 14
theorem nmX9 : ∀ a, a < 14 → ∀ b, b < 14 → a ≠ b → (TX9 a).2.1 ≠ (TX9 b).2.1 := by decide +kernel
theorem tyX9_ok : ∀ k, k < 14 → parseFieldDescriptor (TX9 k).2.2.1 = some (tyX9 k) := by decide +kernel
abbrev cX9_init : ByteArray := prog_1_method_1_code
def yX9_init : MethodName := ⟨RX9, "<init>", "()V"⟩
abbrev cX9_type : ByteArray := prog_1_method_2_code
def yX9_type : MethodName := ⟨RX9, "type", "(II)I"⟩
abbrev cX9_wipe : ByteArray := prog_1_method_3_code
def yX9_wipe : MethodName := ⟨RX9, "wipe", "(I)I"⟩
abbrev cX9_undo : ByteArray := prog_1_method_4_code
def yX9_undo : MethodName := ⟨RX9, "undo", "(I)I"⟩
abbrev cX9_fault : ByteArray := prog_1_method_5_code
def yX9_fault : MethodName := ⟨RX9, "fault", "(I)I"⟩
abbrev cX9_member : ByteArray := prog_1_method_6_code
def yX9_member : MethodName := ⟨RX9, "member", "(II)I"⟩
abbrev cX9_motion : ByteArray := prog_1_method_7_code
def yX9_motion : MethodName := ⟨RX9, "motion", "(II)I"⟩
abbrev cX9_weight : ByteArray := prog_1_method_8_code
def yX9_weight : MethodName := ⟨RX9, "weight", "(II)I"⟩
abbrev cX9_fold : ByteArray := prog_1_method_9_code
def yX9_fold : MethodName := ⟨RX9, "fold", "(III)I"⟩
abbrev cX9_jar : ByteArray := prog_1_method_10_code
def yX9_jar : MethodName := ⟨RX9, "jar", "(I)I"⟩
abbrev cX9_back : ByteArray := prog_1_method_11_code
def yX9_back : MethodName := ⟨RX9, "back", "(I)I"⟩
abbrev cX9_read : ByteArray := prog_1_method_12_code
def yX9_read : MethodName := ⟨RX9, "read", "(I)I"⟩
abbrev cX9_lies : ByteArray := prog_1_method_13_code
def yX9_lies : MethodName := ⟨RX9, "lies", "(III)I"⟩
abbrev cX9_vote : ByteArray := prog_1_method_14_code
def yX9_vote : MethodName := ⟨RX9, "vote", "(II)I"⟩
abbrev cX9_house : ByteArray := prog_1_method_15_code
def yX9_house : MethodName := ⟨RX9, "house", "(I)I"⟩
abbrev cX9_told : ByteArray := prog_1_method_16_code
def yX9_told : MethodName := ⟨RX9, "told", "()I"⟩
abbrev cX9_pleased : ByteArray := prog_1_method_17_code
def yX9_pleased : MethodName := ⟨RX9, "pleased", "()I"⟩
abbrev cX9_lift : ByteArray := prog_1_method_18_code
def yX9_lift : MethodName := ⟨RX9, "lift", "(II)I"⟩
abbrev cX9_agenda : ByteArray := prog_1_method_19_code
def yX9_agenda : MethodName := ⟨RX9, "agenda", "(I)I"⟩
abbrev cX9_power : ByteArray := prog_1_method_20_code
def yX9_power : MethodName := ⟨RX9, "power", "(II)J"⟩
abbrev cX9_ring : ByteArray := prog_1_method_21_code
def yX9_ring : MethodName := ⟨RX9, "ring", "()I"⟩
abbrev cX9_sham : ByteArray := prog_1_method_22_code
def yX9_sham : MethodName := ⟨RX9, "sham", "(II)I"⟩
abbrev cX9_seen : ByteArray := prog_1_method_23_code
def yX9_seen : MethodName := ⟨RX9, "seen", "(II)I"⟩
abbrev cX9_forget : ByteArray := prog_1_method_24_code
def yX9_forget : MethodName := ⟨RX9, "forget", "()I"⟩
abbrev cX9_never : ByteArray := prog_1_method_25_code
def yX9_never : MethodName := ⟨RX9, "never", "()I"⟩
abbrev cX9_would : ByteArray := prog_1_method_26_code
def yX9_would : MethodName := ⟨RX9, "would", "(I)I"⟩
abbrev cX9_ask : ByteArray := prog_1_method_27_code
def yX9_ask : MethodName := ⟨RX9, "ask", "(I)I"⟩
abbrev cX9_ajar : ByteArray := prog_1_method_28_code
def yX9_ajar : MethodName := ⟨RX9, "ajar", "(IIIII)J"⟩
abbrev cX9_evenings : ByteArray := prog_1_method_29_code
def yX9_evenings : MethodName := ⟨RX9, "evenings", "(II)I"⟩
abbrev cX9_sheet : ByteArray := prog_1_method_30_code
def yX9_sheet : MethodName := ⟨RX9, "sheet", "(III)I"⟩
abbrev cX9_lose : ByteArray := prog_1_method_31_code
def yX9_lose : MethodName := ⟨RX9, "lose", "(I)I"⟩
abbrev cX9_put : ByteArray := prog_1_method_32_code
def yX9_put : MethodName := ⟨RX9, "put", "(IIII)I"⟩
abbrev cX9_get : ByteArray := prog_1_method_33_code
def yX9_get : MethodName := ⟨RX9, "get", "(III)I"⟩
abbrev cX9_copy : ByteArray := prog_1_method_34_code
def yX9_copy : MethodName := ⟨RX9, "copy", "(IIIII)I"⟩
abbrev cX9_write : ByteArray := prog_1_method_35_code
def yX9_write : MethodName := ⟨RX9, "write", "(I)I"⟩
abbrev cX9_count : ByteArray := prog_1_method_36_code
def yX9_count : MethodName := ⟨RX9, "count", "(I)I"⟩
abbrev cX9_digest : ByteArray := prog_1_method_37_code
def yX9_digest : MethodName := ⟨RX9, "digest", "()J"⟩
abbrev cX9_digestMember : ByteArray := prog_1_method_38_code
def yX9_digestMember : MethodName := ⟨RX9, "digestMember", "(JI)J"⟩
abbrev cX9_digestNight : ByteArray := prog_1_method_39_code
def yX9_digestNight : MethodName := ⟨RX9, "digestNight", "(JI)J"⟩
abbrev cX9_digestPlans : ByteArray := prog_1_method_40_code
def yX9_digestPlans : MethodName := ⟨RX9, "digestPlans", "(J)J"⟩
abbrev cX9_within : ByteArray := prog_1_method_41_code
def yX9_within : MethodName := ⟨RX9, "within", "(II)Z"⟩
abbrev cX9_isNight : ByteArray := prog_1_method_42_code
def yX9_isNight : MethodName := ⟨RX9, "isNight", "(I)Z"⟩
abbrev cX9_isMember : ByteArray := prog_1_method_43_code
def yX9_isMember : MethodName := ⟨RX9, "isMember", "(I)Z"⟩
abbrev cX9_isFold : ByteArray := prog_1_method_44_code
def yX9_isFold : MethodName := ⟨RX9, "isFold", "(III)Z"⟩
abbrev cX9_refusedLong : ByteArray := prog_1_method_45_code
def yX9_refusedLong : MethodName := ⟨RX9, "refusedLong", "(I)J"⟩
abbrev cX9_found : ByteArray := prog_1_method_46_code
def yX9_found : MethodName := ⟨RX9, "found", "(I)I"⟩
abbrev cX9_wanted : ByteArray := prog_1_method_47_code
def yX9_wanted : MethodName := ⟨RX9, "wanted", "(II)I"⟩
abbrev cX9_rather : ByteArray := prog_1_method_48_code
def yX9_rather : MethodName := ⟨RX9, "rather", "(III)Z"⟩
abbrev cX9_warmth : ByteArray := prog_1_method_49_code
def yX9_warmth : MethodName := ⟨RX9, "warmth", "(IZ)I"⟩
abbrev cX9_lowest : ByteArray := prog_1_method_50_code
def yX9_lowest : MethodName := ⟨RX9, "lowest", "(JJI)J"⟩
abbrev cX9_takeAgain : ByteArray := prog_1_method_51_code
def yX9_takeAgain : MethodName := ⟨RX9, "takeAgain", "(I)V"⟩
abbrev cX9_itemRefusal : ByteArray := prog_1_method_52_code
def yX9_itemRefusal : MethodName := ⟨RX9, "itemRefusal", "(III)I"⟩
abbrev cX9_carriedAsTold : ByteArray := prog_1_method_53_code
def yX9_carriedAsTold : MethodName := ⟨RX9, "carriedAsTold", "(I)I"⟩
abbrev cX9_carriedAsTried : ByteArray := prog_1_method_54_code
def yX9_carriedAsTried : MethodName := ⟨RX9, "carriedAsTried", "(I)I"⟩
abbrev cX9_lastPut : ByteArray := prog_1_method_55_code
def yX9_lastPut : MethodName := ⟨RX9, "lastPut", "(I)I"⟩
abbrev cX9_findLift : ByteArray := prog_1_method_56_code
def yX9_findLift : MethodName := ⟨RX9, "findLift", "(I)I"⟩
abbrev cX9_carriedRaising : ByteArray := prog_1_method_57_code
def yX9_carriedRaising : MethodName := ⟨RX9, "carriedRaising", "(III)I"⟩
abbrev cX9_leftBy : ByteArray := prog_1_method_58_code
def yX9_leftBy : MethodName := ⟨RX9, "leftBy", "(I)I"⟩
abbrev cX9_carriedAtFirst : ByteArray := prog_1_method_59_code
def yX9_carriedAtFirst : MethodName := ⟨RX9, "carriedAtFirst", "(II)I"⟩
abbrev cX9_seenSo : ByteArray := prog_1_method_60_code
def yX9_seenSo : MethodName := ⟨RX9, "seenSo", "([II)Z"⟩
abbrev cX9_ordersSeenSo : ByteArray := prog_1_method_61_code
def yX9_ordersSeenSo : MethodName := ⟨RX9, "ordersSeenSo", "(I)I"⟩
abbrev cX9_tryOrder : ByteArray := prog_1_method_62_code
def yX9_tryOrder : MethodName := ⟨RX9, "tryOrder", "(II)V"⟩
abbrev cX9_nightToAsk : ByteArray := prog_1_method_63_code
def yX9_nightToAsk : MethodName := ⟨RX9, "nightToAsk", "(II)I"⟩
abbrev cX9_mostAlike : ByteArray := prog_1_method_64_code
def yX9_mostAlike : MethodName := ⟨RX9, "mostAlike", "(III)I"⟩
abbrev cX9_drawOrders : ByteArray := prog_1_method_65_code
def yX9_drawOrders : MethodName := ⟨RX9, "drawOrders", "(I)V"⟩
def RX10 : String := "LinenHouseModel"
def TX10 : u_T := fun k => match k with
  | 0 => ("LinenHouseModel", "typed", "[I", true)
  | 1 => ("LinenHouseModel", "texts", "[I", true)
  | 2 => ("LinenHouseModel", "members", "I", false)
  | 3 => ("LinenHouseModel", "sorts", "[I", true)
  | 4 => ("LinenHouseModel", "shelves", "[I", true)
  | 5 => ("LinenHouseModel", "wants", "[I", true)
  | 6 => ("LinenHouseModel", "motions", "I", false)
  | 7 => ("LinenHouseModel", "firsts", "[I", true)
  | 8 => ("LinenHouseModel", "others", "[I", true)
  | 9 => ("LinenHouseModel", "hows", "[I", true)
  | 10 => ("LinenHouseModel", "weights", "[I", true)
  | 11 => ("LinenHouseModel", "folds", "I", false)
  | 12 => ("LinenHouseModel", "foldNight", "[I", true)
  | 13 => ("LinenHouseModel", "foldWho", "[I", true)
  | 14 => ("LinenHouseModel", "foldShelf", "[I", true)
  | 15 => ("LinenHouseModel", "jars", "I", false)
  | 16 => ("LinenHouseModel", "jarNight", "[I", true)
  | 17 => ("LinenHouseModel", "lieNow", "[I", true)
  | 18 => ("LinenHouseModel", "warmNow", "[I", true)
  | 19 => ("LinenHouseModel", "votesNow", "I", false)
  | 20 => ("LinenHouseModel", "apartNow", "I", false)
  | 21 => ("LinenHouseModel", "speakerNow", "I", false)
  | 22 => ("LinenHouseModel", "notFolds", "I", false)
  | 23 => ("LinenHouseModel", "jarBits", "I", false)
  | 24 => ("LinenHouseModel", "liftNight", "I", false)
  | 25 => ("LinenHouseModel", "liftBits", "I", false)
  | 26 => ("LinenHouseModel", "lieAt", "[I", true)
  | 27 => ("LinenHouseModel", "warmAt", "[I", true)
  | 28 => ("LinenHouseModel", "votesAt", "[I", true)
  | 29 => ("LinenHouseModel", "apartAt", "[I", true)
  | 30 => ("LinenHouseModel", "speakerAt", "[I", true)
  | 31 => ("LinenHouseModel", "carried", "[I", true)
  | 32 => ("LinenHouseModel", "planRow", "[I", true)
  | 33 => ("LinenHouseModel", "seens", "I", false)
  | 34 => ("LinenHouseModel", "seenNight", "[I", true)
  | 35 => ("LinenHouseModel", "seenOne", "[I", true)
  | 36 => ("LinenHouseModel", "carriedBy", "[I", true)
  | 37 => ("LinenHouseModel", "carriedTold", "[I", true)
  | 38 => ("LinenHouseModel", "isThere", "[Z", true)
  | 39 => ("LinenHouseModel", "forms", "[I", true)
  | 40 => ("LinenHouseModel", "sizes", "[I", true)
  | 41 => ("LinenHouseModel", "items", "[I", true)
  | 42 => ("LinenHouseModel", "moved", "[I", true)
  | _ => ("LinenHouseModel", "finding", "I", false)
def tyX10 : Nat → FieldType := fun k => match k with
  | 0 => .array .int
  | 1 => .array .int
  | 2 => .int
  | 3 => .array .int
  | 4 => .array .int
  | 5 => .array .int
  | 6 => .int
  | 7 => .array .int
  | 8 => .array .int
  | 9 => .array .int
  | 10 => .array .int
  | 11 => .int
  | 12 => .array .int
  | 13 => .array .int
  | 14 => .array .int
  | 15 => .int
  | 16 => .array .int
  | 17 => .array .int
  | 18 => .array .int
  | 19 => .int
  | 20 => .int
  | 21 => .int
  | 22 => .int
  | 23 => .int
  | 24 => .int
  | 25 => .int
  | 26 => .array .int
  | 27 => .array .int
  | 28 => .array .int
  | 29 => .array .int
  | 30 => .array .int
  | 31 => .array .int
  | 32 => .array .int
  | 33 => .int
  | 34 => .array .int
  | 35 => .array .int
  | 36 => .array .int
  | 37 => .array .int
  | 38 => .array .boolean
  | 39 => .array .int
  | 40 => .array .int
  | 41 => .array .int
  | 42 => .array .int
  | _ => .int
abbrev wsX100 : List Cond := u_ws RX10 TX10 44
theorem nmX10 : ∀ a, a < 44 → ∀ b, b < 44 → a ≠ b → (TX10 a).2.1 ≠ (TX10 b).2.1 := by decide +kernel
theorem tyX10_ok : ∀ k, k < 44 → parseFieldDescriptor (TX10 k).2.2.1 = some (tyX10 k) := by decide +kernel
abbrev cX10_init : ByteArray := prog_12_method_1_code
def yX10_init : MethodName := ⟨RX10, "<init>", "()V"⟩
abbrev cX10_in : ByteArray := prog_12_method_3_code
def yX10_in : MethodName := ⟨RX10, "in", "(III)Z"⟩
abbrev cX10_isIn : ByteArray := prog_12_method_4_code
def yX10_isIn : MethodName := ⟨RX10, "isIn", "(II)Z"⟩
abbrev cX10_no : ByteArray := prog_12_method_5_code
def yX10_no : MethodName := ⟨RX10, "no", "(I)J"⟩
abbrev cX10_lowest : ByteArray := prog_12_method_6_code
def yX10_lowest : MethodName := ⟨RX10, "lowest", "(JJI)J"⟩
abbrev cX10_isText : ByteArray := prog_12_method_7_code
def yX10_isText : MethodName := ⟨RX10, "isText", "(I)Z"⟩
abbrev cX10_isNight : ByteArray := prog_12_method_8_code
def yX10_isNight : MethodName := ⟨RX10, "isNight", "(I)Z"⟩
abbrev cX10_type : ByteArray := prog_12_method_9_code
def yX10_type : MethodName := ⟨RX10, "type", "(II)I"⟩
abbrev cX10_wipe : ByteArray := prog_12_method_10_code
def yX10_wipe : MethodName := ⟨RX10, "wipe", "(I)I"⟩
abbrev cX10_undo : ByteArray := prog_12_method_11_code
def yX10_undo : MethodName := ⟨RX10, "undo", "(I)I"⟩
abbrev cX10_byteAt : ByteArray := prog_12_method_12_code
def yX10_byteAt : MethodName := ⟨RX10, "byteAt", "(II)I"⟩
abbrev cX10_letterAt : ByteArray := prog_12_method_13_code
def yX10_letterAt : MethodName := ⟨RX10, "letterAt", "(II)I"⟩
abbrev cX10_readsMember : ByteArray := prog_12_method_14_code
def yX10_readsMember : MethodName := ⟨RX10, "readsMember", "(II)I"⟩
abbrev cX10_readsMembers : ByteArray := prog_12_method_15_code
def yX10_readsMembers : MethodName := ⟨RX10, "readsMembers", "()I"⟩
abbrev cX10_readsMotions : ByteArray := prog_12_method_16_code
def yX10_readsMotions : MethodName := ⟨RX10, "readsMotions", "()I"⟩
abbrev cX10_faultOf : ByteArray := prog_12_method_17_code
def yX10_faultOf : MethodName := ⟨RX10, "faultOf", "(I)I"⟩
abbrev cX10_reads : ByteArray := prog_12_method_18_code
def yX10_reads : MethodName := ⟨RX10, "reads", "()V"⟩
abbrev cX10_fault : ByteArray := prog_12_method_19_code
def yX10_fault : MethodName := ⟨RX10, "fault", "(I)I"⟩
abbrev cX10_isMember : ByteArray := prog_12_method_20_code
def yX10_isMember : MethodName := ⟨RX10, "isMember", "(I)Z"⟩
abbrev cX10_memberOf : ByteArray := prog_12_method_21_code
def yX10_memberOf : MethodName := ⟨RX10, "memberOf", "(II)I"⟩
abbrev cX10_member : ByteArray := prog_12_method_22_code
def yX10_member : MethodName := ⟨RX10, "member", "(II)I"⟩
abbrev cX10_motionOf : ByteArray := prog_12_method_23_code
def yX10_motionOf : MethodName := ⟨RX10, "motionOf", "(II)I"⟩
abbrev cX10_motion : ByteArray := prog_12_method_24_code
def yX10_motion : MethodName := ⟨RX10, "motion", "(II)I"⟩
abbrev cX10_weight : ByteArray := prog_12_method_25_code
def yX10_weight : MethodName := ⟨RX10, "weight", "(II)I"⟩
abbrev cX10_fold : ByteArray := prog_12_method_26_code
def yX10_fold : MethodName := ⟨RX10, "fold", "(III)I"⟩
abbrev cX10_jar : ByteArray := prog_12_method_27_code
def yX10_jar : MethodName := ⟨RX10, "jar", "(I)I"⟩
abbrev cX10_back : ByteArray := prog_12_method_28_code
def yX10_back : MethodName := ⟨RX10, "back", "(I)I"⟩
abbrev cX10_read : ByteArray := prog_12_method_29_code
def yX10_read : MethodName := ⟨RX10, "read", "(I)I"⟩
abbrev cX10_isOther : ByteArray := prog_12_method_30_code
def yX10_isOther : MethodName := ⟨RX10, "isOther", "(III)Z"⟩
abbrev cX10_leansOther : ByteArray := prog_12_method_31_code
def yX10_leansOther : MethodName := ⟨RX10, "leansOther", "(III)Z"⟩
abbrev cX10_leans : ByteArray := prog_12_method_32_code
def yX10_leans : MethodName := ⟨RX10, "leans", "(II)V"⟩
abbrev cX10_carries : ByteArray := prog_12_method_33_code
def yX10_carries : MethodName := ⟨RX10, "carries", "(IIII)I"⟩
abbrev cX10_asTold : ByteArray := prog_12_method_34_code
def yX10_asTold : MethodName := ⟨RX10, "asTold", "()V"⟩
abbrev cX10_laysOut : ByteArray := prog_12_method_35_code
def yX10_laysOut : MethodName := ⟨RX10, "laysOut", "(I)V"⟩
abbrev cX10_runs : ByteArray := prog_12_method_36_code
def yX10_runs : MethodName := ⟨RX10, "runs", "()V"⟩
abbrev cX10_runsTold : ByteArray := prog_12_method_37_code
def yX10_runsTold : MethodName := ⟨RX10, "runsTold", "()V"⟩
abbrev cX10_liesOf : ByteArray := prog_12_method_38_code
def yX10_liesOf : MethodName := ⟨RX10, "liesOf", "(III)I"⟩
abbrev cX10_lies : ByteArray := prog_12_method_39_code
def yX10_lies : MethodName := ⟨RX10, "lies", "(III)I"⟩
abbrev cX10_forFirst : ByteArray := prog_12_method_40_code
def yX10_forFirst : MethodName := ⟨RX10, "forFirst", "(I)I"⟩
abbrev cX10_voteOf : ByteArray := prog_12_method_41_code
def yX10_voteOf : MethodName := ⟨RX10, "voteOf", "(II)I"⟩
abbrev cX10_vote : ByteArray := prog_12_method_42_code
def yX10_vote : MethodName := ⟨RX10, "vote", "(II)I"⟩
abbrev cX10_houseNow : ByteArray := prog_12_method_43_code
def yX10_houseNow : MethodName := ⟨RX10, "houseNow", "(I)I"⟩
abbrev cX10_houseOf : ByteArray := prog_12_method_44_code
def yX10_houseOf : MethodName := ⟨RX10, "houseOf", "(I)I"⟩
abbrev cX10_house : ByteArray := prog_12_method_45_code
def yX10_house : MethodName := ⟨RX10, "house", "(I)I"⟩
abbrev cX10_toldNow : ByteArray := prog_12_method_46_code
def yX10_toldNow : MethodName := ⟨RX10, "toldNow", "()I"⟩
abbrev cX10_told : ByteArray := prog_12_method_47_code
def yX10_told : MethodName := ⟨RX10, "told", "()I"⟩
abbrev cX10_pleasures : ByteArray := prog_12_method_48_code
def yX10_pleasures : MethodName := ⟨RX10, "pleasures", "(I)I"⟩
abbrev cX10_pleasedNow : ByteArray := prog_12_method_49_code
def yX10_pleasedNow : MethodName := ⟨RX10, "pleasedNow", "()I"⟩
abbrev cX10_pleased : ByteArray := prog_12_method_50_code
def yX10_pleased : MethodName := ⟨RX10, "pleased", "()I"⟩
abbrev cX10_isTurned : ByteArray := prog_12_method_51_code
def yX10_isTurned : MethodName := ⟨RX10, "isTurned", "(III)Z"⟩
abbrev cX10_liftBy : ByteArray := prog_12_method_52_code
def yX10_liftBy : MethodName := ⟨RX10, "liftBy", "(I)I"⟩
abbrev cX10_ofRow : ByteArray := prog_12_method_53_code
def yX10_ofRow : MethodName := ⟨RX10, "ofRow", "(II)I"⟩
abbrev cX10_lift : ByteArray := prog_12_method_54_code
def yX10_lift : MethodName := ⟨RX10, "lift", "(II)I"⟩
abbrev cX10_puts : ByteArray := prog_12_method_55_code
def yX10_puts : MethodName := ⟨RX10, "puts", "(II)I"⟩
abbrev cX10_agendaOf : ByteArray := prog_12_method_56_code
def yX10_agendaOf : MethodName := ⟨RX10, "agendaOf", "(I)I"⟩
abbrev cX10_agenda : ByteArray := prog_12_method_57_code
def yX10_agenda : MethodName := ⟨RX10, "agenda", "(I)I"⟩
abbrev cX10_weightOf : ByteArray := prog_12_method_58_code
def yX10_weightOf : MethodName := ⟨RX10, "weightOf", "(I)I"⟩
abbrev cX10_orders : ByteArray := prog_12_method_59_code
def yX10_orders : MethodName := ⟨RX10, "orders", "(I)J"⟩
abbrev cX10_powerOf : ByteArray := prog_12_method_60_code
def yX10_powerOf : MethodName := ⟨RX10, "powerOf", "(II)J"⟩
abbrev cX10_power : ByteArray := prog_12_method_61_code
def yX10_power : MethodName := ⟨RX10, "power", "(II)J"⟩
abbrev cX10_beats : ByteArray := prog_12_method_62_code
def yX10_beats : MethodName := ⟨RX10, "beats", "(II)Z"⟩
abbrev cX10_ringNow : ByteArray := prog_12_method_63_code
def yX10_ringNow : MethodName := ⟨RX10, "ringNow", "()I"⟩
abbrev cX10_ring : ByteArray := prog_12_method_64_code
def yX10_ring : MethodName := ⟨RX10, "ring", "()I"⟩
abbrev cX10_shamOf : ByteArray := prog_12_method_65_code
def yX10_shamOf : MethodName := ⟨RX10, "shamOf", "(II)I"⟩
abbrev cX10_sham : ByteArray := prog_12_method_66_code
def yX10_sham : MethodName := ⟨RX10, "sham", "(II)I"⟩
abbrev cX10_seen : ByteArray := prog_12_method_67_code
def yX10_seen : MethodName := ⟨RX10, "seen", "(II)I"⟩
abbrev cX10_forget : ByteArray := prog_12_method_68_code
def yX10_forget : MethodName := ⟨RX10, "forget", "()I"⟩
abbrev cX10_isSeen : ByteArray := prog_12_method_69_code
def yX10_isSeen : MethodName := ⟨RX10, "isSeen", "()Z"⟩
abbrev cX10_neverNow : ByteArray := prog_12_method_70_code
def yX10_neverNow : MethodName := ⟨RX10, "neverNow", "()I"⟩
abbrev cX10_never : ByteArray := prog_12_method_71_code
def yX10_never : MethodName := ⟨RX10, "never", "()I"⟩
abbrev cX10_takesOrder : ByteArray := prog_12_method_72_code
def yX10_takesOrder : MethodName := ⟨RX10, "takesOrder", "(II)V"⟩
abbrev cX10_wouldBy : ByteArray := prog_12_method_73_code
def yX10_wouldBy : MethodName := ⟨RX10, "wouldBy", "(I)I"⟩
abbrev cX10_would : ByteArray := prog_12_method_74_code
def yX10_would : MethodName := ⟨RX10, "would", "(I)I"⟩
abbrev cX10_askOf : ByteArray := prog_12_method_75_code
def yX10_askOf : MethodName := ⟨RX10, "askOf", "(I)I"⟩
abbrev cX10_ask : ByteArray := prog_12_method_76_code
def yX10_ask : MethodName := ⟨RX10, "ask", "(I)I"⟩
abbrev cX10_ajarOf : ByteArray := prog_12_method_77_code
def yX10_ajarOf : MethodName := ⟨RX10, "ajarOf", "(IIIII)J"⟩
abbrev cX10_ajar : ByteArray := prog_12_method_78_code
def yX10_ajar : MethodName := ⟨RX10, "ajar", "(IIIII)J"⟩
abbrev cX10_eveningsOf : ByteArray := prog_12_method_79_code
def yX10_eveningsOf : MethodName := ⟨RX10, "eveningsOf", "(II)I"⟩
abbrev cX10_evenings : ByteArray := prog_12_method_80_code
def yX10_evenings : MethodName := ⟨RX10, "evenings", "(II)I"⟩
abbrev cX10_meets : ByteArray := prog_12_method_81_code
def yX10_meets : MethodName := ⟨RX10, "meets", "(I)I"⟩
abbrev cX10_isSheet : ByteArray := prog_12_method_82_code
def yX10_isSheet : MethodName := ⟨RX10, "isSheet", "(I)Z"⟩
abbrev cX10_sheet : ByteArray := prog_12_method_83_code
def yX10_sheet : MethodName := ⟨RX10, "sheet", "(III)I"⟩
abbrev cX10_lose : ByteArray := prog_12_method_84_code
def yX10_lose : MethodName := ⟨RX10, "lose", "(I)I"⟩
abbrev cX10_lacks : ByteArray := prog_12_method_85_code
def yX10_lacks : MethodName := ⟨RX10, "lacks", "(III)I"⟩
abbrev cX10_keep : ByteArray := prog_12_method_86_code
def yX10_keep : MethodName := ⟨RX10, "keep", "(III)V"⟩
abbrev cX10_put : ByteArray := prog_12_method_87_code
def yX10_put : MethodName := ⟨RX10, "put", "(IIII)I"⟩
abbrev cX10_get : ByteArray := prog_12_method_88_code
def yX10_get : MethodName := ⟨RX10, "get", "(III)I"⟩
abbrev cX10_copy : ByteArray := prog_12_method_89_code
def yX10_copy : MethodName := ⟨RX10, "copy", "(IIIII)I"⟩
abbrev cX10_write : ByteArray := prog_12_method_90_code
def yX10_write : MethodName := ⟨RX10, "write", "(I)I"⟩
abbrev cX10_sumOf : ByteArray := prog_12_method_91_code
def yX10_sumOf : MethodName := ⟨RX10, "sumOf", "(I)I"⟩
abbrev cX10_count : ByteArray := prog_12_method_92_code
def yX10_count : MethodName := ⟨RX10, "count", "(I)I"⟩
abbrev cX10_nightsDigest : ByteArray := prog_12_method_93_code
def yX10_nightsDigest : MethodName := ⟨RX10, "nightsDigest", "(JII)J"⟩
abbrev cX10_memberDigest : ByteArray := prog_12_method_94_code
def yX10_memberDigest : MethodName := ⟨RX10, "memberDigest", "(JI)J"⟩
abbrev cX10_nightDigest : ByteArray := prog_12_method_95_code
def yX10_nightDigest : MethodName := ⟨RX10, "nightDigest", "(JI)J"⟩
abbrev cX10_digest : ByteArray := prog_12_method_96_code
def yX10_digest : MethodName := ⟨RX10, "digest", "()J"⟩
def RJ6 : String := "java/lang/Integer"
abbrev cJ6_bitCount_0f7a4 : ByteArray := prog_13_method_49_code
def yJ6_bitCount_0f7a4 : MethodName := ⟨RJ6, "bitCount", "(I)I"⟩
def RJ9 : String := "java/lang/Math"
abbrev cJ9_abs_0f7a4 : ByteArray := prog_14_method_59_code
def yJ9_abs_0f7a4 : MethodName := ⟨RJ9, "abs", "(I)I"⟩
abbrev cJ9_max_7cf53 : ByteArray := prog_14_method_65_code
def yJ9_max_7cf53 : MethodName := ⟨RJ9, "max", "(II)I"⟩
abbrev cJ9_min_7cf53 : ByteArray := prog_14_method_69_code
def yJ9_min_7cf53 : MethodName := ⟨RJ9, "min", "(II)I"⟩
def RJ10 : String := "java/lang/System"
def RL : String := "LinenHouseLaw"
abbrev cL_law : ByteArray := code
def yL_law : MethodName := ⟨RL, "law", "([I)Z"⟩
end
section
theorem dX0_init_0 : decode cX0_init 0 = .ok (.aload_n 0, 1) := by decide +kernel
theorem dX0_init_1 : decode cX0_init 1 = .ok (.invokespecial 3, 3) := by decide +kernel
theorem dX0_init_4 : decode cX0_init 4 = .ok (.aload_n 0, 1) := by decide +kernel
theorem dX0_init_5 : decode cX0_init 5 = .ok (.iconst 0, 1) := by decide +kernel
theorem dX0_init_6 : decode cX0_init 6 = .ok (.putfield 9, 3) := by decide +kernel
theorem dX0_init_9 : decode cX0_init 9 = .ok (.aload_n 0, 1) := by decide +kernel
theorem dX0_init_10 : decode cX0_init 10 = .ok (.iconst 1, 1) := by decide +kernel
theorem dX0_init_11 : decode cX0_init 11 = .ok (.putfield 15, 3) := by decide +kernel
theorem dX0_init_14 : decode cX0_init 14 = .ok (.aload_n 0, 1) := by decide +kernel
theorem dX0_init_15 : decode cX0_init 15 = .ok (.iconst 0, 1) := by decide +kernel
theorem dX0_init_16 : decode cX0_init 16 = .ok (.putfield 18, 3) := by decide +kernel
theorem dX0_init_19 : decode cX0_init 19 = .ok (.aload_n 0, 1) := by decide +kernel
theorem dX0_init_20 : decode cX0_init 20 = .ok (.bipush 8, 2) := by decide +kernel
theorem dX0_init_22 : decode cX0_init 22 = .ok (.newarray .int, 2) := by decide +kernel
theorem dX0_init_24 : decode cX0_init 24 = .ok (.putfield 22, 3) := by decide +kernel
theorem dX0_init_27 : decode cX0_init 27 = .ok (.aload_n 0, 1) := by decide +kernel
theorem dX0_init_28 : decode cX0_init 28 = .ok (.bipush 8, 2) := by decide +kernel
theorem dX0_init_30 : decode cX0_init 30 = .ok (.newarray .int, 2) := by decide +kernel
theorem dX0_init_32 : decode cX0_init 32 = .ok (.putfield 26, 3) := by decide +kernel
theorem dX0_init_35 : decode cX0_init 35 = .ok (.aload_n 0, 1) := by decide +kernel
theorem dX0_init_36 : decode cX0_init 36 = .ok (.bipush 6, 2) := by decide +kernel
theorem dX0_init_38 : decode cX0_init 38 = .ok (.newarray .int, 2) := by decide +kernel
theorem dX0_init_40 : decode cX0_init 40 = .ok (.putfield 29, 3) := by decide +kernel
theorem dX0_init_43 : decode cX0_init 43 = .ok (.aload_n 0, 1) := by decide +kernel
theorem dX0_init_44 : decode cX0_init 44 = .ok (.bipush 8, 2) := by decide +kernel
theorem dX0_init_46 : decode cX0_init 46 = .ok (.newarray .int, 2) := by decide +kernel
theorem dX0_init_48 : decode cX0_init 48 = .ok (.putfield 32, 3) := by decide +kernel
theorem dX0_init_51 : decode cX0_init 51 = .ok (.aload_n 0, 1) := by decide +kernel
theorem dX0_init_52 : decode cX0_init 52 = .ok (.iconst (-1), 1) := by decide +kernel
theorem dX0_init_53 : decode cX0_init 53 = .ok (.putfield 35, 3) := by decide +kernel
theorem dX0_init_56 : decode cX0_init 56 = .ok (.aload_n 0, 1) := by decide +kernel
theorem dX0_init_57 : decode cX0_init 57 = .ok (.iconst 0, 1) := by decide +kernel
theorem dX0_init_58 : decode cX0_init 58 = .ok (.putfield 38, 3) := by decide +kernel
theorem dX0_init_61 : decode cX0_init 61 = .ok (.aload_n 0, 1) := by decide +kernel
theorem dX0_init_62 : decode cX0_init 62 = .ok (.iconst 0, 1) := by decide +kernel
theorem dX0_init_63 : decode cX0_init 63 = .ok (.putfield 41, 3) := by decide +kernel
theorem dX0_init_66 : decode cX0_init 66 = .ok (.aload_n 0, 1) := by decide +kernel
theorem dX0_init_67 : decode cX0_init 67 = .ok (.aload_n 1, 1) := by decide +kernel
theorem dX0_init_68 : decode cX0_init 68 = .ok (.putfield 44, 3) := by decide +kernel
theorem dX0_init_71 : decode cX0_init 71 = .ok (.aload_n 0, 1) := by decide +kernel
theorem dX0_init_72 : decode cX0_init 72 = .ok (.aload_n 2, 1) := by decide +kernel
theorem dX0_init_73 : decode cX0_init 73 = .ok (.putfield 48, 3) := by decide +kernel
theorem dX0_init_76 : decode cX0_init 76 = .ok (.aload_n 0, 1) := by decide +kernel
theorem dX0_init_77 : decode cX0_init 77 = .ok (.aload_n 3, 1) := by decide +kernel
theorem dX0_init_78 : decode cX0_init 78 = .ok (.putfield 52, 3) := by decide +kernel
theorem dX0_init_81 : decode cX0_init 81 = .ok (.return_, 1) := by decide +kernel
theorem dX0_isPut_0 : decode cX0_isPut 0 = .ok (.aload_n 0, 1) := by decide +kernel
theorem dX0_isPut_1 : decode cX0_isPut 1 = .ok (.getfield 44, 3) := by decide +kernel
theorem dX0_isPut_4 : decode cX0_isPut 4 = .ok (.getfield 56, 3) := by decide +kernel
theorem dX0_isPut_7 : decode cX0_isPut 7 = .ok (.ifCond .le 21, 3) := by decide +kernel
theorem dX0_isPut_10 : decode cX0_isPut 10 = .ok (.iload_n 1, 1) := by decide +kernel
theorem dX0_isPut_11 : decode cX0_isPut 11 = .ok (.aload_n 0, 1) := by decide +kernel
theorem dX0_isPut_12 : decode cX0_isPut 12 = .ok (.getfield 48, 3) := by decide +kernel
theorem dX0_isPut_15 : decode cX0_isPut 15 = .ok (.getfield 61, 3) := by decide +kernel
theorem dX0_isPut_18 : decode cX0_isPut 18 = .ok (.invokestatic 64, 3) := by decide +kernel
theorem dX0_isPut_21 : decode cX0_isPut 21 = .ok (.ifCond .eq 7, 3) := by decide +kernel
theorem dX0_isPut_24 : decode cX0_isPut 24 = .ok (.iconst 1, 1) := by decide +kernel
theorem dX0_isPut_25 : decode cX0_isPut 25 = .ok (.goto 4, 3) := by decide +kernel
theorem dX0_isPut_28 : decode cX0_isPut 28 = .ok (.iconst 0, 1) := by decide +kernel
theorem dX0_isPut_29 : decode cX0_isPut 29 = .ok (.ireturn, 1) := by decide +kernel
theorem dX0_carried_0 : decode cX0_carried 0 = .ok (.aload_n 0, 1) := by decide +kernel
theorem dX0_carried_1 : decode cX0_carried 1 = .ok (.iload_n 1, 1) := by decide +kernel
theorem dX0_carried_2 : decode cX0_carried 2 = .ok (.invokevirtual 68, 3) := by decide +kernel
theorem dX0_carried_5 : decode cX0_carried 5 = .ok (.ifCond .ne 5, 3) := by decide +kernel
theorem dX0_carried_8 : decode cX0_carried 8 = .ok (.iconst (-1), 1) := by decide +kernel
theorem dX0_carried_9 : decode cX0_carried 9 = .ok (.ireturn, 1) := by decide +kernel
theorem dX0_carried_10 : decode cX0_carried 10 = .ok (.aload_n 0, 1) := by decide +kernel
theorem dX0_carried_11 : decode cX0_carried 11 = .ok (.iload_n 1, 1) := by decide +kernel
theorem dX0_carried_12 : decode cX0_carried 12 = .ok (.invokevirtual 72, 3) := by decide +kernel
theorem dX0_carried_15 : decode cX0_carried 15 = .ok (.aload_n 0, 1) := by decide +kernel
theorem dX0_carried_16 : decode cX0_carried 16 = .ok (.iload_n 1, 1) := by decide +kernel
theorem dX0_carried_17 : decode cX0_carried 17 = .ok (.iload 4, 2) := by decide +kernel
theorem dX0_carried_19 : decode cX0_carried 19 = .ok (.invokevirtual 76, 3) := by decide +kernel
theorem dX0_carried_22 : decode cX0_carried 22 = .ok (.aload_n 0, 1) := by decide +kernel
theorem dX0_carried_23 : decode cX0_carried 23 = .ok (.aload_n 2, 1) := by decide +kernel
theorem dX0_carried_24 : decode cX0_carried 24 = .ok (.iload_n 3, 1) := by decide +kernel
theorem dX0_carried_25 : decode cX0_carried 25 = .ok (.invokevirtual 80, 3) := by decide +kernel
theorem dX0_carried_28 : decode cX0_carried 28 = .ok (.aload_n 0, 1) := by decide +kernel
theorem dX0_carried_29 : decode cX0_carried 29 = .ok (.invokevirtual 84, 3) := by decide +kernel
theorem dX0_carried_32 : decode cX0_carried 32 = .ok (.ireturn, 1) := by decide +kernel
theorem dX0_open_0 : decode cX0_open 0 = .ok (.iload_n 1, 1) := by decide +kernel
theorem dX0_open_1 : decode cX0_open 1 = .ok (.ifCond .lt 62, 3) := by decide +kernel
theorem dX0_open_4 : decode cX0_open 4 = .ok (.iload_n 1, 1) := by decide +kernel
theorem dX0_open_5 : decode cX0_open 5 = .ok (.aload_n 0, 1) := by decide +kernel
theorem dX0_open_6 : decode cX0_open 6 = .ok (.getfield 48, 3) := by decide +kernel
theorem dX0_open_9 : decode cX0_open 9 = .ok (.getfield 61, 3) := by decide +kernel
theorem dX0_open_12 : decode cX0_open 12 = .ok (.if_icmp .ge 51, 3) := by decide +kernel
theorem dX0_open_15 : decode cX0_open 15 = .ok (.aload_n 0, 1) := by decide +kernel
theorem dX0_open_16 : decode cX0_open 16 = .ok (.aload_n 0, 1) := by decide +kernel
theorem dX0_open_17 : decode cX0_open 17 = .ok (.getfield 48, 3) := by decide +kernel
theorem dX0_open_20 : decode cX0_open 20 = .ok (.getfield 88, 3) := by decide +kernel
theorem dX0_open_23 : decode cX0_open 23 = .ok (.iload_n 1, 1) := by decide +kernel
theorem dX0_open_24 : decode cX0_open 24 = .ok (.iaload, 1) := by decide +kernel
theorem dX0_open_25 : decode cX0_open 25 = .ok (.putfield 9, 3) := by decide +kernel
theorem dX0_open_28 : decode cX0_open 28 = .ok (.aload_n 0, 1) := by decide +kernel
theorem dX0_open_29 : decode cX0_open 29 = .ok (.aload_n 0, 1) := by decide +kernel
theorem dX0_open_30 : decode cX0_open 30 = .ok (.getfield 48, 3) := by decide +kernel
theorem dX0_open_33 : decode cX0_open 33 = .ok (.getfield 90, 3) := by decide +kernel
theorem dX0_open_36 : decode cX0_open 36 = .ok (.iload_n 1, 1) := by decide +kernel
theorem dX0_open_37 : decode cX0_open 37 = .ok (.iaload, 1) := by decide +kernel
theorem dX0_open_38 : decode cX0_open 38 = .ok (.putfield 15, 3) := by decide +kernel
theorem dX0_open_41 : decode cX0_open 41 = .ok (.aload_n 0, 1) := by decide +kernel
theorem dX0_open_42 : decode cX0_open 42 = .ok (.aload_n 0, 1) := by decide +kernel
theorem dX0_open_43 : decode cX0_open 43 = .ok (.getfield 48, 3) := by decide +kernel
theorem dX0_open_46 : decode cX0_open 46 = .ok (.getfield 92, 3) := by decide +kernel
theorem dX0_open_49 : decode cX0_open 49 = .ok (.iload_n 1, 1) := by decide +kernel
theorem dX0_open_50 : decode cX0_open 50 = .ok (.iaload, 1) := by decide +kernel
theorem dX0_open_51 : decode cX0_open 51 = .ok (.iconst 2, 1) := by decide +kernel
theorem dX0_open_52 : decode cX0_open 52 = .ok (.if_icmp .ne 7, 3) := by decide +kernel
theorem dX0_open_55 : decode cX0_open 55 = .ok (.iconst 1, 1) := by decide +kernel
theorem dX0_open_56 : decode cX0_open 56 = .ok (.goto 4, 3) := by decide +kernel
theorem dX0_open_59 : decode cX0_open 59 = .ok (.iconst 0, 1) := by decide +kernel
theorem dX0_open_60 : decode cX0_open 60 = .ok (.putfield 18, 3) := by decide +kernel
theorem dX0_open_63 : decode cX0_open 63 = .ok (.return_, 1) := by decide +kernel
theorem dX0_openPair_0 : decode cX0_openPair 0 = .ok (.aload_n 0, 1) := by decide +kernel
theorem dX0_openPair_1 : decode cX0_openPair 1 = .ok (.iload_n 1, 1) := by decide +kernel
theorem dX0_openPair_2 : decode cX0_openPair 2 = .ok (.putfield 9, 3) := by decide +kernel
theorem dX0_openPair_5 : decode cX0_openPair 5 = .ok (.aload_n 0, 1) := by decide +kernel
theorem dX0_openPair_6 : decode cX0_openPair 6 = .ok (.iload_n 2, 1) := by decide +kernel
theorem dX0_openPair_7 : decode cX0_openPair 7 = .ok (.putfield 15, 3) := by decide +kernel
theorem dX0_openPair_10 : decode cX0_openPair 10 = .ok (.aload_n 0, 1) := by decide +kernel
theorem dX0_openPair_11 : decode cX0_openPair 11 = .ok (.iconst 0, 1) := by decide +kernel
theorem dX0_openPair_12 : decode cX0_openPair 12 = .ok (.putfield 18, 3) := by decide +kernel
theorem dX0_openPair_15 : decode cX0_openPair 15 = .ok (.return_, 1) := by decide +kernel
theorem dX0_layAtFirst_0 : decode cX0_layAtFirst 0 = .ok (.iconst 0, 1) := by decide +kernel
theorem dX0_layAtFirst_1 : decode cX0_layAtFirst 1 = .ok (.istore_n 1, 1) := by decide +kernel
theorem dX0_layAtFirst_2 : decode cX0_layAtFirst 2 = .ok (.iload_n 1, 1) := by decide +kernel
theorem dX0_layAtFirst_3 : decode cX0_layAtFirst 3 = .ok (.aload_n 0, 1) := by decide +kernel
theorem dX0_layAtFirst_4 : decode cX0_layAtFirst 4 = .ok (.getfield 44, 3) := by decide +kernel
theorem dX0_layAtFirst_7 : decode cX0_layAtFirst 7 = .ok (.getfield 56, 3) := by decide +kernel
theorem dX0_layAtFirst_10 : decode cX0_layAtFirst 10 = .ok (.if_icmp .ge 31, 3) := by decide +kernel
theorem dX0_layAtFirst_13 : decode cX0_layAtFirst 13 = .ok (.aload_n 0, 1) := by decide +kernel
theorem dX0_layAtFirst_14 : decode cX0_layAtFirst 14 = .ok (.getfield 22, 3) := by decide +kernel
theorem dX0_layAtFirst_17 : decode cX0_layAtFirst 17 = .ok (.iload_n 1, 1) := by decide +kernel
theorem dX0_layAtFirst_18 : decode cX0_layAtFirst 18 = .ok (.aload_n 0, 1) := by decide +kernel
theorem dX0_layAtFirst_19 : decode cX0_layAtFirst 19 = .ok (.getfield 44, 3) := by decide +kernel
theorem dX0_layAtFirst_22 : decode cX0_layAtFirst 22 = .ok (.getfield 95, 3) := by decide +kernel
theorem dX0_layAtFirst_25 : decode cX0_layAtFirst 25 = .ok (.iload_n 1, 1) := by decide +kernel
theorem dX0_layAtFirst_26 : decode cX0_layAtFirst 26 = .ok (.iaload, 1) := by decide +kernel
theorem dX0_layAtFirst_27 : decode cX0_layAtFirst 27 = .ok (.iastore, 1) := by decide +kernel
theorem dX0_layAtFirst_28 : decode cX0_layAtFirst 28 = .ok (.aload_n 0, 1) := by decide +kernel
theorem dX0_layAtFirst_29 : decode cX0_layAtFirst 29 = .ok (.getfield 26, 3) := by decide +kernel
theorem dX0_layAtFirst_32 : decode cX0_layAtFirst 32 = .ok (.iload_n 1, 1) := by decide +kernel
theorem dX0_layAtFirst_33 : decode cX0_layAtFirst 33 = .ok (.iconst 0, 1) := by decide +kernel
theorem dX0_layAtFirst_34 : decode cX0_layAtFirst 34 = .ok (.iastore, 1) := by decide +kernel
theorem dX0_layAtFirst_35 : decode cX0_layAtFirst 35 = .ok (.iinc 1 1, 3) := by decide +kernel
theorem dX0_layAtFirst_38 : decode cX0_layAtFirst 38 = .ok (.goto (-36), 3) := by decide +kernel
theorem dX0_layAtFirst_41 : decode cX0_layAtFirst 41 = .ok (.return_, 1) := by decide +kernel
theorem dX0_lay_0 : decode cX0_lay 0 = .ok (.aload_n 0, 1) := by decide +kernel
theorem dX0_lay_1 : decode cX0_lay 1 = .ok (.invokevirtual 96, 3) := by decide +kernel
theorem dX0_lay_4 : decode cX0_lay 4 = .ok (.iconst 0, 1) := by decide +kernel
theorem dX0_lay_5 : decode cX0_lay 5 = .ok (.istore_n 3, 1) := by decide +kernel
theorem dX0_lay_6 : decode cX0_lay 6 = .ok (.iload_n 3, 1) := by decide +kernel
theorem dX0_lay_7 : decode cX0_lay 7 = .ok (.aload_n 0, 1) := by decide +kernel
theorem dX0_lay_8 : decode cX0_lay 8 = .ok (.getfield 52, 3) := by decide +kernel
theorem dX0_lay_11 : decode cX0_lay 11 = .ok (.getfield 99, 3) := by decide +kernel
theorem dX0_lay_14 : decode cX0_lay 14 = .ok (.if_icmp .ge 91, 3) := by decide +kernel
theorem dX0_lay_17 : decode cX0_lay 17 = .ok (.aload_n 0, 1) := by decide +kernel
theorem dX0_lay_18 : decode cX0_lay 18 = .ok (.getfield 52, 3) := by decide +kernel
theorem dX0_lay_21 : decode cX0_lay 21 = .ok (.getfield 102, 3) := by decide +kernel
theorem dX0_lay_24 : decode cX0_lay 24 = .ok (.iload_n 3, 1) := by decide +kernel
theorem dX0_lay_25 : decode cX0_lay 25 = .ok (.iaload, 1) := by decide +kernel
theorem dX0_lay_26 : decode cX0_lay 26 = .ok (.istore 4, 2) := by decide +kernel
theorem dX0_lay_28 : decode cX0_lay 28 = .ok (.aload_n 0, 1) := by decide +kernel
theorem dX0_lay_29 : decode cX0_lay 29 = .ok (.getfield 52, 3) := by decide +kernel
theorem dX0_lay_32 : decode cX0_lay 32 = .ok (.getfield 105, 3) := by decide +kernel
theorem dX0_lay_35 : decode cX0_lay 35 = .ok (.iload_n 3, 1) := by decide +kernel
theorem dX0_lay_36 : decode cX0_lay 36 = .ok (.iaload, 1) := by decide +kernel
theorem dX0_lay_37 : decode cX0_lay 37 = .ok (.istore 5, 2) := by decide +kernel
theorem dX0_lay_39 : decode cX0_lay 39 = .ok (.iload_n 3, 1) := by decide +kernel
theorem dX0_lay_40 : decode cX0_lay 40 = .ok (.iload_n 2, 1) := by decide +kernel
theorem dX0_lay_41 : decode cX0_lay 41 = .ok (.if_icmp .eq 58, 3) := by decide +kernel
theorem dX0_lay_44 : decode cX0_lay 44 = .ok (.iload 4, 2) := by decide +kernel
theorem dX0_lay_46 : decode cX0_lay 46 = .ok (.aload_n 0, 1) := by decide +kernel
theorem dX0_lay_47 : decode cX0_lay 47 = .ok (.getfield 44, 3) := by decide +kernel
theorem dX0_lay_50 : decode cX0_lay 50 = .ok (.getfield 56, 3) := by decide +kernel
theorem dX0_lay_53 : decode cX0_lay 53 = .ok (.if_icmp .ge 46, 3) := by decide +kernel
theorem dX0_lay_56 : decode cX0_lay 56 = .ok (.iload 5, 2) := by decide +kernel
theorem dX0_lay_58 : decode cX0_lay 58 = .ok (.iload_n 1, 1) := by decide +kernel
theorem dX0_lay_59 : decode cX0_lay 59 = .ok (.if_icmp .gt 40, 3) := by decide +kernel
theorem dX0_lay_62 : decode cX0_lay 62 = .ok (.iload 5, 2) := by decide +kernel
theorem dX0_lay_64 : decode cX0_lay 64 = .ok (.aload_n 0, 1) := by decide +kernel
theorem dX0_lay_65 : decode cX0_lay 65 = .ok (.getfield 26, 3) := by decide +kernel
theorem dX0_lay_68 : decode cX0_lay 68 = .ok (.iload 4, 2) := by decide +kernel
theorem dX0_lay_70 : decode cX0_lay 70 = .ok (.iaload, 1) := by decide +kernel
theorem dX0_lay_71 : decode cX0_lay 71 = .ok (.if_icmp .lt 28, 3) := by decide +kernel
theorem dX0_lay_74 : decode cX0_lay 74 = .ok (.aload_n 0, 1) := by decide +kernel
theorem dX0_lay_75 : decode cX0_lay 75 = .ok (.getfield 22, 3) := by decide +kernel
theorem dX0_lay_78 : decode cX0_lay 78 = .ok (.iload 4, 2) := by decide +kernel
theorem dX0_lay_80 : decode cX0_lay 80 = .ok (.aload_n 0, 1) := by decide +kernel
theorem dX0_lay_81 : decode cX0_lay 81 = .ok (.getfield 52, 3) := by decide +kernel
theorem dX0_lay_84 : decode cX0_lay 84 = .ok (.getfield 108, 3) := by decide +kernel
theorem dX0_lay_87 : decode cX0_lay 87 = .ok (.iload_n 3, 1) := by decide +kernel
theorem dX0_lay_88 : decode cX0_lay 88 = .ok (.iaload, 1) := by decide +kernel
theorem dX0_lay_89 : decode cX0_lay 89 = .ok (.iastore, 1) := by decide +kernel
theorem dX0_lay_90 : decode cX0_lay 90 = .ok (.aload_n 0, 1) := by decide +kernel
theorem dX0_lay_91 : decode cX0_lay 91 = .ok (.getfield 26, 3) := by decide +kernel
theorem dX0_lay_94 : decode cX0_lay 94 = .ok (.iload 4, 2) := by decide +kernel
theorem dX0_lay_96 : decode cX0_lay 96 = .ok (.iload 5, 2) := by decide +kernel
theorem dX0_lay_98 : decode cX0_lay 98 = .ok (.iastore, 1) := by decide +kernel
theorem dX0_lay_99 : decode cX0_lay 99 = .ok (.iinc 3 1, 3) := by decide +kernel
theorem dX0_lay_102 : decode cX0_lay 102 = .ok (.goto (-96), 3) := by decide +kernel
theorem dX0_lay_105 : decode cX0_lay 105 = .ok (.return_, 1) := by decide +kernel
theorem dX0_raise_0 : decode cX0_raise 0 = .ok (.iload_n 1, 1) := by decide +kernel
theorem dX0_raise_1 : decode cX0_raise 1 = .ok (.ifCond .lt 21, 3) := by decide +kernel
theorem dX0_raise_4 : decode cX0_raise 4 = .ok (.iload_n 1, 1) := by decide +kernel
theorem dX0_raise_5 : decode cX0_raise 5 = .ok (.aload_n 0, 1) := by decide +kernel
theorem dX0_raise_6 : decode cX0_raise 6 = .ok (.getfield 44, 3) := by decide +kernel
theorem dX0_raise_9 : decode cX0_raise 9 = .ok (.getfield 56, 3) := by decide +kernel
theorem dX0_raise_12 : decode cX0_raise 12 = .ok (.if_icmp .ge 10, 3) := by decide +kernel
theorem dX0_raise_15 : decode cX0_raise 15 = .ok (.aload_n 0, 1) := by decide +kernel
theorem dX0_raise_16 : decode cX0_raise 16 = .ok (.getfield 22, 3) := by decide +kernel
theorem dX0_raise_19 : decode cX0_raise 19 = .ok (.iload_n 1, 1) := by decide +kernel
theorem dX0_raise_20 : decode cX0_raise 20 = .ok (.iconst 0, 1) := by decide +kernel
theorem dX0_raise_21 : decode cX0_raise 21 = .ok (.iastore, 1) := by decide +kernel
theorem dX0_raise_22 : decode cX0_raise 22 = .ok (.return_, 1) := by decide +kernel
theorem dX0_lean_0 : decode cX0_lean 0 = .ok (.iconst 0, 1) := by decide +kernel
theorem dX0_lean_1 : decode cX0_lean 1 = .ok (.istore_n 3, 1) := by decide +kernel
theorem dX0_lean_2 : decode cX0_lean 2 = .ok (.iload_n 3, 1) := by decide +kernel
theorem dX0_lean_3 : decode cX0_lean 3 = .ok (.bipush 6, 2) := by decide +kernel
theorem dX0_lean_5 : decode cX0_lean 5 = .ok (.if_icmp .ge 16, 3) := by decide +kernel
theorem dX0_lean_8 : decode cX0_lean 8 = .ok (.aload_n 0, 1) := by decide +kernel
theorem dX0_lean_9 : decode cX0_lean 9 = .ok (.getfield 29, 3) := by decide +kernel
theorem dX0_lean_12 : decode cX0_lean 12 = .ok (.iload_n 3, 1) := by decide +kernel
theorem dX0_lean_13 : decode cX0_lean 13 = .ok (.iconst 0, 1) := by decide +kernel
theorem dX0_lean_14 : decode cX0_lean 14 = .ok (.iastore, 1) := by decide +kernel
theorem dX0_lean_15 : decode cX0_lean 15 = .ok (.iinc 3 1, 3) := by decide +kernel
theorem dX0_lean_18 : decode cX0_lean 18 = .ok (.goto (-16), 3) := by decide +kernel
theorem dX0_lean_21 : decode cX0_lean 21 = .ok (.aload_n 0, 1) := by decide +kernel
theorem dX0_lean_22 : decode cX0_lean 22 = .ok (.iconst (-1), 1) := by decide +kernel
theorem dX0_lean_23 : decode cX0_lean 23 = .ok (.putfield 35, 3) := by decide +kernel
theorem dX0_lean_26 : decode cX0_lean 26 = .ok (.iconst 0, 1) := by decide +kernel
theorem dX0_lean_27 : decode cX0_lean 27 = .ok (.istore_n 3, 1) := by decide +kernel
theorem dX0_lean_28 : decode cX0_lean 28 = .ok (.iload_n 3, 1) := by decide +kernel
theorem dX0_lean_29 : decode cX0_lean 29 = .ok (.aload_n 0, 1) := by decide +kernel
theorem dX0_lean_30 : decode cX0_lean 30 = .ok (.getfield 44, 3) := by decide +kernel
theorem dX0_lean_33 : decode cX0_lean 33 = .ok (.getfield 56, 3) := by decide +kernel
theorem dX0_lean_36 : decode cX0_lean 36 = .ok (.if_icmp .ge 92, 3) := by decide +kernel
theorem dX0_lean_39 : decode cX0_lean 39 = .ok (.aload_n 0, 1) := by decide +kernel
theorem dX0_lean_40 : decode cX0_lean 40 = .ok (.getfield 32, 3) := by decide +kernel
theorem dX0_lean_43 : decode cX0_lean 43 = .ok (.iload_n 3, 1) := by decide +kernel
theorem dX0_lean_44 : decode cX0_lean 44 = .ok (.aload_n 1, 1) := by decide +kernel
theorem dX0_lean_45 : decode cX0_lean 45 = .ok (.iload_n 3, 1) := by decide +kernel
theorem dX0_lean_46 : decode cX0_lean 46 = .ok (.iaload, 1) := by decide +kernel
theorem dX0_lean_47 : decode cX0_lean 47 = .ok (.aload_n 0, 1) := by decide +kernel
theorem dX0_lean_48 : decode cX0_lean 48 = .ok (.getfield 9, 3) := by decide +kernel
theorem dX0_lean_51 : decode cX0_lean 51 = .ok (.aload_n 0, 1) := by decide +kernel
theorem dX0_lean_52 : decode cX0_lean 52 = .ok (.getfield 15, 3) := by decide +kernel
theorem dX0_lean_55 : decode cX0_lean 55 = .ok (.invokestatic 109, 3) := by decide +kernel
theorem dX0_lean_58 : decode cX0_lean 58 = .ok (.ifCond .eq 7, 3) := by decide +kernel
theorem dX0_lean_61 : decode cX0_lean 61 = .ok (.iconst 0, 1) := by decide +kernel
theorem dX0_lean_62 : decode cX0_lean 62 = .ok (.goto 4, 3) := by decide +kernel
theorem dX0_lean_65 : decode cX0_lean 65 = .ok (.iconst 1, 1) := by decide +kernel
theorem dX0_lean_66 : decode cX0_lean 66 = .ok (.iastore, 1) := by decide +kernel
theorem dX0_lean_67 : decode cX0_lean 67 = .ok (.aload_n 0, 1) := by decide +kernel
theorem dX0_lean_68 : decode cX0_lean 68 = .ok (.getfield 29, 3) := by decide +kernel
theorem dX0_lean_71 : decode cX0_lean 71 = .ok (.aload_n 0, 1) := by decide +kernel
theorem dX0_lean_72 : decode cX0_lean 72 = .ok (.getfield 22, 3) := by decide +kernel
theorem dX0_lean_75 : decode cX0_lean 75 = .ok (.iload_n 3, 1) := by decide +kernel
theorem dX0_lean_76 : decode cX0_lean 76 = .ok (.iaload, 1) := by decide +kernel
theorem dX0_lean_77 : decode cX0_lean 77 = .ok (.dup2, 1) := by decide +kernel
theorem dX0_lean_78 : decode cX0_lean 78 = .ok (.iaload, 1) := by decide +kernel
theorem dX0_lean_79 : decode cX0_lean 79 = .ok (.iconst 1, 1) := by decide +kernel
theorem dX0_lean_80 : decode cX0_lean 80 = .ok (.iconst 2, 1) := by decide +kernel
theorem dX0_lean_81 : decode cX0_lean 81 = .ok (.aload_n 0, 1) := by decide +kernel
theorem dX0_lean_82 : decode cX0_lean 82 = .ok (.getfield 32, 3) := by decide +kernel
theorem dX0_lean_85 : decode cX0_lean 85 = .ok (.iload_n 3, 1) := by decide +kernel
theorem dX0_lean_86 : decode cX0_lean 86 = .ok (.iaload, 1) := by decide +kernel
theorem dX0_lean_87 : decode cX0_lean 87 = .ok (.imul, 1) := by decide +kernel
theorem dX0_lean_88 : decode cX0_lean 88 = .ok (.isub, 1) := by decide +kernel
theorem dX0_lean_89 : decode cX0_lean 89 = .ok (.iadd, 1) := by decide +kernel
theorem dX0_lean_90 : decode cX0_lean 90 = .ok (.iastore, 1) := by decide +kernel
theorem dX0_lean_91 : decode cX0_lean 91 = .ok (.aload_n 0, 1) := by decide +kernel
theorem dX0_lean_92 : decode cX0_lean 92 = .ok (.getfield 35, 3) := by decide +kernel
theorem dX0_lean_95 : decode cX0_lean 95 = .ok (.iconst (-1), 1) := by decide +kernel
theorem dX0_lean_96 : decode cX0_lean 96 = .ok (.if_icmp .eq 21, 3) := by decide +kernel
theorem dX0_lean_99 : decode cX0_lean 99 = .ok (.aload_n 0, 1) := by decide +kernel
theorem dX0_lean_100 : decode cX0_lean 100 = .ok (.getfield 22, 3) := by decide +kernel
theorem dX0_lean_103 : decode cX0_lean 103 = .ok (.iload_n 3, 1) := by decide +kernel
theorem dX0_lean_104 : decode cX0_lean 104 = .ok (.iaload, 1) := by decide +kernel
theorem dX0_lean_105 : decode cX0_lean 105 = .ok (.aload_n 0, 1) := by decide +kernel
theorem dX0_lean_106 : decode cX0_lean 106 = .ok (.getfield 22, 3) := by decide +kernel
theorem dX0_lean_109 : decode cX0_lean 109 = .ok (.aload_n 0, 1) := by decide +kernel
theorem dX0_lean_110 : decode cX0_lean 110 = .ok (.getfield 35, 3) := by decide +kernel
theorem dX0_lean_113 : decode cX0_lean 113 = .ok (.iaload, 1) := by decide +kernel
theorem dX0_lean_114 : decode cX0_lean 114 = .ok (.if_icmp .ge 8, 3) := by decide +kernel
theorem dX0_lean_117 : decode cX0_lean 117 = .ok (.aload_n 0, 1) := by decide +kernel
theorem dX0_lean_118 : decode cX0_lean 118 = .ok (.iload_n 3, 1) := by decide +kernel
theorem dX0_lean_119 : decode cX0_lean 119 = .ok (.putfield 35, 3) := by decide +kernel
theorem dX0_lean_122 : decode cX0_lean 122 = .ok (.iinc 3 1, 3) := by decide +kernel
theorem dX0_lean_125 : decode cX0_lean 125 = .ok (.goto (-97), 3) := by decide +kernel
theorem dX0_lean_128 : decode cX0_lean 128 = .ok (.iconst 0, 1) := by decide +kernel
theorem dX0_lean_129 : decode cX0_lean 129 = .ok (.istore_n 3, 1) := by decide +kernel
theorem dX0_lean_130 : decode cX0_lean 130 = .ok (.iload_n 3, 1) := by decide +kernel
theorem dX0_lean_131 : decode cX0_lean 131 = .ok (.aload_n 0, 1) := by decide +kernel
theorem dX0_lean_132 : decode cX0_lean 132 = .ok (.getfield 44, 3) := by decide +kernel
theorem dX0_lean_135 : decode cX0_lean 135 = .ok (.getfield 56, 3) := by decide +kernel
theorem dX0_lean_138 : decode cX0_lean 138 = .ok (.if_icmp .ge 57, 3) := by decide +kernel
theorem dX0_lean_141 : decode cX0_lean 141 = .ok (.aload_n 0, 1) := by decide +kernel
theorem dX0_lean_142 : decode cX0_lean 142 = .ok (.getfield 29, 3) := by decide +kernel
theorem dX0_lean_145 : decode cX0_lean 145 = .ok (.aload_n 0, 1) := by decide +kernel
theorem dX0_lean_146 : decode cX0_lean 146 = .ok (.getfield 22, 3) := by decide +kernel
theorem dX0_lean_149 : decode cX0_lean 149 = .ok (.iload_n 3, 1) := by decide +kernel
theorem dX0_lean_150 : decode cX0_lean 150 = .ok (.iaload, 1) := by decide +kernel
theorem dX0_lean_151 : decode cX0_lean 151 = .ok (.iaload, 1) := by decide +kernel
theorem dX0_lean_152 : decode cX0_lean 152 = .ok (.istore 4, 2) := by decide +kernel
theorem dX0_lean_154 : decode cX0_lean 154 = .ok (.aload_n 0, 1) := by decide +kernel
theorem dX0_lean_155 : decode cX0_lean 155 = .ok (.getfield 22, 3) := by decide +kernel
theorem dX0_lean_158 : decode cX0_lean 158 = .ok (.iload_n 3, 1) := by decide +kernel
theorem dX0_lean_159 : decode cX0_lean 159 = .ok (.iaload, 1) := by decide +kernel
theorem dX0_lean_160 : decode cX0_lean 160 = .ok (.iload_n 2, 1) := by decide +kernel
theorem dX0_lean_161 : decode cX0_lean 161 = .ok (.invokestatic 113, 3) := by decide +kernel
theorem dX0_lean_164 : decode cX0_lean 164 = .ok (.iconst 2, 1) := by decide +kernel
theorem dX0_lean_165 : decode cX0_lean 165 = .ok (.if_icmp .ge 24, 3) := by decide +kernel
theorem dX0_lean_168 : decode cX0_lean 168 = .ok (.iload 4, 2) := by decide +kernel
theorem dX0_lean_170 : decode cX0_lean 170 = .ok (.ifCond .eq 19, 3) := by decide +kernel
theorem dX0_lean_173 : decode cX0_lean 173 = .ok (.aload_n 0, 1) := by decide +kernel
theorem dX0_lean_174 : decode cX0_lean 174 = .ok (.getfield 32, 3) := by decide +kernel
theorem dX0_lean_177 : decode cX0_lean 177 = .ok (.iload_n 3, 1) := by decide +kernel
theorem dX0_lean_178 : decode cX0_lean 178 = .ok (.iload 4, 2) := by decide +kernel
theorem dX0_lean_180 : decode cX0_lean 180 = .ok (.ifCond .le 7, 3) := by decide +kernel
theorem dX0_lean_183 : decode cX0_lean 183 = .ok (.iconst 0, 1) := by decide +kernel
theorem dX0_lean_184 : decode cX0_lean 184 = .ok (.goto 4, 3) := by decide +kernel
theorem dX0_lean_187 : decode cX0_lean 187 = .ok (.iconst 1, 1) := by decide +kernel
theorem dX0_lean_188 : decode cX0_lean 188 = .ok (.iastore, 1) := by decide +kernel
theorem dX0_lean_189 : decode cX0_lean 189 = .ok (.iinc 3 1, 3) := by decide +kernel
theorem dX0_lean_192 : decode cX0_lean 192 = .ok (.goto (-62), 3) := by decide +kernel
theorem dX0_lean_195 : decode cX0_lean 195 = .ok (.return_, 1) := by decide +kernel
theorem dX0_tally_0 : decode cX0_tally 0 = .ok (.aload_n 0, 1) := by decide +kernel
theorem dX0_tally_1 : decode cX0_tally 1 = .ok (.iconst 0, 1) := by decide +kernel
theorem dX0_tally_2 : decode cX0_tally 2 = .ok (.putfield 38, 3) := by decide +kernel
theorem dX0_tally_5 : decode cX0_tally 5 = .ok (.aload_n 0, 1) := by decide +kernel
theorem dX0_tally_6 : decode cX0_tally 6 = .ok (.iconst 0, 1) := by decide +kernel
theorem dX0_tally_7 : decode cX0_tally 7 = .ok (.putfield 41, 3) := by decide +kernel
theorem dX0_tally_10 : decode cX0_tally 10 = .ok (.iconst 0, 1) := by decide +kernel
theorem dX0_tally_11 : decode cX0_tally 11 = .ok (.istore_n 1, 1) := by decide +kernel
theorem dX0_tally_12 : decode cX0_tally 12 = .ok (.iload_n 1, 1) := by decide +kernel
theorem dX0_tally_13 : decode cX0_tally 13 = .ok (.aload_n 0, 1) := by decide +kernel
theorem dX0_tally_14 : decode cX0_tally 14 = .ok (.getfield 44, 3) := by decide +kernel
theorem dX0_tally_17 : decode cX0_tally 17 = .ok (.getfield 56, 3) := by decide +kernel
theorem dX0_tally_20 : decode cX0_tally 20 = .ok (.if_icmp .ge 79, 3) := by decide +kernel
theorem dX0_tally_23 : decode cX0_tally 23 = .ok (.aload_n 0, 1) := by decide +kernel
theorem dX0_tally_24 : decode cX0_tally 24 = .ok (.getfield 18, 3) := by decide +kernel
theorem dX0_tally_27 : decode cX0_tally 27 = .ok (.ifCond .eq 23, 3) := by decide +kernel
theorem dX0_tally_30 : decode cX0_tally 30 = .ok (.aload_n 0, 1) := by decide +kernel
theorem dX0_tally_31 : decode cX0_tally 31 = .ok (.getfield 44, 3) := by decide +kernel
theorem dX0_tally_34 : decode cX0_tally 34 = .ok (.getfield 117, 3) := by decide +kernel
theorem dX0_tally_37 : decode cX0_tally 37 = .ok (.aload_n 0, 1) := by decide +kernel
theorem dX0_tally_38 : decode cX0_tally 38 = .ok (.getfield 44, 3) := by decide +kernel
theorem dX0_tally_41 : decode cX0_tally 41 = .ok (.getfield 120, 3) := by decide +kernel
theorem dX0_tally_44 : decode cX0_tally 44 = .ok (.iload_n 1, 1) := by decide +kernel
theorem dX0_tally_45 : decode cX0_tally 45 = .ok (.iaload, 1) := by decide +kernel
theorem dX0_tally_46 : decode cX0_tally 46 = .ok (.iaload, 1) := by decide +kernel
theorem dX0_tally_47 : decode cX0_tally 47 = .ok (.goto 4, 3) := by decide +kernel
theorem dX0_tally_50 : decode cX0_tally 50 = .ok (.iconst 1, 1) := by decide +kernel
theorem dX0_tally_51 : decode cX0_tally 51 = .ok (.istore_n 2, 1) := by decide +kernel
theorem dX0_tally_52 : decode cX0_tally 52 = .ok (.aload_n 0, 1) := by decide +kernel
theorem dX0_tally_53 : decode cX0_tally 53 = .ok (.dup, 1) := by decide +kernel
theorem dX0_tally_54 : decode cX0_tally 54 = .ok (.getfield 38, 3) := by decide +kernel
theorem dX0_tally_57 : decode cX0_tally 57 = .ok (.iconst 1, 1) := by decide +kernel
theorem dX0_tally_58 : decode cX0_tally 58 = .ok (.aload_n 0, 1) := by decide +kernel
theorem dX0_tally_59 : decode cX0_tally 59 = .ok (.getfield 32, 3) := by decide +kernel
theorem dX0_tally_62 : decode cX0_tally 62 = .ok (.iload_n 1, 1) := by decide +kernel
theorem dX0_tally_63 : decode cX0_tally 63 = .ok (.iaload, 1) := by decide +kernel
theorem dX0_tally_64 : decode cX0_tally 64 = .ok (.isub, 1) := by decide +kernel
theorem dX0_tally_65 : decode cX0_tally 65 = .ok (.iadd, 1) := by decide +kernel
theorem dX0_tally_66 : decode cX0_tally 66 = .ok (.putfield 38, 3) := by decide +kernel
theorem dX0_tally_69 : decode cX0_tally 69 = .ok (.aload_n 0, 1) := by decide +kernel
theorem dX0_tally_70 : decode cX0_tally 70 = .ok (.dup, 1) := by decide +kernel
theorem dX0_tally_71 : decode cX0_tally 71 = .ok (.getfield 41, 3) := by decide +kernel
theorem dX0_tally_74 : decode cX0_tally 74 = .ok (.aload_n 0, 1) := by decide +kernel
theorem dX0_tally_75 : decode cX0_tally 75 = .ok (.getfield 32, 3) := by decide +kernel
theorem dX0_tally_78 : decode cX0_tally 78 = .ok (.iload_n 1, 1) := by decide +kernel
theorem dX0_tally_79 : decode cX0_tally 79 = .ok (.iaload, 1) := by decide +kernel
theorem dX0_tally_80 : decode cX0_tally 80 = .ok (.ifCond .ne 7, 3) := by decide +kernel
theorem dX0_tally_83 : decode cX0_tally 83 = .ok (.iload_n 2, 1) := by decide +kernel
theorem dX0_tally_84 : decode cX0_tally 84 = .ok (.goto 5, 3) := by decide +kernel
theorem dX0_tally_87 : decode cX0_tally 87 = .ok (.iload_n 2, 1) := by decide +kernel
theorem dX0_tally_88 : decode cX0_tally 88 = .ok (.ineg, 1) := by decide +kernel
theorem dX0_tally_89 : decode cX0_tally 89 = .ok (.iadd, 1) := by decide +kernel
theorem dX0_tally_90 : decode cX0_tally 90 = .ok (.putfield 41, 3) := by decide +kernel
theorem dX0_tally_93 : decode cX0_tally 93 = .ok (.iinc 1 1, 3) := by decide +kernel
theorem dX0_tally_96 : decode cX0_tally 96 = .ok (.goto (-84), 3) := by decide +kernel
theorem dX0_tally_99 : decode cX0_tally 99 = .ok (.aload_n 0, 1) := by decide +kernel
theorem dX0_tally_100 : decode cX0_tally 100 = .ok (.getfield 41, 3) := by decide +kernel
theorem dX0_tally_103 : decode cX0_tally 103 = .ok (.ifCond .ne 19, 3) := by decide +kernel
theorem dX0_tally_106 : decode cX0_tally 106 = .ok (.aload_n 0, 1) := by decide +kernel
theorem dX0_tally_107 : decode cX0_tally 107 = .ok (.getfield 35, 3) := by decide +kernel
theorem dX0_tally_110 : decode cX0_tally 110 = .ok (.ifCond .lt 12, 3) := by decide +kernel
theorem dX0_tally_113 : decode cX0_tally 113 = .ok (.aload_n 0, 1) := by decide +kernel
theorem dX0_tally_114 : decode cX0_tally 114 = .ok (.aload_n 0, 1) := by decide +kernel
theorem dX0_tally_115 : decode cX0_tally 115 = .ok (.getfield 35, 3) := by decide +kernel
theorem dX0_tally_118 : decode cX0_tally 118 = .ok (.invokevirtual 123, 3) := by decide +kernel
theorem dX0_tally_121 : decode cX0_tally 121 = .ok (.ireturn, 1) := by decide +kernel
theorem dX0_tally_122 : decode cX0_tally 122 = .ok (.aload_n 0, 1) := by decide +kernel
theorem dX0_tally_123 : decode cX0_tally 123 = .ok (.getfield 41, 3) := by decide +kernel
theorem dX0_tally_126 : decode cX0_tally 126 = .ok (.ifCond .le 10, 3) := by decide +kernel
theorem dX0_tally_129 : decode cX0_tally 129 = .ok (.aload_n 0, 1) := by decide +kernel
theorem dX0_tally_130 : decode cX0_tally 130 = .ok (.getfield 9, 3) := by decide +kernel
theorem dX0_tally_133 : decode cX0_tally 133 = .ok (.goto 7, 3) := by decide +kernel
theorem dX0_tally_136 : decode cX0_tally 136 = .ok (.aload_n 0, 1) := by decide +kernel
theorem dX0_tally_137 : decode cX0_tally 137 = .ok (.getfield 15, 3) := by decide +kernel
theorem dX0_tally_140 : decode cX0_tally 140 = .ok (.ireturn, 1) := by decide +kernel
theorem dX0_votesFor_0 : decode cX0_votesFor 0 = .ok (.iload_n 1, 1) := by decide +kernel
theorem dX0_votesFor_1 : decode cX0_votesFor 1 = .ok (.ifCond .lt 30, 3) := by decide +kernel
theorem dX0_votesFor_4 : decode cX0_votesFor 4 = .ok (.iload_n 1, 1) := by decide +kernel
theorem dX0_votesFor_5 : decode cX0_votesFor 5 = .ok (.aload_n 0, 1) := by decide +kernel
theorem dX0_votesFor_6 : decode cX0_votesFor 6 = .ok (.getfield 44, 3) := by decide +kernel
theorem dX0_votesFor_9 : decode cX0_votesFor 9 = .ok (.getfield 56, 3) := by decide +kernel
theorem dX0_votesFor_12 : decode cX0_votesFor 12 = .ok (.if_icmp .ge 19, 3) := by decide +kernel
theorem dX0_votesFor_15 : decode cX0_votesFor 15 = .ok (.aload_n 0, 1) := by decide +kernel
theorem dX0_votesFor_16 : decode cX0_votesFor 16 = .ok (.getfield 32, 3) := by decide +kernel
theorem dX0_votesFor_19 : decode cX0_votesFor 19 = .ok (.iload_n 1, 1) := by decide +kernel
theorem dX0_votesFor_20 : decode cX0_votesFor 20 = .ok (.iaload, 1) := by decide +kernel
theorem dX0_votesFor_21 : decode cX0_votesFor 21 = .ok (.ifCond .ne 10, 3) := by decide +kernel
theorem dX0_votesFor_24 : decode cX0_votesFor 24 = .ok (.aload_n 0, 1) := by decide +kernel
theorem dX0_votesFor_25 : decode cX0_votesFor 25 = .ok (.getfield 9, 3) := by decide +kernel
theorem dX0_votesFor_28 : decode cX0_votesFor 28 = .ok (.goto 7, 3) := by decide +kernel
theorem dX0_votesFor_31 : decode cX0_votesFor 31 = .ok (.aload_n 0, 1) := by decide +kernel
theorem dX0_votesFor_32 : decode cX0_votesFor 32 = .ok (.getfield 15, 3) := by decide +kernel
theorem dX0_votesFor_35 : decode cX0_votesFor 35 = .ok (.ireturn, 1) := by decide +kernel
theorem dX1_init_0 : decode cX1_init 0 = .ok (.aload_n 0, 1) := by decide +kernel
theorem dX1_init_1 : decode cX1_init 1 = .ok (.invokespecial 3, 3) := by decide +kernel
theorem dX1_init_4 : decode cX1_init 4 = .ok (.aload_n 0, 1) := by decide +kernel
theorem dX1_init_5 : decode cX1_init 5 = .ok (.iconst 0, 1) := by decide +kernel
theorem dX1_init_6 : decode cX1_init 6 = .ok (.putfield 9, 3) := by decide +kernel
theorem dX1_init_9 : decode cX1_init 9 = .ok (.aload_n 0, 1) := by decide +kernel
theorem dX1_init_10 : decode cX1_init 10 = .ok (.bipush 8, 2) := by decide +kernel
theorem dX1_init_12 : decode cX1_init 12 = .ok (.newarray .int, 2) := by decide +kernel
theorem dX1_init_14 : decode cX1_init 14 = .ok (.putfield 15, 3) := by decide +kernel
theorem dX1_init_17 : decode cX1_init 17 = .ok (.aload_n 0, 1) := by decide +kernel
theorem dX1_init_18 : decode cX1_init 18 = .ok (.bipush 8, 2) := by decide +kernel
theorem dX1_init_20 : decode cX1_init 20 = .ok (.newarray .int, 2) := by decide +kernel
theorem dX1_init_22 : decode cX1_init 22 = .ok (.putfield 19, 3) := by decide +kernel
theorem dX1_init_25 : decode cX1_init 25 = .ok (.aload_n 0, 1) := by decide +kernel
theorem dX1_init_26 : decode cX1_init 26 = .ok (.bipush 8, 2) := by decide +kernel
theorem dX1_init_28 : decode cX1_init 28 = .ok (.newarray .int, 2) := by decide +kernel
theorem dX1_init_30 : decode cX1_init 30 = .ok (.putfield 22, 3) := by decide +kernel
theorem dX1_init_33 : decode cX1_init 33 = .ok (.return_, 1) := by decide +kernel
theorem dX1_add_0 : decode cX1_add 0 = .ok (.aload_n 0, 1) := by decide +kernel
theorem dX1_add_1 : decode cX1_add 1 = .ok (.getfield 9, 3) := by decide +kernel
theorem dX1_add_4 : decode cX1_add 4 = .ok (.bipush 8, 2) := by decide +kernel
theorem dX1_add_6 : decode cX1_add 6 = .ok (.if_icmp .lt 5, 3) := by decide +kernel
theorem dX1_add_9 : decode cX1_add 9 = .ok (.iconst 0, 1) := by decide +kernel
theorem dX1_add_10 : decode cX1_add 10 = .ok (.ireturn, 1) := by decide +kernel
theorem dX1_add_11 : decode cX1_add 11 = .ok (.aload_n 0, 1) := by decide +kernel
theorem dX1_add_12 : decode cX1_add 12 = .ok (.getfield 15, 3) := by decide +kernel
theorem dX1_add_15 : decode cX1_add 15 = .ok (.aload_n 0, 1) := by decide +kernel
theorem dX1_add_16 : decode cX1_add 16 = .ok (.getfield 9, 3) := by decide +kernel
theorem dX1_add_19 : decode cX1_add 19 = .ok (.iload_n 1, 1) := by decide +kernel
theorem dX1_add_20 : decode cX1_add 20 = .ok (.iastore, 1) := by decide +kernel
theorem dX1_add_21 : decode cX1_add 21 = .ok (.aload_n 0, 1) := by decide +kernel
theorem dX1_add_22 : decode cX1_add 22 = .ok (.getfield 19, 3) := by decide +kernel
theorem dX1_add_25 : decode cX1_add 25 = .ok (.aload_n 0, 1) := by decide +kernel
theorem dX1_add_26 : decode cX1_add 26 = .ok (.getfield 9, 3) := by decide +kernel
theorem dX1_add_29 : decode cX1_add 29 = .ok (.iload_n 2, 1) := by decide +kernel
theorem dX1_add_30 : decode cX1_add 30 = .ok (.iastore, 1) := by decide +kernel
theorem dX1_add_31 : decode cX1_add 31 = .ok (.aload_n 0, 1) := by decide +kernel
theorem dX1_add_32 : decode cX1_add 32 = .ok (.getfield 22, 3) := by decide +kernel
theorem dX1_add_35 : decode cX1_add 35 = .ok (.aload_n 0, 1) := by decide +kernel
theorem dX1_add_36 : decode cX1_add 36 = .ok (.getfield 9, 3) := by decide +kernel
theorem dX1_add_39 : decode cX1_add 39 = .ok (.iload_n 3, 1) := by decide +kernel
theorem dX1_add_40 : decode cX1_add 40 = .ok (.iastore, 1) := by decide +kernel
theorem dX1_add_41 : decode cX1_add 41 = .ok (.aload_n 0, 1) := by decide +kernel
theorem dX1_add_42 : decode cX1_add 42 = .ok (.dup, 1) := by decide +kernel
theorem dX1_add_43 : decode cX1_add 43 = .ok (.getfield 9, 3) := by decide +kernel
theorem dX1_add_46 : decode cX1_add 46 = .ok (.iconst 1, 1) := by decide +kernel
theorem dX1_add_47 : decode cX1_add 47 = .ok (.iadd, 1) := by decide +kernel
theorem dX1_add_48 : decode cX1_add 48 = .ok (.putfield 9, 3) := by decide +kernel
theorem dX1_add_51 : decode cX1_add 51 = .ok (.iconst 1, 1) := by decide +kernel
theorem dX1_add_52 : decode cX1_add 52 = .ok (.ireturn, 1) := by decide +kernel
theorem dX2_init_0 : decode cX2_init 0 = .ok (.aload_n 0, 1) := by decide +kernel
theorem dX2_init_1 : decode cX2_init 1 = .ok (.invokespecial 3, 3) := by decide +kernel
theorem dX2_init_4 : decode cX2_init 4 = .ok (.aload_n 0, 1) := by decide +kernel
theorem dX2_init_5 : decode cX2_init 5 = .ok (.iconst 0, 1) := by decide +kernel
theorem dX2_init_6 : decode cX2_init 6 = .ok (.putfield 9, 3) := by decide +kernel
theorem dX2_init_9 : decode cX2_init 9 = .ok (.aload_n 0, 1) := by decide +kernel
theorem dX2_init_10 : decode cX2_init 10 = .ok (.bipush 6, 2) := by decide +kernel
theorem dX2_init_12 : decode cX2_init 12 = .ok (.newarray .int, 2) := by decide +kernel
theorem dX2_init_14 : decode cX2_init 14 = .ok (.putfield 15, 3) := by decide +kernel
theorem dX2_init_17 : decode cX2_init 17 = .ok (.return_, 1) := by decide +kernel
theorem dX2_add_0 : decode cX2_add 0 = .ok (.aload_n 0, 1) := by decide +kernel
theorem dX2_add_1 : decode cX2_add 1 = .ok (.getfield 9, 3) := by decide +kernel
theorem dX2_add_4 : decode cX2_add 4 = .ok (.bipush 6, 2) := by decide +kernel
theorem dX2_add_6 : decode cX2_add 6 = .ok (.if_icmp .lt 5, 3) := by decide +kernel
theorem dX2_add_9 : decode cX2_add 9 = .ok (.iconst 0, 1) := by decide +kernel
theorem dX2_add_10 : decode cX2_add 10 = .ok (.ireturn, 1) := by decide +kernel
theorem dX2_add_11 : decode cX2_add 11 = .ok (.aload_n 0, 1) := by decide +kernel
theorem dX2_add_12 : decode cX2_add 12 = .ok (.getfield 15, 3) := by decide +kernel
theorem dX2_add_15 : decode cX2_add 15 = .ok (.aload_n 0, 1) := by decide +kernel
theorem dX2_add_16 : decode cX2_add 16 = .ok (.dup, 1) := by decide +kernel
theorem dX2_add_17 : decode cX2_add 17 = .ok (.getfield 9, 3) := by decide +kernel
theorem dX2_add_20 : decode cX2_add 20 = .ok (.dup_x1, 1) := by decide +kernel
theorem dX2_add_21 : decode cX2_add 21 = .ok (.iconst 1, 1) := by decide +kernel
theorem dX2_add_22 : decode cX2_add 22 = .ok (.iadd, 1) := by decide +kernel
theorem dX2_add_23 : decode cX2_add 23 = .ok (.putfield 9, 3) := by decide +kernel
theorem dX2_add_26 : decode cX2_add 26 = .ok (.iload_n 1, 1) := by decide +kernel
theorem dX2_add_27 : decode cX2_add 27 = .ok (.iastore, 1) := by decide +kernel
theorem dX2_add_28 : decode cX2_add 28 = .ok (.iconst 1, 1) := by decide +kernel
theorem dX2_add_29 : decode cX2_add 29 = .ok (.ireturn, 1) := by decide +kernel
theorem dX2_has_0 : decode cX2_has 0 = .ok (.iconst 0, 1) := by decide +kernel
theorem dX2_has_1 : decode cX2_has 1 = .ok (.istore_n 2, 1) := by decide +kernel
theorem dX2_has_2 : decode cX2_has 2 = .ok (.iload_n 2, 1) := by decide +kernel
theorem dX2_has_3 : decode cX2_has 3 = .ok (.aload_n 0, 1) := by decide +kernel
theorem dX2_has_4 : decode cX2_has 4 = .ok (.getfield 9, 3) := by decide +kernel
theorem dX2_has_7 : decode cX2_has 7 = .ok (.if_icmp .ge 21, 3) := by decide +kernel
theorem dX2_has_10 : decode cX2_has 10 = .ok (.aload_n 0, 1) := by decide +kernel
theorem dX2_has_11 : decode cX2_has 11 = .ok (.getfield 15, 3) := by decide +kernel
theorem dX2_has_14 : decode cX2_has 14 = .ok (.iload_n 2, 1) := by decide +kernel
theorem dX2_has_15 : decode cX2_has 15 = .ok (.iaload, 1) := by decide +kernel
theorem dX2_has_16 : decode cX2_has 16 = .ok (.iload_n 1, 1) := by decide +kernel
theorem dX2_has_17 : decode cX2_has 17 = .ok (.if_icmp .ne 5, 3) := by decide +kernel
theorem dX2_has_20 : decode cX2_has 20 = .ok (.iconst 1, 1) := by decide +kernel
theorem dX2_has_21 : decode cX2_has 21 = .ok (.ireturn, 1) := by decide +kernel
theorem dX2_has_22 : decode cX2_has 22 = .ok (.iinc 2 1, 3) := by decide +kernel
theorem dX2_has_25 : decode cX2_has 25 = .ok (.goto (-23), 3) := by decide +kernel
theorem dX2_has_28 : decode cX2_has 28 = .ok (.iconst 0, 1) := by decide +kernel
theorem dX2_has_29 : decode cX2_has 29 = .ok (.ireturn, 1) := by decide +kernel
theorem dX3_init_0 : decode cX3_init 0 = .ok (.aload_n 0, 1) := by decide +kernel
theorem dX3_init_1 : decode cX3_init 1 = .ok (.invokespecial 3, 3) := by decide +kernel
theorem dX3_init_4 : decode cX3_init 4 = .ok (.aload_n 0, 1) := by decide +kernel
theorem dX3_init_5 : decode cX3_init 5 = .ok (.iconst 0, 1) := by decide +kernel
theorem dX3_init_6 : decode cX3_init 6 = .ok (.putfield 9, 3) := by decide +kernel
theorem dX3_init_9 : decode cX3_init 9 = .ok (.aload_n 0, 1) := by decide +kernel
theorem dX3_init_10 : decode cX3_init 10 = .ok (.iconst (-1), 1) := by decide +kernel
theorem dX3_init_11 : decode cX3_init 11 = .ok (.putfield 15, 3) := by decide +kernel
theorem dX3_init_14 : decode cX3_init 14 = .ok (.aload_n 0, 1) := by decide +kernel
theorem dX3_init_15 : decode cX3_init 15 = .ok (.bipush 10, 2) := by decide +kernel
theorem dX3_init_17 : decode cX3_init 17 = .ok (.newarray .int, 2) := by decide +kernel
theorem dX3_init_19 : decode cX3_init 19 = .ok (.putfield 18, 3) := by decide +kernel
theorem dX3_init_22 : decode cX3_init 22 = .ok (.aload_n 0, 1) := by decide +kernel
theorem dX3_init_23 : decode cX3_init 23 = .ok (.bipush 10, 2) := by decide +kernel
theorem dX3_init_25 : decode cX3_init 25 = .ok (.newarray .int, 2) := by decide +kernel
theorem dX3_init_27 : decode cX3_init 27 = .ok (.putfield 22, 3) := by decide +kernel
theorem dX3_init_30 : decode cX3_init 30 = .ok (.aload_n 0, 1) := by decide +kernel
theorem dX3_init_31 : decode cX3_init 31 = .ok (.bipush 10, 2) := by decide +kernel
theorem dX3_init_33 : decode cX3_init 33 = .ok (.newarray .int, 2) := by decide +kernel
theorem dX3_init_35 : decode cX3_init 35 = .ok (.putfield 25, 3) := by decide +kernel
theorem dX3_init_38 : decode cX3_init 38 = .ok (.return_, 1) := by decide +kernel
theorem dX3_take_0 : decode cX3_take 0 = .ok (.aload_n 0, 1) := by decide +kernel
theorem dX3_take_1 : decode cX3_take 1 = .ok (.aload_n 1, 1) := by decide +kernel
theorem dX3_take_2 : decode cX3_take 2 = .ok (.invokestatic 28, 3) := by decide +kernel
theorem dX3_take_5 : decode cX3_take 5 = .ok (.putfield 15, 3) := by decide +kernel
theorem dX3_take_8 : decode cX3_take 8 = .ok (.aload_n 0, 1) := by decide +kernel
theorem dX3_take_9 : decode cX3_take 9 = .ok (.iconst 0, 1) := by decide +kernel
theorem dX3_take_10 : decode cX3_take 10 = .ok (.putfield 9, 3) := by decide +kernel
theorem dX3_take_13 : decode cX3_take 13 = .ok (.aload_n 0, 1) := by decide +kernel
theorem dX3_take_14 : decode cX3_take 14 = .ok (.getfield 15, 3) := by decide +kernel
theorem dX3_take_17 : decode cX3_take 17 = .ok (.iconst (-1), 1) := by decide +kernel
theorem dX3_take_18 : decode cX3_take 18 = .ok (.if_icmp .eq 4, 3) := by decide +kernel
theorem dX3_take_21 : decode cX3_take 21 = .ok (.return_, 1) := by decide +kernel
theorem dX3_take_22 : decode cX3_take 22 = .ok (.iconst 0, 1) := by decide +kernel
theorem dX3_take_23 : decode cX3_take 23 = .ok (.istore_n 2, 1) := by decide +kernel
theorem dX3_take_24 : decode cX3_take 24 = .ok (.iload_n 2, 1) := by decide +kernel
theorem dX3_take_25 : decode cX3_take 25 = .ok (.aload_n 1, 1) := by decide +kernel
theorem dX3_take_26 : decode cX3_take 26 = .ok (.getfield 32, 3) := by decide +kernel
theorem dX3_take_29 : decode cX3_take 29 = .ok (.if_icmp .ge 83, 3) := by decide +kernel
theorem dX3_take_32 : decode cX3_take 32 = .ok (.aload_n 0, 1) := by decide +kernel
theorem dX3_take_33 : decode cX3_take 33 = .ok (.getfield 9, 3) := by decide +kernel
theorem dX3_take_36 : decode cX3_take 36 = .ok (.bipush 10, 2) := by decide +kernel
theorem dX3_take_38 : decode cX3_take 38 = .ok (.if_icmp .ge 74, 3) := by decide +kernel
theorem dX3_take_41 : decode cX3_take 41 = .ok (.aload_n 0, 1) := by decide +kernel
theorem dX3_take_42 : decode cX3_take 42 = .ok (.getfield 18, 3) := by decide +kernel
theorem dX3_take_45 : decode cX3_take 45 = .ok (.aload_n 0, 1) := by decide +kernel
theorem dX3_take_46 : decode cX3_take 46 = .ok (.getfield 9, 3) := by decide +kernel
theorem dX3_take_49 : decode cX3_take 49 = .ok (.aload_n 1, 1) := by decide +kernel
theorem dX3_take_50 : decode cX3_take 50 = .ok (.iload_n 2, 1) := by decide +kernel
theorem dX3_take_51 : decode cX3_take 51 = .ok (.invokevirtual 35, 3) := by decide +kernel
theorem dX3_take_54 : decode cX3_take 54 = .ok (.bipush 97, 2) := by decide +kernel
theorem dX3_take_56 : decode cX3_take 56 = .ok (.isub, 1) := by decide +kernel
theorem dX3_take_57 : decode cX3_take 57 = .ok (.iastore, 1) := by decide +kernel
theorem dX3_take_58 : decode cX3_take 58 = .ok (.aload_n 0, 1) := by decide +kernel
theorem dX3_take_59 : decode cX3_take 59 = .ok (.getfield 22, 3) := by decide +kernel
theorem dX3_take_62 : decode cX3_take 62 = .ok (.aload_n 0, 1) := by decide +kernel
theorem dX3_take_63 : decode cX3_take 63 = .ok (.getfield 9, 3) := by decide +kernel
theorem dX3_take_66 : decode cX3_take 66 = .ok (.aload_n 1, 1) := by decide +kernel
theorem dX3_take_67 : decode cX3_take 67 = .ok (.iload_n 2, 1) := by decide +kernel
theorem dX3_take_68 : decode cX3_take 68 = .ok (.iconst 1, 1) := by decide +kernel
theorem dX3_take_69 : decode cX3_take 69 = .ok (.iadd, 1) := by decide +kernel
theorem dX3_take_70 : decode cX3_take 70 = .ok (.invokevirtual 35, 3) := by decide +kernel
theorem dX3_take_73 : decode cX3_take 73 = .ok (.bipush 97, 2) := by decide +kernel
theorem dX3_take_75 : decode cX3_take 75 = .ok (.isub, 1) := by decide +kernel
theorem dX3_take_76 : decode cX3_take 76 = .ok (.iastore, 1) := by decide +kernel
theorem dX3_take_77 : decode cX3_take 77 = .ok (.aload_n 0, 1) := by decide +kernel
theorem dX3_take_78 : decode cX3_take 78 = .ok (.getfield 25, 3) := by decide +kernel
theorem dX3_take_81 : decode cX3_take 81 = .ok (.aload_n 0, 1) := by decide +kernel
theorem dX3_take_82 : decode cX3_take 82 = .ok (.getfield 9, 3) := by decide +kernel
theorem dX3_take_85 : decode cX3_take 85 = .ok (.aload_n 1, 1) := by decide +kernel
theorem dX3_take_86 : decode cX3_take 86 = .ok (.iload_n 2, 1) := by decide +kernel
theorem dX3_take_87 : decode cX3_take 87 = .ok (.iconst 2, 1) := by decide +kernel
theorem dX3_take_88 : decode cX3_take 88 = .ok (.iadd, 1) := by decide +kernel
theorem dX3_take_89 : decode cX3_take 89 = .ok (.invokevirtual 35, 3) := by decide +kernel
theorem dX3_take_92 : decode cX3_take 92 = .ok (.bipush 48, 2) := by decide +kernel
theorem dX3_take_94 : decode cX3_take 94 = .ok (.isub, 1) := by decide +kernel
theorem dX3_take_95 : decode cX3_take 95 = .ok (.iastore, 1) := by decide +kernel
theorem dX3_take_96 : decode cX3_take 96 = .ok (.aload_n 0, 1) := by decide +kernel
theorem dX3_take_97 : decode cX3_take 97 = .ok (.dup, 1) := by decide +kernel
theorem dX3_take_98 : decode cX3_take 98 = .ok (.getfield 9, 3) := by decide +kernel
theorem dX3_take_101 : decode cX3_take 101 = .ok (.iconst 1, 1) := by decide +kernel
theorem dX3_take_102 : decode cX3_take 102 = .ok (.iadd, 1) := by decide +kernel
theorem dX3_take_103 : decode cX3_take 103 = .ok (.putfield 9, 3) := by decide +kernel
theorem dX3_take_106 : decode cX3_take 106 = .ok (.iinc 2 3, 3) := by decide +kernel
theorem dX3_take_109 : decode cX3_take 109 = .ok (.goto (-85), 3) := by decide +kernel
theorem dX3_take_112 : decode cX3_take 112 = .ok (.return_, 1) := by decide +kernel
theorem dX3_findFault_0 : decode cX3_findFault 0 = .ok (.iconst 0, 1) := by decide +kernel
theorem dX3_findFault_1 : decode cX3_findFault 1 = .ok (.istore_n 1, 1) := by decide +kernel
theorem dX3_findFault_2 : decode cX3_findFault 2 = .ok (.iload_n 1, 1) := by decide +kernel
theorem dX3_findFault_3 : decode cX3_findFault 3 = .ok (.aload_n 0, 1) := by decide +kernel
theorem dX3_findFault_4 : decode cX3_findFault 4 = .ok (.getfield 32, 3) := by decide +kernel
theorem dX3_findFault_7 : decode cX3_findFault 7 = .ok (.if_icmp .ge 19, 3) := by decide +kernel
theorem dX3_findFault_10 : decode cX3_findFault 10 = .ok (.aload_n 0, 1) := by decide +kernel
theorem dX3_findFault_11 : decode cX3_findFault 11 = .ok (.iload_n 1, 1) := by decide +kernel
theorem dX3_findFault_12 : decode cX3_findFault 12 = .ok (.invokestatic 39, 3) := by decide +kernel
theorem dX3_findFault_15 : decode cX3_findFault 15 = .ok (.ifCond .ne 5, 3) := by decide +kernel
theorem dX3_findFault_18 : decode cX3_findFault 18 = .ok (.iload_n 1, 1) := by decide +kernel
theorem dX3_findFault_19 : decode cX3_findFault 19 = .ok (.ireturn, 1) := by decide +kernel
theorem dX3_findFault_20 : decode cX3_findFault 20 = .ok (.iinc 1 1, 3) := by decide +kernel
theorem dX3_findFault_23 : decode cX3_findFault 23 = .ok (.goto (-21), 3) := by decide +kernel
theorem dX3_findFault_26 : decode cX3_findFault 26 = .ok (.aload_n 0, 1) := by decide +kernel
theorem dX3_findFault_27 : decode cX3_findFault 27 = .ok (.getfield 32, 3) := by decide +kernel
theorem dX3_findFault_30 : decode cX3_findFault 30 = .ok (.iconst 3, 1) := by decide +kernel
theorem dX3_findFault_31 : decode cX3_findFault 31 = .ok (.irem, 1) := by decide +kernel
theorem dX3_findFault_32 : decode cX3_findFault 32 = .ok (.ifCond .ne 7, 3) := by decide +kernel
theorem dX3_findFault_35 : decode cX3_findFault 35 = .ok (.iconst (-1), 1) := by decide +kernel
theorem dX3_findFault_36 : decode cX3_findFault 36 = .ok (.goto 7, 3) := by decide +kernel
theorem dX3_findFault_39 : decode cX3_findFault 39 = .ok (.aload_n 0, 1) := by decide +kernel
theorem dX3_findFault_40 : decode cX3_findFault 40 = .ok (.getfield 32, 3) := by decide +kernel
theorem dX3_findFault_43 : decode cX3_findFault 43 = .ok (.ireturn, 1) := by decide +kernel
theorem dX3_fits_0 : decode cX3_fits 0 = .ok (.aload_n 0, 1) := by decide +kernel
theorem dX3_fits_1 : decode cX3_fits 1 = .ok (.iload_n 1, 1) := by decide +kernel
theorem dX3_fits_2 : decode cX3_fits 2 = .ok (.invokevirtual 35, 3) := by decide +kernel
theorem dX3_fits_5 : decode cX3_fits 5 = .ok (.istore_n 2, 1) := by decide +kernel
theorem dX3_fits_6 : decode cX3_fits 6 = .ok (.iload_n 1, 1) := by decide +kernel
theorem dX3_fits_7 : decode cX3_fits 7 = .ok (.iconst 3, 1) := by decide +kernel
theorem dX3_fits_8 : decode cX3_fits 8 = .ok (.irem, 1) := by decide +kernel
theorem dX3_fits_9 : decode cX3_fits 9 = .ok (.lookupswitch 58 #[(0, 27), (1, 33)], 27) := by decide +kernel
theorem dX3_fits_36 : decode cX3_fits 36 = .ok (.aload_n 0, 1) := by decide +kernel
theorem dX3_fits_37 : decode cX3_fits 37 = .ok (.iload_n 1, 1) := by decide +kernel
theorem dX3_fits_38 : decode cX3_fits 38 = .ok (.invokevirtual 43, 3) := by decide +kernel
theorem dX3_fits_41 : decode cX3_fits 41 = .ok (.ireturn, 1) := by decide +kernel
theorem dX3_fits_42 : decode cX3_fits 42 = .ok (.aload_n 0, 1) := by decide +kernel
theorem dX3_fits_43 : decode cX3_fits 43 = .ok (.iload_n 1, 1) := by decide +kernel
theorem dX3_fits_44 : decode cX3_fits 44 = .ok (.invokevirtual 43, 3) := by decide +kernel
theorem dX3_fits_47 : decode cX3_fits 47 = .ok (.ifCond .eq 18, 3) := by decide +kernel
theorem dX3_fits_50 : decode cX3_fits 50 = .ok (.iload_n 2, 1) := by decide +kernel
theorem dX3_fits_51 : decode cX3_fits 51 = .ok (.aload_n 0, 1) := by decide +kernel
theorem dX3_fits_52 : decode cX3_fits 52 = .ok (.iload_n 1, 1) := by decide +kernel
theorem dX3_fits_53 : decode cX3_fits 53 = .ok (.iconst 1, 1) := by decide +kernel
theorem dX3_fits_54 : decode cX3_fits 54 = .ok (.isub, 1) := by decide +kernel
theorem dX3_fits_55 : decode cX3_fits 55 = .ok (.invokevirtual 35, 3) := by decide +kernel
theorem dX3_fits_58 : decode cX3_fits 58 = .ok (.if_icmp .eq 7, 3) := by decide +kernel
theorem dX3_fits_61 : decode cX3_fits 61 = .ok (.iconst 1, 1) := by decide +kernel
theorem dX3_fits_62 : decode cX3_fits 62 = .ok (.goto 4, 3) := by decide +kernel
theorem dX3_fits_65 : decode cX3_fits 65 = .ok (.iconst 0, 1) := by decide +kernel
theorem dX3_fits_66 : decode cX3_fits 66 = .ok (.ireturn, 1) := by decide +kernel
theorem dX3_fits_67 : decode cX3_fits 67 = .ok (.iload_n 2, 1) := by decide +kernel
theorem dX3_fits_68 : decode cX3_fits 68 = .ok (.bipush 49, 2) := by decide +kernel
theorem dX3_fits_70 : decode cX3_fits 70 = .ok (.if_icmp .eq 9, 3) := by decide +kernel
theorem dX3_fits_73 : decode cX3_fits 73 = .ok (.iload_n 2, 1) := by decide +kernel
theorem dX3_fits_74 : decode cX3_fits 74 = .ok (.bipush 50, 2) := by decide +kernel
theorem dX3_fits_76 : decode cX3_fits 76 = .ok (.if_icmp .ne 7, 3) := by decide +kernel
theorem dX3_fits_79 : decode cX3_fits 79 = .ok (.iconst 1, 1) := by decide +kernel
theorem dX3_fits_80 : decode cX3_fits 80 = .ok (.goto 4, 3) := by decide +kernel
theorem dX3_fits_83 : decode cX3_fits 83 = .ok (.iconst 0, 1) := by decide +kernel
theorem dX3_fits_84 : decode cX3_fits 84 = .ok (.ireturn, 1) := by decide +kernel
theorem dX4_init_0 : decode cX4_init 0 = .ok (.aload_n 0, 1) := by decide +kernel
theorem dX4_init_1 : decode cX4_init 1 = .ok (.invokespecial 3, 3) := by decide +kernel
theorem dX4_init_4 : decode cX4_init 4 = .ok (.aload_n 0, 1) := by decide +kernel
theorem dX4_init_5 : decode cX4_init 5 = .ok (.iconst 0, 1) := by decide +kernel
theorem dX4_init_6 : decode cX4_init 6 = .ok (.putfield 9, 3) := by decide +kernel
theorem dX4_init_9 : decode cX4_init 9 = .ok (.aload_n 0, 1) := by decide +kernel
theorem dX4_init_10 : decode cX4_init 10 = .ok (.iconst (-1), 1) := by decide +kernel
theorem dX4_init_11 : decode cX4_init 11 = .ok (.putfield 15, 3) := by decide +kernel
theorem dX4_init_14 : decode cX4_init 14 = .ok (.aload_n 0, 1) := by decide +kernel
theorem dX4_init_15 : decode cX4_init 15 = .ok (.bipush 8, 2) := by decide +kernel
theorem dX4_init_17 : decode cX4_init 17 = .ok (.newarray .int, 2) := by decide +kernel
theorem dX4_init_19 : decode cX4_init 19 = .ok (.putfield 18, 3) := by decide +kernel
theorem dX4_init_22 : decode cX4_init 22 = .ok (.aload_n 0, 1) := by decide +kernel
theorem dX4_init_23 : decode cX4_init 23 = .ok (.bipush 8, 2) := by decide +kernel
theorem dX4_init_25 : decode cX4_init 25 = .ok (.newarray .int, 2) := by decide +kernel
theorem dX4_init_27 : decode cX4_init 27 = .ok (.putfield 22, 3) := by decide +kernel
theorem dX4_init_30 : decode cX4_init 30 = .ok (.aload_n 0, 1) := by decide +kernel
theorem dX4_init_31 : decode cX4_init 31 = .ok (.bipush 8, 2) := by decide +kernel
theorem dX4_init_33 : decode cX4_init 33 = .ok (.newarray .int, 2) := by decide +kernel
theorem dX4_init_35 : decode cX4_init 35 = .ok (.putfield 25, 3) := by decide +kernel
theorem dX4_init_38 : decode cX4_init 38 = .ok (.aload_n 0, 1) := by decide +kernel
theorem dX4_init_39 : decode cX4_init 39 = .ok (.iconst 3, 1) := by decide +kernel
theorem dX4_init_40 : decode cX4_init 40 = .ok (.newarray .int, 2) := by decide +kernel
theorem dX4_init_42 : decode cX4_init 42 = .ok (.dup, 1) := by decide +kernel
theorem dX4_init_43 : decode cX4_init 43 = .ok (.iconst 0, 1) := by decide +kernel
theorem dX4_init_44 : decode cX4_init 44 = .ok (.iconst 3, 1) := by decide +kernel
theorem dX4_init_45 : decode cX4_init 45 = .ok (.iastore, 1) := by decide +kernel
theorem dX4_init_46 : decode cX4_init 46 = .ok (.dup, 1) := by decide +kernel
theorem dX4_init_47 : decode cX4_init 47 = .ok (.iconst 1, 1) := by decide +kernel
theorem dX4_init_48 : decode cX4_init 48 = .ok (.iconst 2, 1) := by decide +kernel
theorem dX4_init_49 : decode cX4_init 49 = .ok (.iastore, 1) := by decide +kernel
theorem dX4_init_50 : decode cX4_init 50 = .ok (.dup, 1) := by decide +kernel
theorem dX4_init_51 : decode cX4_init 51 = .ok (.iconst 2, 1) := by decide +kernel
theorem dX4_init_52 : decode cX4_init 52 = .ok (.iconst 1, 1) := by decide +kernel
theorem dX4_init_53 : decode cX4_init 53 = .ok (.iastore, 1) := by decide +kernel
theorem dX4_init_54 : decode cX4_init 54 = .ok (.putfield 28, 3) := by decide +kernel
theorem dX4_init_57 : decode cX4_init 57 = .ok (.return_, 1) := by decide +kernel
theorem dX4_take_0 : decode cX4_take 0 = .ok (.aload_n 0, 1) := by decide +kernel
theorem dX4_take_1 : decode cX4_take 1 = .ok (.aload_n 1, 1) := by decide +kernel
theorem dX4_take_2 : decode cX4_take 2 = .ok (.invokestatic 31, 3) := by decide +kernel
theorem dX4_take_5 : decode cX4_take 5 = .ok (.putfield 15, 3) := by decide +kernel
theorem dX4_take_8 : decode cX4_take 8 = .ok (.aload_n 0, 1) := by decide +kernel
theorem dX4_take_9 : decode cX4_take 9 = .ok (.iconst 0, 1) := by decide +kernel
theorem dX4_take_10 : decode cX4_take 10 = .ok (.putfield 9, 3) := by decide +kernel
theorem dX4_take_13 : decode cX4_take 13 = .ok (.aload_n 0, 1) := by decide +kernel
theorem dX4_take_14 : decode cX4_take 14 = .ok (.getfield 15, 3) := by decide +kernel
theorem dX4_take_17 : decode cX4_take 17 = .ok (.iconst (-1), 1) := by decide +kernel
theorem dX4_take_18 : decode cX4_take 18 = .ok (.if_icmp .eq 4, 3) := by decide +kernel
theorem dX4_take_21 : decode cX4_take 21 = .ok (.return_, 1) := by decide +kernel
theorem dX4_take_22 : decode cX4_take 22 = .ok (.iconst 0, 1) := by decide +kernel
theorem dX4_take_23 : decode cX4_take 23 = .ok (.istore_n 2, 1) := by decide +kernel
theorem dX4_take_24 : decode cX4_take 24 = .ok (.iload_n 2, 1) := by decide +kernel
theorem dX4_take_25 : decode cX4_take 25 = .ok (.aload_n 1, 1) := by decide +kernel
theorem dX4_take_26 : decode cX4_take 26 = .ok (.getfield 35, 3) := by decide +kernel
theorem dX4_take_29 : decode cX4_take 29 = .ok (.if_icmp .ge 114, 3) := by decide +kernel
theorem dX4_take_32 : decode cX4_take 32 = .ok (.aload_n 0, 1) := by decide +kernel
theorem dX4_take_33 : decode cX4_take 33 = .ok (.getfield 9, 3) := by decide +kernel
theorem dX4_take_36 : decode cX4_take 36 = .ok (.bipush 8, 2) := by decide +kernel
theorem dX4_take_38 : decode cX4_take 38 = .ok (.if_icmp .ge 105, 3) := by decide +kernel
theorem dX4_take_41 : decode cX4_take 41 = .ok (.aload_n 0, 1) := by decide +kernel
theorem dX4_take_42 : decode cX4_take 42 = .ok (.getfield 18, 3) := by decide +kernel
theorem dX4_take_45 : decode cX4_take 45 = .ok (.aload_n 0, 1) := by decide +kernel
theorem dX4_take_46 : decode cX4_take 46 = .ok (.getfield 9, 3) := by decide +kernel
theorem dX4_take_49 : decode cX4_take 49 = .ok (.aload_n 1, 1) := by decide +kernel
theorem dX4_take_50 : decode cX4_take 50 = .ok (.iload_n 2, 1) := by decide +kernel
theorem dX4_take_51 : decode cX4_take 51 = .ok (.invokevirtual 38, 3) := by decide +kernel
theorem dX4_take_54 : decode cX4_take 54 = .ok (.invokestatic 42, 3) := by decide +kernel
theorem dX4_take_57 : decode cX4_take 57 = .ok (.iastore, 1) := by decide +kernel
theorem dX4_take_58 : decode cX4_take 58 = .ok (.aload_n 0, 1) := by decide +kernel
theorem dX4_take_59 : decode cX4_take 59 = .ok (.getfield 22, 3) := by decide +kernel
theorem dX4_take_62 : decode cX4_take 62 = .ok (.aload_n 0, 1) := by decide +kernel
theorem dX4_take_63 : decode cX4_take 63 = .ok (.getfield 9, 3) := by decide +kernel
theorem dX4_take_66 : decode cX4_take 66 = .ok (.aload_n 1, 1) := by decide +kernel
theorem dX4_take_67 : decode cX4_take 67 = .ok (.iload_n 2, 1) := by decide +kernel
theorem dX4_take_68 : decode cX4_take 68 = .ok (.iconst 1, 1) := by decide +kernel
theorem dX4_take_69 : decode cX4_take 69 = .ok (.iadd, 1) := by decide +kernel
theorem dX4_take_70 : decode cX4_take 70 = .ok (.invokevirtual 38, 3) := by decide +kernel
theorem dX4_take_73 : decode cX4_take 73 = .ok (.bipush 48, 2) := by decide +kernel
theorem dX4_take_75 : decode cX4_take 75 = .ok (.isub, 1) := by decide +kernel
theorem dX4_take_76 : decode cX4_take 76 = .ok (.iastore, 1) := by decide +kernel
theorem dX4_take_77 : decode cX4_take 77 = .ok (.aload_n 1, 1) := by decide +kernel
theorem dX4_take_78 : decode cX4_take 78 = .ok (.iload_n 2, 1) := by decide +kernel
theorem dX4_take_79 : decode cX4_take 79 = .ok (.iconst 3, 1) := by decide +kernel
theorem dX4_take_80 : decode cX4_take 80 = .ok (.iadd, 1) := by decide +kernel
theorem dX4_take_81 : decode cX4_take 81 = .ok (.invokevirtual 38, 3) := by decide +kernel
theorem dX4_take_84 : decode cX4_take 84 = .ok (.istore_n 3, 1) := by decide +kernel
theorem dX4_take_85 : decode cX4_take 85 = .ok (.aload_n 1, 1) := by decide +kernel
theorem dX4_take_86 : decode cX4_take 86 = .ok (.iload_n 2, 1) := by decide +kernel
theorem dX4_take_87 : decode cX4_take 87 = .ok (.iconst 4, 1) := by decide +kernel
theorem dX4_take_88 : decode cX4_take 88 = .ok (.iadd, 1) := by decide +kernel
theorem dX4_take_89 : decode cX4_take 89 = .ok (.invokevirtual 38, 3) := by decide +kernel
theorem dX4_take_92 : decode cX4_take 92 = .ok (.istore 4, 2) := by decide +kernel
theorem dX4_take_94 : decode cX4_take 94 = .ok (.aload_n 0, 1) := by decide +kernel
theorem dX4_take_95 : decode cX4_take 95 = .ok (.getfield 25, 3) := by decide +kernel
theorem dX4_take_98 : decode cX4_take 98 = .ok (.aload_n 0, 1) := by decide +kernel
theorem dX4_take_99 : decode cX4_take 99 = .ok (.getfield 9, 3) := by decide +kernel
theorem dX4_take_102 : decode cX4_take 102 = .ok (.iconst 2, 1) := by decide +kernel
theorem dX4_take_103 : decode cX4_take 103 = .ok (.aload_n 1, 1) := by decide +kernel
theorem dX4_take_104 : decode cX4_take 104 = .ok (.iload_n 2, 1) := by decide +kernel
theorem dX4_take_105 : decode cX4_take 105 = .ok (.iconst 2, 1) := by decide +kernel
theorem dX4_take_106 : decode cX4_take 106 = .ok (.iadd, 1) := by decide +kernel
theorem dX4_take_107 : decode cX4_take 107 = .ok (.invokevirtual 38, 3) := by decide +kernel
theorem dX4_take_110 : decode cX4_take 110 = .ok (.bipush 97, 2) := by decide +kernel
theorem dX4_take_112 : decode cX4_take 112 = .ok (.isub, 1) := by decide +kernel
theorem dX4_take_113 : decode cX4_take 113 = .ok (.imul, 1) := by decide +kernel
theorem dX4_take_114 : decode cX4_take 114 = .ok (.iload_n 3, 1) := by decide +kernel
theorem dX4_take_115 : decode cX4_take 115 = .ok (.iload 4, 2) := by decide +kernel
theorem dX4_take_117 : decode cX4_take 117 = .ok (.if_icmp .le 7, 3) := by decide +kernel
theorem dX4_take_120 : decode cX4_take 120 = .ok (.iconst 1, 1) := by decide +kernel
theorem dX4_take_121 : decode cX4_take 121 = .ok (.goto 4, 3) := by decide +kernel
theorem dX4_take_124 : decode cX4_take 124 = .ok (.iconst 0, 1) := by decide +kernel
theorem dX4_take_125 : decode cX4_take 125 = .ok (.iadd, 1) := by decide +kernel
theorem dX4_take_126 : decode cX4_take 126 = .ok (.iastore, 1) := by decide +kernel
theorem dX4_take_127 : decode cX4_take 127 = .ok (.aload_n 0, 1) := by decide +kernel
theorem dX4_take_128 : decode cX4_take 128 = .ok (.dup, 1) := by decide +kernel
theorem dX4_take_129 : decode cX4_take 129 = .ok (.getfield 9, 3) := by decide +kernel
theorem dX4_take_132 : decode cX4_take 132 = .ok (.iconst 1, 1) := by decide +kernel
theorem dX4_take_133 : decode cX4_take 133 = .ok (.iadd, 1) := by decide +kernel
theorem dX4_take_134 : decode cX4_take 134 = .ok (.putfield 9, 3) := by decide +kernel
theorem dX4_take_137 : decode cX4_take 137 = .ok (.iinc 2 6, 3) := by decide +kernel
theorem dX4_take_140 : decode cX4_take 140 = .ok (.goto (-116), 3) := by decide +kernel
theorem dX4_take_143 : decode cX4_take 143 = .ok (.return_, 1) := by decide +kernel
theorem dX4_findFault_0 : decode cX4_findFault 0 = .ok (.iconst 0, 1) := by decide +kernel
theorem dX4_findFault_1 : decode cX4_findFault 1 = .ok (.istore_n 1, 1) := by decide +kernel
theorem dX4_findFault_2 : decode cX4_findFault 2 = .ok (.iload_n 1, 1) := by decide +kernel
theorem dX4_findFault_3 : decode cX4_findFault 3 = .ok (.aload_n 0, 1) := by decide +kernel
theorem dX4_findFault_4 : decode cX4_findFault 4 = .ok (.getfield 35, 3) := by decide +kernel
theorem dX4_findFault_7 : decode cX4_findFault 7 = .ok (.if_icmp .ge 19, 3) := by decide +kernel
theorem dX4_findFault_10 : decode cX4_findFault 10 = .ok (.aload_n 0, 1) := by decide +kernel
theorem dX4_findFault_11 : decode cX4_findFault 11 = .ok (.iload_n 1, 1) := by decide +kernel
theorem dX4_findFault_12 : decode cX4_findFault 12 = .ok (.invokestatic 45, 3) := by decide +kernel
theorem dX4_findFault_15 : decode cX4_findFault 15 = .ok (.ifCond .ne 5, 3) := by decide +kernel
theorem dX4_findFault_18 : decode cX4_findFault 18 = .ok (.iload_n 1, 1) := by decide +kernel
theorem dX4_findFault_19 : decode cX4_findFault 19 = .ok (.ireturn, 1) := by decide +kernel
theorem dX4_findFault_20 : decode cX4_findFault 20 = .ok (.iinc 1 1, 3) := by decide +kernel
theorem dX4_findFault_23 : decode cX4_findFault 23 = .ok (.goto (-21), 3) := by decide +kernel
theorem dX4_findFault_26 : decode cX4_findFault 26 = .ok (.aload_n 0, 1) := by decide +kernel
theorem dX4_findFault_27 : decode cX4_findFault 27 = .ok (.getfield 35, 3) := by decide +kernel
theorem dX4_findFault_30 : decode cX4_findFault 30 = .ok (.ifCond .eq 14, 3) := by decide +kernel
theorem dX4_findFault_33 : decode cX4_findFault 33 = .ok (.aload_n 0, 1) := by decide +kernel
theorem dX4_findFault_34 : decode cX4_findFault 34 = .ok (.getfield 35, 3) := by decide +kernel
theorem dX4_findFault_37 : decode cX4_findFault 37 = .ok (.bipush 6, 2) := by decide +kernel
theorem dX4_findFault_39 : decode cX4_findFault 39 = .ok (.irem, 1) := by decide +kernel
theorem dX4_findFault_40 : decode cX4_findFault 40 = .ok (.iconst 5, 1) := by decide +kernel
theorem dX4_findFault_41 : decode cX4_findFault 41 = .ok (.if_icmp .ne 7, 3) := by decide +kernel
theorem dX4_findFault_44 : decode cX4_findFault 44 = .ok (.iconst (-1), 1) := by decide +kernel
theorem dX4_findFault_45 : decode cX4_findFault 45 = .ok (.goto 7, 3) := by decide +kernel
theorem dX4_findFault_48 : decode cX4_findFault 48 = .ok (.aload_n 0, 1) := by decide +kernel
theorem dX4_findFault_49 : decode cX4_findFault 49 = .ok (.getfield 35, 3) := by decide +kernel
theorem dX4_findFault_52 : decode cX4_findFault 52 = .ok (.ireturn, 1) := by decide +kernel
theorem dX4_fits_0 : decode cX4_fits 0 = .ok (.aload_n 0, 1) := by decide +kernel
theorem dX4_fits_1 : decode cX4_fits 1 = .ok (.iload_n 1, 1) := by decide +kernel
theorem dX4_fits_2 : decode cX4_fits 2 = .ok (.invokevirtual 38, 3) := by decide +kernel
theorem dX4_fits_5 : decode cX4_fits 5 = .ok (.istore_n 2, 1) := by decide +kernel
theorem dX4_fits_6 : decode cX4_fits 6 = .ok (.iload_n 1, 1) := by decide +kernel
theorem dX4_fits_7 : decode cX4_fits 7 = .ok (.bipush 6, 2) := by decide +kernel
theorem dX4_fits_9 : decode cX4_fits 9 = .ok (.irem, 1) := by decide +kernel
theorem dX4_fits_10 : decode cX4_fits 10 = .ok (.tableswitch 139 0 4 #[34, 54, 72, 78, 103], 34) := by decide +kernel
theorem dX4_fits_44 : decode cX4_fits 44 = .ok (.iload_n 1, 1) := by decide +kernel
theorem dX4_fits_45 : decode cX4_fits 45 = .ok (.bipush 48, 2) := by decide +kernel
theorem dX4_fits_47 : decode cX4_fits 47 = .ok (.if_icmp .ge 15, 3) := by decide +kernel
theorem dX4_fits_50 : decode cX4_fits 50 = .ok (.iload_n 2, 1) := by decide +kernel
theorem dX4_fits_51 : decode cX4_fits 51 = .ok (.invokestatic 42, 3) := by decide +kernel
theorem dX4_fits_54 : decode cX4_fits 54 = .ok (.iconst (-1), 1) := by decide +kernel
theorem dX4_fits_55 : decode cX4_fits 55 = .ok (.if_icmp .eq 7, 3) := by decide +kernel
theorem dX4_fits_58 : decode cX4_fits 58 = .ok (.iconst 1, 1) := by decide +kernel
theorem dX4_fits_59 : decode cX4_fits 59 = .ok (.goto 4, 3) := by decide +kernel
theorem dX4_fits_62 : decode cX4_fits 62 = .ok (.iconst 0, 1) := by decide +kernel
theorem dX4_fits_63 : decode cX4_fits 63 = .ok (.ireturn, 1) := by decide +kernel
theorem dX4_fits_64 : decode cX4_fits 64 = .ok (.iload_n 2, 1) := by decide +kernel
theorem dX4_fits_65 : decode cX4_fits 65 = .ok (.bipush 48, 2) := by decide +kernel
theorem dX4_fits_67 : decode cX4_fits 67 = .ok (.if_icmp .lt 13, 3) := by decide +kernel
theorem dX4_fits_70 : decode cX4_fits 70 = .ok (.iload_n 2, 1) := by decide +kernel
theorem dX4_fits_71 : decode cX4_fits 71 = .ok (.bipush 54, 2) := by decide +kernel
theorem dX4_fits_73 : decode cX4_fits 73 = .ok (.if_icmp .ge 7, 3) := by decide +kernel
theorem dX4_fits_76 : decode cX4_fits 76 = .ok (.iconst 1, 1) := by decide +kernel
theorem dX4_fits_77 : decode cX4_fits 77 = .ok (.goto 4, 3) := by decide +kernel
theorem dX4_fits_80 : decode cX4_fits 80 = .ok (.iconst 0, 1) := by decide +kernel
theorem dX4_fits_81 : decode cX4_fits 81 = .ok (.ireturn, 1) := by decide +kernel
theorem dX4_fits_82 : decode cX4_fits 82 = .ok (.aload_n 0, 1) := by decide +kernel
theorem dX4_fits_83 : decode cX4_fits 83 = .ok (.iload_n 1, 1) := by decide +kernel
theorem dX4_fits_84 : decode cX4_fits 84 = .ok (.invokevirtual 49, 3) := by decide +kernel
theorem dX4_fits_87 : decode cX4_fits 87 = .ok (.ireturn, 1) := by decide +kernel
theorem dX4_fits_88 : decode cX4_fits 88 = .ok (.aload_n 0, 1) := by decide +kernel
theorem dX4_fits_89 : decode cX4_fits 89 = .ok (.iload_n 1, 1) := by decide +kernel
theorem dX4_fits_90 : decode cX4_fits 90 = .ok (.invokevirtual 49, 3) := by decide +kernel
theorem dX4_fits_93 : decode cX4_fits 93 = .ok (.ifCond .eq 18, 3) := by decide +kernel
theorem dX4_fits_96 : decode cX4_fits 96 = .ok (.iload_n 2, 1) := by decide +kernel
theorem dX4_fits_97 : decode cX4_fits 97 = .ok (.aload_n 0, 1) := by decide +kernel
theorem dX4_fits_98 : decode cX4_fits 98 = .ok (.iload_n 1, 1) := by decide +kernel
theorem dX4_fits_99 : decode cX4_fits 99 = .ok (.iconst 1, 1) := by decide +kernel
theorem dX4_fits_100 : decode cX4_fits 100 = .ok (.isub, 1) := by decide +kernel
theorem dX4_fits_101 : decode cX4_fits 101 = .ok (.invokevirtual 38, 3) := by decide +kernel
theorem dX4_fits_104 : decode cX4_fits 104 = .ok (.if_icmp .eq 7, 3) := by decide +kernel
theorem dX4_fits_107 : decode cX4_fits 107 = .ok (.iconst 1, 1) := by decide +kernel
theorem dX4_fits_108 : decode cX4_fits 108 = .ok (.goto 4, 3) := by decide +kernel
theorem dX4_fits_111 : decode cX4_fits 111 = .ok (.iconst 0, 1) := by decide +kernel
theorem dX4_fits_112 : decode cX4_fits 112 = .ok (.ireturn, 1) := by decide +kernel
theorem dX4_fits_113 : decode cX4_fits 113 = .ok (.aload_n 0, 1) := by decide +kernel
theorem dX4_fits_114 : decode cX4_fits 114 = .ok (.iload_n 1, 1) := by decide +kernel
theorem dX4_fits_115 : decode cX4_fits 115 = .ok (.invokevirtual 49, 3) := by decide +kernel
theorem dX4_fits_118 : decode cX4_fits 118 = .ok (.ifCond .eq 29, 3) := by decide +kernel
theorem dX4_fits_121 : decode cX4_fits 121 = .ok (.iload_n 2, 1) := by decide +kernel
theorem dX4_fits_122 : decode cX4_fits 122 = .ok (.aload_n 0, 1) := by decide +kernel
theorem dX4_fits_123 : decode cX4_fits 123 = .ok (.iload_n 1, 1) := by decide +kernel
theorem dX4_fits_124 : decode cX4_fits 124 = .ok (.iconst 1, 1) := by decide +kernel
theorem dX4_fits_125 : decode cX4_fits 125 = .ok (.isub, 1) := by decide +kernel
theorem dX4_fits_126 : decode cX4_fits 126 = .ok (.invokevirtual 38, 3) := by decide +kernel
theorem dX4_fits_129 : decode cX4_fits 129 = .ok (.if_icmp .eq 18, 3) := by decide +kernel
theorem dX4_fits_132 : decode cX4_fits 132 = .ok (.iload_n 2, 1) := by decide +kernel
theorem dX4_fits_133 : decode cX4_fits 133 = .ok (.aload_n 0, 1) := by decide +kernel
theorem dX4_fits_134 : decode cX4_fits 134 = .ok (.iload_n 1, 1) := by decide +kernel
theorem dX4_fits_135 : decode cX4_fits 135 = .ok (.iconst 2, 1) := by decide +kernel
theorem dX4_fits_136 : decode cX4_fits 136 = .ok (.isub, 1) := by decide +kernel
theorem dX4_fits_137 : decode cX4_fits 137 = .ok (.invokevirtual 38, 3) := by decide +kernel
theorem dX4_fits_140 : decode cX4_fits 140 = .ok (.if_icmp .eq 7, 3) := by decide +kernel
theorem dX4_fits_143 : decode cX4_fits 143 = .ok (.iconst 1, 1) := by decide +kernel
theorem dX4_fits_144 : decode cX4_fits 144 = .ok (.goto 4, 3) := by decide +kernel
theorem dX4_fits_147 : decode cX4_fits 147 = .ok (.iconst 0, 1) := by decide +kernel
theorem dX4_fits_148 : decode cX4_fits 148 = .ok (.ireturn, 1) := by decide +kernel
theorem dX4_fits_149 : decode cX4_fits 149 = .ok (.iload_n 2, 1) := by decide +kernel
theorem dX4_fits_150 : decode cX4_fits 150 = .ok (.bipush 59, 2) := by decide +kernel
theorem dX4_fits_152 : decode cX4_fits 152 = .ok (.if_icmp .ne 7, 3) := by decide +kernel
theorem dX4_fits_155 : decode cX4_fits 155 = .ok (.iconst 1, 1) := by decide +kernel
theorem dX4_fits_156 : decode cX4_fits 156 = .ok (.goto 4, 3) := by decide +kernel
theorem dX4_fits_159 : decode cX4_fits 159 = .ok (.iconst 0, 1) := by decide +kernel
theorem dX4_fits_160 : decode cX4_fits 160 = .ok (.ireturn, 1) := by decide +kernel
theorem dX4_sortOf_0 : decode cX4_sortOf 0 = .ok (.iload_n 0, 1) := by decide +kernel
theorem dX4_sortOf_1 : decode cX4_sortOf 1 = .ok (.lookupswitch 41 #[(98, 37), (100, 39), (115, 35)], 35) := by decide +kernel
theorem dX4_sortOf_36 : decode cX4_sortOf 36 = .ok (.iconst 0, 1) := by decide +kernel
theorem dX4_sortOf_37 : decode cX4_sortOf 37 = .ok (.ireturn, 1) := by decide +kernel
theorem dX4_sortOf_38 : decode cX4_sortOf 38 = .ok (.iconst 1, 1) := by decide +kernel
theorem dX4_sortOf_39 : decode cX4_sortOf 39 = .ok (.ireturn, 1) := by decide +kernel
theorem dX4_sortOf_40 : decode cX4_sortOf 40 = .ok (.iconst 2, 1) := by decide +kernel
theorem dX4_sortOf_41 : decode cX4_sortOf 41 = .ok (.ireturn, 1) := by decide +kernel
theorem dX4_sortOf_42 : decode cX4_sortOf 42 = .ok (.iconst (-1), 1) := by decide +kernel
theorem dX4_sortOf_43 : decode cX4_sortOf 43 = .ok (.ireturn, 1) := by decide +kernel
theorem dX4_weightOf_0 : decode cX4_weightOf 0 = .ok (.iload_n 1, 1) := by decide +kernel
theorem dX4_weightOf_1 : decode cX4_weightOf 1 = .ok (.aload_n 0, 1) := by decide +kernel
theorem dX4_weightOf_2 : decode cX4_weightOf 2 = .ok (.getfield 9, 3) := by decide +kernel
theorem dX4_weightOf_5 : decode cX4_weightOf 5 = .ok (.invokestatic 53, 3) := by decide +kernel
theorem dX4_weightOf_8 : decode cX4_weightOf 8 = .ok (.ifCond .eq 30, 3) := by decide +kernel
theorem dX4_weightOf_11 : decode cX4_weightOf 11 = .ok (.aload_n 0, 1) := by decide +kernel
theorem dX4_weightOf_12 : decode cX4_weightOf 12 = .ok (.getfield 18, 3) := by decide +kernel
theorem dX4_weightOf_15 : decode cX4_weightOf 15 = .ok (.iload_n 1, 1) := by decide +kernel
theorem dX4_weightOf_16 : decode cX4_weightOf 16 = .ok (.iaload, 1) := by decide +kernel
theorem dX4_weightOf_17 : decode cX4_weightOf 17 = .ok (.iconst 3, 1) := by decide +kernel
theorem dX4_weightOf_18 : decode cX4_weightOf 18 = .ok (.invokestatic 53, 3) := by decide +kernel
theorem dX4_weightOf_21 : decode cX4_weightOf 21 = .ok (.ifCond .eq 17, 3) := by decide +kernel
theorem dX4_weightOf_24 : decode cX4_weightOf 24 = .ok (.aload_n 0, 1) := by decide +kernel
theorem dX4_weightOf_25 : decode cX4_weightOf 25 = .ok (.getfield 28, 3) := by decide +kernel
theorem dX4_weightOf_28 : decode cX4_weightOf 28 = .ok (.aload_n 0, 1) := by decide +kernel
theorem dX4_weightOf_29 : decode cX4_weightOf 29 = .ok (.getfield 18, 3) := by decide +kernel
theorem dX4_weightOf_32 : decode cX4_weightOf 32 = .ok (.iload_n 1, 1) := by decide +kernel
theorem dX4_weightOf_33 : decode cX4_weightOf 33 = .ok (.iaload, 1) := by decide +kernel
theorem dX4_weightOf_34 : decode cX4_weightOf 34 = .ok (.iaload, 1) := by decide +kernel
theorem dX4_weightOf_35 : decode cX4_weightOf 35 = .ok (.goto 4, 3) := by decide +kernel
theorem dX4_weightOf_38 : decode cX4_weightOf 38 = .ok (.iconst 0, 1) := by decide +kernel
theorem dX4_weightOf_39 : decode cX4_weightOf 39 = .ok (.ireturn, 1) := by decide +kernel
theorem dX4_weightOfAll_0 : decode cX4_weightOfAll 0 = .ok (.iconst 0, 1) := by decide +kernel
theorem dX4_weightOfAll_1 : decode cX4_weightOfAll 1 = .ok (.istore_n 1, 1) := by decide +kernel
theorem dX4_weightOfAll_2 : decode cX4_weightOfAll 2 = .ok (.iconst 0, 1) := by decide +kernel
theorem dX4_weightOfAll_3 : decode cX4_weightOfAll 3 = .ok (.istore_n 2, 1) := by decide +kernel
theorem dX4_weightOfAll_4 : decode cX4_weightOfAll 4 = .ok (.iload_n 2, 1) := by decide +kernel
theorem dX4_weightOfAll_5 : decode cX4_weightOfAll 5 = .ok (.aload_n 0, 1) := by decide +kernel
theorem dX4_weightOfAll_6 : decode cX4_weightOfAll 6 = .ok (.getfield 9, 3) := by decide +kernel
theorem dX4_weightOfAll_9 : decode cX4_weightOfAll 9 = .ok (.if_icmp .ge 17, 3) := by decide +kernel
theorem dX4_weightOfAll_12 : decode cX4_weightOfAll 12 = .ok (.iload_n 1, 1) := by decide +kernel
theorem dX4_weightOfAll_13 : decode cX4_weightOfAll 13 = .ok (.aload_n 0, 1) := by decide +kernel
theorem dX4_weightOfAll_14 : decode cX4_weightOfAll 14 = .ok (.iload_n 2, 1) := by decide +kernel
theorem dX4_weightOfAll_15 : decode cX4_weightOfAll 15 = .ok (.invokevirtual 57, 3) := by decide +kernel
theorem dX4_weightOfAll_18 : decode cX4_weightOfAll 18 = .ok (.iadd, 1) := by decide +kernel
theorem dX4_weightOfAll_19 : decode cX4_weightOfAll 19 = .ok (.istore_n 1, 1) := by decide +kernel
theorem dX4_weightOfAll_20 : decode cX4_weightOfAll 20 = .ok (.iinc 2 1, 3) := by decide +kernel
theorem dX4_weightOfAll_23 : decode cX4_weightOfAll 23 = .ok (.goto (-19), 3) := by decide +kernel
theorem dX4_weightOfAll_26 : decode cX4_weightOfAll 26 = .ok (.iload_n 1, 1) := by decide +kernel
theorem dX4_weightOfAll_27 : decode cX4_weightOfAll 27 = .ok (.ireturn, 1) := by decide +kernel
theorem dX4_lead_0 : decode cX4_lead 0 = .ok (.iconst 0, 1) := by decide +kernel
theorem dX4_lead_1 : decode cX4_lead 1 = .ok (.istore_n 3, 1) := by decide +kernel
theorem dX4_lead_2 : decode cX4_lead 2 = .ok (.iconst 0, 1) := by decide +kernel
theorem dX4_lead_3 : decode cX4_lead 3 = .ok (.istore 4, 2) := by decide +kernel
theorem dX4_lead_5 : decode cX4_lead 5 = .ok (.iload 4, 2) := by decide +kernel
theorem dX4_lead_7 : decode cX4_lead 7 = .ok (.aload_n 0, 1) := by decide +kernel
theorem dX4_lead_8 : decode cX4_lead 8 = .ok (.getfield 9, 3) := by decide +kernel
theorem dX4_lead_11 : decode cX4_lead 11 = .ok (.if_icmp .ge 32, 3) := by decide +kernel
theorem dX4_lead_14 : decode cX4_lead 14 = .ok (.iload_n 3, 1) := by decide +kernel
theorem dX4_lead_15 : decode cX4_lead 15 = .ok (.aload_n 0, 1) := by decide +kernel
theorem dX4_lead_16 : decode cX4_lead 16 = .ok (.getfield 25, 3) := by decide +kernel
theorem dX4_lead_19 : decode cX4_lead 19 = .ok (.iload 4, 2) := by decide +kernel
theorem dX4_lead_21 : decode cX4_lead 21 = .ok (.iaload, 1) := by decide +kernel
theorem dX4_lead_22 : decode cX4_lead 22 = .ok (.iload_n 1, 1) := by decide +kernel
theorem dX4_lead_23 : decode cX4_lead 23 = .ok (.iload_n 2, 1) := by decide +kernel
theorem dX4_lead_24 : decode cX4_lead 24 = .ok (.invokestatic 60, 3) := by decide +kernel
theorem dX4_lead_27 : decode cX4_lead 27 = .ok (.ifCond .eq 7, 3) := by decide +kernel
theorem dX4_lead_30 : decode cX4_lead 30 = .ok (.iconst 1, 1) := by decide +kernel
theorem dX4_lead_31 : decode cX4_lead 31 = .ok (.goto 4, 3) := by decide +kernel
theorem dX4_lead_34 : decode cX4_lead 34 = .ok (.iconst (-1), 1) := by decide +kernel
theorem dX4_lead_35 : decode cX4_lead 35 = .ok (.iadd, 1) := by decide +kernel
theorem dX4_lead_36 : decode cX4_lead 36 = .ok (.istore_n 3, 1) := by decide +kernel
theorem dX4_lead_37 : decode cX4_lead 37 = .ok (.iinc 4 1, 3) := by decide +kernel
theorem dX4_lead_40 : decode cX4_lead 40 = .ok (.goto (-35), 3) := by decide +kernel
theorem dX4_lead_43 : decode cX4_lead 43 = .ok (.iload_n 3, 1) := by decide +kernel
theorem dX4_lead_44 : decode cX4_lead 44 = .ok (.ireturn, 1) := by decide +kernel
theorem dX5_init_0 : decode cX5_init 0 = .ok (.aload_n 0, 1) := by decide +kernel
theorem dX5_init_1 : decode cX5_init 1 = .ok (.invokespecial 3, 3) := by decide +kernel
theorem dX5_init_4 : decode cX5_init 4 = .ok (.aload_n 0, 1) := by decide +kernel
theorem dX5_init_5 : decode cX5_init 5 = .ok (.sipush 256, 3) := by decide +kernel
theorem dX5_init_8 : decode cX5_init 8 = .ok (.newarray .int, 2) := by decide +kernel
theorem dX5_init_10 : decode cX5_init 10 = .ok (.putfield 9, 3) := by decide +kernel
theorem dX5_init_13 : decode cX5_init 13 = .ok (.aload_n 0, 1) := by decide +kernel
theorem dX5_init_14 : decode cX5_init 14 = .ok (.aload_n 1, 1) := by decide +kernel
theorem dX5_init_15 : decode cX5_init 15 = .ok (.putfield 15, 3) := by decide +kernel
theorem dX5_init_18 : decode cX5_init 18 = .ok (.return_, 1) := by decide +kernel
theorem dX5_turning_0 : decode cX5_turning 0 = .ok (.aload_n 0, 1) := by decide +kernel
theorem dX5_turning_1 : decode cX5_turning 1 = .ok (.invokevirtual 19, 3) := by decide +kernel
theorem dX5_turning_4 : decode cX5_turning 4 = .ok (.aload_n 0, 1) := by decide +kernel
theorem dX5_turning_5 : decode cX5_turning 5 = .ok (.getfield 15, 3) := by decide +kernel
theorem dX5_turning_8 : decode cX5_turning 8 = .ok (.invokevirtual 22, 3) := by decide +kernel
theorem dX5_turning_11 : decode cX5_turning 11 = .ok (.istore_n 2, 1) := by decide +kernel
theorem dX5_turning_12 : decode cX5_turning 12 = .ok (.aload_n 0, 1) := by decide +kernel
theorem dX5_turning_13 : decode cX5_turning 13 = .ok (.getfield 15, 3) := by decide +kernel
theorem dX5_turning_16 : decode cX5_turning 16 = .ok (.iload_n 1, 1) := by decide +kernel
theorem dX5_turning_17 : decode cX5_turning 17 = .ok (.invokevirtual 28, 3) := by decide +kernel
theorem dX5_turning_20 : decode cX5_turning 20 = .ok (.istore_n 3, 1) := by decide +kernel
theorem dX5_turning_21 : decode cX5_turning 21 = .ok (.iconst 0, 1) := by decide +kernel
theorem dX5_turning_22 : decode cX5_turning 22 = .ok (.istore 4, 2) := by decide +kernel
theorem dX5_turning_24 : decode cX5_turning 24 = .ok (.iconst 0, 1) := by decide +kernel
theorem dX5_turning_25 : decode cX5_turning 25 = .ok (.istore 5, 2) := by decide +kernel
theorem dX5_turning_27 : decode cX5_turning 27 = .ok (.iload 5, 2) := by decide +kernel
theorem dX5_turning_29 : decode cX5_turning 29 = .ok (.iconst 1, 1) := by decide +kernel
theorem dX5_turning_30 : decode cX5_turning 30 = .ok (.aload_n 0, 1) := by decide +kernel
theorem dX5_turning_31 : decode cX5_turning 31 = .ok (.getfield 15, 3) := by decide +kernel
theorem dX5_turning_34 : decode cX5_turning 34 = .ok (.getfield 32, 3) := by decide +kernel
theorem dX5_turning_37 : decode cX5_turning 37 = .ok (.ishl, 1) := by decide +kernel
theorem dX5_turning_38 : decode cX5_turning 38 = .ok (.if_icmp .ge 92, 3) := by decide +kernel
end
section
theorem dX5_turning_41 : decode cX5_turning 41 = .ok (.aload_n 0, 1) := by decide +kernel
theorem dX5_turning_42 : decode cX5_turning 42 = .ok (.getfield 9, 3) := by decide +kernel
theorem dX5_turning_45 : decode cX5_turning 45 = .ok (.iload 5, 2) := by decide +kernel
theorem dX5_turning_47 : decode cX5_turning 47 = .ok (.iaload, 1) := by decide +kernel
theorem dX5_turning_48 : decode cX5_turning 48 = .ok (.istore 6, 2) := by decide +kernel
theorem dX5_turning_50 : decode cX5_turning 50 = .ok (.iload 5, 2) := by decide +kernel
theorem dX5_turning_52 : decode cX5_turning 52 = .ok (.iload_n 1, 1) := by decide +kernel
theorem dX5_turning_53 : decode cX5_turning 53 = .ok (.ishr, 1) := by decide +kernel
theorem dX5_turning_54 : decode cX5_turning 54 = .ok (.iconst 1, 1) := by decide +kernel
theorem dX5_turning_55 : decode cX5_turning 55 = .ok (.iand, 1) := by decide +kernel
theorem dX5_turning_56 : decode cX5_turning 56 = .ok (.ifCond .ne 7, 3) := by decide +kernel
theorem dX5_turning_59 : decode cX5_turning 59 = .ok (.iconst 1, 1) := by decide +kernel
theorem dX5_turning_60 : decode cX5_turning 60 = .ok (.goto 4, 3) := by decide +kernel
theorem dX5_turning_63 : decode cX5_turning 63 = .ok (.iconst 0, 1) := by decide +kernel
theorem dX5_turning_64 : decode cX5_turning 64 = .ok (.istore 7, 2) := by decide +kernel
theorem dX5_turning_66 : decode cX5_turning 66 = .ok (.iload 7, 2) := by decide +kernel
theorem dX5_turning_68 : decode cX5_turning 68 = .ok (.ifCond .eq 56, 3) := by decide +kernel
theorem dX5_turning_71 : decode cX5_turning 71 = .ok (.iconst 2, 1) := by decide +kernel
theorem dX5_turning_72 : decode cX5_turning 72 = .ok (.iload 6, 2) := by decide +kernel
theorem dX5_turning_74 : decode cX5_turning 74 = .ok (.imul, 1) := by decide +kernel
theorem dX5_turning_75 : decode cX5_turning 75 = .ok (.iload_n 2, 1) := by decide +kernel
theorem dX5_turning_76 : decode cX5_turning 76 = .ok (.if_icmp .gt 48, 3) := by decide +kernel
theorem dX5_turning_79 : decode cX5_turning 79 = .ok (.iconst 2, 1) := by decide +kernel
theorem dX5_turning_80 : decode cX5_turning 80 = .ok (.iload 6, 2) := by decide +kernel
theorem dX5_turning_82 : decode cX5_turning 82 = .ok (.iload_n 3, 1) := by decide +kernel
theorem dX5_turning_83 : decode cX5_turning 83 = .ok (.iadd, 1) := by decide +kernel
theorem dX5_turning_84 : decode cX5_turning 84 = .ok (.imul, 1) := by decide +kernel
theorem dX5_turning_85 : decode cX5_turning 85 = .ok (.iload_n 2, 1) := by decide +kernel
theorem dX5_turning_86 : decode cX5_turning 86 = .ok (.if_icmp .le 38, 3) := by decide +kernel
theorem dX5_turning_89 : decode cX5_turning 89 = .ok (.iload 5, 2) := by decide +kernel
theorem dX5_turning_91 : decode cX5_turning 91 = .ok (.invokestatic 36, 3) := by decide +kernel
theorem dX5_turning_94 : decode cX5_turning 94 = .ok (.istore 8, 2) := by decide +kernel
theorem dX5_turning_96 : decode cX5_turning 96 = .ok (.iload 4, 2) := by decide +kernel
theorem dX5_turning_98 : decode cX5_turning 98 = .ok (.getstatic 41, 3) := by decide +kernel
theorem dX5_turning_101 : decode cX5_turning 101 = .ok (.iload 8, 2) := by decide +kernel
theorem dX5_turning_103 : decode cX5_turning 103 = .ok (.iaload, 1) := by decide +kernel
theorem dX5_turning_104 : decode cX5_turning 104 = .ok (.getstatic 41, 3) := by decide +kernel
theorem dX5_turning_107 : decode cX5_turning 107 = .ok (.aload_n 0, 1) := by decide +kernel
theorem dX5_turning_108 : decode cX5_turning 108 = .ok (.getfield 15, 3) := by decide +kernel
theorem dX5_turning_111 : decode cX5_turning 111 = .ok (.getfield 32, 3) := by decide +kernel
theorem dX5_turning_114 : decode cX5_turning 114 = .ok (.iconst 1, 1) := by decide +kernel
theorem dX5_turning_115 : decode cX5_turning 115 = .ok (.isub, 1) := by decide +kernel
theorem dX5_turning_116 : decode cX5_turning 116 = .ok (.iload 8, 2) := by decide +kernel
theorem dX5_turning_118 : decode cX5_turning 118 = .ok (.isub, 1) := by decide +kernel
theorem dX5_turning_119 : decode cX5_turning 119 = .ok (.iaload, 1) := by decide +kernel
theorem dX5_turning_120 : decode cX5_turning 120 = .ok (.imul, 1) := by decide +kernel
theorem dX5_turning_121 : decode cX5_turning 121 = .ok (.iadd, 1) := by decide +kernel
theorem dX5_turning_122 : decode cX5_turning 122 = .ok (.istore 4, 2) := by decide +kernel
theorem dX5_turning_124 : decode cX5_turning 124 = .ok (.iinc 5 1, 3) := by decide +kernel
theorem dX5_turning_127 : decode cX5_turning 127 = .ok (.goto (-100), 3) := by decide +kernel
theorem dX5_turning_130 : decode cX5_turning 130 = .ok (.iload 4, 2) := by decide +kernel
theorem dX5_turning_132 : decode cX5_turning 132 = .ok (.ireturn, 1) := by decide +kernel
theorem dX5_weighSets_0 : decode cX5_weighSets 0 = .ok (.aload_n 0, 1) := by decide +kernel
theorem dX5_weighSets_1 : decode cX5_weighSets 1 = .ok (.getfield 9, 3) := by decide +kernel
theorem dX5_weighSets_4 : decode cX5_weighSets 4 = .ok (.iconst 0, 1) := by decide +kernel
theorem dX5_weighSets_5 : decode cX5_weighSets 5 = .ok (.iconst 0, 1) := by decide +kernel
theorem dX5_weighSets_6 : decode cX5_weighSets 6 = .ok (.iastore, 1) := by decide +kernel
theorem dX5_weighSets_7 : decode cX5_weighSets 7 = .ok (.iconst 0, 1) := by decide +kernel
theorem dX5_weighSets_8 : decode cX5_weighSets 8 = .ok (.istore_n 1, 1) := by decide +kernel
theorem dX5_weighSets_9 : decode cX5_weighSets 9 = .ok (.iload_n 1, 1) := by decide +kernel
theorem dX5_weighSets_10 : decode cX5_weighSets 10 = .ok (.aload_n 0, 1) := by decide +kernel
theorem dX5_weighSets_11 : decode cX5_weighSets 11 = .ok (.getfield 15, 3) := by decide +kernel
theorem dX5_weighSets_14 : decode cX5_weighSets 14 = .ok (.getfield 32, 3) := by decide +kernel
theorem dX5_weighSets_17 : decode cX5_weighSets 17 = .ok (.if_icmp .ge 49, 3) := by decide +kernel
theorem dX5_weighSets_20 : decode cX5_weighSets 20 = .ok (.iconst 1, 1) := by decide +kernel
theorem dX5_weighSets_21 : decode cX5_weighSets 21 = .ok (.iload_n 1, 1) := by decide +kernel
theorem dX5_weighSets_22 : decode cX5_weighSets 22 = .ok (.ishl, 1) := by decide +kernel
theorem dX5_weighSets_23 : decode cX5_weighSets 23 = .ok (.istore_n 2, 1) := by decide +kernel
theorem dX5_weighSets_24 : decode cX5_weighSets 24 = .ok (.iconst 0, 1) := by decide +kernel
theorem dX5_weighSets_25 : decode cX5_weighSets 25 = .ok (.istore_n 3, 1) := by decide +kernel
theorem dX5_weighSets_26 : decode cX5_weighSets 26 = .ok (.iload_n 3, 1) := by decide +kernel
theorem dX5_weighSets_27 : decode cX5_weighSets 27 = .ok (.iload_n 2, 1) := by decide +kernel
theorem dX5_weighSets_28 : decode cX5_weighSets 28 = .ok (.if_icmp .ge 32, 3) := by decide +kernel
theorem dX5_weighSets_31 : decode cX5_weighSets 31 = .ok (.aload_n 0, 1) := by decide +kernel
theorem dX5_weighSets_32 : decode cX5_weighSets 32 = .ok (.getfield 9, 3) := by decide +kernel
theorem dX5_weighSets_35 : decode cX5_weighSets 35 = .ok (.iload_n 2, 1) := by decide +kernel
theorem dX5_weighSets_36 : decode cX5_weighSets 36 = .ok (.iload_n 3, 1) := by decide +kernel
theorem dX5_weighSets_37 : decode cX5_weighSets 37 = .ok (.iadd, 1) := by decide +kernel
theorem dX5_weighSets_38 : decode cX5_weighSets 38 = .ok (.aload_n 0, 1) := by decide +kernel
theorem dX5_weighSets_39 : decode cX5_weighSets 39 = .ok (.getfield 9, 3) := by decide +kernel
theorem dX5_weighSets_42 : decode cX5_weighSets 42 = .ok (.iload_n 3, 1) := by decide +kernel
theorem dX5_weighSets_43 : decode cX5_weighSets 43 = .ok (.iaload, 1) := by decide +kernel
theorem dX5_weighSets_44 : decode cX5_weighSets 44 = .ok (.aload_n 0, 1) := by decide +kernel
theorem dX5_weighSets_45 : decode cX5_weighSets 45 = .ok (.getfield 15, 3) := by decide +kernel
theorem dX5_weighSets_48 : decode cX5_weighSets 48 = .ok (.iload_n 1, 1) := by decide +kernel
theorem dX5_weighSets_49 : decode cX5_weighSets 49 = .ok (.invokevirtual 28, 3) := by decide +kernel
theorem dX5_weighSets_52 : decode cX5_weighSets 52 = .ok (.iadd, 1) := by decide +kernel
theorem dX5_weighSets_53 : decode cX5_weighSets 53 = .ok (.iastore, 1) := by decide +kernel
theorem dX5_weighSets_54 : decode cX5_weighSets 54 = .ok (.iinc 3 1, 3) := by decide +kernel
theorem dX5_weighSets_57 : decode cX5_weighSets 57 = .ok (.goto (-31), 3) := by decide +kernel
theorem dX5_weighSets_60 : decode cX5_weighSets 60 = .ok (.iinc 1 1, 3) := by decide +kernel
theorem dX5_weighSets_63 : decode cX5_weighSets 63 = .ok (.goto (-54), 3) := by decide +kernel
theorem dX5_weighSets_66 : decode cX5_weighSets 66 = .ok (.return_, 1) := by decide +kernel
theorem dX6_init_0 : decode cX6_init 0 = .ok (.aload_n 0, 1) := by decide +kernel
theorem dX6_init_1 : decode cX6_init 1 = .ok (.invokespecial 3, 3) := by decide +kernel
theorem dX6_init_4 : decode cX6_init 4 = .ok (.aload_n 0, 1) := by decide +kernel
theorem dX6_init_5 : decode cX6_init 5 = .ok (.iconst (-1), 1) := by decide +kernel
theorem dX6_init_6 : decode cX6_init 6 = .ok (.putfield 9, 3) := by decide +kernel
theorem dX6_init_9 : decode cX6_init 9 = .ok (.aload_n 0, 1) := by decide +kernel
theorem dX6_init_10 : decode cX6_init 10 = .ok (.iconst 0, 1) := by decide +kernel
theorem dX6_init_11 : decode cX6_init 11 = .ok (.putfield 15, 3) := by decide +kernel
theorem dX6_init_14 : decode cX6_init 14 = .ok (.aload_n 0, 1) := by decide +kernel
theorem dX6_init_15 : decode cX6_init 15 = .ok (.bipush 60, 2) := by decide +kernel
theorem dX6_init_17 : decode cX6_init 17 = .ok (.newarray .int, 2) := by decide +kernel
theorem dX6_init_19 : decode cX6_init 19 = .ok (.putfield 18, 3) := by decide +kernel
theorem dX6_init_22 : decode cX6_init 22 = .ok (.return_, 1) := by decide +kernel
theorem dX6_renew_0 : decode cX6_renew 0 = .ok (.aload_n 0, 1) := by decide +kernel
theorem dX6_renew_1 : decode cX6_renew 1 = .ok (.iload_n 1, 1) := by decide +kernel
theorem dX6_renew_2 : decode cX6_renew 2 = .ok (.putfield 9, 3) := by decide +kernel
theorem dX6_renew_5 : decode cX6_renew 5 = .ok (.aload_n 0, 1) := by decide +kernel
theorem dX6_renew_6 : decode cX6_renew 6 = .ok (.iconst 0, 1) := by decide +kernel
theorem dX6_renew_7 : decode cX6_renew 7 = .ok (.iload_n 2, 1) := by decide +kernel
theorem dX6_renew_8 : decode cX6_renew 8 = .ok (.bipush 60, 2) := by decide +kernel
theorem dX6_renew_10 : decode cX6_renew 10 = .ok (.invokestatic 22, 3) := by decide +kernel
theorem dX6_renew_13 : decode cX6_renew 13 = .ok (.invokestatic 28, 3) := by decide +kernel
theorem dX6_renew_16 : decode cX6_renew 16 = .ok (.putfield 15, 3) := by decide +kernel
theorem dX6_renew_19 : decode cX6_renew 19 = .ok (.iconst 0, 1) := by decide +kernel
theorem dX6_renew_20 : decode cX6_renew 20 = .ok (.istore_n 3, 1) := by decide +kernel
theorem dX6_renew_21 : decode cX6_renew 21 = .ok (.iload_n 3, 1) := by decide +kernel
theorem dX6_renew_22 : decode cX6_renew 22 = .ok (.bipush 60, 2) := by decide +kernel
theorem dX6_renew_24 : decode cX6_renew 24 = .ok (.if_icmp .ge 16, 3) := by decide +kernel
theorem dX6_renew_27 : decode cX6_renew 27 = .ok (.aload_n 0, 1) := by decide +kernel
theorem dX6_renew_28 : decode cX6_renew 28 = .ok (.getfield 18, 3) := by decide +kernel
theorem dX6_renew_31 : decode cX6_renew 31 = .ok (.iload_n 3, 1) := by decide +kernel
theorem dX6_renew_32 : decode cX6_renew 32 = .ok (.iconst 0, 1) := by decide +kernel
theorem dX6_renew_33 : decode cX6_renew 33 = .ok (.iastore, 1) := by decide +kernel
theorem dX6_renew_34 : decode cX6_renew 34 = .ok (.iinc 3 1, 3) := by decide +kernel
theorem dX6_renew_37 : decode cX6_renew 37 = .ok (.goto (-16), 3) := by decide +kernel
theorem dX6_renew_40 : decode cX6_renew 40 = .ok (.return_, 1) := by decide +kernel
theorem dX6_holds_0 : decode cX6_holds 0 = .ok (.iload_n 1, 1) := by decide +kernel
theorem dX6_holds_1 : decode cX6_holds 1 = .ok (.ifCond .lt 29, 3) := by decide +kernel
theorem dX6_holds_4 : decode cX6_holds 4 = .ok (.iload_n 2, 1) := by decide +kernel
theorem dX6_holds_5 : decode cX6_holds 5 = .ok (.ifCond .lt 25, 3) := by decide +kernel
theorem dX6_holds_8 : decode cX6_holds 8 = .ok (.iload_n 2, 1) := by decide +kernel
theorem dX6_holds_9 : decode cX6_holds 9 = .ok (.aload_n 0, 1) := by decide +kernel
theorem dX6_holds_10 : decode cX6_holds 10 = .ok (.getfield 15, 3) := by decide +kernel
theorem dX6_holds_13 : decode cX6_holds 13 = .ok (.if_icmp .gt 17, 3) := by decide +kernel
theorem dX6_holds_16 : decode cX6_holds 16 = .ok (.iload_n 1, 1) := by decide +kernel
theorem dX6_holds_17 : decode cX6_holds 17 = .ok (.aload_n 0, 1) := by decide +kernel
theorem dX6_holds_18 : decode cX6_holds 18 = .ok (.getfield 15, 3) := by decide +kernel
theorem dX6_holds_21 : decode cX6_holds 21 = .ok (.iload_n 2, 1) := by decide +kernel
theorem dX6_holds_22 : decode cX6_holds 22 = .ok (.isub, 1) := by decide +kernel
theorem dX6_holds_23 : decode cX6_holds 23 = .ok (.if_icmp .gt 7, 3) := by decide +kernel
theorem dX6_holds_26 : decode cX6_holds 26 = .ok (.iconst 1, 1) := by decide +kernel
theorem dX6_holds_27 : decode cX6_holds 27 = .ok (.goto 4, 3) := by decide +kernel
theorem dX6_holds_30 : decode cX6_holds 30 = .ok (.iconst 0, 1) := by decide +kernel
theorem dX6_holds_31 : decode cX6_holds 31 = .ok (.ireturn, 1) := by decide +kernel
theorem dX6_set_0 : decode cX6_set 0 = .ok (.iload_n 1, 1) := by decide +kernel
theorem dX6_set_1 : decode cX6_set 1 = .ok (.ifCond .lt 11, 3) := by decide +kernel
theorem dX6_set_4 : decode cX6_set 4 = .ok (.iload_n 1, 1) := by decide +kernel
theorem dX6_set_5 : decode cX6_set 5 = .ok (.aload_n 0, 1) := by decide +kernel
theorem dX6_set_6 : decode cX6_set 6 = .ok (.getfield 15, 3) := by decide +kernel
theorem dX6_set_9 : decode cX6_set 9 = .ok (.if_icmp .lt 4, 3) := by decide +kernel
theorem dX6_set_12 : decode cX6_set 12 = .ok (.return_, 1) := by decide +kernel
theorem dX6_set_13 : decode cX6_set 13 = .ok (.aload_n 0, 1) := by decide +kernel
theorem dX6_set_14 : decode cX6_set 14 = .ok (.getfield 9, 3) := by decide +kernel
theorem dX6_set_17 : decode cX6_set 17 = .ok (.ifCond .ne 14, 3) := by decide +kernel
theorem dX6_set_20 : decode cX6_set 20 = .ok (.aload_n 0, 1) := by decide +kernel
theorem dX6_set_21 : decode cX6_set 21 = .ok (.getfield 18, 3) := by decide +kernel
theorem dX6_set_24 : decode cX6_set 24 = .ok (.iload_n 1, 1) := by decide +kernel
theorem dX6_set_25 : decode cX6_set 25 = .ok (.iload_n 2, 1) := by decide +kernel
theorem dX6_set_26 : decode cX6_set 26 = .ok (.i2b, 1) := by decide +kernel
theorem dX6_set_27 : decode cX6_set 27 = .ok (.iastore, 1) := by decide +kernel
theorem dX6_set_28 : decode cX6_set 28 = .ok (.goto 23, 3) := by decide +kernel
theorem dX6_set_31 : decode cX6_set 31 = .ok (.aload_n 0, 1) := by decide +kernel
theorem dX6_set_32 : decode cX6_set 32 = .ok (.getfield 18, 3) := by decide +kernel
theorem dX6_set_35 : decode cX6_set 35 = .ok (.iload_n 1, 1) := by decide +kernel
theorem dX6_set_36 : decode cX6_set 36 = .ok (.aload_n 0, 1) := by decide +kernel
theorem dX6_set_37 : decode cX6_set 37 = .ok (.getfield 9, 3) := by decide +kernel
theorem dX6_set_40 : decode cX6_set 40 = .ok (.iconst 1, 1) := by decide +kernel
theorem dX6_set_41 : decode cX6_set 41 = .ok (.if_icmp .ne 8, 3) := by decide +kernel
theorem dX6_set_44 : decode cX6_set 44 = .ok (.iload_n 2, 1) := by decide +kernel
theorem dX6_set_45 : decode cX6_set 45 = .ok (.i2s, 1) := by decide +kernel
theorem dX6_set_46 : decode cX6_set 46 = .ok (.goto 4, 3) := by decide +kernel
theorem dX6_set_49 : decode cX6_set 49 = .ok (.iload_n 2, 1) := by decide +kernel
theorem dX6_set_50 : decode cX6_set 50 = .ok (.iastore, 1) := by decide +kernel
theorem dX6_set_51 : decode cX6_set 51 = .ok (.return_, 1) := by decide +kernel
theorem dX7_init_0 : decode cX7_init 0 = .ok (.aload_n 0, 1) := by decide +kernel
theorem dX7_init_1 : decode cX7_init 1 = .ok (.invokespecial 3, 3) := by decide +kernel
theorem dX7_init_4 : decode cX7_init 4 = .ok (.aload_n 0, 1) := by decide +kernel
theorem dX7_init_5 : decode cX7_init 5 = .ok (.iconst 0, 1) := by decide +kernel
theorem dX7_init_6 : decode cX7_init 6 = .ok (.putfield 9, 3) := by decide +kernel
theorem dX7_init_9 : decode cX7_init 9 = .ok (.aload_n 0, 1) := by decide +kernel
theorem dX7_init_10 : decode cX7_init 10 = .ok (.bipush 8, 2) := by decide +kernel
theorem dX7_init_12 : decode cX7_init 12 = .ok (.newarray .int, 2) := by decide +kernel
theorem dX7_init_14 : decode cX7_init 14 = .ok (.putfield 15, 3) := by decide +kernel
theorem dX7_init_17 : decode cX7_init 17 = .ok (.aload_n 0, 1) := by decide +kernel
theorem dX7_init_18 : decode cX7_init 18 = .ok (.bipush 8, 2) := by decide +kernel
theorem dX7_init_20 : decode cX7_init 20 = .ok (.newarray .int, 2) := by decide +kernel
theorem dX7_init_22 : decode cX7_init 22 = .ok (.putfield 19, 3) := by decide +kernel
theorem dX7_init_25 : decode cX7_init 25 = .ok (.return_, 1) := by decide +kernel
theorem dX7_add_0 : decode cX7_add 0 = .ok (.aload_n 0, 1) := by decide +kernel
theorem dX7_add_1 : decode cX7_add 1 = .ok (.getfield 9, 3) := by decide +kernel
theorem dX7_add_4 : decode cX7_add 4 = .ok (.bipush 8, 2) := by decide +kernel
theorem dX7_add_6 : decode cX7_add 6 = .ok (.if_icmp .lt 5, 3) := by decide +kernel
theorem dX7_add_9 : decode cX7_add 9 = .ok (.iconst 0, 1) := by decide +kernel
theorem dX7_add_10 : decode cX7_add 10 = .ok (.ireturn, 1) := by decide +kernel
theorem dX7_add_11 : decode cX7_add 11 = .ok (.aload_n 0, 1) := by decide +kernel
theorem dX7_add_12 : decode cX7_add 12 = .ok (.getfield 15, 3) := by decide +kernel
theorem dX7_add_15 : decode cX7_add 15 = .ok (.aload_n 0, 1) := by decide +kernel
theorem dX7_add_16 : decode cX7_add 16 = .ok (.getfield 9, 3) := by decide +kernel
theorem dX7_add_19 : decode cX7_add 19 = .ok (.iload_n 1, 1) := by decide +kernel
theorem dX7_add_20 : decode cX7_add 20 = .ok (.iastore, 1) := by decide +kernel
theorem dX7_add_21 : decode cX7_add 21 = .ok (.aload_n 0, 1) := by decide +kernel
theorem dX7_add_22 : decode cX7_add 22 = .ok (.getfield 19, 3) := by decide +kernel
theorem dX7_add_25 : decode cX7_add 25 = .ok (.aload_n 0, 1) := by decide +kernel
theorem dX7_add_26 : decode cX7_add 26 = .ok (.getfield 9, 3) := by decide +kernel
theorem dX7_add_29 : decode cX7_add 29 = .ok (.iload_n 2, 1) := by decide +kernel
theorem dX7_add_30 : decode cX7_add 30 = .ok (.iastore, 1) := by decide +kernel
theorem dX7_add_31 : decode cX7_add 31 = .ok (.aload_n 0, 1) := by decide +kernel
theorem dX7_add_32 : decode cX7_add 32 = .ok (.dup, 1) := by decide +kernel
theorem dX7_add_33 : decode cX7_add 33 = .ok (.getfield 9, 3) := by decide +kernel
theorem dX7_add_36 : decode cX7_add 36 = .ok (.iconst 1, 1) := by decide +kernel
theorem dX7_add_37 : decode cX7_add 37 = .ok (.iadd, 1) := by decide +kernel
theorem dX7_add_38 : decode cX7_add 38 = .ok (.putfield 9, 3) := by decide +kernel
theorem dX7_add_41 : decode cX7_add 41 = .ok (.iconst 1, 1) := by decide +kernel
theorem dX7_add_42 : decode cX7_add 42 = .ok (.ireturn, 1) := by decide +kernel
theorem dX8_init_0 : decode cX8_init 0 = .ok (.aload_n 0, 1) := by decide +kernel
theorem dX8_init_1 : decode cX8_init 1 = .ok (.invokespecial 3, 3) := by decide +kernel
theorem dX8_init_4 : decode cX8_init 4 = .ok (.aload_n 0, 1) := by decide +kernel
theorem dX8_init_5 : decode cX8_init 5 = .ok (.iconst 0, 1) := by decide +kernel
theorem dX8_init_6 : decode cX8_init 6 = .ok (.putfield 9, 3) := by decide +kernel
theorem dX8_init_9 : decode cX8_init 9 = .ok (.aload_n 0, 1) := by decide +kernel
theorem dX8_init_10 : decode cX8_init 10 = .ok (.iconst 0, 1) := by decide +kernel
theorem dX8_init_11 : decode cX8_init 11 = .ok (.iload_n 1, 1) := by decide +kernel
theorem dX8_init_12 : decode cX8_init 12 = .ok (.invokestatic 15, 3) := by decide +kernel
theorem dX8_init_15 : decode cX8_init 15 = .ok (.newarray .int, 2) := by decide +kernel
theorem dX8_init_17 : decode cX8_init 17 = .ok (.putfield 21, 3) := by decide +kernel
theorem dX8_init_20 : decode cX8_init 20 = .ok (.return_, 1) := by decide +kernel
theorem dX8_add_0 : decode cX8_add 0 = .ok (.aload_n 0, 1) := by decide +kernel
theorem dX8_add_1 : decode cX8_add 1 = .ok (.getfield 9, 3) := by decide +kernel
theorem dX8_add_4 : decode cX8_add 4 = .ok (.aload_n 0, 1) := by decide +kernel
theorem dX8_add_5 : decode cX8_add 5 = .ok (.getfield 21, 3) := by decide +kernel
theorem dX8_add_8 : decode cX8_add 8 = .ok (.arraylength, 1) := by decide +kernel
theorem dX8_add_9 : decode cX8_add 9 = .ok (.if_icmp .lt 5, 3) := by decide +kernel
theorem dX8_add_12 : decode cX8_add 12 = .ok (.iconst 0, 1) := by decide +kernel
theorem dX8_add_13 : decode cX8_add 13 = .ok (.ireturn, 1) := by decide +kernel
theorem dX8_add_14 : decode cX8_add 14 = .ok (.aload_n 0, 1) := by decide +kernel
theorem dX8_add_15 : decode cX8_add 15 = .ok (.getfield 21, 3) := by decide +kernel
theorem dX8_add_18 : decode cX8_add 18 = .ok (.aload_n 0, 1) := by decide +kernel
theorem dX8_add_19 : decode cX8_add 19 = .ok (.dup, 1) := by decide +kernel
theorem dX8_add_20 : decode cX8_add 20 = .ok (.getfield 9, 3) := by decide +kernel
theorem dX8_add_23 : decode cX8_add 23 = .ok (.dup_x1, 1) := by decide +kernel
theorem dX8_add_24 : decode cX8_add 24 = .ok (.iconst 1, 1) := by decide +kernel
theorem dX8_add_25 : decode cX8_add 25 = .ok (.iadd, 1) := by decide +kernel
theorem dX8_add_26 : decode cX8_add 26 = .ok (.putfield 9, 3) := by decide +kernel
theorem dX8_add_29 : decode cX8_add 29 = .ok (.iload_n 1, 1) := by decide +kernel
theorem dX8_add_30 : decode cX8_add 30 = .ok (.iastore, 1) := by decide +kernel
theorem dX8_add_31 : decode cX8_add 31 = .ok (.iconst 1, 1) := by decide +kernel
theorem dX8_add_32 : decode cX8_add 32 = .ok (.ireturn, 1) := by decide +kernel
theorem dX8_at_0 : decode cX8_at 0 = .ok (.iload_n 1, 1) := by decide +kernel
theorem dX8_at_1 : decode cX8_at 1 = .ok (.ifCond .lt 20, 3) := by decide +kernel
theorem dX8_at_4 : decode cX8_at 4 = .ok (.iload_n 1, 1) := by decide +kernel
theorem dX8_at_5 : decode cX8_at 5 = .ok (.aload_n 0, 1) := by decide +kernel
theorem dX8_at_6 : decode cX8_at 6 = .ok (.getfield 9, 3) := by decide +kernel
theorem dX8_at_9 : decode cX8_at 9 = .ok (.if_icmp .ge 12, 3) := by decide +kernel
theorem dX8_at_12 : decode cX8_at 12 = .ok (.aload_n 0, 1) := by decide +kernel
theorem dX8_at_13 : decode cX8_at 13 = .ok (.getfield 21, 3) := by decide +kernel
theorem dX8_at_16 : decode cX8_at 16 = .ok (.iload_n 1, 1) := by decide +kernel
theorem dX8_at_17 : decode cX8_at 17 = .ok (.iaload, 1) := by decide +kernel
theorem dX8_at_18 : decode cX8_at 18 = .ok (.goto 4, 3) := by decide +kernel
theorem dX8_at_21 : decode cX8_at 21 = .ok (.iconst (-1), 1) := by decide +kernel
theorem dX8_at_22 : decode cX8_at 22 = .ok (.ireturn, 1) := by decide +kernel
theorem dX8_isLetter_0 : decode cX8_isLetter 0 = .ok (.aload_n 0, 1) := by decide +kernel
theorem dX8_isLetter_1 : decode cX8_isLetter 1 = .ok (.iload_n 1, 1) := by decide +kernel
theorem dX8_isLetter_2 : decode cX8_isLetter 2 = .ok (.invokevirtual 25, 3) := by decide +kernel
theorem dX8_isLetter_5 : decode cX8_isLetter 5 = .ok (.bipush 97, 2) := by decide +kernel
theorem dX8_isLetter_7 : decode cX8_isLetter 7 = .ok (.if_icmp .lt 17, 3) := by decide +kernel
theorem dX8_isLetter_10 : decode cX8_isLetter 10 = .ok (.aload_n 0, 1) := by decide +kernel
theorem dX8_isLetter_11 : decode cX8_isLetter 11 = .ok (.iload_n 1, 1) := by decide +kernel
theorem dX8_isLetter_12 : decode cX8_isLetter 12 = .ok (.invokevirtual 25, 3) := by decide +kernel
theorem dX8_isLetter_15 : decode cX8_isLetter 15 = .ok (.bipush 99, 2) := by decide +kernel
theorem dX8_isLetter_17 : decode cX8_isLetter 17 = .ok (.if_icmp .gt 7, 3) := by decide +kernel
theorem dX8_isLetter_20 : decode cX8_isLetter 20 = .ok (.iconst 1, 1) := by decide +kernel
theorem dX8_isLetter_21 : decode cX8_isLetter 21 = .ok (.goto 4, 3) := by decide +kernel
theorem dX8_isLetter_24 : decode cX8_isLetter 24 = .ok (.iconst 0, 1) := by decide +kernel
theorem dX8_isLetter_25 : decode cX8_isLetter 25 = .ok (.ireturn, 1) := by decide +kernel
theorem dX9_init_0 : decode cX9_init 0 = .ok (.aload_n 0, 1) := by decide +kernel
theorem dX9_init_1 : decode cX9_init 1 = .ok (.invokespecial 1, 3) := by decide +kernel
theorem dX9_init_4 : decode cX9_init 4 = .ok (.aload_n 0, 1) := by decide +kernel
theorem dX9_init_5 : decode cX9_init 5 = .ok (.iconst 2, 1) := by decide +kernel
theorem dX9_init_6 : decode cX9_init 6 = .ok (.anewarray 9, 3) := by decide +kernel
theorem dX9_init_9 : decode cX9_init 9 = .ok (.putfield 11, 3) := by decide +kernel
theorem dX9_init_12 : decode cX9_init 12 = .ok (.aload_n 0, 1) := by decide +kernel
theorem dX9_init_13 : decode cX9_init 13 = .ok (.new 15, 3) := by decide +kernel
theorem dX9_init_16 : decode cX9_init 16 = .ok (.dup, 1) := by decide +kernel
theorem dX9_init_17 : decode cX9_init 17 = .ok (.invokespecial 17, 3) := by decide +kernel
theorem dX9_init_20 : decode cX9_init 20 = .ok (.putfield 18, 3) := by decide +kernel
theorem dX9_init_23 : decode cX9_init 23 = .ok (.aload_n 0, 1) := by decide +kernel
theorem dX9_init_24 : decode cX9_init 24 = .ok (.new 22, 3) := by decide +kernel
theorem dX9_init_27 : decode cX9_init 27 = .ok (.dup, 1) := by decide +kernel
theorem dX9_init_28 : decode cX9_init 28 = .ok (.invokespecial 24, 3) := by decide +kernel
theorem dX9_init_31 : decode cX9_init 31 = .ok (.putfield 25, 3) := by decide +kernel
theorem dX9_init_34 : decode cX9_init 34 = .ok (.aload_n 0, 1) := by decide +kernel
theorem dX9_init_35 : decode cX9_init 35 = .ok (.new 29, 3) := by decide +kernel
theorem dX9_init_38 : decode cX9_init 38 = .ok (.dup, 1) := by decide +kernel
theorem dX9_init_39 : decode cX9_init 39 = .ok (.invokespecial 31, 3) := by decide +kernel
theorem dX9_init_42 : decode cX9_init 42 = .ok (.putfield 32, 3) := by decide +kernel
theorem dX9_init_45 : decode cX9_init 45 = .ok (.aload_n 0, 1) := by decide +kernel
theorem dX9_init_46 : decode cX9_init 46 = .ok (.new 36, 3) := by decide +kernel
theorem dX9_init_49 : decode cX9_init 49 = .ok (.dup, 1) := by decide +kernel
theorem dX9_init_50 : decode cX9_init 50 = .ok (.invokespecial 38, 3) := by decide +kernel
theorem dX9_init_53 : decode cX9_init 53 = .ok (.putfield 39, 3) := by decide +kernel
theorem dX9_init_56 : decode cX9_init 56 = .ok (.aload_n 0, 1) := by decide +kernel
theorem dX9_init_57 : decode cX9_init 57 = .ok (.new 43, 3) := by decide +kernel
theorem dX9_init_60 : decode cX9_init 60 = .ok (.dup, 1) := by decide +kernel
theorem dX9_init_61 : decode cX9_init 61 = .ok (.invokespecial 45, 3) := by decide +kernel
theorem dX9_init_64 : decode cX9_init 64 = .ok (.putfield 46, 3) := by decide +kernel
theorem dX9_init_67 : decode cX9_init 67 = .ok (.aload_n 0, 1) := by decide +kernel
theorem dX9_init_68 : decode cX9_init 68 = .ok (.new 50, 3) := by decide +kernel
theorem dX9_init_71 : decode cX9_init 71 = .ok (.dup, 1) := by decide +kernel
theorem dX9_init_72 : decode cX9_init 72 = .ok (.aload_n 0, 1) := by decide +kernel
theorem dX9_init_73 : decode cX9_init 73 = .ok (.getfield 18, 3) := by decide +kernel
theorem dX9_init_76 : decode cX9_init 76 = .ok (.aload_n 0, 1) := by decide +kernel
theorem dX9_init_77 : decode cX9_init 77 = .ok (.getfield 25, 3) := by decide +kernel
theorem dX9_init_80 : decode cX9_init 80 = .ok (.aload_n 0, 1) := by decide +kernel
theorem dX9_init_81 : decode cX9_init 81 = .ok (.getfield 32, 3) := by decide +kernel
theorem dX9_init_84 : decode cX9_init 84 = .ok (.invokespecial 52, 3) := by decide +kernel
theorem dX9_init_87 : decode cX9_init 87 = .ok (.putfield 55, 3) := by decide +kernel
theorem dX9_init_90 : decode cX9_init 90 = .ok (.aload_n 0, 1) := by decide +kernel
theorem dX9_init_91 : decode cX9_init 91 = .ok (.new 59, 3) := by decide +kernel
theorem dX9_init_94 : decode cX9_init 94 = .ok (.dup, 1) := by decide +kernel
theorem dX9_init_95 : decode cX9_init 95 = .ok (.aload_n 0, 1) := by decide +kernel
theorem dX9_init_96 : decode cX9_init 96 = .ok (.getfield 18, 3) := by decide +kernel
theorem dX9_init_99 : decode cX9_init 99 = .ok (.invokespecial 61, 3) := by decide +kernel
theorem dX9_init_102 : decode cX9_init 102 = .ok (.putfield 64, 3) := by decide +kernel
theorem dX9_init_105 : decode cX9_init 105 = .ok (.aload_n 0, 1) := by decide +kernel
theorem dX9_init_106 : decode cX9_init 106 = .ok (.iconst 4, 1) := by decide +kernel
theorem dX9_init_107 : decode cX9_init 107 = .ok (.anewarray 68, 3) := by decide +kernel
theorem dX9_init_110 : decode cX9_init 110 = .ok (.putfield 70, 3) := by decide +kernel
theorem dX9_init_113 : decode cX9_init 113 = .ok (.aload_n 0, 1) := by decide +kernel
theorem dX9_init_114 : decode cX9_init 114 = .ok (.bipush 8, 2) := by decide +kernel
theorem dX9_init_116 : decode cX9_init 116 = .ok (.newarray .int, 2) := by decide +kernel
theorem dX9_init_118 : decode cX9_init 118 = .ok (.putfield 74, 3) := by decide +kernel
theorem dX9_init_121 : decode cX9_init 121 = .ok (.aload_n 0, 1) := by decide +kernel
theorem dX9_init_122 : decode cX9_init 122 = .ok (.bipush 8, 2) := by decide +kernel
theorem dX9_init_124 : decode cX9_init 124 = .ok (.newarray .int, 2) := by decide +kernel
theorem dX9_init_126 : decode cX9_init 126 = .ok (.putfield 78, 3) := by decide +kernel
theorem dX9_init_129 : decode cX9_init 129 = .ok (.aload_n 0, 1) := by decide +kernel
theorem dX9_init_130 : decode cX9_init 130 = .ok (.iconst 2, 1) := by decide +kernel
theorem dX9_init_131 : decode cX9_init 131 = .ok (.newarray .int, 2) := by decide +kernel
theorem dX9_init_133 : decode cX9_init 133 = .ok (.putfield 81, 3) := by decide +kernel
theorem dX9_init_136 : decode cX9_init 136 = .ok (.aload_n 0, 1) := by decide +kernel
theorem dX9_init_137 : decode cX9_init 137 = .ok (.iconst 4, 1) := by decide +kernel
theorem dX9_init_138 : decode cX9_init 138 = .ok (.newarray .int, 2) := by decide +kernel
theorem dX9_init_140 : decode cX9_init 140 = .ok (.putfield 84, 3) := by decide +kernel
theorem dX9_init_143 : decode cX9_init 143 = .ok (.aload_n 0, 1) := by decide +kernel
theorem dX9_init_144 : decode cX9_init 144 = .ok (.iconst 0, 1) := by decide +kernel
theorem dX9_init_145 : decode cX9_init 145 = .ok (.putfield 87, 3) := by decide +kernel
theorem dX9_init_148 : decode cX9_init 148 = .ok (.aload_n 0, 1) := by decide +kernel
theorem dX9_init_149 : decode cX9_init 149 = .ok (.getfield 11, 3) := by decide +kernel
theorem dX9_init_152 : decode cX9_init 152 = .ok (.iconst 0, 1) := by decide +kernel
theorem dX9_init_153 : decode cX9_init 153 = .ok (.new 9, 3) := by decide +kernel
theorem dX9_init_156 : decode cX9_init 156 = .ok (.dup, 1) := by decide +kernel
theorem dX9_init_157 : decode cX9_init 157 = .ok (.bipush 47, 2) := by decide +kernel
theorem dX9_init_159 : decode cX9_init 159 = .ok (.invokespecial 91, 3) := by decide +kernel
theorem dX9_init_162 : decode cX9_init 162 = .ok (.aastore, 1) := by decide +kernel
theorem dX9_init_163 : decode cX9_init 163 = .ok (.aload_n 0, 1) := by decide +kernel
theorem dX9_init_164 : decode cX9_init 164 = .ok (.getfield 11, 3) := by decide +kernel
theorem dX9_init_167 : decode cX9_init 167 = .ok (.iconst 1, 1) := by decide +kernel
theorem dX9_init_168 : decode cX9_init 168 = .ok (.new 9, 3) := by decide +kernel
theorem dX9_init_171 : decode cX9_init 171 = .ok (.dup, 1) := by decide +kernel
theorem dX9_init_172 : decode cX9_init 172 = .ok (.bipush 30, 2) := by decide +kernel
theorem dX9_init_174 : decode cX9_init 174 = .ok (.invokespecial 91, 3) := by decide +kernel
theorem dX9_init_177 : decode cX9_init 177 = .ok (.aastore, 1) := by decide +kernel
theorem dX9_init_178 : decode cX9_init 178 = .ok (.iconst 0, 1) := by decide +kernel
theorem dX9_init_179 : decode cX9_init 179 = .ok (.istore_n 1, 1) := by decide +kernel
theorem dX9_init_180 : decode cX9_init 180 = .ok (.iload_n 1, 1) := by decide +kernel
theorem dX9_init_181 : decode cX9_init 181 = .ok (.iconst 4, 1) := by decide +kernel
theorem dX9_init_182 : decode cX9_init 182 = .ok (.if_icmp .ge 22, 3) := by decide +kernel
theorem dX9_init_185 : decode cX9_init 185 = .ok (.aload_n 0, 1) := by decide +kernel
theorem dX9_init_186 : decode cX9_init 186 = .ok (.getfield 70, 3) := by decide +kernel
theorem dX9_init_189 : decode cX9_init 189 = .ok (.iload_n 1, 1) := by decide +kernel
theorem dX9_init_190 : decode cX9_init 190 = .ok (.new 68, 3) := by decide +kernel
theorem dX9_init_193 : decode cX9_init 193 = .ok (.dup, 1) := by decide +kernel
theorem dX9_init_194 : decode cX9_init 194 = .ok (.invokespecial 94, 3) := by decide +kernel
theorem dX9_init_197 : decode cX9_init 197 = .ok (.aastore, 1) := by decide +kernel
theorem dX9_init_198 : decode cX9_init 198 = .ok (.iinc 1 1, 3) := by decide +kernel
theorem dX9_init_201 : decode cX9_init 201 = .ok (.goto (-21), 3) := by decide +kernel
theorem dX9_init_204 : decode cX9_init 204 = .ok (.return_, 1) := by decide +kernel
theorem dX9_type_0 : decode cX9_type 0 = .ok (.iload_n 1, 1) := by decide +kernel
theorem dX9_type_1 : decode cX9_type 1 = .ok (.iconst 2, 1) := by decide +kernel
theorem dX9_type_2 : decode cX9_type 2 = .ok (.invokestatic 95, 3) := by decide +kernel
theorem dX9_type_5 : decode cX9_type 5 = .ok (.ifCond .eq 13, 3) := by decide +kernel
theorem dX9_type_8 : decode cX9_type 8 = .ok (.iload_n 2, 1) := by decide +kernel
theorem dX9_type_9 : decode cX9_type 9 = .ok (.sipush 256, 3) := by decide +kernel
theorem dX9_type_12 : decode cX9_type 12 = .ok (.invokestatic 95, 3) := by decide +kernel
theorem dX9_type_15 : decode cX9_type 15 = .ok (.ifCond .ne 6, 3) := by decide +kernel
theorem dX9_type_18 : decode cX9_type 18 = .ok (.bipush (-2), 2) := by decide +kernel
theorem dX9_type_20 : decode cX9_type 20 = .ok (.ireturn, 1) := by decide +kernel
theorem dX9_type_21 : decode cX9_type 21 = .ok (.aload_n 0, 1) := by decide +kernel
theorem dX9_type_22 : decode cX9_type 22 = .ok (.getfield 11, 3) := by decide +kernel
theorem dX9_type_25 : decode cX9_type 25 = .ok (.iload_n 1, 1) := by decide +kernel
theorem dX9_type_26 : decode cX9_type 26 = .ok (.aaload, 1) := by decide +kernel
theorem dX9_type_27 : decode cX9_type 27 = .ok (.iload_n 2, 1) := by decide +kernel
theorem dX9_type_28 : decode cX9_type 28 = .ok (.invokevirtual 99, 3) := by decide +kernel
theorem dX9_type_31 : decode cX9_type 31 = .ok (.ifCond .ne 6, 3) := by decide +kernel
theorem dX9_type_34 : decode cX9_type 34 = .ok (.bipush (-4), 2) := by decide +kernel
theorem dX9_type_36 : decode cX9_type 36 = .ok (.ireturn, 1) := by decide +kernel
theorem dX9_type_37 : decode cX9_type 37 = .ok (.aload_n 0, 1) := by decide +kernel
theorem dX9_type_38 : decode cX9_type 38 = .ok (.iload_n 1, 1) := by decide +kernel
theorem dX9_type_39 : decode cX9_type 39 = .ok (.invokevirtual 103, 3) := by decide +kernel
theorem dX9_type_42 : decode cX9_type 42 = .ok (.aload_n 0, 1) := by decide +kernel
theorem dX9_type_43 : decode cX9_type 43 = .ok (.getfield 11, 3) := by decide +kernel
theorem dX9_type_46 : decode cX9_type 46 = .ok (.iload_n 1, 1) := by decide +kernel
theorem dX9_type_47 : decode cX9_type 47 = .ok (.aaload, 1) := by decide +kernel
theorem dX9_type_48 : decode cX9_type 48 = .ok (.getfield 106, 3) := by decide +kernel
theorem dX9_type_51 : decode cX9_type 51 = .ok (.ireturn, 1) := by decide +kernel
theorem dX9_wipe_0 : decode cX9_wipe 0 = .ok (.iload_n 1, 1) := by decide +kernel
theorem dX9_wipe_1 : decode cX9_wipe 1 = .ok (.iconst 2, 1) := by decide +kernel
theorem dX9_wipe_2 : decode cX9_wipe 2 = .ok (.invokestatic 95, 3) := by decide +kernel
theorem dX9_wipe_5 : decode cX9_wipe 5 = .ok (.ifCond .ne 6, 3) := by decide +kernel
theorem dX9_wipe_8 : decode cX9_wipe 8 = .ok (.bipush (-2), 2) := by decide +kernel
theorem dX9_wipe_10 : decode cX9_wipe 10 = .ok (.ireturn, 1) := by decide +kernel
theorem dX9_wipe_11 : decode cX9_wipe 11 = .ok (.aload_n 0, 1) := by decide +kernel
theorem dX9_wipe_12 : decode cX9_wipe 12 = .ok (.getfield 11, 3) := by decide +kernel
theorem dX9_wipe_15 : decode cX9_wipe 15 = .ok (.iload_n 1, 1) := by decide +kernel
theorem dX9_wipe_16 : decode cX9_wipe 16 = .ok (.aaload, 1) := by decide +kernel
theorem dX9_wipe_17 : decode cX9_wipe 17 = .ok (.getfield 106, 3) := by decide +kernel
theorem dX9_wipe_20 : decode cX9_wipe 20 = .ok (.istore_n 2, 1) := by decide +kernel
theorem dX9_wipe_21 : decode cX9_wipe 21 = .ok (.aload_n 0, 1) := by decide +kernel
theorem dX9_wipe_22 : decode cX9_wipe 22 = .ok (.getfield 11, 3) := by decide +kernel
theorem dX9_wipe_25 : decode cX9_wipe 25 = .ok (.iload_n 1, 1) := by decide +kernel
theorem dX9_wipe_26 : decode cX9_wipe 26 = .ok (.aaload, 1) := by decide +kernel
theorem dX9_wipe_27 : decode cX9_wipe 27 = .ok (.iconst 0, 1) := by decide +kernel
theorem dX9_wipe_28 : decode cX9_wipe 28 = .ok (.putfield 106, 3) := by decide +kernel
theorem dX9_wipe_31 : decode cX9_wipe 31 = .ok (.aload_n 0, 1) := by decide +kernel
theorem dX9_wipe_32 : decode cX9_wipe 32 = .ok (.iload_n 1, 1) := by decide +kernel
theorem dX9_wipe_33 : decode cX9_wipe 33 = .ok (.invokevirtual 103, 3) := by decide +kernel
theorem dX9_wipe_36 : decode cX9_wipe 36 = .ok (.iload_n 2, 1) := by decide +kernel
theorem dX9_wipe_37 : decode cX9_wipe 37 = .ok (.ireturn, 1) := by decide +kernel
theorem dX9_undo_0 : decode cX9_undo 0 = .ok (.iload_n 1, 1) := by decide +kernel
theorem dX9_undo_1 : decode cX9_undo 1 = .ok (.iconst 2, 1) := by decide +kernel
theorem dX9_undo_2 : decode cX9_undo 2 = .ok (.invokestatic 95, 3) := by decide +kernel
theorem dX9_undo_5 : decode cX9_undo 5 = .ok (.ifCond .ne 6, 3) := by decide +kernel
theorem dX9_undo_8 : decode cX9_undo 8 = .ok (.bipush (-2), 2) := by decide +kernel
theorem dX9_undo_10 : decode cX9_undo 10 = .ok (.ireturn, 1) := by decide +kernel
theorem dX9_undo_11 : decode cX9_undo 11 = .ok (.aload_n 0, 1) := by decide +kernel
theorem dX9_undo_12 : decode cX9_undo 12 = .ok (.getfield 11, 3) := by decide +kernel
theorem dX9_undo_15 : decode cX9_undo 15 = .ok (.iload_n 1, 1) := by decide +kernel
theorem dX9_undo_16 : decode cX9_undo 16 = .ok (.aaload, 1) := by decide +kernel
theorem dX9_undo_17 : decode cX9_undo 17 = .ok (.getfield 106, 3) := by decide +kernel
theorem dX9_undo_20 : decode cX9_undo 20 = .ok (.ifCond .ne 6, 3) := by decide +kernel
theorem dX9_undo_23 : decode cX9_undo 23 = .ok (.bipush (-3), 2) := by decide +kernel
theorem dX9_undo_25 : decode cX9_undo 25 = .ok (.ireturn, 1) := by decide +kernel
theorem dX9_undo_26 : decode cX9_undo 26 = .ok (.aload_n 0, 1) := by decide +kernel
theorem dX9_undo_27 : decode cX9_undo 27 = .ok (.getfield 11, 3) := by decide +kernel
theorem dX9_undo_30 : decode cX9_undo 30 = .ok (.iload_n 1, 1) := by decide +kernel
theorem dX9_undo_31 : decode cX9_undo 31 = .ok (.aaload, 1) := by decide +kernel
theorem dX9_undo_32 : decode cX9_undo 32 = .ok (.dup, 1) := by decide +kernel
theorem dX9_undo_33 : decode cX9_undo 33 = .ok (.getfield 106, 3) := by decide +kernel
theorem dX9_undo_36 : decode cX9_undo 36 = .ok (.iconst 1, 1) := by decide +kernel
theorem dX9_undo_37 : decode cX9_undo 37 = .ok (.isub, 1) := by decide +kernel
theorem dX9_undo_38 : decode cX9_undo 38 = .ok (.putfield 106, 3) := by decide +kernel
theorem dX9_undo_41 : decode cX9_undo 41 = .ok (.aload_n 0, 1) := by decide +kernel
theorem dX9_undo_42 : decode cX9_undo 42 = .ok (.iload_n 1, 1) := by decide +kernel
theorem dX9_undo_43 : decode cX9_undo 43 = .ok (.invokevirtual 103, 3) := by decide +kernel
theorem dX9_undo_46 : decode cX9_undo 46 = .ok (.aload_n 0, 1) := by decide +kernel
theorem dX9_undo_47 : decode cX9_undo 47 = .ok (.getfield 11, 3) := by decide +kernel
theorem dX9_undo_50 : decode cX9_undo 50 = .ok (.iload_n 1, 1) := by decide +kernel
theorem dX9_undo_51 : decode cX9_undo 51 = .ok (.aaload, 1) := by decide +kernel
theorem dX9_undo_52 : decode cX9_undo 52 = .ok (.getfield 106, 3) := by decide +kernel
theorem dX9_undo_55 : decode cX9_undo 55 = .ok (.ireturn, 1) := by decide +kernel
theorem dX9_fault_0 : decode cX9_fault 0 = .ok (.iload_n 1, 1) := by decide +kernel
theorem dX9_fault_1 : decode cX9_fault 1 = .ok (.iconst 2, 1) := by decide +kernel
theorem dX9_fault_2 : decode cX9_fault 2 = .ok (.invokestatic 95, 3) := by decide +kernel
theorem dX9_fault_5 : decode cX9_fault 5 = .ok (.ifCond .ne 6, 3) := by decide +kernel
theorem dX9_fault_8 : decode cX9_fault 8 = .ok (.bipush (-2), 2) := by decide +kernel
theorem dX9_fault_10 : decode cX9_fault 10 = .ok (.ireturn, 1) := by decide +kernel
theorem dX9_fault_11 : decode cX9_fault 11 = .ok (.iload_n 1, 1) := by decide +kernel
theorem dX9_fault_12 : decode cX9_fault 12 = .ok (.ifCond .ne 13, 3) := by decide +kernel
theorem dX9_fault_15 : decode cX9_fault 15 = .ok (.aload_n 0, 1) := by decide +kernel
theorem dX9_fault_16 : decode cX9_fault 16 = .ok (.getfield 18, 3) := by decide +kernel
theorem dX9_fault_19 : decode cX9_fault 19 = .ok (.getfield 109, 3) := by decide +kernel
theorem dX9_fault_22 : decode cX9_fault 22 = .ok (.goto 10, 3) := by decide +kernel
theorem dX9_fault_25 : decode cX9_fault 25 = .ok (.aload_n 0, 1) := by decide +kernel
theorem dX9_fault_26 : decode cX9_fault 26 = .ok (.getfield 25, 3) := by decide +kernel
theorem dX9_fault_29 : decode cX9_fault 29 = .ok (.getfield 112, 3) := by decide +kernel
theorem dX9_fault_32 : decode cX9_fault 32 = .ok (.ireturn, 1) := by decide +kernel
theorem dX9_member_0 : decode cX9_member 0 = .ok (.aload_n 0, 1) := by decide +kernel
theorem dX9_member_1 : decode cX9_member 1 = .ok (.iload_n 1, 1) := by decide +kernel
theorem dX9_member_2 : decode cX9_member 2 = .ok (.invokevirtual 113, 3) := by decide +kernel
theorem dX9_member_5 : decode cX9_member 5 = .ok (.ifCond .eq 11, 3) := by decide +kernel
theorem dX9_member_8 : decode cX9_member 8 = .ok (.iload_n 2, 1) := by decide +kernel
theorem dX9_member_9 : decode cX9_member 9 = .ok (.iconst 5, 1) := by decide +kernel
theorem dX9_member_10 : decode cX9_member 10 = .ok (.invokestatic 95, 3) := by decide +kernel
theorem dX9_member_13 : decode cX9_member 13 = .ok (.ifCond .ne 6, 3) := by decide +kernel
theorem dX9_member_16 : decode cX9_member 16 = .ok (.bipush (-2), 2) := by decide +kernel
theorem dX9_member_18 : decode cX9_member 18 = .ok (.ireturn, 1) := by decide +kernel
theorem dX9_member_19 : decode cX9_member 19 = .ok (.iload_n 2, 1) := by decide +kernel
theorem dX9_member_20 : decode cX9_member 20 = .ok (.ifCond .ne 13, 3) := by decide +kernel
theorem dX9_member_23 : decode cX9_member 23 = .ok (.aload_n 0, 1) := by decide +kernel
theorem dX9_member_24 : decode cX9_member 24 = .ok (.getfield 18, 3) := by decide +kernel
theorem dX9_member_27 : decode cX9_member 27 = .ok (.getfield 116, 3) := by decide +kernel
theorem dX9_member_30 : decode cX9_member 30 = .ok (.iload_n 1, 1) := by decide +kernel
theorem dX9_member_31 : decode cX9_member 31 = .ok (.iaload, 1) := by decide +kernel
theorem dX9_member_32 : decode cX9_member 32 = .ok (.ireturn, 1) := by decide +kernel
theorem dX9_member_33 : decode cX9_member 33 = .ok (.iload_n 2, 1) := by decide +kernel
theorem dX9_member_34 : decode cX9_member 34 = .ok (.iconst 1, 1) := by decide +kernel
theorem dX9_member_35 : decode cX9_member 35 = .ok (.if_icmp .ne 15, 3) := by decide +kernel
theorem dX9_member_38 : decode cX9_member 38 = .ok (.aload_n 0, 1) := by decide +kernel
theorem dX9_member_39 : decode cX9_member 39 = .ok (.getfield 18, 3) := by decide +kernel
theorem dX9_member_42 : decode cX9_member 42 = .ok (.getfield 119, 3) := by decide +kernel
theorem dX9_member_45 : decode cX9_member 45 = .ok (.iload_n 1, 1) := by decide +kernel
theorem dX9_member_46 : decode cX9_member 46 = .ok (.iaload, 1) := by decide +kernel
theorem dX9_member_47 : decode cX9_member 47 = .ok (.goto 18, 3) := by decide +kernel
theorem dX9_member_50 : decode cX9_member 50 = .ok (.aload_n 0, 1) := by decide +kernel
theorem dX9_member_51 : decode cX9_member 51 = .ok (.getfield 18, 3) := by decide +kernel
theorem dX9_member_54 : decode cX9_member 54 = .ok (.getfield 122, 3) := by decide +kernel
theorem dX9_member_57 : decode cX9_member 57 = .ok (.iload_n 1, 1) := by decide +kernel
theorem dX9_member_58 : decode cX9_member 58 = .ok (.iaload, 1) := by decide +kernel
theorem dX9_member_59 : decode cX9_member 59 = .ok (.iload_n 2, 1) := by decide +kernel
theorem dX9_member_60 : decode cX9_member 60 = .ok (.iconst 2, 1) := by decide +kernel
theorem dX9_member_61 : decode cX9_member 61 = .ok (.isub, 1) := by decide +kernel
theorem dX9_member_62 : decode cX9_member 62 = .ok (.invokestatic 125, 3) := by decide +kernel
theorem dX9_member_65 : decode cX9_member 65 = .ok (.ireturn, 1) := by decide +kernel
theorem dX9_motion_0 : decode cX9_motion 0 = .ok (.iload_n 1, 1) := by decide +kernel
theorem dX9_motion_1 : decode cX9_motion 1 = .ok (.invokestatic 129, 3) := by decide +kernel
theorem dX9_motion_4 : decode cX9_motion 4 = .ok (.ifCond .eq 11, 3) := by decide +kernel
theorem dX9_motion_7 : decode cX9_motion 7 = .ok (.iload_n 2, 1) := by decide +kernel
theorem dX9_motion_8 : decode cX9_motion 8 = .ok (.iconst 3, 1) := by decide +kernel
theorem dX9_motion_9 : decode cX9_motion 9 = .ok (.invokestatic 95, 3) := by decide +kernel
theorem dX9_motion_12 : decode cX9_motion 12 = .ok (.ifCond .ne 6, 3) := by decide +kernel
theorem dX9_motion_15 : decode cX9_motion 15 = .ok (.bipush (-2), 2) := by decide +kernel
theorem dX9_motion_17 : decode cX9_motion 17 = .ok (.ireturn, 1) := by decide +kernel
theorem dX9_motion_18 : decode cX9_motion 18 = .ok (.iload_n 1, 1) := by decide +kernel
theorem dX9_motion_19 : decode cX9_motion 19 = .ok (.aload_n 0, 1) := by decide +kernel
theorem dX9_motion_20 : decode cX9_motion 20 = .ok (.getfield 25, 3) := by decide +kernel
theorem dX9_motion_23 : decode cX9_motion 23 = .ok (.getfield 132, 3) := by decide +kernel
theorem dX9_motion_26 : decode cX9_motion 26 = .ok (.if_icmp .lt 5, 3) := by decide +kernel
theorem dX9_motion_29 : decode cX9_motion 29 = .ok (.iconst (-1), 1) := by decide +kernel
theorem dX9_motion_30 : decode cX9_motion 30 = .ok (.ireturn, 1) := by decide +kernel
theorem dX9_motion_31 : decode cX9_motion 31 = .ok (.iload_n 2, 1) := by decide +kernel
theorem dX9_motion_32 : decode cX9_motion 32 = .ok (.ifCond .ne 13, 3) := by decide +kernel
theorem dX9_motion_35 : decode cX9_motion 35 = .ok (.aload_n 0, 1) := by decide +kernel
theorem dX9_motion_36 : decode cX9_motion 36 = .ok (.getfield 25, 3) := by decide +kernel
theorem dX9_motion_39 : decode cX9_motion 39 = .ok (.getfield 133, 3) := by decide +kernel
theorem dX9_motion_42 : decode cX9_motion 42 = .ok (.iload_n 1, 1) := by decide +kernel
theorem dX9_motion_43 : decode cX9_motion 43 = .ok (.iaload, 1) := by decide +kernel
theorem dX9_motion_44 : decode cX9_motion 44 = .ok (.ireturn, 1) := by decide +kernel
theorem dX9_motion_45 : decode cX9_motion 45 = .ok (.iload_n 2, 1) := by decide +kernel
theorem dX9_motion_46 : decode cX9_motion 46 = .ok (.iconst 1, 1) := by decide +kernel
theorem dX9_motion_47 : decode cX9_motion 47 = .ok (.if_icmp .ne 15, 3) := by decide +kernel
theorem dX9_motion_50 : decode cX9_motion 50 = .ok (.aload_n 0, 1) := by decide +kernel
theorem dX9_motion_51 : decode cX9_motion 51 = .ok (.getfield 25, 3) := by decide +kernel
theorem dX9_motion_54 : decode cX9_motion 54 = .ok (.getfield 136, 3) := by decide +kernel
theorem dX9_motion_57 : decode cX9_motion 57 = .ok (.iload_n 1, 1) := by decide +kernel
theorem dX9_motion_58 : decode cX9_motion 58 = .ok (.iaload, 1) := by decide +kernel
theorem dX9_motion_59 : decode cX9_motion 59 = .ok (.goto 12, 3) := by decide +kernel
theorem dX9_motion_62 : decode cX9_motion 62 = .ok (.aload_n 0, 1) := by decide +kernel
theorem dX9_motion_63 : decode cX9_motion 63 = .ok (.getfield 25, 3) := by decide +kernel
theorem dX9_motion_66 : decode cX9_motion 66 = .ok (.getfield 139, 3) := by decide +kernel
theorem dX9_motion_69 : decode cX9_motion 69 = .ok (.iload_n 1, 1) := by decide +kernel
theorem dX9_motion_70 : decode cX9_motion 70 = .ok (.iaload, 1) := by decide +kernel
theorem dX9_motion_71 : decode cX9_motion 71 = .ok (.ireturn, 1) := by decide +kernel
theorem dX9_weight_0 : decode cX9_weight 0 = .ok (.iload_n 1, 1) := by decide +kernel
theorem dX9_weight_1 : decode cX9_weight 1 = .ok (.iconst 3, 1) := by decide +kernel
theorem dX9_weight_2 : decode cX9_weight 2 = .ok (.invokestatic 95, 3) := by decide +kernel
theorem dX9_weight_5 : decode cX9_weight 5 = .ok (.ifCond .eq 12, 3) := by decide +kernel
theorem dX9_weight_8 : decode cX9_weight 8 = .ok (.iload_n 2, 1) := by decide +kernel
theorem dX9_weight_9 : decode cX9_weight 9 = .ok (.bipush 10, 2) := by decide +kernel
theorem dX9_weight_11 : decode cX9_weight 11 = .ok (.invokestatic 95, 3) := by decide +kernel
theorem dX9_weight_14 : decode cX9_weight 14 = .ok (.ifCond .ne 6, 3) := by decide +kernel
theorem dX9_weight_17 : decode cX9_weight 17 = .ok (.bipush (-2), 2) := by decide +kernel
theorem dX9_weight_19 : decode cX9_weight 19 = .ok (.ireturn, 1) := by decide +kernel
theorem dX9_weight_20 : decode cX9_weight 20 = .ok (.aload_n 0, 1) := by decide +kernel
theorem dX9_weight_21 : decode cX9_weight 21 = .ok (.getfield 18, 3) := by decide +kernel
theorem dX9_weight_24 : decode cX9_weight 24 = .ok (.getfield 142, 3) := by decide +kernel
theorem dX9_weight_27 : decode cX9_weight 27 = .ok (.iload_n 1, 1) := by decide +kernel
theorem dX9_weight_28 : decode cX9_weight 28 = .ok (.iaload, 1) := by decide +kernel
theorem dX9_weight_29 : decode cX9_weight 29 = .ok (.istore_n 3, 1) := by decide +kernel
theorem dX9_weight_30 : decode cX9_weight 30 = .ok (.aload_n 0, 1) := by decide +kernel
theorem dX9_weight_31 : decode cX9_weight 31 = .ok (.getfield 18, 3) := by decide +kernel
theorem dX9_weight_34 : decode cX9_weight 34 = .ok (.getfield 142, 3) := by decide +kernel
theorem dX9_weight_37 : decode cX9_weight 37 = .ok (.iload_n 1, 1) := by decide +kernel
theorem dX9_weight_38 : decode cX9_weight 38 = .ok (.iload_n 2, 1) := by decide +kernel
theorem dX9_weight_39 : decode cX9_weight 39 = .ok (.iastore, 1) := by decide +kernel
theorem dX9_weight_40 : decode cX9_weight 40 = .ok (.iload_n 3, 1) := by decide +kernel
theorem dX9_weight_41 : decode cX9_weight 41 = .ok (.ireturn, 1) := by decide +kernel
theorem dX9_fold_0 : decode cX9_fold 0 = .ok (.iload_n 1, 1) := by decide +kernel
theorem dX9_fold_1 : decode cX9_fold 1 = .ok (.iload_n 2, 1) := by decide +kernel
theorem dX9_fold_2 : decode cX9_fold 2 = .ok (.iload_n 3, 1) := by decide +kernel
theorem dX9_fold_3 : decode cX9_fold 3 = .ok (.invokestatic 145, 3) := by decide +kernel
theorem dX9_fold_6 : decode cX9_fold 6 = .ok (.ifCond .ne 6, 3) := by decide +kernel
theorem dX9_fold_9 : decode cX9_fold 9 = .ok (.bipush (-2), 2) := by decide +kernel
theorem dX9_fold_11 : decode cX9_fold 11 = .ok (.ireturn, 1) := by decide +kernel
theorem dX9_fold_12 : decode cX9_fold 12 = .ok (.aload_n 0, 1) := by decide +kernel
theorem dX9_fold_13 : decode cX9_fold 13 = .ok (.getfield 32, 3) := by decide +kernel
theorem dX9_fold_16 : decode cX9_fold 16 = .ok (.iload_n 1, 1) := by decide +kernel
theorem dX9_fold_17 : decode cX9_fold 17 = .ok (.iload_n 2, 1) := by decide +kernel
theorem dX9_fold_18 : decode cX9_fold 18 = .ok (.iload_n 3, 1) := by decide +kernel
theorem dX9_fold_19 : decode cX9_fold 19 = .ok (.invokevirtual 149, 3) := by decide +kernel
theorem dX9_fold_22 : decode cX9_fold 22 = .ok (.ifCond .eq 13, 3) := by decide +kernel
theorem dX9_fold_25 : decode cX9_fold 25 = .ok (.aload_n 0, 1) := by decide +kernel
theorem dX9_fold_26 : decode cX9_fold 26 = .ok (.getfield 32, 3) := by decide +kernel
theorem dX9_fold_29 : decode cX9_fold 29 = .ok (.getfield 151, 3) := by decide +kernel
theorem dX9_fold_32 : decode cX9_fold 32 = .ok (.goto 5, 3) := by decide +kernel
theorem dX9_fold_35 : decode cX9_fold 35 = .ok (.bipush (-4), 2) := by decide +kernel
theorem dX9_fold_37 : decode cX9_fold 37 = .ok (.ireturn, 1) := by decide +kernel
theorem dX9_jar_0 : decode cX9_jar 0 = .ok (.iload_n 1, 1) := by decide +kernel
theorem dX9_jar_1 : decode cX9_jar 1 = .ok (.invokestatic 129, 3) := by decide +kernel
theorem dX9_jar_4 : decode cX9_jar 4 = .ok (.ifCond .ne 6, 3) := by decide +kernel
theorem dX9_jar_7 : decode cX9_jar 7 = .ok (.bipush (-2), 2) := by decide +kernel
theorem dX9_jar_9 : decode cX9_jar 9 = .ok (.ireturn, 1) := by decide +kernel
theorem dX9_jar_10 : decode cX9_jar 10 = .ok (.aload_n 0, 1) := by decide +kernel
theorem dX9_jar_11 : decode cX9_jar 11 = .ok (.getfield 39, 3) := by decide +kernel
theorem dX9_jar_14 : decode cX9_jar 14 = .ok (.iload_n 1, 1) := by decide +kernel
theorem dX9_jar_15 : decode cX9_jar 15 = .ok (.invokevirtual 152, 3) := by decide +kernel
theorem dX9_jar_18 : decode cX9_jar 18 = .ok (.ifCond .eq 13, 3) := by decide +kernel
theorem dX9_jar_21 : decode cX9_jar 21 = .ok (.aload_n 0, 1) := by decide +kernel
theorem dX9_jar_22 : decode cX9_jar 22 = .ok (.getfield 39, 3) := by decide +kernel
theorem dX9_jar_25 : decode cX9_jar 25 = .ok (.getfield 153, 3) := by decide +kernel
theorem dX9_jar_28 : decode cX9_jar 28 = .ok (.goto 5, 3) := by decide +kernel
theorem dX9_jar_31 : decode cX9_jar 31 = .ok (.bipush (-4), 2) := by decide +kernel
theorem dX9_jar_33 : decode cX9_jar 33 = .ok (.ireturn, 1) := by decide +kernel
theorem dX9_back_0 : decode cX9_back 0 = .ok (.iload_n 1, 1) := by decide +kernel
theorem dX9_back_1 : decode cX9_back 1 = .ok (.iconst 2, 1) := by decide +kernel
theorem dX9_back_2 : decode cX9_back 2 = .ok (.invokestatic 95, 3) := by decide +kernel
theorem dX9_back_5 : decode cX9_back 5 = .ok (.ifCond .ne 6, 3) := by decide +kernel
theorem dX9_back_8 : decode cX9_back 8 = .ok (.bipush (-2), 2) := by decide +kernel
theorem dX9_back_10 : decode cX9_back 10 = .ok (.ireturn, 1) := by decide +kernel
theorem dX9_back_11 : decode cX9_back 11 = .ok (.iload_n 1, 1) := by decide +kernel
theorem dX9_back_12 : decode cX9_back 12 = .ok (.ifCond .ne 13, 3) := by decide +kernel
theorem dX9_back_15 : decode cX9_back 15 = .ok (.aload_n 0, 1) := by decide +kernel
theorem dX9_back_16 : decode cX9_back 16 = .ok (.getfield 32, 3) := by decide +kernel
theorem dX9_back_19 : decode cX9_back 19 = .ok (.getfield 151, 3) := by decide +kernel
theorem dX9_back_22 : decode cX9_back 22 = .ok (.goto 10, 3) := by decide +kernel
theorem dX9_back_25 : decode cX9_back 25 = .ok (.aload_n 0, 1) := by decide +kernel
theorem dX9_back_26 : decode cX9_back 26 = .ok (.getfield 39, 3) := by decide +kernel
theorem dX9_back_29 : decode cX9_back 29 = .ok (.getfield 153, 3) := by decide +kernel
theorem dX9_back_32 : decode cX9_back 32 = .ok (.iconst 1, 1) := by decide +kernel
theorem dX9_back_33 : decode cX9_back 33 = .ok (.isub, 1) := by decide +kernel
theorem dX9_back_34 : decode cX9_back 34 = .ok (.istore_n 2, 1) := by decide +kernel
theorem dX9_back_35 : decode cX9_back 35 = .ok (.iload_n 2, 1) := by decide +kernel
theorem dX9_back_36 : decode cX9_back 36 = .ok (.ifCond .ge 6, 3) := by decide +kernel
theorem dX9_back_39 : decode cX9_back 39 = .ok (.bipush (-3), 2) := by decide +kernel
theorem dX9_back_41 : decode cX9_back 41 = .ok (.ireturn, 1) := by decide +kernel
theorem dX9_back_42 : decode cX9_back 42 = .ok (.iload_n 1, 1) := by decide +kernel
theorem dX9_back_43 : decode cX9_back 43 = .ok (.ifCond .ne 14, 3) := by decide +kernel
theorem dX9_back_46 : decode cX9_back 46 = .ok (.aload_n 0, 1) := by decide +kernel
theorem dX9_back_47 : decode cX9_back 47 = .ok (.getfield 32, 3) := by decide +kernel
theorem dX9_back_50 : decode cX9_back 50 = .ok (.iload_n 2, 1) := by decide +kernel
theorem dX9_back_51 : decode cX9_back 51 = .ok (.putfield 151, 3) := by decide +kernel
theorem dX9_back_54 : decode cX9_back 54 = .ok (.goto 11, 3) := by decide +kernel
theorem dX9_back_57 : decode cX9_back 57 = .ok (.aload_n 0, 1) := by decide +kernel
theorem dX9_back_58 : decode cX9_back 58 = .ok (.getfield 39, 3) := by decide +kernel
theorem dX9_back_61 : decode cX9_back 61 = .ok (.iload_n 2, 1) := by decide +kernel
theorem dX9_back_62 : decode cX9_back 62 = .ok (.putfield 153, 3) := by decide +kernel
theorem dX9_back_65 : decode cX9_back 65 = .ok (.iload_n 2, 1) := by decide +kernel
theorem dX9_back_66 : decode cX9_back 66 = .ok (.ireturn, 1) := by decide +kernel
theorem dX9_read_0 : decode cX9_read 0 = .ok (.iload_n 1, 1) := by decide +kernel
theorem dX9_read_1 : decode cX9_read 1 = .ok (.iconst 4, 1) := by decide +kernel
theorem dX9_read_2 : decode cX9_read 2 = .ok (.invokestatic 95, 3) := by decide +kernel
theorem dX9_read_5 : decode cX9_read 5 = .ok (.ifCond .ne 6, 3) := by decide +kernel
theorem dX9_read_8 : decode cX9_read 8 = .ok (.bipush (-2), 2) := by decide +kernel
theorem dX9_read_10 : decode cX9_read 10 = .ok (.ireturn, 1) := by decide +kernel
theorem dX9_read_11 : decode cX9_read 11 = .ok (.aload_n 0, 1) := by decide +kernel
theorem dX9_read_12 : decode cX9_read 12 = .ok (.getfield 70, 3) := by decide +kernel
theorem dX9_read_15 : decode cX9_read 15 = .ok (.iload_n 1, 1) := by decide +kernel
theorem dX9_read_16 : decode cX9_read 16 = .ok (.aaload, 1) := by decide +kernel
theorem dX9_read_17 : decode cX9_read 17 = .ok (.astore_n 2, 1) := by decide +kernel
theorem dX9_read_18 : decode cX9_read 18 = .ok (.aload_n 2, 1) := by decide +kernel
theorem dX9_read_19 : decode cX9_read 19 = .ok (.getfield 154, 3) := by decide +kernel
theorem dX9_read_22 : decode cX9_read 22 = .ok (.iconst (-1), 1) := by decide +kernel
theorem dX9_read_23 : decode cX9_read 23 = .ok (.if_icmp .ne 9, 3) := by decide +kernel
theorem dX9_read_26 : decode cX9_read 26 = .ok (.aload_n 0, 1) := by decide +kernel
theorem dX9_read_27 : decode cX9_read 27 = .ok (.iconst 1, 1) := by decide +kernel
theorem dX9_read_28 : decode cX9_read 28 = .ok (.invokevirtual 157, 3) := by decide +kernel
theorem dX9_read_31 : decode cX9_read 31 = .ok (.ireturn, 1) := by decide +kernel
theorem dX9_read_32 : decode cX9_read 32 = .ok (.iconst 0, 1) := by decide +kernel
theorem dX9_read_33 : decode cX9_read 33 = .ok (.istore_n 3, 1) := by decide +kernel
theorem dX9_read_34 : decode cX9_read 34 = .ok (.iconst 0, 1) := by decide +kernel
theorem dX9_read_35 : decode cX9_read 35 = .ok (.istore 4, 2) := by decide +kernel
theorem dX9_read_37 : decode cX9_read 37 = .ok (.iload 4, 2) := by decide +kernel
theorem dX9_read_39 : decode cX9_read 39 = .ok (.iconst 2, 1) := by decide +kernel
theorem dX9_read_40 : decode cX9_read 40 = .ok (.iadd, 1) := by decide +kernel
theorem dX9_read_41 : decode cX9_read 41 = .ok (.aload_n 2, 1) := by decide +kernel
theorem dX9_read_42 : decode cX9_read 42 = .ok (.getfield 161, 3) := by decide +kernel
theorem dX9_read_45 : decode cX9_read 45 = .ok (.if_icmp .ge 74, 3) := by decide +kernel
theorem dX9_read_48 : decode cX9_read 48 = .ok (.aload_n 2, 1) := by decide +kernel
theorem dX9_read_49 : decode cX9_read 49 = .ok (.getfield 164, 3) := by decide +kernel
theorem dX9_read_52 : decode cX9_read 52 = .ok (.iload 4, 2) := by decide +kernel
theorem dX9_read_54 : decode cX9_read 54 = .ok (.iaload, 1) := by decide +kernel
theorem dX9_read_55 : decode cX9_read 55 = .ok (.istore 5, 2) := by decide +kernel
theorem dX9_read_57 : decode cX9_read 57 = .ok (.aload_n 2, 1) := by decide +kernel
theorem dX9_read_58 : decode cX9_read 58 = .ok (.getfield 164, 3) := by decide +kernel
theorem dX9_read_61 : decode cX9_read 61 = .ok (.iload 4, 2) := by decide +kernel
theorem dX9_read_63 : decode cX9_read 63 = .ok (.iconst 1, 1) := by decide +kernel
theorem dX9_read_64 : decode cX9_read 64 = .ok (.iadd, 1) := by decide +kernel
theorem dX9_read_65 : decode cX9_read 65 = .ok (.iaload, 1) := by decide +kernel
theorem dX9_read_66 : decode cX9_read 66 = .ok (.istore 6, 2) := by decide +kernel
theorem dX9_read_68 : decode cX9_read 68 = .ok (.aload_n 2, 1) := by decide +kernel
theorem dX9_read_69 : decode cX9_read 69 = .ok (.getfield 164, 3) := by decide +kernel
theorem dX9_read_72 : decode cX9_read 72 = .ok (.iload 4, 2) := by decide +kernel
theorem dX9_read_74 : decode cX9_read 74 = .ok (.iconst 2, 1) := by decide +kernel
theorem dX9_read_75 : decode cX9_read 75 = .ok (.iadd, 1) := by decide +kernel
theorem dX9_read_76 : decode cX9_read 76 = .ok (.iaload, 1) := by decide +kernel
theorem dX9_read_77 : decode cX9_read 77 = .ok (.istore 7, 2) := by decide +kernel
theorem dX9_read_79 : decode cX9_read 79 = .ok (.iload 5, 2) := by decide +kernel
theorem dX9_read_81 : decode cX9_read 81 = .ok (.iload 6, 2) := by decide +kernel
theorem dX9_read_83 : decode cX9_read 83 = .ok (.iload 7, 2) := by decide +kernel
theorem dX9_read_85 : decode cX9_read 85 = .ok (.invokestatic 145, 3) := by decide +kernel
theorem dX9_read_88 : decode cX9_read 88 = .ok (.ifCond .eq 31, 3) := by decide +kernel
theorem dX9_read_91 : decode cX9_read 91 = .ok (.aload_n 0, 1) := by decide +kernel
theorem dX9_read_92 : decode cX9_read 92 = .ok (.getfield 32, 3) := by decide +kernel
theorem dX9_read_95 : decode cX9_read 95 = .ok (.iload 5, 2) := by decide +kernel
theorem dX9_read_97 : decode cX9_read 97 = .ok (.iload 6, 2) := by decide +kernel
theorem dX9_read_99 : decode cX9_read 99 = .ok (.iload 7, 2) := by decide +kernel
theorem dX9_read_101 : decode cX9_read 101 = .ok (.invokevirtual 149, 3) := by decide +kernel
theorem dX9_read_104 : decode cX9_read 104 = .ok (.ifCond .ne 6, 3) := by decide +kernel
theorem dX9_read_107 : decode cX9_read 107 = .ok (.goto 12, 3) := by decide +kernel
theorem dX9_read_110 : decode cX9_read 110 = .ok (.iinc 3 1, 3) := by decide +kernel
theorem dX9_read_113 : decode cX9_read 113 = .ok (.iinc 4 3, 3) := by decide +kernel
theorem dX9_read_116 : decode cX9_read 116 = .ok (.goto (-79), 3) := by decide +kernel
theorem dX9_read_119 : decode cX9_read 119 = .ok (.iload_n 3, 1) := by decide +kernel
theorem dX9_read_120 : decode cX9_read 120 = .ok (.ireturn, 1) := by decide +kernel
theorem dX9_lies_0 : decode cX9_lies 0 = .ok (.iload_n 1, 1) := by decide +kernel
theorem dX9_lies_1 : decode cX9_lies 1 = .ok (.invokestatic 129, 3) := by decide +kernel
theorem dX9_lies_4 : decode cX9_lies 4 = .ok (.ifCond .eq 19, 3) := by decide +kernel
theorem dX9_lies_7 : decode cX9_lies 7 = .ok (.aload_n 0, 1) := by decide +kernel
theorem dX9_lies_8 : decode cX9_lies 8 = .ok (.iload_n 2, 1) := by decide +kernel
theorem dX9_lies_9 : decode cX9_lies 9 = .ok (.invokevirtual 113, 3) := by decide +kernel
theorem dX9_lies_12 : decode cX9_lies 12 = .ok (.ifCond .eq 11, 3) := by decide +kernel
theorem dX9_lies_15 : decode cX9_lies 15 = .ok (.iload_n 3, 1) := by decide +kernel
theorem dX9_lies_16 : decode cX9_lies 16 = .ok (.iconst 3, 1) := by decide +kernel
theorem dX9_lies_17 : decode cX9_lies 17 = .ok (.invokestatic 95, 3) := by decide +kernel
theorem dX9_lies_20 : decode cX9_lies 20 = .ok (.ifCond .ne 6, 3) := by decide +kernel
theorem dX9_lies_23 : decode cX9_lies 23 = .ok (.bipush (-2), 2) := by decide +kernel
theorem dX9_lies_25 : decode cX9_lies 25 = .ok (.ireturn, 1) := by decide +kernel
theorem dX9_lies_26 : decode cX9_lies 26 = .ok (.iload_n 3, 1) := by decide +kernel
theorem dX9_lies_27 : decode cX9_lies 27 = .ok (.iconst 2, 1) := by decide +kernel
theorem dX9_lies_28 : decode cX9_lies 28 = .ok (.if_icmp .ne 26, 3) := by decide +kernel
theorem dX9_lies_31 : decode cX9_lies 31 = .ok (.aload_n 0, 1) := by decide +kernel
theorem dX9_lies_32 : decode cX9_lies 32 = .ok (.iload_n 1, 1) := by decide +kernel
theorem dX9_lies_33 : decode cX9_lies 33 = .ok (.invokevirtual 167, 3) := by decide +kernel
theorem dX9_lies_36 : decode cX9_lies 36 = .ok (.iconst (-1), 1) := by decide +kernel
theorem dX9_lies_37 : decode cX9_lies 37 = .ok (.if_icmp .ne 7, 3) := by decide +kernel
theorem dX9_lies_40 : decode cX9_lies 40 = .ok (.iconst (-1), 1) := by decide +kernel
theorem dX9_lies_41 : decode cX9_lies 41 = .ok (.goto 12, 3) := by decide +kernel
theorem dX9_lies_44 : decode cX9_lies 44 = .ok (.aload_n 0, 1) := by decide +kernel
theorem dX9_lies_45 : decode cX9_lies 45 = .ok (.getfield 55, 3) := by decide +kernel
theorem dX9_lies_48 : decode cX9_lies 48 = .ok (.getfield 170, 3) := by decide +kernel
theorem dX9_lies_51 : decode cX9_lies 51 = .ok (.iload_n 2, 1) := by decide +kernel
theorem dX9_lies_52 : decode cX9_lies 52 = .ok (.iaload, 1) := by decide +kernel
theorem dX9_lies_53 : decode cX9_lies 53 = .ok (.ireturn, 1) := by decide +kernel
theorem dX9_lies_54 : decode cX9_lies 54 = .ok (.aload_n 0, 1) := by decide +kernel
theorem dX9_lies_55 : decode cX9_lies 55 = .ok (.getfield 55, 3) := by decide +kernel
theorem dX9_lies_58 : decode cX9_lies 58 = .ok (.iload_n 1, 1) := by decide +kernel
theorem dX9_lies_59 : decode cX9_lies 59 = .ok (.iconst (-1), 1) := by decide +kernel
theorem dX9_lies_60 : decode cX9_lies 60 = .ok (.invokevirtual 173, 3) := by decide +kernel
theorem dX9_lies_63 : decode cX9_lies 63 = .ok (.aload_n 0, 1) := by decide +kernel
theorem dX9_lies_64 : decode cX9_lies 64 = .ok (.getfield 55, 3) := by decide +kernel
theorem dX9_lies_67 : decode cX9_lies 67 = .ok (.getfield 177, 3) := by decide +kernel
theorem dX9_lies_70 : decode cX9_lies 70 = .ok (.iload_n 2, 1) := by decide +kernel
theorem dX9_lies_71 : decode cX9_lies 71 = .ok (.iaload, 1) := by decide +kernel
theorem dX9_lies_72 : decode cX9_lies 72 = .ok (.istore 4, 2) := by decide +kernel
theorem dX9_lies_74 : decode cX9_lies 74 = .ok (.iload_n 3, 1) := by decide +kernel
theorem dX9_lies_75 : decode cX9_lies 75 = .ok (.ifCond .ne 8, 3) := by decide +kernel
theorem dX9_lies_78 : decode cX9_lies 78 = .ok (.iload 4, 2) := by decide +kernel
theorem dX9_lies_80 : decode cX9_lies 80 = .ok (.goto 16, 3) := by decide +kernel
theorem dX9_lies_83 : decode cX9_lies 83 = .ok (.iload 4, 2) := by decide +kernel
theorem dX9_lies_85 : decode cX9_lies 85 = .ok (.aload_n 0, 1) := by decide +kernel
theorem dX9_lies_86 : decode cX9_lies 86 = .ok (.getfield 39, 3) := by decide +kernel
theorem dX9_lies_89 : decode cX9_lies 89 = .ok (.iload_n 1, 1) := by decide +kernel
theorem dX9_lies_90 : decode cX9_lies 90 = .ok (.invokevirtual 178, 3) := by decide +kernel
theorem dX9_lies_93 : decode cX9_lies 93 = .ok (.invokestatic 181, 3) := by decide +kernel
theorem dX9_lies_96 : decode cX9_lies 96 = .ok (.ireturn, 1) := by decide +kernel
theorem dX9_vote_0 : decode cX9_vote 0 = .ok (.iload_n 1, 1) := by decide +kernel
theorem dX9_vote_1 : decode cX9_vote 1 = .ok (.invokestatic 129, 3) := by decide +kernel
theorem dX9_vote_4 : decode cX9_vote 4 = .ok (.ifCond .eq 11, 3) := by decide +kernel
theorem dX9_vote_7 : decode cX9_vote 7 = .ok (.iload_n 2, 1) := by decide +kernel
theorem dX9_vote_8 : decode cX9_vote 8 = .ok (.iconst 4, 1) := by decide +kernel
theorem dX9_vote_9 : decode cX9_vote 9 = .ok (.invokestatic 95, 3) := by decide +kernel
theorem dX9_vote_12 : decode cX9_vote 12 = .ok (.ifCond .ne 6, 3) := by decide +kernel
theorem dX9_vote_15 : decode cX9_vote 15 = .ok (.bipush (-2), 2) := by decide +kernel
theorem dX9_vote_17 : decode cX9_vote 17 = .ok (.ireturn, 1) := by decide +kernel
theorem dX9_vote_18 : decode cX9_vote 18 = .ok (.aload_n 0, 1) := by decide +kernel
theorem dX9_vote_19 : decode cX9_vote 19 = .ok (.iload_n 1, 1) := by decide +kernel
theorem dX9_vote_20 : decode cX9_vote 20 = .ok (.invokevirtual 167, 3) := by decide +kernel
theorem dX9_vote_23 : decode cX9_vote 23 = .ok (.istore_n 3, 1) := by decide +kernel
theorem dX9_vote_24 : decode cX9_vote 24 = .ok (.iload_n 3, 1) := by decide +kernel
theorem dX9_vote_25 : decode cX9_vote 25 = .ok (.iconst (-1), 1) := by decide +kernel
theorem dX9_vote_26 : decode cX9_vote 26 = .ok (.if_icmp .ne 5, 3) := by decide +kernel
theorem dX9_vote_29 : decode cX9_vote 29 = .ok (.iconst (-1), 1) := by decide +kernel
theorem dX9_vote_30 : decode cX9_vote 30 = .ok (.ireturn, 1) := by decide +kernel
theorem dX9_vote_31 : decode cX9_vote 31 = .ok (.iload_n 2, 1) := by decide +kernel
theorem dX9_vote_32 : decode cX9_vote 32 = .ok (.tableswitch 49 0 2 #[28, 36, 47], 28) := by decide +kernel
theorem dX9_vote_60 : decode cX9_vote 60 = .ok (.aload_n 0, 1) := by decide +kernel
theorem dX9_vote_61 : decode cX9_vote 61 = .ok (.getfield 55, 3) := by decide +kernel
theorem dX9_vote_64 : decode cX9_vote 64 = .ok (.getfield 185, 3) := by decide +kernel
theorem dX9_vote_67 : decode cX9_vote 67 = .ok (.ireturn, 1) := by decide +kernel
theorem dX9_vote_68 : decode cX9_vote 68 = .ok (.aload_n 0, 1) := by decide +kernel
theorem dX9_vote_69 : decode cX9_vote 69 = .ok (.getfield 55, 3) := by decide +kernel
theorem dX9_vote_72 : decode cX9_vote 72 = .ok (.getfield 188, 3) := by decide +kernel
theorem dX9_vote_75 : decode cX9_vote 75 = .ok (.invokestatic 191, 3) := by decide +kernel
theorem dX9_vote_78 : decode cX9_vote 78 = .ok (.ireturn, 1) := by decide +kernel
theorem dX9_vote_79 : decode cX9_vote 79 = .ok (.iload_n 3, 1) := by decide +kernel
theorem dX9_vote_80 : decode cX9_vote 80 = .ok (.ireturn, 1) := by decide +kernel
theorem dX9_vote_81 : decode cX9_vote 81 = .ok (.aload_n 0, 1) := by decide +kernel
theorem dX9_vote_82 : decode cX9_vote 82 = .ok (.getfield 55, 3) := by decide +kernel
theorem dX9_vote_85 : decode cX9_vote 85 = .ok (.getfield 196, 3) := by decide +kernel
theorem dX9_vote_88 : decode cX9_vote 88 = .ok (.ireturn, 1) := by decide +kernel
theorem dX9_house_0 : decode cX9_house 0 = .ok (.iload_n 1, 1) := by decide +kernel
theorem dX9_house_1 : decode cX9_house 1 = .ok (.invokestatic 129, 3) := by decide +kernel
theorem dX9_house_4 : decode cX9_house 4 = .ok (.ifCond .eq 15, 3) := by decide +kernel
theorem dX9_house_7 : decode cX9_house 7 = .ok (.aload_n 0, 1) := by decide +kernel
theorem dX9_house_8 : decode cX9_house 8 = .ok (.aload_n 0, 1) := by decide +kernel
theorem dX9_house_9 : decode cX9_house 9 = .ok (.iload_n 1, 1) := by decide +kernel
theorem dX9_house_10 : decode cX9_house 10 = .ok (.invokevirtual 199, 3) := by decide +kernel
theorem dX9_house_13 : decode cX9_house 13 = .ok (.invokevirtual 167, 3) := by decide +kernel
theorem dX9_house_16 : decode cX9_house 16 = .ok (.goto 5, 3) := by decide +kernel
theorem dX9_house_19 : decode cX9_house 19 = .ok (.bipush (-2), 2) := by decide +kernel
theorem dX9_house_21 : decode cX9_house 21 = .ok (.ireturn, 1) := by decide +kernel
theorem dX9_told_0 : decode cX9_told 0 = .ok (.iconst 0, 1) := by decide +kernel
theorem dX9_told_1 : decode cX9_told 1 = .ok (.istore_n 1, 1) := by decide +kernel
theorem dX9_told_2 : decode cX9_told 2 = .ok (.iconst 0, 1) := by decide +kernel
theorem dX9_told_3 : decode cX9_told 3 = .ok (.istore_n 2, 1) := by decide +kernel
theorem dX9_told_4 : decode cX9_told 4 = .ok (.iload_n 2, 1) := by decide +kernel
theorem dX9_told_5 : decode cX9_told 5 = .ok (.aload_n 0, 1) := by decide +kernel
theorem dX9_told_6 : decode cX9_told 6 = .ok (.getfield 25, 3) := by decide +kernel
theorem dX9_told_9 : decode cX9_told 9 = .ok (.getfield 132, 3) := by decide +kernel
theorem dX9_told_12 : decode cX9_told 12 = .ok (.if_icmp .ge 31, 3) := by decide +kernel
theorem dX9_told_15 : decode cX9_told 15 = .ok (.aload_n 0, 1) := by decide +kernel
theorem dX9_told_16 : decode cX9_told 16 = .ok (.iload_n 2, 1) := by decide +kernel
theorem dX9_told_17 : decode cX9_told 17 = .ok (.invokevirtual 167, 3) := by decide +kernel
theorem dX9_told_20 : decode cX9_told 20 = .ok (.iconst (-1), 1) := by decide +kernel
theorem dX9_told_21 : decode cX9_told 21 = .ok (.if_icmp .eq 16, 3) := by decide +kernel
theorem dX9_told_24 : decode cX9_told 24 = .ok (.aload_n 0, 1) := by decide +kernel
theorem dX9_told_25 : decode cX9_told 25 = .ok (.getfield 55, 3) := by decide +kernel
theorem dX9_told_28 : decode cX9_told 28 = .ok (.getfield 188, 3) := by decide +kernel
theorem dX9_told_31 : decode cX9_told 31 = .ok (.ifCond .ne 6, 3) := by decide +kernel
theorem dX9_told_34 : decode cX9_told 34 = .ok (.iinc 1 1, 3) := by decide +kernel
theorem dX9_told_37 : decode cX9_told 37 = .ok (.iinc 2 1, 3) := by decide +kernel
theorem dX9_told_40 : decode cX9_told 40 = .ok (.goto (-36), 3) := by decide +kernel
theorem dX9_told_43 : decode cX9_told 43 = .ok (.iload_n 1, 1) := by decide +kernel
theorem dX9_told_44 : decode cX9_told 44 = .ok (.ireturn, 1) := by decide +kernel
theorem dX9_pleased_0 : decode cX9_pleased 0 = .ok (.iconst 0, 1) := by decide +kernel
theorem dX9_pleased_1 : decode cX9_pleased 1 = .ok (.istore_n 1, 1) := by decide +kernel
theorem dX9_pleased_2 : decode cX9_pleased 2 = .ok (.iload_n 1, 1) := by decide +kernel
theorem dX9_pleased_3 : decode cX9_pleased 3 = .ok (.aload_n 0, 1) := by decide +kernel
theorem dX9_pleased_4 : decode cX9_pleased 4 = .ok (.getfield 18, 3) := by decide +kernel
theorem dX9_pleased_7 : decode cX9_pleased 7 = .ok (.getfield 202, 3) := by decide +kernel
theorem dX9_pleased_10 : decode cX9_pleased 10 = .ok (.if_icmp .ge 16, 3) := by decide +kernel
theorem dX9_pleased_13 : decode cX9_pleased 13 = .ok (.aload_n 0, 1) := by decide +kernel
theorem dX9_pleased_14 : decode cX9_pleased 14 = .ok (.getfield 78, 3) := by decide +kernel
theorem dX9_pleased_17 : decode cX9_pleased 17 = .ok (.iload_n 1, 1) := by decide +kernel
theorem dX9_pleased_18 : decode cX9_pleased 18 = .ok (.iconst 0, 1) := by decide +kernel
theorem dX9_pleased_19 : decode cX9_pleased 19 = .ok (.iastore, 1) := by decide +kernel
theorem dX9_pleased_20 : decode cX9_pleased 20 = .ok (.iinc 1 1, 3) := by decide +kernel
theorem dX9_pleased_23 : decode cX9_pleased 23 = .ok (.goto (-21), 3) := by decide +kernel
theorem dX9_pleased_26 : decode cX9_pleased 26 = .ok (.iconst 0, 1) := by decide +kernel
theorem dX9_pleased_27 : decode cX9_pleased 27 = .ok (.istore_n 1, 1) := by decide +kernel
theorem dX9_pleased_28 : decode cX9_pleased 28 = .ok (.iload_n 1, 1) := by decide +kernel
theorem dX9_pleased_29 : decode cX9_pleased 29 = .ok (.aload_n 0, 1) := by decide +kernel
theorem dX9_pleased_30 : decode cX9_pleased 30 = .ok (.getfield 25, 3) := by decide +kernel
theorem dX9_pleased_33 : decode cX9_pleased 33 = .ok (.getfield 132, 3) := by decide +kernel
theorem dX9_pleased_36 : decode cX9_pleased 36 = .ok (.if_icmp .ge 56, 3) := by decide +kernel
theorem dX9_pleased_39 : decode cX9_pleased 39 = .ok (.aload_n 0, 1) := by decide +kernel
theorem dX9_pleased_40 : decode cX9_pleased 40 = .ok (.iload_n 1, 1) := by decide +kernel
theorem dX9_pleased_41 : decode cX9_pleased 41 = .ok (.invokevirtual 167, 3) := by decide +kernel
theorem dX9_pleased_44 : decode cX9_pleased 44 = .ok (.istore_n 2, 1) := by decide +kernel
theorem dX9_pleased_45 : decode cX9_pleased 45 = .ok (.iconst 0, 1) := by decide +kernel
theorem dX9_pleased_46 : decode cX9_pleased 46 = .ok (.istore_n 3, 1) := by decide +kernel
theorem dX9_pleased_47 : decode cX9_pleased 47 = .ok (.iload_n 3, 1) := by decide +kernel
theorem dX9_pleased_48 : decode cX9_pleased 48 = .ok (.aload_n 0, 1) := by decide +kernel
theorem dX9_pleased_49 : decode cX9_pleased 49 = .ok (.getfield 18, 3) := by decide +kernel
theorem dX9_pleased_52 : decode cX9_pleased 52 = .ok (.getfield 202, 3) := by decide +kernel
theorem dX9_pleased_55 : decode cX9_pleased 55 = .ok (.if_icmp .ge 31, 3) := by decide +kernel
theorem dX9_pleased_58 : decode cX9_pleased 58 = .ok (.aload_n 0, 1) := by decide +kernel
theorem dX9_pleased_59 : decode cX9_pleased 59 = .ok (.getfield 55, 3) := by decide +kernel
theorem dX9_pleased_62 : decode cX9_pleased 62 = .ok (.iload_n 3, 1) := by decide +kernel
theorem dX9_pleased_63 : decode cX9_pleased 63 = .ok (.invokevirtual 203, 3) := by decide +kernel
theorem dX9_pleased_66 : decode cX9_pleased 66 = .ok (.iload_n 2, 1) := by decide +kernel
theorem dX9_pleased_67 : decode cX9_pleased 67 = .ok (.if_icmp .ne 13, 3) := by decide +kernel
theorem dX9_pleased_70 : decode cX9_pleased 70 = .ok (.aload_n 0, 1) := by decide +kernel
theorem dX9_pleased_71 : decode cX9_pleased 71 = .ok (.getfield 78, 3) := by decide +kernel
theorem dX9_pleased_74 : decode cX9_pleased 74 = .ok (.iload_n 3, 1) := by decide +kernel
theorem dX9_pleased_75 : decode cX9_pleased 75 = .ok (.dup2, 1) := by decide +kernel
theorem dX9_pleased_76 : decode cX9_pleased 76 = .ok (.iaload, 1) := by decide +kernel
theorem dX9_pleased_77 : decode cX9_pleased 77 = .ok (.iconst 1, 1) := by decide +kernel
theorem dX9_pleased_78 : decode cX9_pleased 78 = .ok (.iadd, 1) := by decide +kernel
theorem dX9_pleased_79 : decode cX9_pleased 79 = .ok (.iastore, 1) := by decide +kernel
theorem dX9_pleased_80 : decode cX9_pleased 80 = .ok (.iinc 3 1, 3) := by decide +kernel
theorem dX9_pleased_83 : decode cX9_pleased 83 = .ok (.goto (-36), 3) := by decide +kernel
theorem dX9_pleased_86 : decode cX9_pleased 86 = .ok (.iinc 1 1, 3) := by decide +kernel
theorem dX9_pleased_89 : decode cX9_pleased 89 = .ok (.goto (-61), 3) := by decide +kernel
theorem dX9_pleased_92 : decode cX9_pleased 92 = .ok (.iconst (-1), 1) := by decide +kernel
theorem dX9_pleased_93 : decode cX9_pleased 93 = .ok (.istore_n 1, 1) := by decide +kernel
theorem dX9_pleased_94 : decode cX9_pleased 94 = .ok (.iconst 0, 1) := by decide +kernel
theorem dX9_pleased_95 : decode cX9_pleased 95 = .ok (.istore_n 2, 1) := by decide +kernel
theorem dX9_pleased_96 : decode cX9_pleased 96 = .ok (.iload_n 2, 1) := by decide +kernel
theorem dX9_pleased_97 : decode cX9_pleased 97 = .ok (.aload_n 0, 1) := by decide +kernel
theorem dX9_pleased_98 : decode cX9_pleased 98 = .ok (.getfield 18, 3) := by decide +kernel
theorem dX9_pleased_101 : decode cX9_pleased 101 = .ok (.getfield 202, 3) := by decide +kernel
theorem dX9_pleased_104 : decode cX9_pleased 104 = .ok (.if_icmp .ge 31, 3) := by decide +kernel
theorem dX9_pleased_107 : decode cX9_pleased 107 = .ok (.iload_n 1, 1) := by decide +kernel
theorem dX9_pleased_108 : decode cX9_pleased 108 = .ok (.iconst (-1), 1) := by decide +kernel
theorem dX9_pleased_109 : decode cX9_pleased 109 = .ok (.if_icmp .eq 18, 3) := by decide +kernel
theorem dX9_pleased_112 : decode cX9_pleased 112 = .ok (.aload_n 0, 1) := by decide +kernel
theorem dX9_pleased_113 : decode cX9_pleased 113 = .ok (.getfield 78, 3) := by decide +kernel
theorem dX9_pleased_116 : decode cX9_pleased 116 = .ok (.iload_n 2, 1) := by decide +kernel
theorem dX9_pleased_117 : decode cX9_pleased 117 = .ok (.iaload, 1) := by decide +kernel
theorem dX9_pleased_118 : decode cX9_pleased 118 = .ok (.aload_n 0, 1) := by decide +kernel
theorem dX9_pleased_119 : decode cX9_pleased 119 = .ok (.getfield 78, 3) := by decide +kernel
theorem dX9_pleased_122 : decode cX9_pleased 122 = .ok (.iload_n 1, 1) := by decide +kernel
theorem dX9_pleased_123 : decode cX9_pleased 123 = .ok (.iaload, 1) := by decide +kernel
theorem dX9_pleased_124 : decode cX9_pleased 124 = .ok (.if_icmp .le 5, 3) := by decide +kernel
theorem dX9_pleased_127 : decode cX9_pleased 127 = .ok (.iload_n 2, 1) := by decide +kernel
theorem dX9_pleased_128 : decode cX9_pleased 128 = .ok (.istore_n 1, 1) := by decide +kernel
theorem dX9_pleased_129 : decode cX9_pleased 129 = .ok (.iinc 2 1, 3) := by decide +kernel
theorem dX9_pleased_132 : decode cX9_pleased 132 = .ok (.goto (-36), 3) := by decide +kernel
theorem dX9_pleased_135 : decode cX9_pleased 135 = .ok (.iload_n 1, 1) := by decide +kernel
theorem dX9_pleased_136 : decode cX9_pleased 136 = .ok (.ireturn, 1) := by decide +kernel
theorem dX9_lift_0 : decode cX9_lift 0 = .ok (.iload_n 1, 1) := by decide +kernel
theorem dX9_lift_1 : decode cX9_lift 1 = .ok (.invokestatic 129, 3) := by decide +kernel
theorem dX9_lift_4 : decode cX9_lift 4 = .ok (.ifCond .eq 13, 3) := by decide +kernel
theorem dX9_lift_7 : decode cX9_lift 7 = .ok (.iload_n 2, 1) := by decide +kernel
theorem dX9_lift_8 : decode cX9_lift 8 = .ok (.iconst (-1), 1) := by decide +kernel
theorem dX9_lift_9 : decode cX9_lift 9 = .ok (.if_icmp .lt 8, 3) := by decide +kernel
theorem dX9_lift_12 : decode cX9_lift 12 = .ok (.iload_n 2, 1) := by decide +kernel
theorem dX9_lift_13 : decode cX9_lift 13 = .ok (.iconst 1, 1) := by decide +kernel
theorem dX9_lift_14 : decode cX9_lift 14 = .ok (.if_icmp .le 6, 3) := by decide +kernel
theorem dX9_lift_17 : decode cX9_lift 17 = .ok (.bipush (-2), 2) := by decide +kernel
theorem dX9_lift_19 : decode cX9_lift 19 = .ok (.ireturn, 1) := by decide +kernel
theorem dX9_lift_20 : decode cX9_lift 20 = .ok (.aload_n 0, 1) := by decide +kernel
theorem dX9_lift_21 : decode cX9_lift 21 = .ok (.iload_n 1, 1) := by decide +kernel
theorem dX9_lift_22 : decode cX9_lift 22 = .ok (.invokevirtual 206, 3) := by decide +kernel
theorem dX9_lift_25 : decode cX9_lift 25 = .ok (.istore_n 3, 1) := by decide +kernel
theorem dX9_lift_26 : decode cX9_lift 26 = .ok (.iload_n 2, 1) := by decide +kernel
theorem dX9_lift_27 : decode cX9_lift 27 = .ok (.iconst (-1), 1) := by decide +kernel
theorem dX9_lift_28 : decode cX9_lift 28 = .ok (.if_icmp .ne 7, 3) := by decide +kernel
theorem dX9_lift_31 : decode cX9_lift 31 = .ok (.iload_n 3, 1) := by decide +kernel
theorem dX9_lift_32 : decode cX9_lift 32 = .ok (.goto 9, 3) := by decide +kernel
theorem dX9_lift_35 : decode cX9_lift 35 = .ok (.aload_n 0, 1) := by decide +kernel
theorem dX9_lift_36 : decode cX9_lift 36 = .ok (.getfield 81, 3) := by decide +kernel
theorem dX9_lift_39 : decode cX9_lift 39 = .ok (.iload_n 2, 1) := by decide +kernel
theorem dX9_lift_40 : decode cX9_lift 40 = .ok (.iaload, 1) := by decide +kernel
theorem dX9_lift_41 : decode cX9_lift 41 = .ok (.ireturn, 1) := by decide +kernel
theorem dX9_agenda_0 : decode cX9_agenda 0 = .ok (.iload_n 1, 1) := by decide +kernel
theorem dX9_agenda_1 : decode cX9_agenda 1 = .ok (.iconst 3, 1) := by decide +kernel
theorem dX9_agenda_2 : decode cX9_agenda 2 = .ok (.invokestatic 95, 3) := by decide +kernel
theorem dX9_agenda_5 : decode cX9_agenda 5 = .ok (.ifCond .ne 6, 3) := by decide +kernel
theorem dX9_agenda_8 : decode cX9_agenda 8 = .ok (.bipush (-2), 2) := by decide +kernel
theorem dX9_agenda_10 : decode cX9_agenda 10 = .ok (.ireturn, 1) := by decide +kernel
theorem dX9_agenda_11 : decode cX9_agenda 11 = .ok (.iconst 0, 1) := by decide +kernel
theorem dX9_agenda_12 : decode cX9_agenda 12 = .ok (.istore_n 2, 1) := by decide +kernel
theorem dX9_agenda_13 : decode cX9_agenda 13 = .ok (.iload_n 2, 1) := by decide +kernel
theorem dX9_agenda_14 : decode cX9_agenda 14 = .ok (.iconst 3, 1) := by decide +kernel
theorem dX9_agenda_15 : decode cX9_agenda 15 = .ok (.if_icmp .ge 20, 3) := by decide +kernel
theorem dX9_agenda_18 : decode cX9_agenda 18 = .ok (.aload_n 0, 1) := by decide +kernel
theorem dX9_agenda_19 : decode cX9_agenda 19 = .ok (.iload_n 2, 1) := by decide +kernel
theorem dX9_agenda_20 : decode cX9_agenda 20 = .ok (.invokevirtual 209, 3) := by decide +kernel
theorem dX9_agenda_23 : decode cX9_agenda 23 = .ok (.iload_n 1, 1) := by decide +kernel
theorem dX9_agenda_24 : decode cX9_agenda 24 = .ok (.if_icmp .ne 5, 3) := by decide +kernel
theorem dX9_agenda_27 : decode cX9_agenda 27 = .ok (.iload_n 2, 1) := by decide +kernel
theorem dX9_agenda_28 : decode cX9_agenda 28 = .ok (.ireturn, 1) := by decide +kernel
theorem dX9_agenda_29 : decode cX9_agenda 29 = .ok (.iinc 2 1, 3) := by decide +kernel
theorem dX9_agenda_32 : decode cX9_agenda 32 = .ok (.goto (-19), 3) := by decide +kernel
theorem dX9_agenda_35 : decode cX9_agenda 35 = .ok (.iconst (-1), 1) := by decide +kernel
theorem dX9_agenda_36 : decode cX9_agenda 36 = .ok (.ireturn, 1) := by decide +kernel
theorem dX9_power_0 : decode cX9_power 0 = .ok (.aload_n 0, 1) := by decide +kernel
theorem dX9_power_1 : decode cX9_power 1 = .ok (.iload_n 1, 1) := by decide +kernel
theorem dX9_power_2 : decode cX9_power 2 = .ok (.invokevirtual 113, 3) := by decide +kernel
theorem dX9_power_5 : decode cX9_power 5 = .ok (.ifCond .eq 11, 3) := by decide +kernel
theorem dX9_power_8 : decode cX9_power 8 = .ok (.iload_n 2, 1) := by decide +kernel
theorem dX9_power_9 : decode cX9_power 9 = .ok (.iconst 2, 1) := by decide +kernel
theorem dX9_power_10 : decode cX9_power 10 = .ok (.invokestatic 95, 3) := by decide +kernel
theorem dX9_power_13 : decode cX9_power 13 = .ok (.ifCond .ne 9, 3) := by decide +kernel
theorem dX9_power_16 : decode cX9_power 16 = .ok (.bipush (-2), 2) := by decide +kernel
theorem dX9_power_18 : decode cX9_power 18 = .ok (.invokestatic 212, 3) := by decide +kernel
theorem dX9_power_21 : decode cX9_power 21 = .ok (.lreturn, 1) := by decide +kernel
theorem dX9_power_22 : decode cX9_power 22 = .ok (.aload_n 0, 1) := by decide +kernel
theorem dX9_power_23 : decode cX9_power 23 = .ok (.getfield 64, 3) := by decide +kernel
theorem dX9_power_26 : decode cX9_power 26 = .ok (.iload_n 1, 1) := by decide +kernel
theorem dX9_power_27 : decode cX9_power 27 = .ok (.invokevirtual 216, 3) := by decide +kernel
theorem dX9_power_30 : decode cX9_power 30 = .ok (.i2l, 1) := by decide +kernel
theorem dX9_power_31 : decode cX9_power 31 = .ok (.getstatic 219, 3) := by decide +kernel
theorem dX9_power_34 : decode cX9_power 34 = .ok (.aload_n 0, 1) := by decide +kernel
theorem dX9_power_35 : decode cX9_power 35 = .ok (.getfield 18, 3) := by decide +kernel
theorem dX9_power_38 : decode cX9_power 38 = .ok (.getfield 202, 3) := by decide +kernel
theorem dX9_power_41 : decode cX9_power 41 = .ok (.iaload, 1) := by decide +kernel
theorem dX9_power_42 : decode cX9_power 42 = .ok (.i2l, 1) := by decide +kernel
theorem dX9_power_43 : decode cX9_power 43 = .ok (.iload_n 2, 1) := by decide +kernel
theorem dX9_power_44 : decode cX9_power 44 = .ok (.invokestatic 222, 3) := by decide +kernel
theorem dX9_power_47 : decode cX9_power 47 = .ok (.lreturn, 1) := by decide +kernel
theorem dX9_ring_0 : decode cX9_ring 0 = .ok (.aload_n 0, 1) := by decide +kernel
theorem dX9_ring_1 : decode cX9_ring 1 = .ok (.getfield 18, 3) := by decide +kernel
theorem dX9_ring_4 : decode cX9_ring 4 = .ok (.iconst 0, 1) := by decide +kernel
theorem dX9_ring_5 : decode cX9_ring 5 = .ok (.iconst 1, 1) := by decide +kernel
theorem dX9_ring_6 : decode cX9_ring 6 = .ok (.invokevirtual 226, 3) := by decide +kernel
theorem dX9_ring_9 : decode cX9_ring 9 = .ok (.istore_n 1, 1) := by decide +kernel
theorem dX9_ring_10 : decode cX9_ring 10 = .ok (.aload_n 0, 1) := by decide +kernel
theorem dX9_ring_11 : decode cX9_ring 11 = .ok (.getfield 18, 3) := by decide +kernel
theorem dX9_ring_14 : decode cX9_ring 14 = .ok (.iconst 1, 1) := by decide +kernel
theorem dX9_ring_15 : decode cX9_ring 15 = .ok (.iconst 2, 1) := by decide +kernel
theorem dX9_ring_16 : decode cX9_ring 16 = .ok (.invokevirtual 226, 3) := by decide +kernel
theorem dX9_ring_19 : decode cX9_ring 19 = .ok (.istore_n 2, 1) := by decide +kernel
theorem dX9_ring_20 : decode cX9_ring 20 = .ok (.aload_n 0, 1) := by decide +kernel
theorem dX9_ring_21 : decode cX9_ring 21 = .ok (.getfield 18, 3) := by decide +kernel
theorem dX9_ring_24 : decode cX9_ring 24 = .ok (.iconst 2, 1) := by decide +kernel
end
section
theorem dX9_ring_25 : decode cX9_ring 25 = .ok (.iconst 0, 1) := by decide +kernel
theorem dX9_ring_26 : decode cX9_ring 26 = .ok (.invokevirtual 226, 3) := by decide +kernel
theorem dX9_ring_29 : decode cX9_ring 29 = .ok (.istore_n 3, 1) := by decide +kernel
theorem dX9_ring_30 : decode cX9_ring 30 = .ok (.iload_n 1, 1) := by decide +kernel
theorem dX9_ring_31 : decode cX9_ring 31 = .ok (.ifCond .le 13, 3) := by decide +kernel
theorem dX9_ring_34 : decode cX9_ring 34 = .ok (.iload_n 2, 1) := by decide +kernel
theorem dX9_ring_35 : decode cX9_ring 35 = .ok (.ifCond .le 9, 3) := by decide +kernel
theorem dX9_ring_38 : decode cX9_ring 38 = .ok (.iload_n 3, 1) := by decide +kernel
theorem dX9_ring_39 : decode cX9_ring 39 = .ok (.ifCond .le 5, 3) := by decide +kernel
theorem dX9_ring_42 : decode cX9_ring 42 = .ok (.iconst 1, 1) := by decide +kernel
theorem dX9_ring_43 : decode cX9_ring 43 = .ok (.ireturn, 1) := by decide +kernel
theorem dX9_ring_44 : decode cX9_ring 44 = .ok (.iload_n 1, 1) := by decide +kernel
theorem dX9_ring_45 : decode cX9_ring 45 = .ok (.ifCond .ge 15, 3) := by decide +kernel
theorem dX9_ring_48 : decode cX9_ring 48 = .ok (.iload_n 2, 1) := by decide +kernel
theorem dX9_ring_49 : decode cX9_ring 49 = .ok (.ifCond .ge 11, 3) := by decide +kernel
theorem dX9_ring_52 : decode cX9_ring 52 = .ok (.iload_n 3, 1) := by decide +kernel
theorem dX9_ring_53 : decode cX9_ring 53 = .ok (.ifCond .ge 7, 3) := by decide +kernel
theorem dX9_ring_56 : decode cX9_ring 56 = .ok (.iconst 2, 1) := by decide +kernel
theorem dX9_ring_57 : decode cX9_ring 57 = .ok (.goto 4, 3) := by decide +kernel
theorem dX9_ring_60 : decode cX9_ring 60 = .ok (.iconst 0, 1) := by decide +kernel
theorem dX9_ring_61 : decode cX9_ring 61 = .ok (.ireturn, 1) := by decide +kernel
theorem dX9_sham_0 : decode cX9_sham 0 = .ok (.iload_n 1, 1) := by decide +kernel
theorem dX9_sham_1 : decode cX9_sham 1 = .ok (.invokestatic 129, 3) := by decide +kernel
theorem dX9_sham_4 : decode cX9_sham 4 = .ok (.ifCond .eq 11, 3) := by decide +kernel
theorem dX9_sham_7 : decode cX9_sham 7 = .ok (.aload_n 0, 1) := by decide +kernel
theorem dX9_sham_8 : decode cX9_sham 8 = .ok (.iload_n 2, 1) := by decide +kernel
theorem dX9_sham_9 : decode cX9_sham 9 = .ok (.invokevirtual 113, 3) := by decide +kernel
theorem dX9_sham_12 : decode cX9_sham 12 = .ok (.ifCond .ne 6, 3) := by decide +kernel
theorem dX9_sham_15 : decode cX9_sham 15 = .ok (.bipush (-2), 2) := by decide +kernel
theorem dX9_sham_17 : decode cX9_sham 17 = .ok (.ireturn, 1) := by decide +kernel
theorem dX9_sham_18 : decode cX9_sham 18 = .ok (.aload_n 0, 1) := by decide +kernel
theorem dX9_sham_19 : decode cX9_sham 19 = .ok (.iload_n 1, 1) := by decide +kernel
theorem dX9_sham_20 : decode cX9_sham 20 = .ok (.invokevirtual 167, 3) := by decide +kernel
theorem dX9_sham_23 : decode cX9_sham 23 = .ok (.istore_n 3, 1) := by decide +kernel
theorem dX9_sham_24 : decode cX9_sham 24 = .ok (.iload_n 3, 1) := by decide +kernel
theorem dX9_sham_25 : decode cX9_sham 25 = .ok (.iconst (-1), 1) := by decide +kernel
theorem dX9_sham_26 : decode cX9_sham 26 = .ok (.if_icmp .ne 5, 3) := by decide +kernel
theorem dX9_sham_29 : decode cX9_sham 29 = .ok (.iconst (-1), 1) := by decide +kernel
theorem dX9_sham_30 : decode cX9_sham 30 = .ok (.ireturn, 1) := by decide +kernel
theorem dX9_sham_31 : decode cX9_sham 31 = .ok (.aload_n 0, 1) := by decide +kernel
theorem dX9_sham_32 : decode cX9_sham 32 = .ok (.getfield 18, 3) := by decide +kernel
theorem dX9_sham_35 : decode cX9_sham 35 = .ok (.getfield 122, 3) := by decide +kernel
theorem dX9_sham_38 : decode cX9_sham 38 = .ok (.iload_n 2, 1) := by decide +kernel
theorem dX9_sham_39 : decode cX9_sham 39 = .ok (.iaload, 1) := by decide +kernel
theorem dX9_sham_40 : decode cX9_sham 40 = .ok (.aload_n 0, 1) := by decide +kernel
theorem dX9_sham_41 : decode cX9_sham 41 = .ok (.getfield 55, 3) := by decide +kernel
theorem dX9_sham_44 : decode cX9_sham 44 = .ok (.getfield 228, 3) := by decide +kernel
theorem dX9_sham_47 : decode cX9_sham 47 = .ok (.aload_n 0, 1) := by decide +kernel
theorem dX9_sham_48 : decode cX9_sham 48 = .ok (.getfield 55, 3) := by decide +kernel
theorem dX9_sham_51 : decode cX9_sham 51 = .ok (.getfield 230, 3) := by decide +kernel
theorem dX9_sham_54 : decode cX9_sham 54 = .ok (.invokestatic 232, 3) := by decide +kernel
theorem dX9_sham_57 : decode cX9_sham 57 = .ok (.ifCond .eq 13, 3) := by decide +kernel
theorem dX9_sham_60 : decode cX9_sham 60 = .ok (.aload_n 0, 1) := by decide +kernel
theorem dX9_sham_61 : decode cX9_sham 61 = .ok (.getfield 55, 3) := by decide +kernel
theorem dX9_sham_64 : decode cX9_sham 64 = .ok (.getfield 228, 3) := by decide +kernel
theorem dX9_sham_67 : decode cX9_sham 67 = .ok (.goto 10, 3) := by decide +kernel
theorem dX9_sham_70 : decode cX9_sham 70 = .ok (.aload_n 0, 1) := by decide +kernel
theorem dX9_sham_71 : decode cX9_sham 71 = .ok (.getfield 55, 3) := by decide +kernel
theorem dX9_sham_74 : decode cX9_sham 74 = .ok (.getfield 230, 3) := by decide +kernel
theorem dX9_sham_77 : decode cX9_sham 77 = .ok (.istore 4, 2) := by decide +kernel
theorem dX9_sham_79 : decode cX9_sham 79 = .ok (.iload_n 3, 1) := by decide +kernel
theorem dX9_sham_80 : decode cX9_sham 80 = .ok (.iload 4, 2) := by decide +kernel
theorem dX9_sham_82 : decode cX9_sham 82 = .ok (.if_icmp .ne 5, 3) := by decide +kernel
theorem dX9_sham_85 : decode cX9_sham 85 = .ok (.iconst 0, 1) := by decide +kernel
theorem dX9_sham_86 : decode cX9_sham 86 = .ok (.ireturn, 1) := by decide +kernel
theorem dX9_sham_87 : decode cX9_sham 87 = .ok (.aload_n 0, 1) := by decide +kernel
theorem dX9_sham_88 : decode cX9_sham 88 = .ok (.getfield 55, 3) := by decide +kernel
theorem dX9_sham_91 : decode cX9_sham 91 = .ok (.getfield 170, 3) := by decide +kernel
theorem dX9_sham_94 : decode cX9_sham 94 = .ok (.iload_n 2, 1) := by decide +kernel
theorem dX9_sham_95 : decode cX9_sham 95 = .ok (.iconst 1, 1) := by decide +kernel
theorem dX9_sham_96 : decode cX9_sham 96 = .ok (.aload_n 0, 1) := by decide +kernel
theorem dX9_sham_97 : decode cX9_sham 97 = .ok (.getfield 55, 3) := by decide +kernel
theorem dX9_sham_100 : decode cX9_sham 100 = .ok (.getfield 170, 3) := by decide +kernel
theorem dX9_sham_103 : decode cX9_sham 103 = .ok (.iload_n 2, 1) := by decide +kernel
theorem dX9_sham_104 : decode cX9_sham 104 = .ok (.iaload, 1) := by decide +kernel
theorem dX9_sham_105 : decode cX9_sham 105 = .ok (.isub, 1) := by decide +kernel
theorem dX9_sham_106 : decode cX9_sham 106 = .ok (.iastore, 1) := by decide +kernel
theorem dX9_sham_107 : decode cX9_sham 107 = .ok (.aload_n 0, 1) := by decide +kernel
theorem dX9_sham_108 : decode cX9_sham 108 = .ok (.getfield 55, 3) := by decide +kernel
theorem dX9_sham_111 : decode cX9_sham 111 = .ok (.invokevirtual 235, 3) := by decide +kernel
theorem dX9_sham_114 : decode cX9_sham 114 = .ok (.iload 4, 2) := by decide +kernel
theorem dX9_sham_116 : decode cX9_sham 116 = .ok (.if_icmp .ne 7, 3) := by decide +kernel
theorem dX9_sham_119 : decode cX9_sham 119 = .ok (.iconst 1, 1) := by decide +kernel
theorem dX9_sham_120 : decode cX9_sham 120 = .ok (.goto 4, 3) := by decide +kernel
theorem dX9_sham_123 : decode cX9_sham 123 = .ok (.iconst 0, 1) := by decide +kernel
theorem dX9_sham_124 : decode cX9_sham 124 = .ok (.ireturn, 1) := by decide +kernel
theorem dX9_seen_0 : decode cX9_seen 0 = .ok (.iload_n 1, 1) := by decide +kernel
theorem dX9_seen_1 : decode cX9_seen 1 = .ok (.invokestatic 129, 3) := by decide +kernel
theorem dX9_seen_4 : decode cX9_seen 4 = .ok (.ifCond .eq 11, 3) := by decide +kernel
theorem dX9_seen_7 : decode cX9_seen 7 = .ok (.iload_n 2, 1) := by decide +kernel
theorem dX9_seen_8 : decode cX9_seen 8 = .ok (.iconst 4, 1) := by decide +kernel
theorem dX9_seen_9 : decode cX9_seen 9 = .ok (.invokestatic 95, 3) := by decide +kernel
theorem dX9_seen_12 : decode cX9_seen 12 = .ok (.ifCond .ne 6, 3) := by decide +kernel
theorem dX9_seen_15 : decode cX9_seen 15 = .ok (.bipush (-2), 2) := by decide +kernel
theorem dX9_seen_17 : decode cX9_seen 17 = .ok (.ireturn, 1) := by decide +kernel
theorem dX9_seen_18 : decode cX9_seen 18 = .ok (.aload_n 0, 1) := by decide +kernel
theorem dX9_seen_19 : decode cX9_seen 19 = .ok (.getfield 46, 3) := by decide +kernel
theorem dX9_seen_22 : decode cX9_seen 22 = .ok (.iload_n 1, 1) := by decide +kernel
theorem dX9_seen_23 : decode cX9_seen 23 = .ok (.iload_n 2, 1) := by decide +kernel
theorem dX9_seen_24 : decode cX9_seen 24 = .ok (.iconst 3, 1) := by decide +kernel
theorem dX9_seen_25 : decode cX9_seen 25 = .ok (.if_icmp .ne 7, 3) := by decide +kernel
theorem dX9_seen_28 : decode cX9_seen 28 = .ok (.iconst (-1), 1) := by decide +kernel
theorem dX9_seen_29 : decode cX9_seen 29 = .ok (.goto 4, 3) := by decide +kernel
theorem dX9_seen_32 : decode cX9_seen 32 = .ok (.iload_n 2, 1) := by decide +kernel
theorem dX9_seen_33 : decode cX9_seen 33 = .ok (.invokevirtual 239, 3) := by decide +kernel
theorem dX9_seen_36 : decode cX9_seen 36 = .ok (.ifCond .eq 13, 3) := by decide +kernel
theorem dX9_seen_39 : decode cX9_seen 39 = .ok (.aload_n 0, 1) := by decide +kernel
theorem dX9_seen_40 : decode cX9_seen 40 = .ok (.getfield 46, 3) := by decide +kernel
theorem dX9_seen_43 : decode cX9_seen 43 = .ok (.getfield 241, 3) := by decide +kernel
theorem dX9_seen_46 : decode cX9_seen 46 = .ok (.goto 5, 3) := by decide +kernel
theorem dX9_seen_49 : decode cX9_seen 49 = .ok (.bipush (-4), 2) := by decide +kernel
theorem dX9_seen_51 : decode cX9_seen 51 = .ok (.ireturn, 1) := by decide +kernel
theorem dX9_forget_0 : decode cX9_forget 0 = .ok (.aload_n 0, 1) := by decide +kernel
theorem dX9_forget_1 : decode cX9_forget 1 = .ok (.getfield 46, 3) := by decide +kernel
theorem dX9_forget_4 : decode cX9_forget 4 = .ok (.getfield 241, 3) := by decide +kernel
theorem dX9_forget_7 : decode cX9_forget 7 = .ok (.istore_n 1, 1) := by decide +kernel
theorem dX9_forget_8 : decode cX9_forget 8 = .ok (.aload_n 0, 1) := by decide +kernel
theorem dX9_forget_9 : decode cX9_forget 9 = .ok (.getfield 46, 3) := by decide +kernel
theorem dX9_forget_12 : decode cX9_forget 12 = .ok (.iconst 0, 1) := by decide +kernel
theorem dX9_forget_13 : decode cX9_forget 13 = .ok (.putfield 241, 3) := by decide +kernel
theorem dX9_forget_16 : decode cX9_forget 16 = .ok (.iload_n 1, 1) := by decide +kernel
theorem dX9_forget_17 : decode cX9_forget 17 = .ok (.ireturn, 1) := by decide +kernel
theorem dX9_never_0 : decode cX9_never 0 = .ok (.iconst 0, 1) := by decide +kernel
theorem dX9_never_1 : decode cX9_never 1 = .ok (.istore_n 1, 1) := by decide +kernel
theorem dX9_never_2 : decode cX9_never 2 = .ok (.iconst 0, 1) := by decide +kernel
theorem dX9_never_3 : decode cX9_never 3 = .ok (.istore_n 2, 1) := by decide +kernel
theorem dX9_never_4 : decode cX9_never 4 = .ok (.iload_n 2, 1) := by decide +kernel
theorem dX9_never_5 : decode cX9_never 5 = .ok (.aload_n 0, 1) := by decide +kernel
theorem dX9_never_6 : decode cX9_never 6 = .ok (.getfield 32, 3) := by decide +kernel
theorem dX9_never_9 : decode cX9_never 9 = .ok (.getfield 151, 3) := by decide +kernel
theorem dX9_never_12 : decode cX9_never 12 = .ok (.if_icmp .ge 30, 3) := by decide +kernel
theorem dX9_never_15 : decode cX9_never 15 = .ok (.aload_n 0, 1) := by decide +kernel
theorem dX9_never_16 : decode cX9_never 16 = .ok (.aload_n 0, 1) := by decide +kernel
theorem dX9_never_17 : decode cX9_never 17 = .ok (.getfield 18, 3) := by decide +kernel
theorem dX9_never_20 : decode cX9_never 20 = .ok (.getfield 122, 3) := by decide +kernel
theorem dX9_never_23 : decode cX9_never 23 = .ok (.iload_n 2, 1) := by decide +kernel
theorem dX9_never_24 : decode cX9_never 24 = .ok (.invokevirtual 242, 3) := by decide +kernel
theorem dX9_never_27 : decode cX9_never 27 = .ok (.ifCond .eq 9, 3) := by decide +kernel
theorem dX9_never_30 : decode cX9_never 30 = .ok (.iload_n 1, 1) := by decide +kernel
theorem dX9_never_31 : decode cX9_never 31 = .ok (.iconst 1, 1) := by decide +kernel
theorem dX9_never_32 : decode cX9_never 32 = .ok (.iload_n 2, 1) := by decide +kernel
theorem dX9_never_33 : decode cX9_never 33 = .ok (.ishl, 1) := by decide +kernel
theorem dX9_never_34 : decode cX9_never 34 = .ok (.ior, 1) := by decide +kernel
theorem dX9_never_35 : decode cX9_never 35 = .ok (.istore_n 1, 1) := by decide +kernel
theorem dX9_never_36 : decode cX9_never 36 = .ok (.iinc 2 1, 3) := by decide +kernel
theorem dX9_never_39 : decode cX9_never 39 = .ok (.goto (-35), 3) := by decide +kernel
theorem dX9_never_42 : decode cX9_never 42 = .ok (.iload_n 1, 1) := by decide +kernel
theorem dX9_never_43 : decode cX9_never 43 = .ok (.ireturn, 1) := by decide +kernel
theorem dX9_would_0 : decode cX9_would 0 = .ok (.aload_n 0, 1) := by decide +kernel
theorem dX9_would_1 : decode cX9_would 1 = .ok (.iload_n 1, 1) := by decide +kernel
theorem dX9_would_2 : decode cX9_would 2 = .ok (.invokevirtual 113, 3) := by decide +kernel
theorem dX9_would_5 : decode cX9_would 5 = .ok (.ifCond .eq 11, 3) := by decide +kernel
theorem dX9_would_8 : decode cX9_would 8 = .ok (.aload_n 0, 1) := by decide +kernel
theorem dX9_would_9 : decode cX9_would 9 = .ok (.iload_n 1, 1) := by decide +kernel
theorem dX9_would_10 : decode cX9_would 10 = .ok (.invokevirtual 246, 3) := by decide +kernel
theorem dX9_would_13 : decode cX9_would 13 = .ok (.goto 5, 3) := by decide +kernel
theorem dX9_would_16 : decode cX9_would 16 = .ok (.bipush (-2), 2) := by decide +kernel
theorem dX9_would_18 : decode cX9_would 18 = .ok (.ireturn, 1) := by decide +kernel
theorem dX9_ask_0 : decode cX9_ask 0 = .ok (.aload_n 0, 1) := by decide +kernel
theorem dX9_ask_1 : decode cX9_ask 1 = .ok (.iload_n 1, 1) := by decide +kernel
theorem dX9_ask_2 : decode cX9_ask 2 = .ok (.invokevirtual 113, 3) := by decide +kernel
theorem dX9_ask_5 : decode cX9_ask 5 = .ok (.ifCond .eq 16, 3) := by decide +kernel
theorem dX9_ask_8 : decode cX9_ask 8 = .ok (.aload_n 0, 1) := by decide +kernel
theorem dX9_ask_9 : decode cX9_ask 9 = .ok (.iload_n 1, 1) := by decide +kernel
theorem dX9_ask_10 : decode cX9_ask 10 = .ok (.aload_n 0, 1) := by decide +kernel
theorem dX9_ask_11 : decode cX9_ask 11 = .ok (.iload_n 1, 1) := by decide +kernel
theorem dX9_ask_12 : decode cX9_ask 12 = .ok (.invokevirtual 246, 3) := by decide +kernel
theorem dX9_ask_15 : decode cX9_ask 15 = .ok (.invokevirtual 249, 3) := by decide +kernel
theorem dX9_ask_18 : decode cX9_ask 18 = .ok (.goto 5, 3) := by decide +kernel
theorem dX9_ask_21 : decode cX9_ask 21 = .ok (.bipush (-2), 2) := by decide +kernel
theorem dX9_ask_23 : decode cX9_ask 23 = .ok (.ireturn, 1) := by decide +kernel
theorem dX9_ajar_0 : decode cX9_ajar 0 = .ok (.iload_n 1, 1) := by decide +kernel
theorem dX9_ajar_1 : decode cX9_ajar 1 = .ok (.bipush 17, 2) := by decide +kernel
theorem dX9_ajar_3 : decode cX9_ajar 3 = .ok (.invokestatic 95, 3) := by decide +kernel
theorem dX9_ajar_6 : decode cX9_ajar 6 = .ok (.ifCond .eq 30, 3) := by decide +kernel
theorem dX9_ajar_9 : decode cX9_ajar 9 = .ok (.iload_n 2, 1) := by decide +kernel
theorem dX9_ajar_10 : decode cX9_ajar 10 = .ok (.invokestatic 129, 3) := by decide +kernel
theorem dX9_ajar_13 : decode cX9_ajar 13 = .ok (.ifCond .eq 23, 3) := by decide +kernel
theorem dX9_ajar_16 : decode cX9_ajar 16 = .ok (.iload_n 3, 1) := by decide +kernel
theorem dX9_ajar_17 : decode cX9_ajar 17 = .ok (.iconst 3, 1) := by decide +kernel
theorem dX9_ajar_18 : decode cX9_ajar 18 = .ok (.invokestatic 95, 3) := by decide +kernel
theorem dX9_ajar_21 : decode cX9_ajar 21 = .ok (.ifCond .eq 15, 3) := by decide +kernel
theorem dX9_ajar_24 : decode cX9_ajar 24 = .ok (.iload 4, 2) := by decide +kernel
theorem dX9_ajar_26 : decode cX9_ajar 26 = .ok (.invokestatic 129, 3) := by decide +kernel
theorem dX9_ajar_29 : decode cX9_ajar 29 = .ok (.ifCond .eq 7, 3) := by decide +kernel
theorem dX9_ajar_32 : decode cX9_ajar 32 = .ok (.iconst 1, 1) := by decide +kernel
theorem dX9_ajar_33 : decode cX9_ajar 33 = .ok (.goto 4, 3) := by decide +kernel
theorem dX9_ajar_36 : decode cX9_ajar 36 = .ok (.iconst 0, 1) := by decide +kernel
theorem dX9_ajar_37 : decode cX9_ajar 37 = .ok (.istore 6, 2) := by decide +kernel
theorem dX9_ajar_39 : decode cX9_ajar 39 = .ok (.iload 6, 2) := by decide +kernel
theorem dX9_ajar_41 : decode cX9_ajar 41 = .ok (.ifCond .eq 12, 3) := by decide +kernel
theorem dX9_ajar_44 : decode cX9_ajar 44 = .ok (.iload 5, 2) := by decide +kernel
theorem dX9_ajar_46 : decode cX9_ajar 46 = .ok (.iconst 2, 1) := by decide +kernel
theorem dX9_ajar_47 : decode cX9_ajar 47 = .ok (.invokestatic 95, 3) := by decide +kernel
theorem dX9_ajar_50 : decode cX9_ajar 50 = .ok (.ifCond .ne 9, 3) := by decide +kernel
theorem dX9_ajar_53 : decode cX9_ajar 53 = .ok (.bipush (-2), 2) := by decide +kernel
theorem dX9_ajar_55 : decode cX9_ajar 55 = .ok (.invokestatic 212, 3) := by decide +kernel
theorem dX9_ajar_58 : decode cX9_ajar 58 = .ok (.lreturn, 1) := by decide +kernel
theorem dX9_ajar_59 : decode cX9_ajar 59 = .ok (.aload_n 0, 1) := by decide +kernel
theorem dX9_ajar_60 : decode cX9_ajar 60 = .ok (.iload 4, 2) := by decide +kernel
theorem dX9_ajar_62 : decode cX9_ajar 62 = .ok (.invokevirtual 199, 3) := by decide +kernel
theorem dX9_ajar_65 : decode cX9_ajar 65 = .ok (.istore 7, 2) := by decide +kernel
theorem dX9_ajar_67 : decode cX9_ajar 67 = .ok (.iload 7, 2) := by decide +kernel
theorem dX9_ajar_69 : decode cX9_ajar 69 = .ok (.iload_n 2, 1) := by decide +kernel
theorem dX9_ajar_70 : decode cX9_ajar 70 = .ok (.if_icmp .gt 7, 3) := by decide +kernel
theorem dX9_ajar_73 : decode cX9_ajar 73 = .ok (.iload_n 1, 1) := by decide +kernel
theorem dX9_ajar_74 : decode cX9_ajar 74 = .ok (.goto 4, 3) := by decide +kernel
theorem dX9_ajar_77 : decode cX9_ajar 77 = .ok (.iconst 0, 1) := by decide +kernel
theorem dX9_ajar_78 : decode cX9_ajar 78 = .ok (.istore 8, 2) := by decide +kernel
theorem dX9_ajar_80 : decode cX9_ajar 80 = .ok (.iconst 0, 1) := by decide +kernel
theorem dX9_ajar_81 : decode cX9_ajar 81 = .ok (.istore 9, 2) := by decide +kernel
theorem dX9_ajar_83 : decode cX9_ajar 83 = .ok (.aload_n 0, 1) := by decide +kernel
theorem dX9_ajar_84 : decode cX9_ajar 84 = .ok (.getfield 55, 3) := by decide +kernel
theorem dX9_ajar_87 : decode cX9_ajar 87 = .ok (.iload 7, 2) := by decide +kernel
theorem dX9_ajar_89 : decode cX9_ajar 89 = .ok (.aload_n 0, 1) := by decide +kernel
theorem dX9_ajar_90 : decode cX9_ajar 90 = .ok (.getfield 18, 3) := by decide +kernel
theorem dX9_ajar_93 : decode cX9_ajar 93 = .ok (.getfield 122, 3) := by decide +kernel
theorem dX9_ajar_96 : decode cX9_ajar 96 = .ok (.iconst 1, 1) := by decide +kernel
theorem dX9_ajar_97 : decode cX9_ajar 97 = .ok (.iconst (-1), 1) := by decide +kernel
theorem dX9_ajar_98 : decode cX9_ajar 98 = .ok (.invokevirtual 252, 3) := by decide +kernel
theorem dX9_ajar_101 : decode cX9_ajar 101 = .ok (.iload_n 3, 1) := by decide +kernel
theorem dX9_ajar_102 : decode cX9_ajar 102 = .ok (.if_icmp .ne 10, 3) := by decide +kernel
theorem dX9_ajar_105 : decode cX9_ajar 105 = .ok (.iload 9, 2) := by decide +kernel
theorem dX9_ajar_107 : decode cX9_ajar 107 = .ok (.iload 8, 2) := by decide +kernel
theorem dX9_ajar_109 : decode cX9_ajar 109 = .ok (.iadd, 1) := by decide +kernel
theorem dX9_ajar_110 : decode cX9_ajar 110 = .ok (.istore 9, 2) := by decide +kernel
theorem dX9_ajar_112 : decode cX9_ajar 112 = .ok (.aload_n 0, 1) := by decide +kernel
theorem dX9_ajar_113 : decode cX9_ajar 113 = .ok (.getfield 55, 3) := by decide +kernel
theorem dX9_ajar_116 : decode cX9_ajar 116 = .ok (.iload 7, 2) := by decide +kernel
theorem dX9_ajar_118 : decode cX9_ajar 118 = .ok (.aload_n 0, 1) := by decide +kernel
theorem dX9_ajar_119 : decode cX9_ajar 119 = .ok (.getfield 18, 3) := by decide +kernel
theorem dX9_ajar_122 : decode cX9_ajar 122 = .ok (.getfield 122, 3) := by decide +kernel
theorem dX9_ajar_125 : decode cX9_ajar 125 = .ok (.iconst 0, 1) := by decide +kernel
theorem dX9_ajar_126 : decode cX9_ajar 126 = .ok (.iconst (-1), 1) := by decide +kernel
theorem dX9_ajar_127 : decode cX9_ajar 127 = .ok (.invokevirtual 252, 3) := by decide +kernel
theorem dX9_ajar_130 : decode cX9_ajar 130 = .ok (.iload_n 3, 1) := by decide +kernel
theorem dX9_ajar_131 : decode cX9_ajar 131 = .ok (.if_icmp .ne 13, 3) := by decide +kernel
theorem dX9_ajar_134 : decode cX9_ajar 134 = .ok (.iload 9, 2) := by decide +kernel
theorem dX9_ajar_136 : decode cX9_ajar 136 = .ok (.bipush 16, 2) := by decide +kernel
theorem dX9_ajar_138 : decode cX9_ajar 138 = .ok (.iload 8, 2) := by decide +kernel
theorem dX9_ajar_140 : decode cX9_ajar 140 = .ok (.isub, 1) := by decide +kernel
theorem dX9_ajar_141 : decode cX9_ajar 141 = .ok (.iadd, 1) := by decide +kernel
theorem dX9_ajar_142 : decode cX9_ajar 142 = .ok (.istore 9, 2) := by decide +kernel
theorem dX9_ajar_144 : decode cX9_ajar 144 = .ok (.iload 9, 2) := by decide +kernel
theorem dX9_ajar_146 : decode cX9_ajar 146 = .ok (.i2l, 1) := by decide +kernel
theorem dX9_ajar_147 : decode cX9_ajar 147 = .ok (.ldc2_w 256, 3) := by decide +kernel
theorem dX9_ajar_150 : decode cX9_ajar 150 = .ok (.iload 5, 2) := by decide +kernel
theorem dX9_ajar_152 : decode cX9_ajar 152 = .ok (.invokestatic 222, 3) := by decide +kernel
theorem dX9_ajar_155 : decode cX9_ajar 155 = .ok (.lreturn, 1) := by decide +kernel
theorem dX9_evenings_0 : decode cX9_evenings 0 = .ok (.iload_n 2, 1) := by decide +kernel
theorem dX9_evenings_1 : decode cX9_evenings 1 = .ok (.iconst 2, 1) := by decide +kernel
theorem dX9_evenings_2 : decode cX9_evenings 2 = .ok (.invokestatic 95, 3) := by decide +kernel
theorem dX9_evenings_5 : decode cX9_evenings 5 = .ok (.ifCond .ne 6, 3) := by decide +kernel
theorem dX9_evenings_8 : decode cX9_evenings 8 = .ok (.bipush (-2), 2) := by decide +kernel
theorem dX9_evenings_10 : decode cX9_evenings 10 = .ok (.ireturn, 1) := by decide +kernel
theorem dX9_evenings_11 : decode cX9_evenings 11 = .ok (.aload_n 0, 1) := by decide +kernel
theorem dX9_evenings_12 : decode cX9_evenings 12 = .ok (.iload_n 1, 1) := by decide +kernel
theorem dX9_evenings_13 : decode cX9_evenings 13 = .ok (.invokevirtual 258, 3) := by decide +kernel
theorem dX9_evenings_16 : decode cX9_evenings 16 = .ok (.iload_n 2, 1) := by decide +kernel
theorem dX9_evenings_17 : decode cX9_evenings 17 = .ok (.iconst 1, 1) := by decide +kernel
theorem dX9_evenings_18 : decode cX9_evenings 18 = .ok (.if_icmp .ne 14, 3) := by decide +kernel
theorem dX9_evenings_21 : decode cX9_evenings 21 = .ok (.aload_n 0, 1) := by decide +kernel
theorem dX9_evenings_22 : decode cX9_evenings 22 = .ok (.aload_n 0, 1) := by decide +kernel
theorem dX9_evenings_23 : decode cX9_evenings 23 = .ok (.bipush 9, 2) := by decide +kernel
theorem dX9_evenings_25 : decode cX9_evenings 25 = .ok (.invokevirtual 199, 3) := by decide +kernel
theorem dX9_evenings_28 : decode cX9_evenings 28 = .ok (.invokevirtual 261, 3) := by decide +kernel
theorem dX9_evenings_31 : decode cX9_evenings 31 = .ok (.ireturn, 1) := by decide +kernel
theorem dX9_evenings_32 : decode cX9_evenings 32 = .ok (.iconst 0, 1) := by decide +kernel
theorem dX9_evenings_33 : decode cX9_evenings 33 = .ok (.istore_n 3, 1) := by decide +kernel
theorem dX9_evenings_34 : decode cX9_evenings 34 = .ok (.iconst 0, 1) := by decide +kernel
theorem dX9_evenings_35 : decode cX9_evenings 35 = .ok (.istore 4, 2) := by decide +kernel
theorem dX9_evenings_37 : decode cX9_evenings 37 = .ok (.iload 4, 2) := by decide +kernel
theorem dX9_evenings_39 : decode cX9_evenings 39 = .ok (.aload_n 0, 1) := by decide +kernel
theorem dX9_evenings_40 : decode cX9_evenings 40 = .ok (.getfield 25, 3) := by decide +kernel
theorem dX9_evenings_43 : decode cX9_evenings 43 = .ok (.getfield 132, 3) := by decide +kernel
theorem dX9_evenings_46 : decode cX9_evenings 46 = .ok (.if_icmp .ge 27, 3) := by decide +kernel
theorem dX9_evenings_49 : decode cX9_evenings 49 = .ok (.aload_n 0, 1) := by decide +kernel
theorem dX9_evenings_50 : decode cX9_evenings 50 = .ok (.iload 4, 2) := by decide +kernel
theorem dX9_evenings_52 : decode cX9_evenings 52 = .ok (.invokevirtual 261, 3) := by decide +kernel
theorem dX9_evenings_55 : decode cX9_evenings 55 = .ok (.aload_n 0, 1) := by decide +kernel
theorem dX9_evenings_56 : decode cX9_evenings 56 = .ok (.iload 4, 2) := by decide +kernel
theorem dX9_evenings_58 : decode cX9_evenings 58 = .ok (.invokevirtual 167, 3) := by decide +kernel
theorem dX9_evenings_61 : decode cX9_evenings 61 = .ok (.if_icmp .eq 6, 3) := by decide +kernel
theorem dX9_evenings_64 : decode cX9_evenings 64 = .ok (.iinc 3 1, 3) := by decide +kernel
theorem dX9_evenings_67 : decode cX9_evenings 67 = .ok (.iinc 4 1, 3) := by decide +kernel
theorem dX9_evenings_70 : decode cX9_evenings 70 = .ok (.goto (-33), 3) := by decide +kernel
theorem dX9_evenings_73 : decode cX9_evenings 73 = .ok (.iload_n 3, 1) := by decide +kernel
theorem dX9_evenings_74 : decode cX9_evenings 74 = .ok (.ireturn, 1) := by decide +kernel
theorem dX9_sheet_0 : decode cX9_sheet 0 = .ok (.iload_n 1, 1) := by decide +kernel
theorem dX9_sheet_1 : decode cX9_sheet 1 = .ok (.iconst 4, 1) := by decide +kernel
theorem dX9_sheet_2 : decode cX9_sheet 2 = .ok (.invokestatic 95, 3) := by decide +kernel
theorem dX9_sheet_5 : decode cX9_sheet 5 = .ok (.ifCond .eq 17, 3) := by decide +kernel
theorem dX9_sheet_8 : decode cX9_sheet 8 = .ok (.iload_n 2, 1) := by decide +kernel
theorem dX9_sheet_9 : decode cX9_sheet 9 = .ok (.iconst 3, 1) := by decide +kernel
theorem dX9_sheet_10 : decode cX9_sheet 10 = .ok (.invokestatic 95, 3) := by decide +kernel
theorem dX9_sheet_13 : decode cX9_sheet 13 = .ok (.ifCond .eq 9, 3) := by decide +kernel
theorem dX9_sheet_16 : decode cX9_sheet 16 = .ok (.iload_n 3, 1) := by decide +kernel
theorem dX9_sheet_17 : decode cX9_sheet 17 = .ok (.bipush 60, 2) := by decide +kernel
theorem dX9_sheet_19 : decode cX9_sheet 19 = .ok (.if_icmp .le 6, 3) := by decide +kernel
theorem dX9_sheet_22 : decode cX9_sheet 22 = .ok (.bipush (-2), 2) := by decide +kernel
theorem dX9_sheet_24 : decode cX9_sheet 24 = .ok (.ireturn, 1) := by decide +kernel
theorem dX9_sheet_25 : decode cX9_sheet 25 = .ok (.iload_n 3, 1) := by decide +kernel
theorem dX9_sheet_26 : decode cX9_sheet 26 = .ok (.ifCond .ge 9, 3) := by decide +kernel
theorem dX9_sheet_29 : decode cX9_sheet 29 = .ok (.aload_n 0, 1) := by decide +kernel
theorem dX9_sheet_30 : decode cX9_sheet 30 = .ok (.iconst 5, 1) := by decide +kernel
theorem dX9_sheet_31 : decode cX9_sheet 31 = .ok (.invokevirtual 157, 3) := by decide +kernel
theorem dX9_sheet_34 : decode cX9_sheet 34 = .ok (.ireturn, 1) := by decide +kernel
theorem dX9_sheet_35 : decode cX9_sheet 35 = .ok (.aload_n 0, 1) := by decide +kernel
theorem dX9_sheet_36 : decode cX9_sheet 36 = .ok (.getfield 70, 3) := by decide +kernel
theorem dX9_sheet_39 : decode cX9_sheet 39 = .ok (.iload_n 1, 1) := by decide +kernel
theorem dX9_sheet_40 : decode cX9_sheet 40 = .ok (.aaload, 1) := by decide +kernel
theorem dX9_sheet_41 : decode cX9_sheet 41 = .ok (.iload_n 2, 1) := by decide +kernel
theorem dX9_sheet_42 : decode cX9_sheet 42 = .ok (.iload_n 3, 1) := by decide +kernel
theorem dX9_sheet_43 : decode cX9_sheet 43 = .ok (.invokevirtual 264, 3) := by decide +kernel
theorem dX9_sheet_46 : decode cX9_sheet 46 = .ok (.iload_n 3, 1) := by decide +kernel
theorem dX9_sheet_47 : decode cX9_sheet 47 = .ok (.ireturn, 1) := by decide +kernel
theorem dX9_lose_0 : decode cX9_lose 0 = .ok (.iload_n 1, 1) := by decide +kernel
theorem dX9_lose_1 : decode cX9_lose 1 = .ok (.iconst 4, 1) := by decide +kernel
theorem dX9_lose_2 : decode cX9_lose 2 = .ok (.invokestatic 95, 3) := by decide +kernel
theorem dX9_lose_5 : decode cX9_lose 5 = .ok (.ifCond .ne 6, 3) := by decide +kernel
theorem dX9_lose_8 : decode cX9_lose 8 = .ok (.bipush (-2), 2) := by decide +kernel
theorem dX9_lose_10 : decode cX9_lose 10 = .ok (.ireturn, 1) := by decide +kernel
theorem dX9_lose_11 : decode cX9_lose 11 = .ok (.aload_n 0, 1) := by decide +kernel
theorem dX9_lose_12 : decode cX9_lose 12 = .ok (.getfield 70, 3) := by decide +kernel
theorem dX9_lose_15 : decode cX9_lose 15 = .ok (.iload_n 1, 1) := by decide +kernel
theorem dX9_lose_16 : decode cX9_lose 16 = .ok (.aaload, 1) := by decide +kernel
theorem dX9_lose_17 : decode cX9_lose 17 = .ok (.getfield 154, 3) := by decide +kernel
theorem dX9_lose_20 : decode cX9_lose 20 = .ok (.iconst (-1), 1) := by decide +kernel
theorem dX9_lose_21 : decode cX9_lose 21 = .ok (.if_icmp .ne 9, 3) := by decide +kernel
theorem dX9_lose_24 : decode cX9_lose 24 = .ok (.aload_n 0, 1) := by decide +kernel
theorem dX9_lose_25 : decode cX9_lose 25 = .ok (.iconst 1, 1) := by decide +kernel
theorem dX9_lose_26 : decode cX9_lose 26 = .ok (.invokevirtual 157, 3) := by decide +kernel
theorem dX9_lose_29 : decode cX9_lose 29 = .ok (.ireturn, 1) := by decide +kernel
theorem dX9_lose_30 : decode cX9_lose 30 = .ok (.aload_n 0, 1) := by decide +kernel
theorem dX9_lose_31 : decode cX9_lose 31 = .ok (.getfield 70, 3) := by decide +kernel
theorem dX9_lose_34 : decode cX9_lose 34 = .ok (.iload_n 1, 1) := by decide +kernel
theorem dX9_lose_35 : decode cX9_lose 35 = .ok (.aaload, 1) := by decide +kernel
theorem dX9_lose_36 : decode cX9_lose 36 = .ok (.getfield 161, 3) := by decide +kernel
theorem dX9_lose_39 : decode cX9_lose 39 = .ok (.istore_n 2, 1) := by decide +kernel
theorem dX9_lose_40 : decode cX9_lose 40 = .ok (.aload_n 0, 1) := by decide +kernel
theorem dX9_lose_41 : decode cX9_lose 41 = .ok (.getfield 70, 3) := by decide +kernel
theorem dX9_lose_44 : decode cX9_lose 44 = .ok (.iload_n 1, 1) := by decide +kernel
theorem dX9_lose_45 : decode cX9_lose 45 = .ok (.aaload, 1) := by decide +kernel
theorem dX9_lose_46 : decode cX9_lose 46 = .ok (.iconst (-1), 1) := by decide +kernel
theorem dX9_lose_47 : decode cX9_lose 47 = .ok (.iconst 0, 1) := by decide +kernel
theorem dX9_lose_48 : decode cX9_lose 48 = .ok (.invokevirtual 264, 3) := by decide +kernel
theorem dX9_lose_51 : decode cX9_lose 51 = .ok (.iload_n 2, 1) := by decide +kernel
theorem dX9_lose_52 : decode cX9_lose 52 = .ok (.ireturn, 1) := by decide +kernel
theorem dX9_put_0 : decode cX9_put 0 = .ok (.aload_n 0, 1) := by decide +kernel
theorem dX9_put_1 : decode cX9_put 1 = .ok (.iload_n 1, 1) := by decide +kernel
theorem dX9_put_2 : decode cX9_put 2 = .ok (.iload_n 2, 1) := by decide +kernel
theorem dX9_put_3 : decode cX9_put 3 = .ok (.iload_n 3, 1) := by decide +kernel
theorem dX9_put_4 : decode cX9_put 4 = .ok (.invokevirtual 267, 3) := by decide +kernel
theorem dX9_put_7 : decode cX9_put 7 = .ok (.istore 5, 2) := by decide +kernel
theorem dX9_put_9 : decode cX9_put 9 = .ok (.iload 5, 2) := by decide +kernel
theorem dX9_put_11 : decode cX9_put 11 = .ok (.ifCond .eq 6, 3) := by decide +kernel
theorem dX9_put_14 : decode cX9_put 14 = .ok (.iload 5, 2) := by decide +kernel
theorem dX9_put_16 : decode cX9_put 16 = .ok (.ireturn, 1) := by decide +kernel
theorem dX9_put_17 : decode cX9_put 17 = .ok (.aload_n 0, 1) := by decide +kernel
theorem dX9_put_18 : decode cX9_put 18 = .ok (.getfield 70, 3) := by decide +kernel
theorem dX9_put_21 : decode cX9_put 21 = .ok (.iload_n 1, 1) := by decide +kernel
theorem dX9_put_22 : decode cX9_put 22 = .ok (.aaload, 1) := by decide +kernel
theorem dX9_put_23 : decode cX9_put 23 = .ok (.iload_n 3, 1) := by decide +kernel
theorem dX9_put_24 : decode cX9_put 24 = .ok (.iload 4, 2) := by decide +kernel
theorem dX9_put_26 : decode cX9_put 26 = .ok (.invokevirtual 271, 3) := by decide +kernel
theorem dX9_put_29 : decode cX9_put 29 = .ok (.iconst 1, 1) := by decide +kernel
theorem dX9_put_30 : decode cX9_put 30 = .ok (.ireturn, 1) := by decide +kernel
theorem dX9_get_0 : decode cX9_get 0 = .ok (.aload_n 0, 1) := by decide +kernel
theorem dX9_get_1 : decode cX9_get 1 = .ok (.iload_n 1, 1) := by decide +kernel
theorem dX9_get_2 : decode cX9_get 2 = .ok (.iload_n 2, 1) := by decide +kernel
theorem dX9_get_3 : decode cX9_get 3 = .ok (.iload_n 3, 1) := by decide +kernel
theorem dX9_get_4 : decode cX9_get 4 = .ok (.invokevirtual 267, 3) := by decide +kernel
theorem dX9_get_7 : decode cX9_get 7 = .ok (.ifCond .eq 9, 3) := by decide +kernel
theorem dX9_get_10 : decode cX9_get 10 = .ok (.ldc_w 274, 3) := by decide +kernel
theorem dX9_get_13 : decode cX9_get 13 = .ok (.goto 14, 3) := by decide +kernel
theorem dX9_get_16 : decode cX9_get 16 = .ok (.aload_n 0, 1) := by decide +kernel
theorem dX9_get_17 : decode cX9_get 17 = .ok (.getfield 70, 3) := by decide +kernel
theorem dX9_get_20 : decode cX9_get 20 = .ok (.iload_n 1, 1) := by decide +kernel
theorem dX9_get_21 : decode cX9_get 21 = .ok (.aaload, 1) := by decide +kernel
theorem dX9_get_22 : decode cX9_get 22 = .ok (.getfield 164, 3) := by decide +kernel
theorem dX9_get_25 : decode cX9_get 25 = .ok (.iload_n 3, 1) := by decide +kernel
theorem dX9_get_26 : decode cX9_get 26 = .ok (.iaload, 1) := by decide +kernel
theorem dX9_get_27 : decode cX9_get 27 = .ok (.ireturn, 1) := by decide +kernel
theorem dX9_copy_0 : decode cX9_copy 0 = .ok (.iload_n 1, 1) := by decide +kernel
theorem dX9_copy_1 : decode cX9_copy 1 = .ok (.iconst 4, 1) := by decide +kernel
theorem dX9_copy_2 : decode cX9_copy 2 = .ok (.invokestatic 95, 3) := by decide +kernel
theorem dX9_copy_5 : decode cX9_copy 5 = .ok (.ifCond .eq 11, 3) := by decide +kernel
theorem dX9_copy_8 : decode cX9_copy 8 = .ok (.iload_n 3, 1) := by decide +kernel
theorem dX9_copy_9 : decode cX9_copy 9 = .ok (.iconst 4, 1) := by decide +kernel
theorem dX9_copy_10 : decode cX9_copy 10 = .ok (.invokestatic 95, 3) := by decide +kernel
theorem dX9_copy_13 : decode cX9_copy 13 = .ok (.ifCond .ne 6, 3) := by decide +kernel
theorem dX9_copy_16 : decode cX9_copy 16 = .ok (.bipush (-2), 2) := by decide +kernel
theorem dX9_copy_18 : decode cX9_copy 18 = .ok (.ireturn, 1) := by decide +kernel
theorem dX9_copy_19 : decode cX9_copy 19 = .ok (.aload_n 0, 1) := by decide +kernel
theorem dX9_copy_20 : decode cX9_copy 20 = .ok (.getfield 70, 3) := by decide +kernel
theorem dX9_copy_23 : decode cX9_copy 23 = .ok (.iload_n 1, 1) := by decide +kernel
theorem dX9_copy_24 : decode cX9_copy 24 = .ok (.aaload, 1) := by decide +kernel
theorem dX9_copy_25 : decode cX9_copy 25 = .ok (.astore 6, 2) := by decide +kernel
theorem dX9_copy_27 : decode cX9_copy 27 = .ok (.aload_n 0, 1) := by decide +kernel
theorem dX9_copy_28 : decode cX9_copy 28 = .ok (.getfield 70, 3) := by decide +kernel
theorem dX9_copy_31 : decode cX9_copy 31 = .ok (.iload_n 3, 1) := by decide +kernel
theorem dX9_copy_32 : decode cX9_copy 32 = .ok (.aaload, 1) := by decide +kernel
theorem dX9_copy_33 : decode cX9_copy 33 = .ok (.astore 7, 2) := by decide +kernel
theorem dX9_copy_35 : decode cX9_copy 35 = .ok (.aload 6, 2) := by decide +kernel
theorem dX9_copy_37 : decode cX9_copy 37 = .ok (.getfield 154, 3) := by decide +kernel
theorem dX9_copy_40 : decode cX9_copy 40 = .ok (.iconst (-1), 1) := by decide +kernel
theorem dX9_copy_41 : decode cX9_copy 41 = .ok (.if_icmp .eq 12, 3) := by decide +kernel
theorem dX9_copy_44 : decode cX9_copy 44 = .ok (.aload 7, 2) := by decide +kernel
theorem dX9_copy_46 : decode cX9_copy 46 = .ok (.getfield 154, 3) := by decide +kernel
theorem dX9_copy_49 : decode cX9_copy 49 = .ok (.iconst (-1), 1) := by decide +kernel
theorem dX9_copy_50 : decode cX9_copy 50 = .ok (.if_icmp .ne 9, 3) := by decide +kernel
theorem dX9_copy_53 : decode cX9_copy 53 = .ok (.aload_n 0, 1) := by decide +kernel
theorem dX9_copy_54 : decode cX9_copy 54 = .ok (.iconst 1, 1) := by decide +kernel
theorem dX9_copy_55 : decode cX9_copy 55 = .ok (.invokevirtual 157, 3) := by decide +kernel
theorem dX9_copy_58 : decode cX9_copy 58 = .ok (.ireturn, 1) := by decide +kernel
theorem dX9_copy_59 : decode cX9_copy 59 = .ok (.aload 6, 2) := by decide +kernel
theorem dX9_copy_61 : decode cX9_copy 61 = .ok (.getfield 154, 3) := by decide +kernel
theorem dX9_copy_64 : decode cX9_copy 64 = .ok (.aload 7, 2) := by decide +kernel
theorem dX9_copy_66 : decode cX9_copy 66 = .ok (.getfield 154, 3) := by decide +kernel
theorem dX9_copy_69 : decode cX9_copy 69 = .ok (.if_icmp .eq 9, 3) := by decide +kernel
theorem dX9_copy_72 : decode cX9_copy 72 = .ok (.aload_n 0, 1) := by decide +kernel
theorem dX9_copy_73 : decode cX9_copy 73 = .ok (.iconst 4, 1) := by decide +kernel
theorem dX9_copy_74 : decode cX9_copy 74 = .ok (.invokevirtual 157, 3) := by decide +kernel
theorem dX9_copy_77 : decode cX9_copy 77 = .ok (.ireturn, 1) := by decide +kernel
theorem dX9_copy_78 : decode cX9_copy 78 = .ok (.aload 6, 2) := by decide +kernel
theorem dX9_copy_80 : decode cX9_copy 80 = .ok (.iload_n 2, 1) := by decide +kernel
theorem dX9_copy_81 : decode cX9_copy 81 = .ok (.iload 5, 2) := by decide +kernel
theorem dX9_copy_83 : decode cX9_copy 83 = .ok (.invokevirtual 275, 3) := by decide +kernel
theorem dX9_copy_86 : decode cX9_copy 86 = .ok (.ifCond .eq 15, 3) := by decide +kernel
theorem dX9_copy_89 : decode cX9_copy 89 = .ok (.aload 7, 2) := by decide +kernel
theorem dX9_copy_91 : decode cX9_copy 91 = .ok (.iload 4, 2) := by decide +kernel
theorem dX9_copy_93 : decode cX9_copy 93 = .ok (.iload 5, 2) := by decide +kernel
theorem dX9_copy_95 : decode cX9_copy 95 = .ok (.invokevirtual 275, 3) := by decide +kernel
theorem dX9_copy_98 : decode cX9_copy 98 = .ok (.ifCond .ne 9, 3) := by decide +kernel
theorem dX9_copy_101 : decode cX9_copy 101 = .ok (.aload_n 0, 1) := by decide +kernel
theorem dX9_copy_102 : decode cX9_copy 102 = .ok (.iconst 2, 1) := by decide +kernel
theorem dX9_copy_103 : decode cX9_copy 103 = .ok (.invokevirtual 157, 3) := by decide +kernel
theorem dX9_copy_106 : decode cX9_copy 106 = .ok (.ireturn, 1) := by decide +kernel
theorem dX9_copy_107 : decode cX9_copy 107 = .ok (.aload 6, 2) := by decide +kernel
theorem dX9_copy_109 : decode cX9_copy 109 = .ok (.getfield 164, 3) := by decide +kernel
theorem dX9_copy_112 : decode cX9_copy 112 = .ok (.iload_n 2, 1) := by decide +kernel
theorem dX9_copy_113 : decode cX9_copy 113 = .ok (.aload 7, 2) := by decide +kernel
theorem dX9_copy_115 : decode cX9_copy 115 = .ok (.getfield 164, 3) := by decide +kernel
theorem dX9_copy_118 : decode cX9_copy 118 = .ok (.iload 4, 2) := by decide +kernel
theorem dX9_copy_120 : decode cX9_copy 120 = .ok (.iload 5, 2) := by decide +kernel
theorem dX9_copy_122 : decode cX9_copy 122 = .ok (.invokestatic 278, 3) := by decide +kernel
theorem dX9_copy_125 : decode cX9_copy 125 = .ok (.iconst 1, 1) := by decide +kernel
theorem dX9_copy_126 : decode cX9_copy 126 = .ok (.ireturn, 1) := by decide +kernel
theorem dX9_write_0 : decode cX9_write 0 = .ok (.iload_n 1, 1) := by decide +kernel
theorem dX9_write_1 : decode cX9_write 1 = .ok (.iconst 4, 1) := by decide +kernel
theorem dX9_write_2 : decode cX9_write 2 = .ok (.invokestatic 95, 3) := by decide +kernel
theorem dX9_write_5 : decode cX9_write 5 = .ok (.ifCond .ne 6, 3) := by decide +kernel
theorem dX9_write_8 : decode cX9_write 8 = .ok (.bipush (-2), 2) := by decide +kernel
theorem dX9_write_10 : decode cX9_write 10 = .ok (.ireturn, 1) := by decide +kernel
theorem dX9_write_11 : decode cX9_write 11 = .ok (.aload_n 0, 1) := by decide +kernel
theorem dX9_write_12 : decode cX9_write 12 = .ok (.getfield 70, 3) := by decide +kernel
theorem dX9_write_15 : decode cX9_write 15 = .ok (.iload_n 1, 1) := by decide +kernel
theorem dX9_write_16 : decode cX9_write 16 = .ok (.aaload, 1) := by decide +kernel
theorem dX9_write_17 : decode cX9_write 17 = .ok (.getfield 154, 3) := by decide +kernel
theorem dX9_write_20 : decode cX9_write 20 = .ok (.iconst (-1), 1) := by decide +kernel
theorem dX9_write_21 : decode cX9_write 21 = .ok (.if_icmp .ne 9, 3) := by decide +kernel
theorem dX9_write_24 : decode cX9_write 24 = .ok (.aload_n 0, 1) := by decide +kernel
theorem dX9_write_25 : decode cX9_write 25 = .ok (.iconst 1, 1) := by decide +kernel
theorem dX9_write_26 : decode cX9_write 26 = .ok (.invokevirtual 157, 3) := by decide +kernel
theorem dX9_write_29 : decode cX9_write 29 = .ok (.ireturn, 1) := by decide +kernel
theorem dX9_write_30 : decode cX9_write 30 = .ok (.aload_n 0, 1) := by decide +kernel
theorem dX9_write_31 : decode cX9_write 31 = .ok (.getfield 70, 3) := by decide +kernel
theorem dX9_write_34 : decode cX9_write 34 = .ok (.iload_n 1, 1) := by decide +kernel
theorem dX9_write_35 : decode cX9_write 35 = .ok (.aaload, 1) := by decide +kernel
theorem dX9_write_36 : decode cX9_write 36 = .ok (.getfield 161, 3) := by decide +kernel
theorem dX9_write_39 : decode cX9_write 39 = .ok (.bipush 10, 2) := by decide +kernel
theorem dX9_write_41 : decode cX9_write 41 = .ok (.invokestatic 284, 3) := by decide +kernel
theorem dX9_write_44 : decode cX9_write 44 = .ok (.istore_n 2, 1) := by decide +kernel
theorem dX9_write_45 : decode cX9_write 45 = .ok (.iconst 0, 1) := by decide +kernel
theorem dX9_write_46 : decode cX9_write 46 = .ok (.istore_n 3, 1) := by decide +kernel
theorem dX9_write_47 : decode cX9_write 47 = .ok (.iload_n 3, 1) := by decide +kernel
theorem dX9_write_48 : decode cX9_write 48 = .ok (.iload_n 2, 1) := by decide +kernel
theorem dX9_write_49 : decode cX9_write 49 = .ok (.if_icmp .ge 24, 3) := by decide +kernel
theorem dX9_write_52 : decode cX9_write 52 = .ok (.aload_n 0, 1) := by decide +kernel
theorem dX9_write_53 : decode cX9_write 53 = .ok (.getfield 70, 3) := by decide +kernel
theorem dX9_write_56 : decode cX9_write 56 = .ok (.iload_n 1, 1) := by decide +kernel
theorem dX9_write_57 : decode cX9_write 57 = .ok (.aaload, 1) := by decide +kernel
theorem dX9_write_58 : decode cX9_write 58 = .ok (.iload_n 3, 1) := by decide +kernel
theorem dX9_write_59 : decode cX9_write 59 = .ok (.aload_n 0, 1) := by decide +kernel
theorem dX9_write_60 : decode cX9_write 60 = .ok (.iload_n 3, 1) := by decide +kernel
theorem dX9_write_61 : decode cX9_write 61 = .ok (.invokevirtual 167, 3) := by decide +kernel
theorem dX9_write_64 : decode cX9_write 64 = .ok (.invokevirtual 271, 3) := by decide +kernel
theorem dX9_write_67 : decode cX9_write 67 = .ok (.iinc 3 1, 3) := by decide +kernel
theorem dX9_write_70 : decode cX9_write 70 = .ok (.goto (-23), 3) := by decide +kernel
theorem dX9_write_73 : decode cX9_write 73 = .ok (.iload_n 2, 1) := by decide +kernel
theorem dX9_write_74 : decode cX9_write 74 = .ok (.ireturn, 1) := by decide +kernel
theorem dX9_count_0 : decode cX9_count 0 = .ok (.iload_n 1, 1) := by decide +kernel
theorem dX9_count_1 : decode cX9_count 1 = .ok (.tableswitch 124 0 8 #[51, 59, 67, 77, 87, 95, 103, 111, 119], 51) := by decide +kernel
theorem dX9_count_52 : decode cX9_count 52 = .ok (.aload_n 0, 1) := by decide +kernel
theorem dX9_count_53 : decode cX9_count 53 = .ok (.getfield 18, 3) := by decide +kernel
theorem dX9_count_56 : decode cX9_count 56 = .ok (.getfield 202, 3) := by decide +kernel
theorem dX9_count_59 : decode cX9_count 59 = .ok (.ireturn, 1) := by decide +kernel
theorem dX9_count_60 : decode cX9_count 60 = .ok (.aload_n 0, 1) := by decide +kernel
theorem dX9_count_61 : decode cX9_count 61 = .ok (.getfield 25, 3) := by decide +kernel
theorem dX9_count_64 : decode cX9_count 64 = .ok (.getfield 132, 3) := by decide +kernel
theorem dX9_count_67 : decode cX9_count 67 = .ok (.ireturn, 1) := by decide +kernel
theorem dX9_count_68 : decode cX9_count 68 = .ok (.aload_n 0, 1) := by decide +kernel
theorem dX9_count_69 : decode cX9_count 69 = .ok (.getfield 11, 3) := by decide +kernel
theorem dX9_count_72 : decode cX9_count 72 = .ok (.iconst 0, 1) := by decide +kernel
theorem dX9_count_73 : decode cX9_count 73 = .ok (.aaload, 1) := by decide +kernel
theorem dX9_count_74 : decode cX9_count 74 = .ok (.getfield 106, 3) := by decide +kernel
theorem dX9_count_77 : decode cX9_count 77 = .ok (.ireturn, 1) := by decide +kernel
theorem dX9_count_78 : decode cX9_count 78 = .ok (.aload_n 0, 1) := by decide +kernel
theorem dX9_count_79 : decode cX9_count 79 = .ok (.getfield 11, 3) := by decide +kernel
theorem dX9_count_82 : decode cX9_count 82 = .ok (.iconst 1, 1) := by decide +kernel
theorem dX9_count_83 : decode cX9_count 83 = .ok (.aaload, 1) := by decide +kernel
theorem dX9_count_84 : decode cX9_count 84 = .ok (.getfield 106, 3) := by decide +kernel
theorem dX9_count_87 : decode cX9_count 87 = .ok (.ireturn, 1) := by decide +kernel
theorem dX9_count_88 : decode cX9_count 88 = .ok (.aload_n 0, 1) := by decide +kernel
theorem dX9_count_89 : decode cX9_count 89 = .ok (.getfield 32, 3) := by decide +kernel
theorem dX9_count_92 : decode cX9_count 92 = .ok (.getfield 151, 3) := by decide +kernel
theorem dX9_count_95 : decode cX9_count 95 = .ok (.ireturn, 1) := by decide +kernel
theorem dX9_count_96 : decode cX9_count 96 = .ok (.aload_n 0, 1) := by decide +kernel
theorem dX9_count_97 : decode cX9_count 97 = .ok (.getfield 39, 3) := by decide +kernel
theorem dX9_count_100 : decode cX9_count 100 = .ok (.getfield 153, 3) := by decide +kernel
theorem dX9_count_103 : decode cX9_count 103 = .ok (.ireturn, 1) := by decide +kernel
theorem dX9_count_104 : decode cX9_count 104 = .ok (.aload_n 0, 1) := by decide +kernel
theorem dX9_count_105 : decode cX9_count 105 = .ok (.getfield 18, 3) := by decide +kernel
theorem dX9_count_108 : decode cX9_count 108 = .ok (.invokevirtual 287, 3) := by decide +kernel
theorem dX9_count_111 : decode cX9_count 111 = .ok (.ireturn, 1) := by decide +kernel
theorem dX9_count_112 : decode cX9_count 112 = .ok (.aload_n 0, 1) := by decide +kernel
theorem dX9_count_113 : decode cX9_count 113 = .ok (.getfield 46, 3) := by decide +kernel
theorem dX9_count_116 : decode cX9_count 116 = .ok (.getfield 241, 3) := by decide +kernel
theorem dX9_count_119 : decode cX9_count 119 = .ok (.ireturn, 1) := by decide +kernel
theorem dX9_count_120 : decode cX9_count 120 = .ok (.aload_n 0, 1) := by decide +kernel
theorem dX9_count_121 : decode cX9_count 121 = .ok (.getfield 87, 3) := by decide +kernel
theorem dX9_count_124 : decode cX9_count 124 = .ok (.ireturn, 1) := by decide +kernel
theorem dX9_count_125 : decode cX9_count 125 = .ok (.bipush (-2), 2) := by decide +kernel
theorem dX9_count_127 : decode cX9_count 127 = .ok (.ireturn, 1) := by decide +kernel
theorem dX9_digest_0 : decode cX9_digest 0 = .ok (.ldc2_w 290, 3) := by decide +kernel
theorem dX9_digest_3 : decode cX9_digest 3 = .ok (.lstore_n 1, 1) := by decide +kernel
theorem dX9_digest_4 : decode cX9_digest 4 = .ok (.iconst 0, 1) := by decide +kernel
theorem dX9_digest_5 : decode cX9_digest 5 = .ok (.istore_n 3, 1) := by decide +kernel
theorem dX9_digest_6 : decode cX9_digest 6 = .ok (.iload_n 3, 1) := by decide +kernel
theorem dX9_digest_7 : decode cX9_digest 7 = .ok (.bipush 7, 2) := by decide +kernel
theorem dX9_digest_9 : decode cX9_digest 9 = .ok (.if_icmp .gt 22, 3) := by decide +kernel
theorem dX9_digest_12 : decode cX9_digest 12 = .ok (.ldc2_w 292, 3) := by decide +kernel
theorem dX9_digest_15 : decode cX9_digest 15 = .ok (.lload_n 1, 1) := by decide +kernel
theorem dX9_digest_16 : decode cX9_digest 16 = .ok (.lmul, 1) := by decide +kernel
theorem dX9_digest_17 : decode cX9_digest 17 = .ok (.aload_n 0, 1) := by decide +kernel
theorem dX9_digest_18 : decode cX9_digest 18 = .ok (.iload_n 3, 1) := by decide +kernel
theorem dX9_digest_19 : decode cX9_digest 19 = .ok (.invokevirtual 294, 3) := by decide +kernel
theorem dX9_digest_22 : decode cX9_digest 22 = .ok (.i2l, 1) := by decide +kernel
theorem dX9_digest_23 : decode cX9_digest 23 = .ok (.ladd, 1) := by decide +kernel
theorem dX9_digest_24 : decode cX9_digest 24 = .ok (.lstore_n 1, 1) := by decide +kernel
theorem dX9_digest_25 : decode cX9_digest 25 = .ok (.iinc 3 1, 3) := by decide +kernel
theorem dX9_digest_28 : decode cX9_digest 28 = .ok (.goto (-22), 3) := by decide +kernel
theorem dX9_digest_31 : decode cX9_digest 31 = .ok (.iconst 0, 1) := by decide +kernel
theorem dX9_digest_32 : decode cX9_digest 32 = .ok (.istore_n 3, 1) := by decide +kernel
theorem dX9_digest_33 : decode cX9_digest 33 = .ok (.iload_n 3, 1) := by decide +kernel
theorem dX9_digest_34 : decode cX9_digest 34 = .ok (.iconst 2, 1) := by decide +kernel
theorem dX9_digest_35 : decode cX9_digest 35 = .ok (.if_icmp .ge 22, 3) := by decide +kernel
theorem dX9_digest_38 : decode cX9_digest 38 = .ok (.ldc2_w 292, 3) := by decide +kernel
theorem dX9_digest_41 : decode cX9_digest 41 = .ok (.lload_n 1, 1) := by decide +kernel
theorem dX9_digest_42 : decode cX9_digest 42 = .ok (.lmul, 1) := by decide +kernel
theorem dX9_digest_43 : decode cX9_digest 43 = .ok (.aload_n 0, 1) := by decide +kernel
theorem dX9_digest_44 : decode cX9_digest 44 = .ok (.iload_n 3, 1) := by decide +kernel
theorem dX9_digest_45 : decode cX9_digest 45 = .ok (.invokevirtual 297, 3) := by decide +kernel
theorem dX9_digest_48 : decode cX9_digest 48 = .ok (.i2l, 1) := by decide +kernel
theorem dX9_digest_49 : decode cX9_digest 49 = .ok (.ladd, 1) := by decide +kernel
theorem dX9_digest_50 : decode cX9_digest 50 = .ok (.lstore_n 1, 1) := by decide +kernel
theorem dX9_digest_51 : decode cX9_digest 51 = .ok (.iinc 3 1, 3) := by decide +kernel
theorem dX9_digest_54 : decode cX9_digest 54 = .ok (.goto (-21), 3) := by decide +kernel
theorem dX9_digest_57 : decode cX9_digest 57 = .ok (.iconst 0, 1) := by decide +kernel
theorem dX9_digest_58 : decode cX9_digest 58 = .ok (.istore_n 3, 1) := by decide +kernel
theorem dX9_digest_59 : decode cX9_digest 59 = .ok (.iload_n 3, 1) := by decide +kernel
theorem dX9_digest_60 : decode cX9_digest 60 = .ok (.aload_n 0, 1) := by decide +kernel
theorem dX9_digest_61 : decode cX9_digest 61 = .ok (.getfield 18, 3) := by decide +kernel
theorem dX9_digest_64 : decode cX9_digest 64 = .ok (.getfield 202, 3) := by decide +kernel
theorem dX9_digest_67 : decode cX9_digest 67 = .ok (.if_icmp .ge 16, 3) := by decide +kernel
theorem dX9_digest_70 : decode cX9_digest 70 = .ok (.aload_n 0, 1) := by decide +kernel
theorem dX9_digest_71 : decode cX9_digest 71 = .ok (.lload_n 1, 1) := by decide +kernel
theorem dX9_digest_72 : decode cX9_digest 72 = .ok (.iload_n 3, 1) := by decide +kernel
theorem dX9_digest_73 : decode cX9_digest 73 = .ok (.invokevirtual 299, 3) := by decide +kernel
theorem dX9_digest_76 : decode cX9_digest 76 = .ok (.lstore_n 1, 1) := by decide +kernel
theorem dX9_digest_77 : decode cX9_digest 77 = .ok (.iinc 3 1, 3) := by decide +kernel
theorem dX9_digest_80 : decode cX9_digest 80 = .ok (.goto (-21), 3) := by decide +kernel
theorem dX9_digest_83 : decode cX9_digest 83 = .ok (.iconst 0, 1) := by decide +kernel
theorem dX9_digest_84 : decode cX9_digest 84 = .ok (.istore_n 3, 1) := by decide +kernel
theorem dX9_digest_85 : decode cX9_digest 85 = .ok (.iload_n 3, 1) := by decide +kernel
theorem dX9_digest_86 : decode cX9_digest 86 = .ok (.bipush 10, 2) := by decide +kernel
theorem dX9_digest_88 : decode cX9_digest 88 = .ok (.if_icmp .ge 16, 3) := by decide +kernel
theorem dX9_digest_91 : decode cX9_digest 91 = .ok (.aload_n 0, 1) := by decide +kernel
theorem dX9_digest_92 : decode cX9_digest 92 = .ok (.lload_n 1, 1) := by decide +kernel
theorem dX9_digest_93 : decode cX9_digest 93 = .ok (.iload_n 3, 1) := by decide +kernel
theorem dX9_digest_94 : decode cX9_digest 94 = .ok (.invokevirtual 303, 3) := by decide +kernel
theorem dX9_digest_97 : decode cX9_digest 97 = .ok (.lstore_n 1, 1) := by decide +kernel
theorem dX9_digest_98 : decode cX9_digest 98 = .ok (.iinc 3 1, 3) := by decide +kernel
theorem dX9_digest_101 : decode cX9_digest 101 = .ok (.goto (-16), 3) := by decide +kernel
theorem dX9_digest_104 : decode cX9_digest 104 = .ok (.aload_n 0, 1) := by decide +kernel
theorem dX9_digest_105 : decode cX9_digest 105 = .ok (.lload_n 1, 1) := by decide +kernel
theorem dX9_digest_106 : decode cX9_digest 106 = .ok (.invokevirtual 306, 3) := by decide +kernel
theorem dX9_digest_109 : decode cX9_digest 109 = .ok (.lreturn, 1) := by decide +kernel
theorem dX9_digestMember_0 : decode cX9_digestMember 0 = .ok (.lload_n 1, 1) := by decide +kernel
theorem dX9_digestMember_1 : decode cX9_digestMember 1 = .ok (.lstore 4, 2) := by decide +kernel
theorem dX9_digestMember_3 : decode cX9_digestMember 3 = .ok (.iconst 0, 1) := by decide +kernel
theorem dX9_digestMember_4 : decode cX9_digestMember 4 = .ok (.istore 6, 2) := by decide +kernel
theorem dX9_digestMember_6 : decode cX9_digestMember 6 = .ok (.iload 6, 2) := by decide +kernel
theorem dX9_digestMember_8 : decode cX9_digestMember 8 = .ok (.iconst 4, 1) := by decide +kernel
theorem dX9_digestMember_9 : decode cX9_digestMember 9 = .ok (.if_icmp .gt 26, 3) := by decide +kernel
theorem dX9_digestMember_12 : decode cX9_digestMember 12 = .ok (.ldc2_w 292, 3) := by decide +kernel
theorem dX9_digestMember_15 : decode cX9_digestMember 15 = .ok (.lload 4, 2) := by decide +kernel
theorem dX9_digestMember_17 : decode cX9_digestMember 17 = .ok (.lmul, 1) := by decide +kernel
theorem dX9_digestMember_18 : decode cX9_digestMember 18 = .ok (.aload_n 0, 1) := by decide +kernel
theorem dX9_digestMember_19 : decode cX9_digestMember 19 = .ok (.iload_n 3, 1) := by decide +kernel
theorem dX9_digestMember_20 : decode cX9_digestMember 20 = .ok (.iload 6, 2) := by decide +kernel
theorem dX9_digestMember_22 : decode cX9_digestMember 22 = .ok (.invokevirtual 310, 3) := by decide +kernel
theorem dX9_digestMember_25 : decode cX9_digestMember 25 = .ok (.i2l, 1) := by decide +kernel
theorem dX9_digestMember_26 : decode cX9_digestMember 26 = .ok (.ladd, 1) := by decide +kernel
theorem dX9_digestMember_27 : decode cX9_digestMember 27 = .ok (.lstore 4, 2) := by decide +kernel
theorem dX9_digestMember_29 : decode cX9_digestMember 29 = .ok (.iinc 6 1, 3) := by decide +kernel
theorem dX9_digestMember_32 : decode cX9_digestMember 32 = .ok (.goto (-26), 3) := by decide +kernel
theorem dX9_digestMember_35 : decode cX9_digestMember 35 = .ok (.getstatic 313, 3) := by decide +kernel
theorem dX9_digestMember_38 : decode cX9_digestMember 38 = .ok (.astore 6, 2) := by decide +kernel
theorem dX9_digestMember_40 : decode cX9_digestMember 40 = .ok (.aload 6, 2) := by decide +kernel
theorem dX9_digestMember_42 : decode cX9_digestMember 42 = .ok (.arraylength, 1) := by decide +kernel
theorem dX9_digestMember_43 : decode cX9_digestMember 43 = .ok (.istore 7, 2) := by decide +kernel
theorem dX9_digestMember_45 : decode cX9_digestMember 45 = .ok (.iconst 0, 1) := by decide +kernel
theorem dX9_digestMember_46 : decode cX9_digestMember 46 = .ok (.istore 8, 2) := by decide +kernel
theorem dX9_digestMember_48 : decode cX9_digestMember 48 = .ok (.iload 8, 2) := by decide +kernel
theorem dX9_digestMember_50 : decode cX9_digestMember 50 = .ok (.iload 7, 2) := by decide +kernel
theorem dX9_digestMember_52 : decode cX9_digestMember 52 = .ok (.if_icmp .ge 67, 3) := by decide +kernel
theorem dX9_digestMember_55 : decode cX9_digestMember 55 = .ok (.aload 6, 2) := by decide +kernel
theorem dX9_digestMember_57 : decode cX9_digestMember 57 = .ok (.iload 8, 2) := by decide +kernel
theorem dX9_digestMember_59 : decode cX9_digestMember 59 = .ok (.iaload, 1) := by decide +kernel
theorem dX9_digestMember_60 : decode cX9_digestMember 60 = .ok (.istore 9, 2) := by decide +kernel
theorem dX9_digestMember_62 : decode cX9_digestMember 62 = .ok (.iconst 0, 1) := by decide +kernel
theorem dX9_digestMember_63 : decode cX9_digestMember 63 = .ok (.istore 10, 2) := by decide +kernel
theorem dX9_digestMember_65 : decode cX9_digestMember 65 = .ok (.iload 10, 2) := by decide +kernel
theorem dX9_digestMember_67 : decode cX9_digestMember 67 = .ok (.iconst 2, 1) := by decide +kernel
theorem dX9_digestMember_68 : decode cX9_digestMember 68 = .ok (.if_icmp .gt 28, 3) := by decide +kernel
theorem dX9_digestMember_71 : decode cX9_digestMember 71 = .ok (.ldc2_w 292, 3) := by decide +kernel
theorem dX9_digestMember_74 : decode cX9_digestMember 74 = .ok (.lload 4, 2) := by decide +kernel
theorem dX9_digestMember_76 : decode cX9_digestMember 76 = .ok (.lmul, 1) := by decide +kernel
theorem dX9_digestMember_77 : decode cX9_digestMember 77 = .ok (.aload_n 0, 1) := by decide +kernel
theorem dX9_digestMember_78 : decode cX9_digestMember 78 = .ok (.iload 9, 2) := by decide +kernel
theorem dX9_digestMember_80 : decode cX9_digestMember 80 = .ok (.iload_n 3, 1) := by decide +kernel
theorem dX9_digestMember_81 : decode cX9_digestMember 81 = .ok (.iload 10, 2) := by decide +kernel
theorem dX9_digestMember_83 : decode cX9_digestMember 83 = .ok (.invokevirtual 316, 3) := by decide +kernel
theorem dX9_digestMember_86 : decode cX9_digestMember 86 = .ok (.i2l, 1) := by decide +kernel
theorem dX9_digestMember_87 : decode cX9_digestMember 87 = .ok (.ladd, 1) := by decide +kernel
theorem dX9_digestMember_88 : decode cX9_digestMember 88 = .ok (.lstore 4, 2) := by decide +kernel
theorem dX9_digestMember_90 : decode cX9_digestMember 90 = .ok (.iinc 10 1, 3) := by decide +kernel
theorem dX9_digestMember_93 : decode cX9_digestMember 93 = .ok (.goto (-28), 3) := by decide +kernel
theorem dX9_digestMember_96 : decode cX9_digestMember 96 = .ok (.ldc2_w 292, 3) := by decide +kernel
theorem dX9_digestMember_99 : decode cX9_digestMember 99 = .ok (.lload 4, 2) := by decide +kernel
theorem dX9_digestMember_101 : decode cX9_digestMember 101 = .ok (.lmul, 1) := by decide +kernel
theorem dX9_digestMember_102 : decode cX9_digestMember 102 = .ok (.aload_n 0, 1) := by decide +kernel
theorem dX9_digestMember_103 : decode cX9_digestMember 103 = .ok (.iload 9, 2) := by decide +kernel
theorem dX9_digestMember_105 : decode cX9_digestMember 105 = .ok (.iload_n 3, 1) := by decide +kernel
theorem dX9_digestMember_106 : decode cX9_digestMember 106 = .ok (.invokevirtual 319, 3) := by decide +kernel
theorem dX9_digestMember_109 : decode cX9_digestMember 109 = .ok (.i2l, 1) := by decide +kernel
theorem dX9_digestMember_110 : decode cX9_digestMember 110 = .ok (.ladd, 1) := by decide +kernel
theorem dX9_digestMember_111 : decode cX9_digestMember 111 = .ok (.lstore 4, 2) := by decide +kernel
theorem dX9_digestMember_113 : decode cX9_digestMember 113 = .ok (.iinc 8 1, 3) := by decide +kernel
theorem dX9_digestMember_116 : decode cX9_digestMember 116 = .ok (.goto (-68), 3) := by decide +kernel
theorem dX9_digestMember_119 : decode cX9_digestMember 119 = .ok (.ldc2_w 292, 3) := by decide +kernel
theorem dX9_digestMember_122 : decode cX9_digestMember 122 = .ok (.lload 4, 2) := by decide +kernel
theorem dX9_digestMember_124 : decode cX9_digestMember 124 = .ok (.lmul, 1) := by decide +kernel
theorem dX9_digestMember_125 : decode cX9_digestMember 125 = .ok (.aload_n 0, 1) := by decide +kernel
theorem dX9_digestMember_126 : decode cX9_digestMember 126 = .ok (.iload_n 3, 1) := by decide +kernel
theorem dX9_digestMember_127 : decode cX9_digestMember 127 = .ok (.iconst 0, 1) := by decide +kernel
theorem dX9_digestMember_128 : decode cX9_digestMember 128 = .ok (.invokevirtual 322, 3) := by decide +kernel
theorem dX9_digestMember_131 : decode cX9_digestMember 131 = .ok (.ladd, 1) := by decide +kernel
theorem dX9_digestMember_132 : decode cX9_digestMember 132 = .ok (.lstore 4, 2) := by decide +kernel
theorem dX9_digestMember_134 : decode cX9_digestMember 134 = .ok (.ldc2_w 292, 3) := by decide +kernel
theorem dX9_digestMember_137 : decode cX9_digestMember 137 = .ok (.lload 4, 2) := by decide +kernel
theorem dX9_digestMember_139 : decode cX9_digestMember 139 = .ok (.lmul, 1) := by decide +kernel
theorem dX9_digestMember_140 : decode cX9_digestMember 140 = .ok (.aload_n 0, 1) := by decide +kernel
theorem dX9_digestMember_141 : decode cX9_digestMember 141 = .ok (.iload_n 3, 1) := by decide +kernel
theorem dX9_digestMember_142 : decode cX9_digestMember 142 = .ok (.iconst 1, 1) := by decide +kernel
theorem dX9_digestMember_143 : decode cX9_digestMember 143 = .ok (.invokevirtual 322, 3) := by decide +kernel
theorem dX9_digestMember_146 : decode cX9_digestMember 146 = .ok (.ladd, 1) := by decide +kernel
theorem dX9_digestMember_147 : decode cX9_digestMember 147 = .ok (.lstore 4, 2) := by decide +kernel
theorem dX9_digestMember_149 : decode cX9_digestMember 149 = .ok (.aload_n 0, 1) := by decide +kernel
theorem dX9_digestMember_150 : decode cX9_digestMember 150 = .ok (.iload_n 3, 1) := by decide +kernel
theorem dX9_digestMember_151 : decode cX9_digestMember 151 = .ok (.invokevirtual 246, 3) := by decide +kernel
theorem dX9_digestMember_154 : decode cX9_digestMember 154 = .ok (.istore 6, 2) := by decide +kernel
theorem dX9_digestMember_156 : decode cX9_digestMember 156 = .ok (.ldc2_w 292, 3) := by decide +kernel
theorem dX9_digestMember_159 : decode cX9_digestMember 159 = .ok (.lload 4, 2) := by decide +kernel
theorem dX9_digestMember_161 : decode cX9_digestMember 161 = .ok (.lmul, 1) := by decide +kernel
theorem dX9_digestMember_162 : decode cX9_digestMember 162 = .ok (.iload 6, 2) := by decide +kernel
theorem dX9_digestMember_164 : decode cX9_digestMember 164 = .ok (.i2l, 1) := by decide +kernel
theorem dX9_digestMember_165 : decode cX9_digestMember 165 = .ok (.ladd, 1) := by decide +kernel
theorem dX9_digestMember_166 : decode cX9_digestMember 166 = .ok (.lstore 4, 2) := by decide +kernel
theorem dX9_digestMember_168 : decode cX9_digestMember 168 = .ok (.ldc2_w 292, 3) := by decide +kernel
theorem dX9_digestMember_171 : decode cX9_digestMember 171 = .ok (.lload 4, 2) := by decide +kernel
theorem dX9_digestMember_173 : decode cX9_digestMember 173 = .ok (.lmul, 1) := by decide +kernel
theorem dX9_digestMember_174 : decode cX9_digestMember 174 = .ok (.aload_n 0, 1) := by decide +kernel
theorem dX9_digestMember_175 : decode cX9_digestMember 175 = .ok (.iload_n 3, 1) := by decide +kernel
theorem dX9_digestMember_176 : decode cX9_digestMember 176 = .ok (.iload 6, 2) := by decide +kernel
theorem dX9_digestMember_178 : decode cX9_digestMember 178 = .ok (.invokevirtual 249, 3) := by decide +kernel
theorem dX9_digestMember_181 : decode cX9_digestMember 181 = .ok (.i2l, 1) := by decide +kernel
theorem dX9_digestMember_182 : decode cX9_digestMember 182 = .ok (.ladd, 1) := by decide +kernel
theorem dX9_digestMember_183 : decode cX9_digestMember 183 = .ok (.lreturn, 1) := by decide +kernel
theorem dX9_digestNight_0 : decode cX9_digestNight 0 = .ok (.lload_n 1, 1) := by decide +kernel
theorem dX9_digestNight_1 : decode cX9_digestNight 1 = .ok (.lstore 4, 2) := by decide +kernel
theorem dX9_digestNight_3 : decode cX9_digestNight 3 = .ok (.iconst 0, 1) := by decide +kernel
theorem dX9_digestNight_4 : decode cX9_digestNight 4 = .ok (.istore 6, 2) := by decide +kernel
theorem dX9_digestNight_6 : decode cX9_digestNight 6 = .ok (.iload 6, 2) := by decide +kernel
theorem dX9_digestNight_8 : decode cX9_digestNight 8 = .ok (.iconst 2, 1) := by decide +kernel
theorem dX9_digestNight_9 : decode cX9_digestNight 9 = .ok (.if_icmp .gt 26, 3) := by decide +kernel
theorem dX9_digestNight_12 : decode cX9_digestNight 12 = .ok (.ldc2_w 292, 3) := by decide +kernel
theorem dX9_digestNight_15 : decode cX9_digestNight 15 = .ok (.lload 4, 2) := by decide +kernel
theorem dX9_digestNight_17 : decode cX9_digestNight 17 = .ok (.lmul, 1) := by decide +kernel
theorem dX9_digestNight_18 : decode cX9_digestNight 18 = .ok (.aload_n 0, 1) := by decide +kernel
theorem dX9_digestNight_19 : decode cX9_digestNight 19 = .ok (.iload_n 3, 1) := by decide +kernel
theorem dX9_digestNight_20 : decode cX9_digestNight 20 = .ok (.iload 6, 2) := by decide +kernel
theorem dX9_digestNight_22 : decode cX9_digestNight 22 = .ok (.invokevirtual 326, 3) := by decide +kernel
theorem dX9_digestNight_25 : decode cX9_digestNight 25 = .ok (.i2l, 1) := by decide +kernel
theorem dX9_digestNight_26 : decode cX9_digestNight 26 = .ok (.ladd, 1) := by decide +kernel
theorem dX9_digestNight_27 : decode cX9_digestNight 27 = .ok (.lstore 4, 2) := by decide +kernel
theorem dX9_digestNight_29 : decode cX9_digestNight 29 = .ok (.iinc 6 1, 3) := by decide +kernel
theorem dX9_digestNight_32 : decode cX9_digestNight 32 = .ok (.goto (-26), 3) := by decide +kernel
theorem dX9_digestNight_35 : decode cX9_digestNight 35 = .ok (.iconst 0, 1) := by decide +kernel
theorem dX9_digestNight_36 : decode cX9_digestNight 36 = .ok (.istore 6, 2) := by decide +kernel
theorem dX9_digestNight_38 : decode cX9_digestNight 38 = .ok (.iload 6, 2) := by decide +kernel
theorem dX9_digestNight_40 : decode cX9_digestNight 40 = .ok (.iconst 3, 1) := by decide +kernel
theorem dX9_digestNight_41 : decode cX9_digestNight 41 = .ok (.if_icmp .gt 26, 3) := by decide +kernel
theorem dX9_digestNight_44 : decode cX9_digestNight 44 = .ok (.ldc2_w 292, 3) := by decide +kernel
theorem dX9_digestNight_47 : decode cX9_digestNight 47 = .ok (.lload 4, 2) := by decide +kernel
theorem dX9_digestNight_49 : decode cX9_digestNight 49 = .ok (.lmul, 1) := by decide +kernel
theorem dX9_digestNight_50 : decode cX9_digestNight 50 = .ok (.aload_n 0, 1) := by decide +kernel
theorem dX9_digestNight_51 : decode cX9_digestNight 51 = .ok (.iload_n 3, 1) := by decide +kernel
theorem dX9_digestNight_52 : decode cX9_digestNight 52 = .ok (.iload 6, 2) := by decide +kernel
theorem dX9_digestNight_54 : decode cX9_digestNight 54 = .ok (.invokevirtual 329, 3) := by decide +kernel
theorem dX9_digestNight_57 : decode cX9_digestNight 57 = .ok (.i2l, 1) := by decide +kernel
theorem dX9_digestNight_58 : decode cX9_digestNight 58 = .ok (.ladd, 1) := by decide +kernel
theorem dX9_digestNight_59 : decode cX9_digestNight 59 = .ok (.lstore 4, 2) := by decide +kernel
theorem dX9_digestNight_61 : decode cX9_digestNight 61 = .ok (.iinc 6 1, 3) := by decide +kernel
theorem dX9_digestNight_64 : decode cX9_digestNight 64 = .ok (.goto (-26), 3) := by decide +kernel
theorem dX9_digestNight_67 : decode cX9_digestNight 67 = .ok (.ldc2_w 292, 3) := by decide +kernel
theorem dX9_digestNight_70 : decode cX9_digestNight 70 = .ok (.lload 4, 2) := by decide +kernel
theorem dX9_digestNight_72 : decode cX9_digestNight 72 = .ok (.lmul, 1) := by decide +kernel
theorem dX9_digestNight_73 : decode cX9_digestNight 73 = .ok (.aload_n 0, 1) := by decide +kernel
theorem dX9_digestNight_74 : decode cX9_digestNight 74 = .ok (.iload_n 3, 1) := by decide +kernel
theorem dX9_digestNight_75 : decode cX9_digestNight 75 = .ok (.invokevirtual 331, 3) := by decide +kernel
theorem dX9_digestNight_78 : decode cX9_digestNight 78 = .ok (.i2l, 1) := by decide +kernel
theorem dX9_digestNight_79 : decode cX9_digestNight 79 = .ok (.ladd, 1) := by decide +kernel
theorem dX9_digestNight_80 : decode cX9_digestNight 80 = .ok (.lstore 4, 2) := by decide +kernel
theorem dX9_digestNight_82 : decode cX9_digestNight 82 = .ok (.ldc2_w 292, 3) := by decide +kernel
theorem dX9_digestNight_85 : decode cX9_digestNight 85 = .ok (.lload 4, 2) := by decide +kernel
theorem dX9_digestNight_87 : decode cX9_digestNight 87 = .ok (.lmul, 1) := by decide +kernel
theorem dX9_digestNight_88 : decode cX9_digestNight 88 = .ok (.aload_n 0, 1) := by decide +kernel
theorem dX9_digestNight_89 : decode cX9_digestNight 89 = .ok (.iload_n 3, 1) := by decide +kernel
theorem dX9_digestNight_90 : decode cX9_digestNight 90 = .ok (.iconst (-1), 1) := by decide +kernel
theorem dX9_digestNight_91 : decode cX9_digestNight 91 = .ok (.invokevirtual 334, 3) := by decide +kernel
theorem dX9_digestNight_94 : decode cX9_digestNight 94 = .ok (.i2l, 1) := by decide +kernel
theorem dX9_digestNight_95 : decode cX9_digestNight 95 = .ok (.ladd, 1) := by decide +kernel
theorem dX9_digestNight_96 : decode cX9_digestNight 96 = .ok (.lstore 4, 2) := by decide +kernel
theorem dX9_digestNight_98 : decode cX9_digestNight 98 = .ok (.ldc2_w 292, 3) := by decide +kernel
theorem dX9_digestNight_101 : decode cX9_digestNight 101 = .ok (.lload 4, 2) := by decide +kernel
theorem dX9_digestNight_103 : decode cX9_digestNight 103 = .ok (.lmul, 1) := by decide +kernel
theorem dX9_digestNight_104 : decode cX9_digestNight 104 = .ok (.aload_n 0, 1) := by decide +kernel
theorem dX9_digestNight_105 : decode cX9_digestNight 105 = .ok (.iload_n 3, 1) := by decide +kernel
theorem dX9_digestNight_106 : decode cX9_digestNight 106 = .ok (.iconst 0, 1) := by decide +kernel
theorem dX9_digestNight_107 : decode cX9_digestNight 107 = .ok (.invokevirtual 334, 3) := by decide +kernel
theorem dX9_digestNight_110 : decode cX9_digestNight 110 = .ok (.i2l, 1) := by decide +kernel
theorem dX9_digestNight_111 : decode cX9_digestNight 111 = .ok (.ladd, 1) := by decide +kernel
theorem dX9_digestNight_112 : decode cX9_digestNight 112 = .ok (.lreturn, 1) := by decide +kernel
theorem dX9_digestPlans_0 : decode cX9_digestPlans 0 = .ok (.ldc2_w 292, 3) := by decide +kernel
theorem dX9_digestPlans_3 : decode cX9_digestPlans 3 = .ok (.lload_n 1, 1) := by decide +kernel
theorem dX9_digestPlans_4 : decode cX9_digestPlans 4 = .ok (.lmul, 1) := by decide +kernel
theorem dX9_digestPlans_5 : decode cX9_digestPlans 5 = .ok (.aload_n 0, 1) := by decide +kernel
theorem dX9_digestPlans_6 : decode cX9_digestPlans 6 = .ok (.invokevirtual 337, 3) := by decide +kernel
theorem dX9_digestPlans_9 : decode cX9_digestPlans 9 = .ok (.i2l, 1) := by decide +kernel
theorem dX9_digestPlans_10 : decode cX9_digestPlans 10 = .ok (.ladd, 1) := by decide +kernel
theorem dX9_digestPlans_11 : decode cX9_digestPlans 11 = .ok (.lstore_n 3, 1) := by decide +kernel
theorem dX9_digestPlans_12 : decode cX9_digestPlans 12 = .ok (.ldc2_w 292, 3) := by decide +kernel
theorem dX9_digestPlans_15 : decode cX9_digestPlans 15 = .ok (.lload_n 3, 1) := by decide +kernel
theorem dX9_digestPlans_16 : decode cX9_digestPlans 16 = .ok (.lmul, 1) := by decide +kernel
theorem dX9_digestPlans_17 : decode cX9_digestPlans 17 = .ok (.aload_n 0, 1) := by decide +kernel
theorem dX9_digestPlans_18 : decode cX9_digestPlans 18 = .ok (.invokevirtual 340, 3) := by decide +kernel
theorem dX9_digestPlans_21 : decode cX9_digestPlans 21 = .ok (.i2l, 1) := by decide +kernel
theorem dX9_digestPlans_22 : decode cX9_digestPlans 22 = .ok (.ladd, 1) := by decide +kernel
theorem dX9_digestPlans_23 : decode cX9_digestPlans 23 = .ok (.lstore_n 3, 1) := by decide +kernel
theorem dX9_digestPlans_24 : decode cX9_digestPlans 24 = .ok (.iconst 0, 1) := by decide +kernel
theorem dX9_digestPlans_25 : decode cX9_digestPlans 25 = .ok (.istore 5, 2) := by decide +kernel
theorem dX9_digestPlans_27 : decode cX9_digestPlans 27 = .ok (.iload 5, 2) := by decide +kernel
theorem dX9_digestPlans_29 : decode cX9_digestPlans 29 = .ok (.iconst 3, 1) := by decide +kernel
theorem dX9_digestPlans_30 : decode cX9_digestPlans 30 = .ok (.if_icmp .ge 23, 3) := by decide +kernel
theorem dX9_digestPlans_33 : decode cX9_digestPlans 33 = .ok (.ldc2_w 292, 3) := by decide +kernel
theorem dX9_digestPlans_36 : decode cX9_digestPlans 36 = .ok (.lload_n 3, 1) := by decide +kernel
theorem dX9_digestPlans_37 : decode cX9_digestPlans 37 = .ok (.lmul, 1) := by decide +kernel
theorem dX9_digestPlans_38 : decode cX9_digestPlans 38 = .ok (.aload_n 0, 1) := by decide +kernel
theorem dX9_digestPlans_39 : decode cX9_digestPlans 39 = .ok (.iload 5, 2) := by decide +kernel
theorem dX9_digestPlans_41 : decode cX9_digestPlans 41 = .ok (.invokevirtual 343, 3) := by decide +kernel
theorem dX9_digestPlans_44 : decode cX9_digestPlans 44 = .ok (.i2l, 1) := by decide +kernel
theorem dX9_digestPlans_45 : decode cX9_digestPlans 45 = .ok (.ladd, 1) := by decide +kernel
theorem dX9_digestPlans_46 : decode cX9_digestPlans 46 = .ok (.lstore_n 3, 1) := by decide +kernel
theorem dX9_digestPlans_47 : decode cX9_digestPlans 47 = .ok (.iinc 5 1, 3) := by decide +kernel
theorem dX9_digestPlans_50 : decode cX9_digestPlans 50 = .ok (.goto (-23), 3) := by decide +kernel
theorem dX9_digestPlans_53 : decode cX9_digestPlans 53 = .ok (.ldc2_w 292, 3) := by decide +kernel
theorem dX9_digestPlans_56 : decode cX9_digestPlans 56 = .ok (.lload_n 3, 1) := by decide +kernel
theorem dX9_digestPlans_57 : decode cX9_digestPlans 57 = .ok (.lmul, 1) := by decide +kernel
theorem dX9_digestPlans_58 : decode cX9_digestPlans 58 = .ok (.aload_n 0, 1) := by decide +kernel
theorem dX9_digestPlans_59 : decode cX9_digestPlans 59 = .ok (.invokevirtual 346, 3) := by decide +kernel
theorem dX9_digestPlans_62 : decode cX9_digestPlans 62 = .ok (.i2l, 1) := by decide +kernel
theorem dX9_digestPlans_63 : decode cX9_digestPlans 63 = .ok (.ladd, 1) := by decide +kernel
theorem dX9_digestPlans_64 : decode cX9_digestPlans 64 = .ok (.lstore_n 3, 1) := by decide +kernel
theorem dX9_digestPlans_65 : decode cX9_digestPlans 65 = .ok (.ldc2_w 292, 3) := by decide +kernel
theorem dX9_digestPlans_68 : decode cX9_digestPlans 68 = .ok (.lload_n 3, 1) := by decide +kernel
theorem dX9_digestPlans_69 : decode cX9_digestPlans 69 = .ok (.lmul, 1) := by decide +kernel
theorem dX9_digestPlans_70 : decode cX9_digestPlans 70 = .ok (.aload_n 0, 1) := by decide +kernel
theorem dX9_digestPlans_71 : decode cX9_digestPlans 71 = .ok (.invokevirtual 349, 3) := by decide +kernel
theorem dX9_digestPlans_74 : decode cX9_digestPlans 74 = .ok (.i2l, 1) := by decide +kernel
theorem dX9_digestPlans_75 : decode cX9_digestPlans 75 = .ok (.ladd, 1) := by decide +kernel
theorem dX9_digestPlans_76 : decode cX9_digestPlans 76 = .ok (.lstore_n 3, 1) := by decide +kernel
theorem dX9_digestPlans_77 : decode cX9_digestPlans 77 = .ok (.ldc2_w 292, 3) := by decide +kernel
theorem dX9_digestPlans_80 : decode cX9_digestPlans 80 = .ok (.lload_n 3, 1) := by decide +kernel
theorem dX9_digestPlans_81 : decode cX9_digestPlans 81 = .ok (.lmul, 1) := by decide +kernel
theorem dX9_digestPlans_82 : decode cX9_digestPlans 82 = .ok (.aload_n 0, 1) := by decide +kernel
theorem dX9_digestPlans_83 : decode cX9_digestPlans 83 = .ok (.iconst 5, 1) := by decide +kernel
theorem dX9_digestPlans_84 : decode cX9_digestPlans 84 = .ok (.iconst 5, 1) := by decide +kernel
theorem dX9_digestPlans_85 : decode cX9_digestPlans 85 = .ok (.iconst 1, 1) := by decide +kernel
theorem dX9_digestPlans_86 : decode cX9_digestPlans 86 = .ok (.bipush 7, 2) := by decide +kernel
theorem dX9_digestPlans_88 : decode cX9_digestPlans 88 = .ok (.iconst 0, 1) := by decide +kernel
theorem dX9_digestPlans_89 : decode cX9_digestPlans 89 = .ok (.invokevirtual 352, 3) := by decide +kernel
theorem dX9_digestPlans_92 : decode cX9_digestPlans 92 = .ok (.ladd, 1) := by decide +kernel
theorem dX9_digestPlans_93 : decode cX9_digestPlans 93 = .ok (.lstore_n 3, 1) := by decide +kernel
theorem dX9_digestPlans_94 : decode cX9_digestPlans 94 = .ok (.ldc2_w 292, 3) := by decide +kernel
theorem dX9_digestPlans_97 : decode cX9_digestPlans 97 = .ok (.lload_n 3, 1) := by decide +kernel
theorem dX9_digestPlans_98 : decode cX9_digestPlans 98 = .ok (.lmul, 1) := by decide +kernel
theorem dX9_digestPlans_99 : decode cX9_digestPlans 99 = .ok (.aload_n 0, 1) := by decide +kernel
theorem dX9_digestPlans_100 : decode cX9_digestPlans 100 = .ok (.iconst 5, 1) := by decide +kernel
theorem dX9_digestPlans_101 : decode cX9_digestPlans 101 = .ok (.iconst 5, 1) := by decide +kernel
theorem dX9_digestPlans_102 : decode cX9_digestPlans 102 = .ok (.iconst 1, 1) := by decide +kernel
theorem dX9_digestPlans_103 : decode cX9_digestPlans 103 = .ok (.bipush 7, 2) := by decide +kernel
theorem dX9_digestPlans_105 : decode cX9_digestPlans 105 = .ok (.iconst 1, 1) := by decide +kernel
theorem dX9_digestPlans_106 : decode cX9_digestPlans 106 = .ok (.invokevirtual 352, 3) := by decide +kernel
theorem dX9_digestPlans_109 : decode cX9_digestPlans 109 = .ok (.ladd, 1) := by decide +kernel
theorem dX9_digestPlans_110 : decode cX9_digestPlans 110 = .ok (.lstore_n 3, 1) := by decide +kernel
theorem dX9_digestPlans_111 : decode cX9_digestPlans 111 = .ok (.ldc2_w 292, 3) := by decide +kernel
theorem dX9_digestPlans_114 : decode cX9_digestPlans 114 = .ok (.lload_n 3, 1) := by decide +kernel
theorem dX9_digestPlans_115 : decode cX9_digestPlans 115 = .ok (.lmul, 1) := by decide +kernel
theorem dX9_digestPlans_116 : decode cX9_digestPlans 116 = .ok (.aload_n 0, 1) := by decide +kernel
theorem dX9_digestPlans_117 : decode cX9_digestPlans 117 = .ok (.bipush 7, 2) := by decide +kernel
theorem dX9_digestPlans_119 : decode cX9_digestPlans 119 = .ok (.iconst 0, 1) := by decide +kernel
theorem dX9_digestPlans_120 : decode cX9_digestPlans 120 = .ok (.invokevirtual 356, 3) := by decide +kernel
theorem dX9_digestPlans_123 : decode cX9_digestPlans 123 = .ok (.i2l, 1) := by decide +kernel
theorem dX9_digestPlans_124 : decode cX9_digestPlans 124 = .ok (.ladd, 1) := by decide +kernel
theorem dX9_digestPlans_125 : decode cX9_digestPlans 125 = .ok (.lstore_n 3, 1) := by decide +kernel
theorem dX9_digestPlans_126 : decode cX9_digestPlans 126 = .ok (.ldc2_w 292, 3) := by decide +kernel
theorem dX9_digestPlans_129 : decode cX9_digestPlans 129 = .ok (.lload_n 3, 1) := by decide +kernel
theorem dX9_digestPlans_130 : decode cX9_digestPlans 130 = .ok (.lmul, 1) := by decide +kernel
theorem dX9_digestPlans_131 : decode cX9_digestPlans 131 = .ok (.aload_n 0, 1) := by decide +kernel
theorem dX9_digestPlans_132 : decode cX9_digestPlans 132 = .ok (.bipush 7, 2) := by decide +kernel
theorem dX9_digestPlans_134 : decode cX9_digestPlans 134 = .ok (.iconst 1, 1) := by decide +kernel
theorem dX9_digestPlans_135 : decode cX9_digestPlans 135 = .ok (.invokevirtual 356, 3) := by decide +kernel
theorem dX9_digestPlans_138 : decode cX9_digestPlans 138 = .ok (.i2l, 1) := by decide +kernel
theorem dX9_digestPlans_139 : decode cX9_digestPlans 139 = .ok (.ladd, 1) := by decide +kernel
theorem dX9_digestPlans_140 : decode cX9_digestPlans 140 = .ok (.lreturn, 1) := by decide +kernel
theorem dX9_within_0 : decode cX9_within 0 = .ok (.iload_n 0, 1) := by decide +kernel
theorem dX9_within_1 : decode cX9_within 1 = .ok (.ifCond .lt 12, 3) := by decide +kernel
theorem dX9_within_4 : decode cX9_within 4 = .ok (.iload_n 0, 1) := by decide +kernel
theorem dX9_within_5 : decode cX9_within 5 = .ok (.iload_n 1, 1) := by decide +kernel
theorem dX9_within_6 : decode cX9_within 6 = .ok (.if_icmp .ge 7, 3) := by decide +kernel
theorem dX9_within_9 : decode cX9_within 9 = .ok (.iconst 1, 1) := by decide +kernel
theorem dX9_within_10 : decode cX9_within 10 = .ok (.goto 4, 3) := by decide +kernel
theorem dX9_within_13 : decode cX9_within 13 = .ok (.iconst 0, 1) := by decide +kernel
theorem dX9_within_14 : decode cX9_within 14 = .ok (.ireturn, 1) := by decide +kernel
theorem dX9_isNight_0 : decode cX9_isNight 0 = .ok (.iload_n 0, 1) := by decide +kernel
theorem dX9_isNight_1 : decode cX9_isNight 1 = .ok (.bipush 10, 2) := by decide +kernel
theorem dX9_isNight_3 : decode cX9_isNight 3 = .ok (.invokestatic 95, 3) := by decide +kernel
theorem dX9_isNight_6 : decode cX9_isNight 6 = .ok (.ireturn, 1) := by decide +kernel
theorem dX9_isMember_0 : decode cX9_isMember 0 = .ok (.iload_n 1, 1) := by decide +kernel
theorem dX9_isMember_1 : decode cX9_isMember 1 = .ok (.aload_n 0, 1) := by decide +kernel
theorem dX9_isMember_2 : decode cX9_isMember 2 = .ok (.getfield 18, 3) := by decide +kernel
theorem dX9_isMember_5 : decode cX9_isMember 5 = .ok (.getfield 202, 3) := by decide +kernel
theorem dX9_isMember_8 : decode cX9_isMember 8 = .ok (.invokestatic 95, 3) := by decide +kernel
theorem dX9_isMember_11 : decode cX9_isMember 11 = .ok (.ireturn, 1) := by decide +kernel
theorem dX9_isFold_0 : decode cX9_isFold 0 = .ok (.iload_n 0, 1) := by decide +kernel
theorem dX9_isFold_1 : decode cX9_isFold 1 = .ok (.invokestatic 129, 3) := by decide +kernel
theorem dX9_isFold_4 : decode cX9_isFold 4 = .ok (.ifCond .eq 25, 3) := by decide +kernel
theorem dX9_isFold_7 : decode cX9_isFold 7 = .ok (.iload_n 1, 1) := by decide +kernel
theorem dX9_isFold_8 : decode cX9_isFold 8 = .ok (.bipush 8, 2) := by decide +kernel
theorem dX9_isFold_10 : decode cX9_isFold 10 = .ok (.invokestatic 95, 3) := by decide +kernel
theorem dX9_isFold_13 : decode cX9_isFold 13 = .ok (.ifCond .eq 16, 3) := by decide +kernel
theorem dX9_isFold_16 : decode cX9_isFold 16 = .ok (.iload_n 2, 1) := by decide +kernel
theorem dX9_isFold_17 : decode cX9_isFold 17 = .ok (.bipush 6, 2) := by decide +kernel
theorem dX9_isFold_19 : decode cX9_isFold 19 = .ok (.invokestatic 95, 3) := by decide +kernel
theorem dX9_isFold_22 : decode cX9_isFold 22 = .ok (.ifCond .eq 7, 3) := by decide +kernel
theorem dX9_isFold_25 : decode cX9_isFold 25 = .ok (.iconst 1, 1) := by decide +kernel
theorem dX9_isFold_26 : decode cX9_isFold 26 = .ok (.goto 4, 3) := by decide +kernel
theorem dX9_isFold_29 : decode cX9_isFold 29 = .ok (.iconst 0, 1) := by decide +kernel
theorem dX9_isFold_30 : decode cX9_isFold 30 = .ok (.ireturn, 1) := by decide +kernel
theorem dX9_refusedLong_0 : decode cX9_refusedLong 0 = .ok (.ldc2_w 359, 3) := by decide +kernel
theorem dX9_refusedLong_3 : decode cX9_refusedLong 3 = .ok (.iload_n 0, 1) := by decide +kernel
theorem dX9_refusedLong_4 : decode cX9_refusedLong 4 = .ok (.i2l, 1) := by decide +kernel
theorem dX9_refusedLong_5 : decode cX9_refusedLong 5 = .ok (.lsub, 1) := by decide +kernel
theorem dX9_refusedLong_6 : decode cX9_refusedLong 6 = .ok (.lreturn, 1) := by decide +kernel
theorem dX9_found_0 : decode cX9_found 0 = .ok (.aload_n 0, 1) := by decide +kernel
theorem dX9_found_1 : decode cX9_found 1 = .ok (.iload_n 1, 1) := by decide +kernel
theorem dX9_found_2 : decode cX9_found 2 = .ok (.putfield 87, 3) := by decide +kernel
theorem dX9_found_5 : decode cX9_found 5 = .ok (.bipush (-10), 2) := by decide +kernel
theorem dX9_found_7 : decode cX9_found 7 = .ok (.iload_n 1, 1) := by decide +kernel
theorem dX9_found_8 : decode cX9_found 8 = .ok (.isub, 1) := by decide +kernel
theorem dX9_found_9 : decode cX9_found 9 = .ok (.ireturn, 1) := by decide +kernel
theorem dX9_wanted_0 : decode cX9_wanted 0 = .ok (.iload_n 0, 1) := by decide +kernel
theorem dX9_wanted_1 : decode cX9_wanted 1 = .ok (.bipush 6, 2) := by decide +kernel
theorem dX9_wanted_3 : decode cX9_wanted 3 = .ok (.invokestatic 95, 3) := by decide +kernel
theorem dX9_wanted_6 : decode cX9_wanted 6 = .ok (.ifCond .eq 23, 3) := by decide +kernel
theorem dX9_wanted_9 : decode cX9_wanted 9 = .ok (.iload_n 1, 1) := by decide +kernel
theorem dX9_wanted_10 : decode cX9_wanted 10 = .ok (.iconst 3, 1) := by decide +kernel
theorem dX9_wanted_11 : decode cX9_wanted 11 = .ok (.invokestatic 95, 3) := by decide +kernel
theorem dX9_wanted_14 : decode cX9_wanted 14 = .ok (.ifCond .eq 15, 3) := by decide +kernel
theorem dX9_wanted_17 : decode cX9_wanted 17 = .ok (.getstatic 361, 3) := by decide +kernel
theorem dX9_wanted_20 : decode cX9_wanted 20 = .ok (.iload_n 0, 1) := by decide +kernel
theorem dX9_wanted_21 : decode cX9_wanted 21 = .ok (.iconst 3, 1) := by decide +kernel
theorem dX9_wanted_22 : decode cX9_wanted 22 = .ok (.imul, 1) := by decide +kernel
theorem dX9_wanted_23 : decode cX9_wanted 23 = .ok (.iload_n 1, 1) := by decide +kernel
theorem dX9_wanted_24 : decode cX9_wanted 24 = .ok (.iadd, 1) := by decide +kernel
theorem dX9_wanted_25 : decode cX9_wanted 25 = .ok (.iaload, 1) := by decide +kernel
theorem dX9_wanted_26 : decode cX9_wanted 26 = .ok (.goto 4, 3) := by decide +kernel
theorem dX9_wanted_29 : decode cX9_wanted 29 = .ok (.iconst (-1), 1) := by decide +kernel
theorem dX9_wanted_30 : decode cX9_wanted 30 = .ok (.ireturn, 1) := by decide +kernel
theorem dX9_rather_0 : decode cX9_rather 0 = .ok (.iload_n 0, 1) := by decide +kernel
theorem dX9_rather_1 : decode cX9_rather 1 = .ok (.ifCond .lt 31, 3) := by decide +kernel
theorem dX9_rather_4 : decode cX9_rather 4 = .ok (.iload_n 0, 1) := by decide +kernel
theorem dX9_rather_5 : decode cX9_rather 5 = .ok (.bipush 6, 2) := by decide +kernel
theorem dX9_rather_7 : decode cX9_rather 7 = .ok (.if_icmp .ge 25, 3) := by decide +kernel
theorem dX9_rather_10 : decode cX9_rather 10 = .ok (.iload_n 1, 1) := by decide +kernel
theorem dX9_rather_11 : decode cX9_rather 11 = .ok (.ifCond .lt 21, 3) := by decide +kernel
theorem dX9_rather_14 : decode cX9_rather 14 = .ok (.iload_n 1, 1) := by decide +kernel
theorem dX9_rather_15 : decode cX9_rather 15 = .ok (.iconst 3, 1) := by decide +kernel
theorem dX9_rather_16 : decode cX9_rather 16 = .ok (.if_icmp .ge 16, 3) := by decide +kernel
theorem dX9_rather_19 : decode cX9_rather 19 = .ok (.iload_n 2, 1) := by decide +kernel
theorem dX9_rather_20 : decode cX9_rather 20 = .ok (.ifCond .lt 12, 3) := by decide +kernel
theorem dX9_rather_23 : decode cX9_rather 23 = .ok (.iload_n 2, 1) := by decide +kernel
theorem dX9_rather_24 : decode cX9_rather 24 = .ok (.iconst 3, 1) := by decide +kernel
theorem dX9_rather_25 : decode cX9_rather 25 = .ok (.if_icmp .ge 7, 3) := by decide +kernel
theorem dX9_rather_28 : decode cX9_rather 28 = .ok (.iconst 1, 1) := by decide +kernel
theorem dX9_rather_29 : decode cX9_rather 29 = .ok (.goto 4, 3) := by decide +kernel
theorem dX9_rather_32 : decode cX9_rather 32 = .ok (.iconst 0, 1) := by decide +kernel
theorem dX9_rather_33 : decode cX9_rather 33 = .ok (.istore_n 3, 1) := by decide +kernel
theorem dX9_rather_34 : decode cX9_rather 34 = .ok (.iload_n 3, 1) := by decide +kernel
theorem dX9_rather_35 : decode cX9_rather 35 = .ok (.ifCond .eq 28, 3) := by decide +kernel
theorem dX9_rather_38 : decode cX9_rather 38 = .ok (.getstatic 364, 3) := by decide +kernel
theorem dX9_rather_41 : decode cX9_rather 41 = .ok (.iload_n 0, 1) := by decide +kernel
theorem dX9_rather_42 : decode cX9_rather 42 = .ok (.iconst 3, 1) := by decide +kernel
theorem dX9_rather_43 : decode cX9_rather 43 = .ok (.imul, 1) := by decide +kernel
theorem dX9_rather_44 : decode cX9_rather 44 = .ok (.iload_n 1, 1) := by decide +kernel
theorem dX9_rather_45 : decode cX9_rather 45 = .ok (.iadd, 1) := by decide +kernel
theorem dX9_rather_46 : decode cX9_rather 46 = .ok (.iaload, 1) := by decide +kernel
theorem dX9_rather_47 : decode cX9_rather 47 = .ok (.getstatic 364, 3) := by decide +kernel
theorem dX9_rather_50 : decode cX9_rather 50 = .ok (.iload_n 0, 1) := by decide +kernel
theorem dX9_rather_51 : decode cX9_rather 51 = .ok (.iconst 3, 1) := by decide +kernel
theorem dX9_rather_52 : decode cX9_rather 52 = .ok (.imul, 1) := by decide +kernel
theorem dX9_rather_53 : decode cX9_rather 53 = .ok (.iload_n 2, 1) := by decide +kernel
theorem dX9_rather_54 : decode cX9_rather 54 = .ok (.iadd, 1) := by decide +kernel
theorem dX9_rather_55 : decode cX9_rather 55 = .ok (.iaload, 1) := by decide +kernel
theorem dX9_rather_56 : decode cX9_rather 56 = .ok (.if_icmp .ge 7, 3) := by decide +kernel
theorem dX9_rather_59 : decode cX9_rather 59 = .ok (.iconst 1, 1) := by decide +kernel
theorem dX9_rather_60 : decode cX9_rather 60 = .ok (.goto 4, 3) := by decide +kernel
theorem dX9_rather_63 : decode cX9_rather 63 = .ok (.iconst 0, 1) := by decide +kernel
theorem dX9_rather_64 : decode cX9_rather 64 = .ok (.ireturn, 1) := by decide +kernel
theorem dX9_warmth_0 : decode cX9_warmth 0 = .ok (.iconst 5, 1) := by decide +kernel
theorem dX9_warmth_1 : decode cX9_warmth 1 = .ok (.iload_n 0, 1) := by decide +kernel
theorem dX9_warmth_2 : decode cX9_warmth 2 = .ok (.isub, 1) := by decide +kernel
theorem dX9_warmth_3 : decode cX9_warmth 3 = .ok (.iload_n 1, 1) := by decide +kernel
theorem dX9_warmth_4 : decode cX9_warmth 4 = .ok (.ifCond .eq 7, 3) := by decide +kernel
theorem dX9_warmth_7 : decode cX9_warmth 7 = .ok (.iconst 3, 1) := by decide +kernel
theorem dX9_warmth_8 : decode cX9_warmth 8 = .ok (.goto 4, 3) := by decide +kernel
theorem dX9_warmth_11 : decode cX9_warmth 11 = .ok (.iconst 0, 1) := by decide +kernel
theorem dX9_warmth_12 : decode cX9_warmth 12 = .ok (.isub, 1) := by decide +kernel
theorem dX9_warmth_13 : decode cX9_warmth 13 = .ok (.istore_n 2, 1) := by decide +kernel
theorem dX9_warmth_14 : decode cX9_warmth 14 = .ok (.iload_n 2, 1) := by decide +kernel
theorem dX9_warmth_15 : decode cX9_warmth 15 = .ok (.ifCond .ge 7, 3) := by decide +kernel
theorem dX9_warmth_18 : decode cX9_warmth 18 = .ok (.iconst 0, 1) := by decide +kernel
theorem dX9_warmth_19 : decode cX9_warmth 19 = .ok (.goto 4, 3) := by decide +kernel
theorem dX9_warmth_22 : decode cX9_warmth 22 = .ok (.iload_n 2, 1) := by decide +kernel
theorem dX9_warmth_23 : decode cX9_warmth 23 = .ok (.ireturn, 1) := by decide +kernel
theorem dX9_lowest_0 : decode cX9_lowest 0 = .ok (.lload_n 0, 1) := by decide +kernel
theorem dX9_lowest_1 : decode cX9_lowest 1 = .ok (.lstore 5, 2) := by decide +kernel
theorem dX9_lowest_3 : decode cX9_lowest 3 = .ok (.lload_n 2, 1) := by decide +kernel
theorem dX9_lowest_4 : decode cX9_lowest 4 = .ok (.lstore 7, 2) := by decide +kernel
theorem dX9_lowest_6 : decode cX9_lowest 6 = .ok (.iconst 0, 1) := by decide +kernel
theorem dX9_lowest_7 : decode cX9_lowest 7 = .ok (.istore 9, 2) := by decide +kernel
theorem dX9_lowest_9 : decode cX9_lowest 9 = .ok (.iload 9, 2) := by decide +kernel
theorem dX9_lowest_11 : decode cX9_lowest 11 = .ok (.bipush 100, 2) := by decide +kernel
theorem dX9_lowest_13 : decode cX9_lowest 13 = .ok (.if_icmp .ge 31, 3) := by decide +kernel
theorem dX9_lowest_16 : decode cX9_lowest 16 = .ok (.lload 7, 2) := by decide +kernel
theorem dX9_lowest_18 : decode cX9_lowest 18 = .ok (.lconst 0, 1) := by decide +kernel
theorem dX9_lowest_19 : decode cX9_lowest 19 = .ok (.lcmp, 1) := by decide +kernel
theorem dX9_lowest_20 : decode cX9_lowest 20 = .ok (.ifCond .eq 24, 3) := by decide +kernel
theorem dX9_lowest_23 : decode cX9_lowest 23 = .ok (.lload 5, 2) := by decide +kernel
theorem dX9_lowest_25 : decode cX9_lowest 25 = .ok (.lload 7, 2) := by decide +kernel
theorem dX9_lowest_27 : decode cX9_lowest 27 = .ok (.lrem, 1) := by decide +kernel
theorem dX9_lowest_28 : decode cX9_lowest 28 = .ok (.lstore 10, 2) := by decide +kernel
theorem dX9_lowest_30 : decode cX9_lowest 30 = .ok (.lload 7, 2) := by decide +kernel
theorem dX9_lowest_32 : decode cX9_lowest 32 = .ok (.lstore 5, 2) := by decide +kernel
theorem dX9_lowest_34 : decode cX9_lowest 34 = .ok (.lload 10, 2) := by decide +kernel
theorem dX9_lowest_36 : decode cX9_lowest 36 = .ok (.lstore 7, 2) := by decide +kernel
theorem dX9_lowest_38 : decode cX9_lowest 38 = .ok (.iinc 9 1, 3) := by decide +kernel
theorem dX9_lowest_41 : decode cX9_lowest 41 = .ok (.goto (-32), 3) := by decide +kernel
end
section
theorem dX9_lowest_44 : decode cX9_lowest 44 = .ok (.iload 4, 2) := by decide +kernel
theorem dX9_lowest_46 : decode cX9_lowest 46 = .ok (.ifCond .ne 7, 3) := by decide +kernel
theorem dX9_lowest_49 : decode cX9_lowest 49 = .ok (.lload_n 0, 1) := by decide +kernel
theorem dX9_lowest_50 : decode cX9_lowest 50 = .ok (.goto 4, 3) := by decide +kernel
theorem dX9_lowest_53 : decode cX9_lowest 53 = .ok (.lload_n 2, 1) := by decide +kernel
theorem dX9_lowest_54 : decode cX9_lowest 54 = .ok (.lstore 9, 2) := by decide +kernel
theorem dX9_lowest_56 : decode cX9_lowest 56 = .ok (.lload 5, 2) := by decide +kernel
theorem dX9_lowest_58 : decode cX9_lowest 58 = .ok (.lconst 0, 1) := by decide +kernel
theorem dX9_lowest_59 : decode cX9_lowest 59 = .ok (.lcmp, 1) := by decide +kernel
theorem dX9_lowest_60 : decode cX9_lowest 60 = .ok (.ifCond .ne 8, 3) := by decide +kernel
theorem dX9_lowest_63 : decode cX9_lowest 63 = .ok (.lload 9, 2) := by decide +kernel
theorem dX9_lowest_65 : decode cX9_lowest 65 = .ok (.goto 8, 3) := by decide +kernel
theorem dX9_lowest_68 : decode cX9_lowest 68 = .ok (.lload 9, 2) := by decide +kernel
theorem dX9_lowest_70 : decode cX9_lowest 70 = .ok (.lload 5, 2) := by decide +kernel
theorem dX9_lowest_72 : decode cX9_lowest 72 = .ok (.ldiv, 1) := by decide +kernel
theorem dX9_lowest_73 : decode cX9_lowest 73 = .ok (.lreturn, 1) := by decide +kernel
theorem dX9_takeAgain_0 : decode cX9_takeAgain 0 = .ok (.iload_n 1, 1) := by decide +kernel
theorem dX9_takeAgain_1 : decode cX9_takeAgain 1 = .ok (.ifCond .ne 19, 3) := by decide +kernel
theorem dX9_takeAgain_4 : decode cX9_takeAgain 4 = .ok (.aload_n 0, 1) := by decide +kernel
theorem dX9_takeAgain_5 : decode cX9_takeAgain 5 = .ok (.getfield 18, 3) := by decide +kernel
theorem dX9_takeAgain_8 : decode cX9_takeAgain 8 = .ok (.aload_n 0, 1) := by decide +kernel
theorem dX9_takeAgain_9 : decode cX9_takeAgain 9 = .ok (.getfield 11, 3) := by decide +kernel
theorem dX9_takeAgain_12 : decode cX9_takeAgain 12 = .ok (.iconst 0, 1) := by decide +kernel
theorem dX9_takeAgain_13 : decode cX9_takeAgain 13 = .ok (.aaload, 1) := by decide +kernel
theorem dX9_takeAgain_14 : decode cX9_takeAgain 14 = .ok (.invokevirtual 367, 3) := by decide +kernel
theorem dX9_takeAgain_17 : decode cX9_takeAgain 17 = .ok (.goto 16, 3) := by decide +kernel
theorem dX9_takeAgain_20 : decode cX9_takeAgain 20 = .ok (.aload_n 0, 1) := by decide +kernel
theorem dX9_takeAgain_21 : decode cX9_takeAgain 21 = .ok (.getfield 25, 3) := by decide +kernel
theorem dX9_takeAgain_24 : decode cX9_takeAgain 24 = .ok (.aload_n 0, 1) := by decide +kernel
theorem dX9_takeAgain_25 : decode cX9_takeAgain 25 = .ok (.getfield 11, 3) := by decide +kernel
theorem dX9_takeAgain_28 : decode cX9_takeAgain 28 = .ok (.iconst 1, 1) := by decide +kernel
theorem dX9_takeAgain_29 : decode cX9_takeAgain 29 = .ok (.aaload, 1) := by decide +kernel
theorem dX9_takeAgain_30 : decode cX9_takeAgain 30 = .ok (.invokevirtual 371, 3) := by decide +kernel
theorem dX9_takeAgain_33 : decode cX9_takeAgain 33 = .ok (.return_, 1) := by decide +kernel
theorem dX9_itemRefusal_0 : decode cX9_itemRefusal 0 = .ok (.iload_n 1, 1) := by decide +kernel
theorem dX9_itemRefusal_1 : decode cX9_itemRefusal 1 = .ok (.iconst 4, 1) := by decide +kernel
theorem dX9_itemRefusal_2 : decode cX9_itemRefusal 2 = .ok (.invokestatic 95, 3) := by decide +kernel
theorem dX9_itemRefusal_5 : decode cX9_itemRefusal 5 = .ok (.ifCond .eq 11, 3) := by decide +kernel
theorem dX9_itemRefusal_8 : decode cX9_itemRefusal 8 = .ok (.iload_n 2, 1) := by decide +kernel
theorem dX9_itemRefusal_9 : decode cX9_itemRefusal 9 = .ok (.iconst 3, 1) := by decide +kernel
theorem dX9_itemRefusal_10 : decode cX9_itemRefusal 10 = .ok (.invokestatic 95, 3) := by decide +kernel
theorem dX9_itemRefusal_13 : decode cX9_itemRefusal 13 = .ok (.ifCond .ne 6, 3) := by decide +kernel
theorem dX9_itemRefusal_16 : decode cX9_itemRefusal 16 = .ok (.bipush (-2), 2) := by decide +kernel
theorem dX9_itemRefusal_18 : decode cX9_itemRefusal 18 = .ok (.ireturn, 1) := by decide +kernel
theorem dX9_itemRefusal_19 : decode cX9_itemRefusal 19 = .ok (.aload_n 0, 1) := by decide +kernel
theorem dX9_itemRefusal_20 : decode cX9_itemRefusal 20 = .ok (.getfield 70, 3) := by decide +kernel
theorem dX9_itemRefusal_23 : decode cX9_itemRefusal 23 = .ok (.iload_n 1, 1) := by decide +kernel
theorem dX9_itemRefusal_24 : decode cX9_itemRefusal 24 = .ok (.aaload, 1) := by decide +kernel
theorem dX9_itemRefusal_25 : decode cX9_itemRefusal 25 = .ok (.getfield 154, 3) := by decide +kernel
theorem dX9_itemRefusal_28 : decode cX9_itemRefusal 28 = .ok (.iconst (-1), 1) := by decide +kernel
theorem dX9_itemRefusal_29 : decode cX9_itemRefusal 29 = .ok (.if_icmp .ne 9, 3) := by decide +kernel
theorem dX9_itemRefusal_32 : decode cX9_itemRefusal 32 = .ok (.aload_n 0, 1) := by decide +kernel
theorem dX9_itemRefusal_33 : decode cX9_itemRefusal 33 = .ok (.iconst 1, 1) := by decide +kernel
theorem dX9_itemRefusal_34 : decode cX9_itemRefusal 34 = .ok (.invokevirtual 157, 3) := by decide +kernel
theorem dX9_itemRefusal_37 : decode cX9_itemRefusal 37 = .ok (.ireturn, 1) := by decide +kernel
theorem dX9_itemRefusal_38 : decode cX9_itemRefusal 38 = .ok (.aload_n 0, 1) := by decide +kernel
theorem dX9_itemRefusal_39 : decode cX9_itemRefusal 39 = .ok (.getfield 70, 3) := by decide +kernel
theorem dX9_itemRefusal_42 : decode cX9_itemRefusal 42 = .ok (.iload_n 1, 1) := by decide +kernel
theorem dX9_itemRefusal_43 : decode cX9_itemRefusal 43 = .ok (.aaload, 1) := by decide +kernel
theorem dX9_itemRefusal_44 : decode cX9_itemRefusal 44 = .ok (.getfield 154, 3) := by decide +kernel
theorem dX9_itemRefusal_47 : decode cX9_itemRefusal 47 = .ok (.iload_n 2, 1) := by decide +kernel
theorem dX9_itemRefusal_48 : decode cX9_itemRefusal 48 = .ok (.if_icmp .eq 9, 3) := by decide +kernel
theorem dX9_itemRefusal_51 : decode cX9_itemRefusal 51 = .ok (.aload_n 0, 1) := by decide +kernel
theorem dX9_itemRefusal_52 : decode cX9_itemRefusal 52 = .ok (.iconst 3, 1) := by decide +kernel
theorem dX9_itemRefusal_53 : decode cX9_itemRefusal 53 = .ok (.invokevirtual 157, 3) := by decide +kernel
theorem dX9_itemRefusal_56 : decode cX9_itemRefusal 56 = .ok (.ireturn, 1) := by decide +kernel
theorem dX9_itemRefusal_57 : decode cX9_itemRefusal 57 = .ok (.iload_n 3, 1) := by decide +kernel
theorem dX9_itemRefusal_58 : decode cX9_itemRefusal 58 = .ok (.aload_n 0, 1) := by decide +kernel
theorem dX9_itemRefusal_59 : decode cX9_itemRefusal 59 = .ok (.getfield 70, 3) := by decide +kernel
theorem dX9_itemRefusal_62 : decode cX9_itemRefusal 62 = .ok (.iload_n 1, 1) := by decide +kernel
theorem dX9_itemRefusal_63 : decode cX9_itemRefusal 63 = .ok (.aaload, 1) := by decide +kernel
theorem dX9_itemRefusal_64 : decode cX9_itemRefusal 64 = .ok (.getfield 161, 3) := by decide +kernel
theorem dX9_itemRefusal_67 : decode cX9_itemRefusal 67 = .ok (.invokestatic 95, 3) := by decide +kernel
theorem dX9_itemRefusal_70 : decode cX9_itemRefusal 70 = .ok (.ifCond .eq 7, 3) := by decide +kernel
theorem dX9_itemRefusal_73 : decode cX9_itemRefusal 73 = .ok (.iconst 0, 1) := by decide +kernel
theorem dX9_itemRefusal_74 : decode cX9_itemRefusal 74 = .ok (.goto 8, 3) := by decide +kernel
theorem dX9_itemRefusal_77 : decode cX9_itemRefusal 77 = .ok (.aload_n 0, 1) := by decide +kernel
theorem dX9_itemRefusal_78 : decode cX9_itemRefusal 78 = .ok (.iconst 2, 1) := by decide +kernel
theorem dX9_itemRefusal_79 : decode cX9_itemRefusal 79 = .ok (.invokevirtual 157, 3) := by decide +kernel
theorem dX9_itemRefusal_82 : decode cX9_itemRefusal 82 = .ok (.ireturn, 1) := by decide +kernel
theorem dX9_carriedAsTold_0 : decode cX9_carriedAsTold 0 = .ok (.aload_n 0, 1) := by decide +kernel
theorem dX9_carriedAsTold_1 : decode cX9_carriedAsTold 1 = .ok (.getfield 55, 3) := by decide +kernel
theorem dX9_carriedAsTold_4 : decode cX9_carriedAsTold 4 = .ok (.iload_n 1, 1) := by decide +kernel
theorem dX9_carriedAsTold_5 : decode cX9_carriedAsTold 5 = .ok (.aload_n 0, 1) := by decide +kernel
theorem dX9_carriedAsTold_6 : decode cX9_carriedAsTold 6 = .ok (.getfield 18, 3) := by decide +kernel
theorem dX9_carriedAsTold_9 : decode cX9_carriedAsTold 9 = .ok (.getfield 122, 3) := by decide +kernel
theorem dX9_carriedAsTold_12 : decode cX9_carriedAsTold 12 = .ok (.aload_n 0, 1) := by decide +kernel
theorem dX9_carriedAsTold_13 : decode cX9_carriedAsTold 13 = .ok (.getfield 39, 3) := by decide +kernel
theorem dX9_carriedAsTold_16 : decode cX9_carriedAsTold 16 = .ok (.iload_n 1, 1) := by decide +kernel
theorem dX9_carriedAsTold_17 : decode cX9_carriedAsTold 17 = .ok (.invokevirtual 178, 3) := by decide +kernel
theorem dX9_carriedAsTold_20 : decode cX9_carriedAsTold 20 = .ok (.iconst (-1), 1) := by decide +kernel
theorem dX9_carriedAsTold_21 : decode cX9_carriedAsTold 21 = .ok (.invokevirtual 252, 3) := by decide +kernel
theorem dX9_carriedAsTold_24 : decode cX9_carriedAsTold 24 = .ok (.ireturn, 1) := by decide +kernel
theorem dX9_carriedAsTried_0 : decode cX9_carriedAsTried 0 = .ok (.aload_n 0, 1) := by decide +kernel
theorem dX9_carriedAsTried_1 : decode cX9_carriedAsTried 1 = .ok (.getfield 55, 3) := by decide +kernel
theorem dX9_carriedAsTried_4 : decode cX9_carriedAsTried 4 = .ok (.iload_n 1, 1) := by decide +kernel
theorem dX9_carriedAsTried_5 : decode cX9_carriedAsTried 5 = .ok (.aload_n 0, 1) := by decide +kernel
theorem dX9_carriedAsTried_6 : decode cX9_carriedAsTried 6 = .ok (.getfield 74, 3) := by decide +kernel
theorem dX9_carriedAsTried_9 : decode cX9_carriedAsTried 9 = .ok (.aload_n 0, 1) := by decide +kernel
theorem dX9_carriedAsTried_10 : decode cX9_carriedAsTried 10 = .ok (.getfield 39, 3) := by decide +kernel
theorem dX9_carriedAsTried_13 : decode cX9_carriedAsTried 13 = .ok (.iload_n 1, 1) := by decide +kernel
theorem dX9_carriedAsTried_14 : decode cX9_carriedAsTried 14 = .ok (.invokevirtual 178, 3) := by decide +kernel
theorem dX9_carriedAsTried_17 : decode cX9_carriedAsTried 17 = .ok (.iconst (-1), 1) := by decide +kernel
theorem dX9_carriedAsTried_18 : decode cX9_carriedAsTried 18 = .ok (.invokevirtual 252, 3) := by decide +kernel
theorem dX9_carriedAsTried_21 : decode cX9_carriedAsTried 21 = .ok (.ireturn, 1) := by decide +kernel
theorem dX9_lastPut_0 : decode cX9_lastPut 0 = .ok (.iload_n 1, 1) := by decide +kernel
theorem dX9_lastPut_1 : decode cX9_lastPut 1 = .ok (.aload_n 0, 1) := by decide +kernel
theorem dX9_lastPut_2 : decode cX9_lastPut 2 = .ok (.getfield 25, 3) := by decide +kernel
theorem dX9_lastPut_5 : decode cX9_lastPut 5 = .ok (.getfield 132, 3) := by decide +kernel
theorem dX9_lastPut_8 : decode cX9_lastPut 8 = .ok (.iconst 1, 1) := by decide +kernel
theorem dX9_lastPut_9 : decode cX9_lastPut 9 = .ok (.isub, 1) := by decide +kernel
theorem dX9_lastPut_10 : decode cX9_lastPut 10 = .ok (.invokestatic 284, 3) := by decide +kernel
theorem dX9_lastPut_13 : decode cX9_lastPut 13 = .ok (.ireturn, 1) := by decide +kernel
theorem dX9_findLift_0 : decode cX9_findLift 0 = .ok (.aload_n 0, 1) := by decide +kernel
theorem dX9_findLift_1 : decode cX9_findLift 1 = .ok (.getfield 81, 3) := by decide +kernel
theorem dX9_findLift_4 : decode cX9_findLift 4 = .ok (.iconst 0, 1) := by decide +kernel
theorem dX9_findLift_5 : decode cX9_findLift 5 = .ok (.iconst (-1), 1) := by decide +kernel
theorem dX9_findLift_6 : decode cX9_findLift 6 = .ok (.iastore, 1) := by decide +kernel
theorem dX9_findLift_7 : decode cX9_findLift 7 = .ok (.aload_n 0, 1) := by decide +kernel
theorem dX9_findLift_8 : decode cX9_findLift 8 = .ok (.getfield 81, 3) := by decide +kernel
theorem dX9_findLift_11 : decode cX9_findLift 11 = .ok (.iconst 1, 1) := by decide +kernel
theorem dX9_findLift_12 : decode cX9_findLift 12 = .ok (.iconst (-1), 1) := by decide +kernel
theorem dX9_findLift_13 : decode cX9_findLift 13 = .ok (.iastore, 1) := by decide +kernel
theorem dX9_findLift_14 : decode cX9_findLift 14 = .ok (.aload_n 0, 1) := by decide +kernel
theorem dX9_findLift_15 : decode cX9_findLift 15 = .ok (.iload_n 1, 1) := by decide +kernel
theorem dX9_findLift_16 : decode cX9_findLift 16 = .ok (.iconst (-1), 1) := by decide +kernel
theorem dX9_findLift_17 : decode cX9_findLift 17 = .ok (.iconst (-1), 1) := by decide +kernel
theorem dX9_findLift_18 : decode cX9_findLift 18 = .ok (.invokevirtual 372, 3) := by decide +kernel
theorem dX9_findLift_21 : decode cX9_findLift 21 = .ok (.istore_n 2, 1) := by decide +kernel
theorem dX9_findLift_22 : decode cX9_findLift 22 = .ok (.iload_n 2, 1) := by decide +kernel
theorem dX9_findLift_23 : decode cX9_findLift 23 = .ok (.iconst (-1), 1) := by decide +kernel
theorem dX9_findLift_24 : decode cX9_findLift 24 = .ok (.if_icmp .ne 5, 3) := by decide +kernel
theorem dX9_findLift_27 : decode cX9_findLift 27 = .ok (.iconst (-1), 1) := by decide +kernel
theorem dX9_findLift_28 : decode cX9_findLift 28 = .ok (.ireturn, 1) := by decide +kernel
theorem dX9_findLift_29 : decode cX9_findLift 29 = .ok (.iconst 0, 1) := by decide +kernel
theorem dX9_findLift_30 : decode cX9_findLift 30 = .ok (.istore_n 3, 1) := by decide +kernel
theorem dX9_findLift_31 : decode cX9_findLift 31 = .ok (.iload_n 3, 1) := by decide +kernel
theorem dX9_findLift_32 : decode cX9_findLift 32 = .ok (.aload_n 0, 1) := by decide +kernel
theorem dX9_findLift_33 : decode cX9_findLift 33 = .ok (.getfield 18, 3) := by decide +kernel
theorem dX9_findLift_36 : decode cX9_findLift 36 = .ok (.getfield 202, 3) := by decide +kernel
theorem dX9_findLift_39 : decode cX9_findLift 39 = .ok (.if_icmp .ge 29, 3) := by decide +kernel
theorem dX9_findLift_42 : decode cX9_findLift 42 = .ok (.aload_n 0, 1) := by decide +kernel
theorem dX9_findLift_43 : decode cX9_findLift 43 = .ok (.iload_n 1, 1) := by decide +kernel
theorem dX9_findLift_44 : decode cX9_findLift 44 = .ok (.iload_n 3, 1) := by decide +kernel
theorem dX9_findLift_45 : decode cX9_findLift 45 = .ok (.iload_n 3, 1) := by decide +kernel
theorem dX9_findLift_46 : decode cX9_findLift 46 = .ok (.invokevirtual 372, 3) := by decide +kernel
theorem dX9_findLift_49 : decode cX9_findLift 49 = .ok (.iload_n 2, 1) := by decide +kernel
theorem dX9_findLift_50 : decode cX9_findLift 50 = .ok (.if_icmp .eq 12, 3) := by decide +kernel
theorem dX9_findLift_53 : decode cX9_findLift 53 = .ok (.aload_n 0, 1) := by decide +kernel
theorem dX9_findLift_54 : decode cX9_findLift 54 = .ok (.getfield 81, 3) := by decide +kernel
theorem dX9_findLift_57 : decode cX9_findLift 57 = .ok (.iconst 0, 1) := by decide +kernel
theorem dX9_findLift_58 : decode cX9_findLift 58 = .ok (.iload_n 3, 1) := by decide +kernel
theorem dX9_findLift_59 : decode cX9_findLift 59 = .ok (.iastore, 1) := by decide +kernel
theorem dX9_findLift_60 : decode cX9_findLift 60 = .ok (.iconst 1, 1) := by decide +kernel
theorem dX9_findLift_61 : decode cX9_findLift 61 = .ok (.ireturn, 1) := by decide +kernel
theorem dX9_findLift_62 : decode cX9_findLift 62 = .ok (.iinc 3 1, 3) := by decide +kernel
theorem dX9_findLift_65 : decode cX9_findLift 65 = .ok (.goto (-34), 3) := by decide +kernel
theorem dX9_findLift_68 : decode cX9_findLift 68 = .ok (.iconst 0, 1) := by decide +kernel
theorem dX9_findLift_69 : decode cX9_findLift 69 = .ok (.istore_n 3, 1) := by decide +kernel
theorem dX9_findLift_70 : decode cX9_findLift 70 = .ok (.iload_n 3, 1) := by decide +kernel
theorem dX9_findLift_71 : decode cX9_findLift 71 = .ok (.aload_n 0, 1) := by decide +kernel
theorem dX9_findLift_72 : decode cX9_findLift 72 = .ok (.getfield 18, 3) := by decide +kernel
theorem dX9_findLift_75 : decode cX9_findLift 75 = .ok (.getfield 202, 3) := by decide +kernel
theorem dX9_findLift_78 : decode cX9_findLift 78 = .ok (.if_icmp .ge 61, 3) := by decide +kernel
theorem dX9_findLift_81 : decode cX9_findLift 81 = .ok (.iload_n 3, 1) := by decide +kernel
theorem dX9_findLift_82 : decode cX9_findLift 82 = .ok (.iconst 1, 1) := by decide +kernel
theorem dX9_findLift_83 : decode cX9_findLift 83 = .ok (.iadd, 1) := by decide +kernel
theorem dX9_findLift_84 : decode cX9_findLift 84 = .ok (.istore 4, 2) := by decide +kernel
theorem dX9_findLift_86 : decode cX9_findLift 86 = .ok (.iload 4, 2) := by decide +kernel
theorem dX9_findLift_88 : decode cX9_findLift 88 = .ok (.aload_n 0, 1) := by decide +kernel
theorem dX9_findLift_89 : decode cX9_findLift 89 = .ok (.getfield 18, 3) := by decide +kernel
theorem dX9_findLift_92 : decode cX9_findLift 92 = .ok (.getfield 202, 3) := by decide +kernel
theorem dX9_findLift_95 : decode cX9_findLift 95 = .ok (.if_icmp .ge 38, 3) := by decide +kernel
theorem dX9_findLift_98 : decode cX9_findLift 98 = .ok (.aload_n 0, 1) := by decide +kernel
theorem dX9_findLift_99 : decode cX9_findLift 99 = .ok (.iload_n 1, 1) := by decide +kernel
theorem dX9_findLift_100 : decode cX9_findLift 100 = .ok (.iload_n 3, 1) := by decide +kernel
theorem dX9_findLift_101 : decode cX9_findLift 101 = .ok (.iload 4, 2) := by decide +kernel
theorem dX9_findLift_103 : decode cX9_findLift 103 = .ok (.invokevirtual 372, 3) := by decide +kernel
theorem dX9_findLift_106 : decode cX9_findLift 106 = .ok (.iload_n 2, 1) := by decide +kernel
theorem dX9_findLift_107 : decode cX9_findLift 107 = .ok (.if_icmp .eq 20, 3) := by decide +kernel
theorem dX9_findLift_110 : decode cX9_findLift 110 = .ok (.aload_n 0, 1) := by decide +kernel
theorem dX9_findLift_111 : decode cX9_findLift 111 = .ok (.getfield 81, 3) := by decide +kernel
theorem dX9_findLift_114 : decode cX9_findLift 114 = .ok (.iconst 0, 1) := by decide +kernel
theorem dX9_findLift_115 : decode cX9_findLift 115 = .ok (.iload_n 3, 1) := by decide +kernel
theorem dX9_findLift_116 : decode cX9_findLift 116 = .ok (.iastore, 1) := by decide +kernel
theorem dX9_findLift_117 : decode cX9_findLift 117 = .ok (.aload_n 0, 1) := by decide +kernel
theorem dX9_findLift_118 : decode cX9_findLift 118 = .ok (.getfield 81, 3) := by decide +kernel
theorem dX9_findLift_121 : decode cX9_findLift 121 = .ok (.iconst 1, 1) := by decide +kernel
theorem dX9_findLift_122 : decode cX9_findLift 122 = .ok (.iload 4, 2) := by decide +kernel
theorem dX9_findLift_124 : decode cX9_findLift 124 = .ok (.iastore, 1) := by decide +kernel
theorem dX9_findLift_125 : decode cX9_findLift 125 = .ok (.iconst 2, 1) := by decide +kernel
theorem dX9_findLift_126 : decode cX9_findLift 126 = .ok (.ireturn, 1) := by decide +kernel
theorem dX9_findLift_127 : decode cX9_findLift 127 = .ok (.iinc 4 1, 3) := by decide +kernel
theorem dX9_findLift_130 : decode cX9_findLift 130 = .ok (.goto (-44), 3) := by decide +kernel
theorem dX9_findLift_133 : decode cX9_findLift 133 = .ok (.iinc 3 1, 3) := by decide +kernel
theorem dX9_findLift_136 : decode cX9_findLift 136 = .ok (.goto (-66), 3) := by decide +kernel
theorem dX9_findLift_139 : decode cX9_findLift 139 = .ok (.iconst (-1), 1) := by decide +kernel
theorem dX9_findLift_140 : decode cX9_findLift 140 = .ok (.ireturn, 1) := by decide +kernel
theorem dX9_carriedRaising_0 : decode cX9_carriedRaising 0 = .ok (.aload_n 0, 1) := by decide +kernel
theorem dX9_carriedRaising_1 : decode cX9_carriedRaising 1 = .ok (.getfield 55, 3) := by decide +kernel
theorem dX9_carriedRaising_4 : decode cX9_carriedRaising 4 = .ok (.iload_n 1, 1) := by decide +kernel
theorem dX9_carriedRaising_5 : decode cX9_carriedRaising 5 = .ok (.invokevirtual 375, 3) := by decide +kernel
theorem dX9_carriedRaising_8 : decode cX9_carriedRaising 8 = .ok (.ifCond .ne 5, 3) := by decide +kernel
theorem dX9_carriedRaising_11 : decode cX9_carriedRaising 11 = .ok (.iconst (-1), 1) := by decide +kernel
theorem dX9_carriedRaising_12 : decode cX9_carriedRaising 12 = .ok (.ireturn, 1) := by decide +kernel
theorem dX9_carriedRaising_13 : decode cX9_carriedRaising 13 = .ok (.aload_n 0, 1) := by decide +kernel
theorem dX9_carriedRaising_14 : decode cX9_carriedRaising 14 = .ok (.getfield 55, 3) := by decide +kernel
theorem dX9_carriedRaising_17 : decode cX9_carriedRaising 17 = .ok (.iload_n 1, 1) := by decide +kernel
theorem dX9_carriedRaising_18 : decode cX9_carriedRaising 18 = .ok (.invokevirtual 378, 3) := by decide +kernel
theorem dX9_carriedRaising_21 : decode cX9_carriedRaising 21 = .ok (.aload_n 0, 1) := by decide +kernel
theorem dX9_carriedRaising_22 : decode cX9_carriedRaising 22 = .ok (.getfield 55, 3) := by decide +kernel
theorem dX9_carriedRaising_25 : decode cX9_carriedRaising 25 = .ok (.iload_n 1, 1) := by decide +kernel
theorem dX9_carriedRaising_26 : decode cX9_carriedRaising 26 = .ok (.iconst (-1), 1) := by decide +kernel
theorem dX9_carriedRaising_27 : decode cX9_carriedRaising 27 = .ok (.invokevirtual 173, 3) := by decide +kernel
theorem dX9_carriedRaising_30 : decode cX9_carriedRaising 30 = .ok (.aload_n 0, 1) := by decide +kernel
theorem dX9_carriedRaising_31 : decode cX9_carriedRaising 31 = .ok (.getfield 55, 3) := by decide +kernel
theorem dX9_carriedRaising_34 : decode cX9_carriedRaising 34 = .ok (.iload_n 2, 1) := by decide +kernel
theorem dX9_carriedRaising_35 : decode cX9_carriedRaising 35 = .ok (.invokevirtual 381, 3) := by decide +kernel
theorem dX9_carriedRaising_38 : decode cX9_carriedRaising 38 = .ok (.aload_n 0, 1) := by decide +kernel
theorem dX9_carriedRaising_39 : decode cX9_carriedRaising 39 = .ok (.getfield 55, 3) := by decide +kernel
theorem dX9_carriedRaising_42 : decode cX9_carriedRaising 42 = .ok (.iload_n 3, 1) := by decide +kernel
theorem dX9_carriedRaising_43 : decode cX9_carriedRaising 43 = .ok (.invokevirtual 381, 3) := by decide +kernel
theorem dX9_carriedRaising_46 : decode cX9_carriedRaising 46 = .ok (.aload_n 0, 1) := by decide +kernel
theorem dX9_carriedRaising_47 : decode cX9_carriedRaising 47 = .ok (.getfield 55, 3) := by decide +kernel
theorem dX9_carriedRaising_50 : decode cX9_carriedRaising 50 = .ok (.aload_n 0, 1) := by decide +kernel
theorem dX9_carriedRaising_51 : decode cX9_carriedRaising 51 = .ok (.getfield 18, 3) := by decide +kernel
theorem dX9_carriedRaising_54 : decode cX9_carriedRaising 54 = .ok (.getfield 122, 3) := by decide +kernel
theorem dX9_carriedRaising_57 : decode cX9_carriedRaising 57 = .ok (.aload_n 0, 1) := by decide +kernel
theorem dX9_carriedRaising_58 : decode cX9_carriedRaising 58 = .ok (.getfield 39, 3) := by decide +kernel
theorem dX9_carriedRaising_61 : decode cX9_carriedRaising 61 = .ok (.iload_n 1, 1) := by decide +kernel
theorem dX9_carriedRaising_62 : decode cX9_carriedRaising 62 = .ok (.invokevirtual 178, 3) := by decide +kernel
theorem dX9_carriedRaising_65 : decode cX9_carriedRaising 65 = .ok (.invokevirtual 384, 3) := by decide +kernel
theorem dX9_carriedRaising_68 : decode cX9_carriedRaising 68 = .ok (.aload_n 0, 1) := by decide +kernel
theorem dX9_carriedRaising_69 : decode cX9_carriedRaising 69 = .ok (.getfield 55, 3) := by decide +kernel
theorem dX9_carriedRaising_72 : decode cX9_carriedRaising 72 = .ok (.invokevirtual 235, 3) := by decide +kernel
theorem dX9_carriedRaising_75 : decode cX9_carriedRaising 75 = .ok (.ireturn, 1) := by decide +kernel
theorem dX9_leftBy_0 : decode cX9_leftBy 0 = .ok (.iload_n 1, 1) := by decide +kernel
theorem dX9_leftBy_1 : decode cX9_leftBy 1 = .ok (.iconst 2, 1) := by decide +kernel
theorem dX9_leftBy_2 : decode cX9_leftBy 2 = .ok (.if_icmp .ne 7, 3) := by decide +kernel
theorem dX9_leftBy_5 : decode cX9_leftBy 5 = .ok (.iconst 1, 1) := by decide +kernel
theorem dX9_leftBy_6 : decode cX9_leftBy 6 = .ok (.goto 4, 3) := by decide +kernel
theorem dX9_leftBy_9 : decode cX9_leftBy 9 = .ok (.iconst 0, 1) := by decide +kernel
theorem dX9_leftBy_10 : decode cX9_leftBy 10 = .ok (.istore_n 2, 1) := by decide +kernel
theorem dX9_leftBy_11 : decode cX9_leftBy 11 = .ok (.iload_n 1, 1) := by decide +kernel
theorem dX9_leftBy_12 : decode cX9_leftBy 12 = .ok (.ifCond .ne 7, 3) := by decide +kernel
theorem dX9_leftBy_15 : decode cX9_leftBy 15 = .ok (.iconst 1, 1) := by decide +kernel
theorem dX9_leftBy_16 : decode cX9_leftBy 16 = .ok (.goto 4, 3) := by decide +kernel
theorem dX9_leftBy_19 : decode cX9_leftBy 19 = .ok (.iconst 2, 1) := by decide +kernel
theorem dX9_leftBy_20 : decode cX9_leftBy 20 = .ok (.istore_n 3, 1) := by decide +kernel
theorem dX9_leftBy_21 : decode cX9_leftBy 21 = .ok (.iconst 3, 1) := by decide +kernel
theorem dX9_leftBy_22 : decode cX9_leftBy 22 = .ok (.iload_n 2, 1) := by decide +kernel
theorem dX9_leftBy_23 : decode cX9_leftBy 23 = .ok (.isub, 1) := by decide +kernel
theorem dX9_leftBy_24 : decode cX9_leftBy 24 = .ok (.iload_n 3, 1) := by decide +kernel
theorem dX9_leftBy_25 : decode cX9_leftBy 25 = .ok (.isub, 1) := by decide +kernel
theorem dX9_leftBy_26 : decode cX9_leftBy 26 = .ok (.istore 4, 2) := by decide +kernel
theorem dX9_leftBy_28 : decode cX9_leftBy 28 = .ok (.aload_n 0, 1) := by decide +kernel
theorem dX9_leftBy_29 : decode cX9_leftBy 29 = .ok (.aload_n 0, 1) := by decide +kernel
theorem dX9_leftBy_30 : decode cX9_leftBy 30 = .ok (.iload_n 2, 1) := by decide +kernel
theorem dX9_leftBy_31 : decode cX9_leftBy 31 = .ok (.iload_n 3, 1) := by decide +kernel
theorem dX9_leftBy_32 : decode cX9_leftBy 32 = .ok (.invokevirtual 388, 3) := by decide +kernel
theorem dX9_leftBy_35 : decode cX9_leftBy 35 = .ok (.iload 4, 2) := by decide +kernel
theorem dX9_leftBy_37 : decode cX9_leftBy 37 = .ok (.invokevirtual 388, 3) := by decide +kernel
theorem dX9_leftBy_40 : decode cX9_leftBy 40 = .ok (.ireturn, 1) := by decide +kernel
theorem dX9_carriedAtFirst_0 : decode cX9_carriedAtFirst 0 = .ok (.aload_n 0, 1) := by decide +kernel
theorem dX9_carriedAtFirst_1 : decode cX9_carriedAtFirst 1 = .ok (.getfield 18, 3) := by decide +kernel
theorem dX9_carriedAtFirst_4 : decode cX9_carriedAtFirst 4 = .ok (.getfield 202, 3) := by decide +kernel
theorem dX9_carriedAtFirst_7 : decode cX9_carriedAtFirst 7 = .ok (.ifCond .ne 5, 3) := by decide +kernel
theorem dX9_carriedAtFirst_10 : decode cX9_carriedAtFirst 10 = .ok (.iconst (-1), 1) := by decide +kernel
theorem dX9_carriedAtFirst_11 : decode cX9_carriedAtFirst 11 = .ok (.ireturn, 1) := by decide +kernel
theorem dX9_carriedAtFirst_12 : decode cX9_carriedAtFirst 12 = .ok (.aload_n 0, 1) := by decide +kernel
theorem dX9_carriedAtFirst_13 : decode cX9_carriedAtFirst 13 = .ok (.getfield 55, 3) := by decide +kernel
theorem dX9_carriedAtFirst_16 : decode cX9_carriedAtFirst 16 = .ok (.iload_n 1, 1) := by decide +kernel
theorem dX9_carriedAtFirst_17 : decode cX9_carriedAtFirst 17 = .ok (.iload_n 2, 1) := by decide +kernel
theorem dX9_carriedAtFirst_18 : decode cX9_carriedAtFirst 18 = .ok (.invokevirtual 391, 3) := by decide +kernel
theorem dX9_carriedAtFirst_21 : decode cX9_carriedAtFirst 21 = .ok (.aload_n 0, 1) := by decide +kernel
theorem dX9_carriedAtFirst_22 : decode cX9_carriedAtFirst 22 = .ok (.getfield 55, 3) := by decide +kernel
theorem dX9_carriedAtFirst_25 : decode cX9_carriedAtFirst 25 = .ok (.invokevirtual 394, 3) := by decide +kernel
theorem dX9_carriedAtFirst_28 : decode cX9_carriedAtFirst 28 = .ok (.aload_n 0, 1) := by decide +kernel
theorem dX9_carriedAtFirst_29 : decode cX9_carriedAtFirst 29 = .ok (.getfield 55, 3) := by decide +kernel
theorem dX9_carriedAtFirst_32 : decode cX9_carriedAtFirst 32 = .ok (.aload_n 0, 1) := by decide +kernel
theorem dX9_carriedAtFirst_33 : decode cX9_carriedAtFirst 33 = .ok (.getfield 18, 3) := by decide +kernel
theorem dX9_carriedAtFirst_36 : decode cX9_carriedAtFirst 36 = .ok (.getfield 122, 3) := by decide +kernel
theorem dX9_carriedAtFirst_39 : decode cX9_carriedAtFirst 39 = .ok (.iconst 0, 1) := by decide +kernel
theorem dX9_carriedAtFirst_40 : decode cX9_carriedAtFirst 40 = .ok (.invokevirtual 384, 3) := by decide +kernel
theorem dX9_carriedAtFirst_43 : decode cX9_carriedAtFirst 43 = .ok (.aload_n 0, 1) := by decide +kernel
theorem dX9_carriedAtFirst_44 : decode cX9_carriedAtFirst 44 = .ok (.getfield 55, 3) := by decide +kernel
theorem dX9_carriedAtFirst_47 : decode cX9_carriedAtFirst 47 = .ok (.invokevirtual 235, 3) := by decide +kernel
theorem dX9_carriedAtFirst_50 : decode cX9_carriedAtFirst 50 = .ok (.ireturn, 1) := by decide +kernel
theorem dX9_seenSo_0 : decode cX9_seenSo 0 = .ok (.iconst 0, 1) := by decide +kernel
theorem dX9_seenSo_1 : decode cX9_seenSo 1 = .ok (.istore_n 3, 1) := by decide +kernel
theorem dX9_seenSo_2 : decode cX9_seenSo 2 = .ok (.iload_n 3, 1) := by decide +kernel
theorem dX9_seenSo_3 : decode cX9_seenSo 3 = .ok (.aload_n 0, 1) := by decide +kernel
theorem dX9_seenSo_4 : decode cX9_seenSo 4 = .ok (.getfield 46, 3) := by decide +kernel
theorem dX9_seenSo_7 : decode cX9_seenSo 7 = .ok (.getfield 241, 3) := by decide +kernel
theorem dX9_seenSo_10 : decode cX9_seenSo 10 = .ok (.if_icmp .ge 54, 3) := by decide +kernel
theorem dX9_seenSo_13 : decode cX9_seenSo 13 = .ok (.aload_n 0, 1) := by decide +kernel
theorem dX9_seenSo_14 : decode cX9_seenSo 14 = .ok (.getfield 46, 3) := by decide +kernel
theorem dX9_seenSo_17 : decode cX9_seenSo 17 = .ok (.getfield 397, 3) := by decide +kernel
theorem dX9_seenSo_20 : decode cX9_seenSo 20 = .ok (.iload_n 3, 1) := by decide +kernel
theorem dX9_seenSo_21 : decode cX9_seenSo 21 = .ok (.iaload, 1) := by decide +kernel
theorem dX9_seenSo_22 : decode cX9_seenSo 22 = .ok (.istore 4, 2) := by decide +kernel
theorem dX9_seenSo_24 : decode cX9_seenSo 24 = .ok (.aload_n 0, 1) := by decide +kernel
theorem dX9_seenSo_25 : decode cX9_seenSo 25 = .ok (.getfield 55, 3) := by decide +kernel
theorem dX9_seenSo_28 : decode cX9_seenSo 28 = .ok (.iload 4, 2) := by decide +kernel
theorem dX9_seenSo_30 : decode cX9_seenSo 30 = .ok (.aload_n 1, 1) := by decide +kernel
theorem dX9_seenSo_31 : decode cX9_seenSo 31 = .ok (.aload_n 0, 1) := by decide +kernel
theorem dX9_seenSo_32 : decode cX9_seenSo 32 = .ok (.getfield 39, 3) := by decide +kernel
theorem dX9_seenSo_35 : decode cX9_seenSo 35 = .ok (.iload 4, 2) := by decide +kernel
theorem dX9_seenSo_37 : decode cX9_seenSo 37 = .ok (.invokevirtual 178, 3) := by decide +kernel
theorem dX9_seenSo_40 : decode cX9_seenSo 40 = .ok (.iload_n 2, 1) := by decide +kernel
theorem dX9_seenSo_41 : decode cX9_seenSo 41 = .ok (.invokevirtual 252, 3) := by decide +kernel
theorem dX9_seenSo_44 : decode cX9_seenSo 44 = .ok (.aload_n 0, 1) := by decide +kernel
theorem dX9_seenSo_45 : decode cX9_seenSo 45 = .ok (.getfield 46, 3) := by decide +kernel
theorem dX9_seenSo_48 : decode cX9_seenSo 48 = .ok (.getfield 400, 3) := by decide +kernel
theorem dX9_seenSo_51 : decode cX9_seenSo 51 = .ok (.iload_n 3, 1) := by decide +kernel
theorem dX9_seenSo_52 : decode cX9_seenSo 52 = .ok (.iaload, 1) := by decide +kernel
theorem dX9_seenSo_53 : decode cX9_seenSo 53 = .ok (.if_icmp .eq 5, 3) := by decide +kernel
theorem dX9_seenSo_56 : decode cX9_seenSo 56 = .ok (.iconst 0, 1) := by decide +kernel
theorem dX9_seenSo_57 : decode cX9_seenSo 57 = .ok (.ireturn, 1) := by decide +kernel
theorem dX9_seenSo_58 : decode cX9_seenSo 58 = .ok (.iinc 3 1, 3) := by decide +kernel
theorem dX9_seenSo_61 : decode cX9_seenSo 61 = .ok (.goto (-59), 3) := by decide +kernel
theorem dX9_seenSo_64 : decode cX9_seenSo 64 = .ok (.iconst 1, 1) := by decide +kernel
theorem dX9_seenSo_65 : decode cX9_seenSo 65 = .ok (.ireturn, 1) := by decide +kernel
theorem dX9_ordersSeenSo_0 : decode cX9_ordersSeenSo 0 = .ok (.iconst 0, 1) := by decide +kernel
theorem dX9_ordersSeenSo_1 : decode cX9_ordersSeenSo 1 = .ok (.istore_n 2, 1) := by decide +kernel
theorem dX9_ordersSeenSo_2 : decode cX9_ordersSeenSo 2 = .ok (.iconst 0, 1) := by decide +kernel
theorem dX9_ordersSeenSo_3 : decode cX9_ordersSeenSo 3 = .ok (.istore_n 3, 1) := by decide +kernel
theorem dX9_ordersSeenSo_4 : decode cX9_ordersSeenSo 4 = .ok (.iload_n 3, 1) := by decide +kernel
theorem dX9_ordersSeenSo_5 : decode cX9_ordersSeenSo 5 = .ok (.bipush 6, 2) := by decide +kernel
theorem dX9_ordersSeenSo_7 : decode cX9_ordersSeenSo 7 = .ok (.if_icmp .ge 33, 3) := by decide +kernel
theorem dX9_ordersSeenSo_10 : decode cX9_ordersSeenSo 10 = .ok (.aload_n 0, 1) := by decide +kernel
theorem dX9_ordersSeenSo_11 : decode cX9_ordersSeenSo 11 = .ok (.iload_n 1, 1) := by decide +kernel
theorem dX9_ordersSeenSo_12 : decode cX9_ordersSeenSo 12 = .ok (.iload_n 3, 1) := by decide +kernel
theorem dX9_ordersSeenSo_13 : decode cX9_ordersSeenSo 13 = .ok (.invokevirtual 403, 3) := by decide +kernel
theorem dX9_ordersSeenSo_16 : decode cX9_ordersSeenSo 16 = .ok (.aload_n 0, 1) := by decide +kernel
theorem dX9_ordersSeenSo_17 : decode cX9_ordersSeenSo 17 = .ok (.aload_n 0, 1) := by decide +kernel
theorem dX9_ordersSeenSo_18 : decode cX9_ordersSeenSo 18 = .ok (.getfield 74, 3) := by decide +kernel
theorem dX9_ordersSeenSo_21 : decode cX9_ordersSeenSo 21 = .ok (.iconst (-1), 1) := by decide +kernel
theorem dX9_ordersSeenSo_22 : decode cX9_ordersSeenSo 22 = .ok (.invokevirtual 242, 3) := by decide +kernel
theorem dX9_ordersSeenSo_25 : decode cX9_ordersSeenSo 25 = .ok (.ifCond .eq 9, 3) := by decide +kernel
theorem dX9_ordersSeenSo_28 : decode cX9_ordersSeenSo 28 = .ok (.iload_n 2, 1) := by decide +kernel
theorem dX9_ordersSeenSo_29 : decode cX9_ordersSeenSo 29 = .ok (.iconst 1, 1) := by decide +kernel
theorem dX9_ordersSeenSo_30 : decode cX9_ordersSeenSo 30 = .ok (.iload_n 3, 1) := by decide +kernel
theorem dX9_ordersSeenSo_31 : decode cX9_ordersSeenSo 31 = .ok (.ishl, 1) := by decide +kernel
theorem dX9_ordersSeenSo_32 : decode cX9_ordersSeenSo 32 = .ok (.ior, 1) := by decide +kernel
theorem dX9_ordersSeenSo_33 : decode cX9_ordersSeenSo 33 = .ok (.istore_n 2, 1) := by decide +kernel
theorem dX9_ordersSeenSo_34 : decode cX9_ordersSeenSo 34 = .ok (.iinc 3 1, 3) := by decide +kernel
theorem dX9_ordersSeenSo_37 : decode cX9_ordersSeenSo 37 = .ok (.goto (-33), 3) := by decide +kernel
theorem dX9_ordersSeenSo_40 : decode cX9_ordersSeenSo 40 = .ok (.iload_n 2, 1) := by decide +kernel
theorem dX9_ordersSeenSo_41 : decode cX9_ordersSeenSo 41 = .ok (.ireturn, 1) := by decide +kernel
theorem dX9_tryOrder_0 : decode cX9_tryOrder 0 = .ok (.iconst 0, 1) := by decide +kernel
theorem dX9_tryOrder_1 : decode cX9_tryOrder 1 = .ok (.istore_n 3, 1) := by decide +kernel
theorem dX9_tryOrder_2 : decode cX9_tryOrder 2 = .ok (.iload_n 3, 1) := by decide +kernel
theorem dX9_tryOrder_3 : decode cX9_tryOrder 3 = .ok (.aload_n 0, 1) := by decide +kernel
theorem dX9_tryOrder_4 : decode cX9_tryOrder 4 = .ok (.getfield 18, 3) := by decide +kernel
theorem dX9_tryOrder_7 : decode cX9_tryOrder 7 = .ok (.getfield 202, 3) := by decide +kernel
theorem dX9_tryOrder_10 : decode cX9_tryOrder 10 = .ok (.if_icmp .ge 33, 3) := by decide +kernel
theorem dX9_tryOrder_13 : decode cX9_tryOrder 13 = .ok (.aload_n 0, 1) := by decide +kernel
theorem dX9_tryOrder_14 : decode cX9_tryOrder 14 = .ok (.getfield 74, 3) := by decide +kernel
theorem dX9_tryOrder_17 : decode cX9_tryOrder 17 = .ok (.iload_n 3, 1) := by decide +kernel
theorem dX9_tryOrder_18 : decode cX9_tryOrder 18 = .ok (.iload_n 3, 1) := by decide +kernel
theorem dX9_tryOrder_19 : decode cX9_tryOrder 19 = .ok (.iload_n 1, 1) := by decide +kernel
theorem dX9_tryOrder_20 : decode cX9_tryOrder 20 = .ok (.if_icmp .ne 7, 3) := by decide +kernel
theorem dX9_tryOrder_23 : decode cX9_tryOrder 23 = .ok (.iload_n 2, 1) := by decide +kernel
theorem dX9_tryOrder_24 : decode cX9_tryOrder 24 = .ok (.goto 12, 3) := by decide +kernel
theorem dX9_tryOrder_27 : decode cX9_tryOrder 27 = .ok (.aload_n 0, 1) := by decide +kernel
theorem dX9_tryOrder_28 : decode cX9_tryOrder 28 = .ok (.getfield 18, 3) := by decide +kernel
theorem dX9_tryOrder_31 : decode cX9_tryOrder 31 = .ok (.getfield 122, 3) := by decide +kernel
theorem dX9_tryOrder_34 : decode cX9_tryOrder 34 = .ok (.iload_n 3, 1) := by decide +kernel
theorem dX9_tryOrder_35 : decode cX9_tryOrder 35 = .ok (.iaload, 1) := by decide +kernel
theorem dX9_tryOrder_36 : decode cX9_tryOrder 36 = .ok (.iastore, 1) := by decide +kernel
theorem dX9_tryOrder_37 : decode cX9_tryOrder 37 = .ok (.iinc 3 1, 3) := by decide +kernel
theorem dX9_tryOrder_40 : decode cX9_tryOrder 40 = .ok (.goto (-38), 3) := by decide +kernel
theorem dX9_tryOrder_43 : decode cX9_tryOrder 43 = .ok (.return_, 1) := by decide +kernel
theorem dX9_nightToAsk_0 : decode cX9_nightToAsk 0 = .ok (.iconst 0, 1) := by decide +kernel
theorem dX9_nightToAsk_1 : decode cX9_nightToAsk 1 = .ok (.istore_n 3, 1) := by decide +kernel
theorem dX9_nightToAsk_2 : decode cX9_nightToAsk 2 = .ok (.bipush 7, 2) := by decide +kernel
theorem dX9_nightToAsk_4 : decode cX9_nightToAsk 4 = .ok (.istore 4, 2) := by decide +kernel
theorem dX9_nightToAsk_6 : decode cX9_nightToAsk 6 = .ok (.iconst 0, 1) := by decide +kernel
theorem dX9_nightToAsk_7 : decode cX9_nightToAsk 7 = .ok (.istore 5, 2) := by decide +kernel
theorem dX9_nightToAsk_9 : decode cX9_nightToAsk 9 = .ok (.iload 5, 2) := by decide +kernel
theorem dX9_nightToAsk_11 : decode cX9_nightToAsk 11 = .ok (.bipush 10, 2) := by decide +kernel
theorem dX9_nightToAsk_13 : decode cX9_nightToAsk 13 = .ok (.if_icmp .ge 33, 3) := by decide +kernel
theorem dX9_nightToAsk_16 : decode cX9_nightToAsk 16 = .ok (.aload_n 0, 1) := by decide +kernel
theorem dX9_nightToAsk_17 : decode cX9_nightToAsk 17 = .ok (.iload 5, 2) := by decide +kernel
theorem dX9_nightToAsk_19 : decode cX9_nightToAsk 19 = .ok (.iload_n 1, 1) := by decide +kernel
theorem dX9_nightToAsk_20 : decode cX9_nightToAsk 20 = .ok (.iload_n 2, 1) := by decide +kernel
theorem dX9_nightToAsk_21 : decode cX9_nightToAsk 21 = .ok (.invokevirtual 406, 3) := by decide +kernel
theorem dX9_nightToAsk_24 : decode cX9_nightToAsk 24 = .ok (.istore 6, 2) := by decide +kernel
theorem dX9_nightToAsk_26 : decode cX9_nightToAsk 26 = .ok (.iload 6, 2) := by decide +kernel
theorem dX9_nightToAsk_28 : decode cX9_nightToAsk 28 = .ok (.iload 4, 2) := by decide +kernel
theorem dX9_nightToAsk_30 : decode cX9_nightToAsk 30 = .ok (.if_icmp .ge 10, 3) := by decide +kernel
theorem dX9_nightToAsk_33 : decode cX9_nightToAsk 33 = .ok (.iload 6, 2) := by decide +kernel
theorem dX9_nightToAsk_35 : decode cX9_nightToAsk 35 = .ok (.istore 4, 2) := by decide +kernel
theorem dX9_nightToAsk_37 : decode cX9_nightToAsk 37 = .ok (.iload 5, 2) := by decide +kernel
theorem dX9_nightToAsk_39 : decode cX9_nightToAsk 39 = .ok (.istore_n 3, 1) := by decide +kernel
theorem dX9_nightToAsk_40 : decode cX9_nightToAsk 40 = .ok (.iinc 5 1, 3) := by decide +kernel
theorem dX9_nightToAsk_43 : decode cX9_nightToAsk 43 = .ok (.goto (-34), 3) := by decide +kernel
theorem dX9_nightToAsk_46 : decode cX9_nightToAsk 46 = .ok (.iload_n 3, 1) := by decide +kernel
theorem dX9_nightToAsk_47 : decode cX9_nightToAsk 47 = .ok (.ireturn, 1) := by decide +kernel
theorem dX9_mostAlike_0 : decode cX9_mostAlike 0 = .ok (.iconst 0, 1) := by decide +kernel
theorem dX9_mostAlike_1 : decode cX9_mostAlike 1 = .ok (.istore 4, 2) := by decide +kernel
theorem dX9_mostAlike_3 : decode cX9_mostAlike 3 = .ok (.iload 4, 2) := by decide +kernel
theorem dX9_mostAlike_5 : decode cX9_mostAlike 5 = .ok (.iconst 3, 1) := by decide +kernel
theorem dX9_mostAlike_6 : decode cX9_mostAlike 6 = .ok (.if_icmp .gt 17, 3) := by decide +kernel
theorem dX9_mostAlike_9 : decode cX9_mostAlike 9 = .ok (.aload_n 0, 1) := by decide +kernel
theorem dX9_mostAlike_10 : decode cX9_mostAlike 10 = .ok (.getfield 84, 3) := by decide +kernel
theorem dX9_mostAlike_13 : decode cX9_mostAlike 13 = .ok (.iload 4, 2) := by decide +kernel
theorem dX9_mostAlike_15 : decode cX9_mostAlike 15 = .ok (.iconst 0, 1) := by decide +kernel
theorem dX9_mostAlike_16 : decode cX9_mostAlike 16 = .ok (.iastore, 1) := by decide +kernel
theorem dX9_mostAlike_17 : decode cX9_mostAlike 17 = .ok (.iinc 4 1, 3) := by decide +kernel
theorem dX9_mostAlike_20 : decode cX9_mostAlike 20 = .ok (.goto (-17), 3) := by decide +kernel
theorem dX9_mostAlike_23 : decode cX9_mostAlike 23 = .ok (.aload_n 0, 1) := by decide +kernel
theorem dX9_mostAlike_24 : decode cX9_mostAlike 24 = .ok (.getfield 39, 3) := by decide +kernel
theorem dX9_mostAlike_27 : decode cX9_mostAlike 27 = .ok (.iload_n 1, 1) := by decide +kernel
theorem dX9_mostAlike_28 : decode cX9_mostAlike 28 = .ok (.invokevirtual 178, 3) := by decide +kernel
theorem dX9_mostAlike_31 : decode cX9_mostAlike 31 = .ok (.istore 4, 2) := by decide +kernel
theorem dX9_mostAlike_33 : decode cX9_mostAlike 33 = .ok (.iconst 0, 1) := by decide +kernel
theorem dX9_mostAlike_34 : decode cX9_mostAlike 34 = .ok (.istore 5, 2) := by decide +kernel
theorem dX9_mostAlike_36 : decode cX9_mostAlike 36 = .ok (.iconst 0, 1) := by decide +kernel
theorem dX9_mostAlike_37 : decode cX9_mostAlike 37 = .ok (.istore 6, 2) := by decide +kernel
theorem dX9_mostAlike_39 : decode cX9_mostAlike 39 = .ok (.iload 6, 2) := by decide +kernel
theorem dX9_mostAlike_41 : decode cX9_mostAlike 41 = .ok (.bipush 6, 2) := by decide +kernel
theorem dX9_mostAlike_43 : decode cX9_mostAlike 43 = .ok (.if_icmp .ge 70, 3) := by decide +kernel
theorem dX9_mostAlike_46 : decode cX9_mostAlike 46 = .ok (.iload_n 3, 1) := by decide +kernel
theorem dX9_mostAlike_47 : decode cX9_mostAlike 47 = .ok (.iload 6, 2) := by decide +kernel
theorem dX9_mostAlike_49 : decode cX9_mostAlike 49 = .ok (.ishr, 1) := by decide +kernel
theorem dX9_mostAlike_50 : decode cX9_mostAlike 50 = .ok (.iconst 1, 1) := by decide +kernel
theorem dX9_mostAlike_51 : decode cX9_mostAlike 51 = .ok (.iand, 1) := by decide +kernel
theorem dX9_mostAlike_52 : decode cX9_mostAlike 52 = .ok (.iconst 1, 1) := by decide +kernel
theorem dX9_mostAlike_53 : decode cX9_mostAlike 53 = .ok (.if_icmp .ne 54, 3) := by decide +kernel
theorem dX9_mostAlike_56 : decode cX9_mostAlike 56 = .ok (.aload_n 0, 1) := by decide +kernel
theorem dX9_mostAlike_57 : decode cX9_mostAlike 57 = .ok (.iload_n 2, 1) := by decide +kernel
theorem dX9_mostAlike_58 : decode cX9_mostAlike 58 = .ok (.iload 6, 2) := by decide +kernel
theorem dX9_mostAlike_60 : decode cX9_mostAlike 60 = .ok (.invokevirtual 403, 3) := by decide +kernel
theorem dX9_mostAlike_63 : decode cX9_mostAlike 63 = .ok (.aload_n 0, 1) := by decide +kernel
theorem dX9_mostAlike_64 : decode cX9_mostAlike 64 = .ok (.getfield 55, 3) := by decide +kernel
theorem dX9_mostAlike_67 : decode cX9_mostAlike 67 = .ok (.iload_n 1, 1) := by decide +kernel
theorem dX9_mostAlike_68 : decode cX9_mostAlike 68 = .ok (.aload_n 0, 1) := by decide +kernel
theorem dX9_mostAlike_69 : decode cX9_mostAlike 69 = .ok (.getfield 74, 3) := by decide +kernel
theorem dX9_mostAlike_72 : decode cX9_mostAlike 72 = .ok (.iload 4, 2) := by decide +kernel
theorem dX9_mostAlike_74 : decode cX9_mostAlike 74 = .ok (.iconst (-1), 1) := by decide +kernel
theorem dX9_mostAlike_75 : decode cX9_mostAlike 75 = .ok (.invokevirtual 252, 3) := by decide +kernel
theorem dX9_mostAlike_78 : decode cX9_mostAlike 78 = .ok (.iconst 1, 1) := by decide +kernel
theorem dX9_mostAlike_79 : decode cX9_mostAlike 79 = .ok (.iadd, 1) := by decide +kernel
theorem dX9_mostAlike_80 : decode cX9_mostAlike 80 = .ok (.istore 7, 2) := by decide +kernel
theorem dX9_mostAlike_82 : decode cX9_mostAlike 82 = .ok (.aload_n 0, 1) := by decide +kernel
theorem dX9_mostAlike_83 : decode cX9_mostAlike 83 = .ok (.getfield 84, 3) := by decide +kernel
theorem dX9_mostAlike_86 : decode cX9_mostAlike 86 = .ok (.iload 7, 2) := by decide +kernel
theorem dX9_mostAlike_88 : decode cX9_mostAlike 88 = .ok (.dup2, 1) := by decide +kernel
theorem dX9_mostAlike_89 : decode cX9_mostAlike 89 = .ok (.iaload, 1) := by decide +kernel
theorem dX9_mostAlike_90 : decode cX9_mostAlike 90 = .ok (.iconst 1, 1) := by decide +kernel
theorem dX9_mostAlike_91 : decode cX9_mostAlike 91 = .ok (.iadd, 1) := by decide +kernel
theorem dX9_mostAlike_92 : decode cX9_mostAlike 92 = .ok (.iastore, 1) := by decide +kernel
theorem dX9_mostAlike_93 : decode cX9_mostAlike 93 = .ok (.iload 5, 2) := by decide +kernel
theorem dX9_mostAlike_95 : decode cX9_mostAlike 95 = .ok (.aload_n 0, 1) := by decide +kernel
theorem dX9_mostAlike_96 : decode cX9_mostAlike 96 = .ok (.getfield 84, 3) := by decide +kernel
theorem dX9_mostAlike_99 : decode cX9_mostAlike 99 = .ok (.iload 7, 2) := by decide +kernel
theorem dX9_mostAlike_101 : decode cX9_mostAlike 101 = .ok (.iaload, 1) := by decide +kernel
theorem dX9_mostAlike_102 : decode cX9_mostAlike 102 = .ok (.invokestatic 409, 3) := by decide +kernel
theorem dX9_mostAlike_105 : decode cX9_mostAlike 105 = .ok (.istore 5, 2) := by decide +kernel
theorem dX9_mostAlike_107 : decode cX9_mostAlike 107 = .ok (.iinc 6 1, 3) := by decide +kernel
theorem dX9_mostAlike_110 : decode cX9_mostAlike 110 = .ok (.goto (-71), 3) := by decide +kernel
theorem dX9_mostAlike_113 : decode cX9_mostAlike 113 = .ok (.iload 5, 2) := by decide +kernel
theorem dX9_mostAlike_115 : decode cX9_mostAlike 115 = .ok (.ireturn, 1) := by decide +kernel
theorem dX9_drawOrders_0 : decode cX9_drawOrders 0 = .ok (.iload_n 1, 1) := by decide +kernel
theorem dX9_drawOrders_1 : decode cX9_drawOrders 1 = .ok (.istore_n 2, 1) := by decide +kernel
theorem dX9_drawOrders_2 : decode cX9_drawOrders 2 = .ok (.iconst 0, 1) := by decide +kernel
theorem dX9_drawOrders_3 : decode cX9_drawOrders 3 = .ok (.istore_n 3, 1) := by decide +kernel
theorem dX9_drawOrders_4 : decode cX9_drawOrders 4 = .ok (.iload_n 3, 1) := by decide +kernel
theorem dX9_drawOrders_5 : decode cX9_drawOrders 5 = .ok (.aload_n 0, 1) := by decide +kernel
theorem dX9_drawOrders_6 : decode cX9_drawOrders 6 = .ok (.getfield 18, 3) := by decide +kernel
theorem dX9_drawOrders_9 : decode cX9_drawOrders 9 = .ok (.getfield 202, 3) := by decide +kernel
theorem dX9_drawOrders_12 : decode cX9_drawOrders 12 = .ok (.if_icmp .ge 32, 3) := by decide +kernel
theorem dX9_drawOrders_15 : decode cX9_drawOrders 15 = .ok (.ldc_w 412, 3) := by decide +kernel
theorem dX9_drawOrders_18 : decode cX9_drawOrders 18 = .ok (.iload_n 2, 1) := by decide +kernel
theorem dX9_drawOrders_19 : decode cX9_drawOrders 19 = .ok (.imul, 1) := by decide +kernel
theorem dX9_drawOrders_20 : decode cX9_drawOrders 20 = .ok (.sipush 12345, 3) := by decide +kernel
theorem dX9_drawOrders_23 : decode cX9_drawOrders 23 = .ok (.iadd, 1) := by decide +kernel
theorem dX9_drawOrders_24 : decode cX9_drawOrders 24 = .ok (.istore_n 2, 1) := by decide +kernel
theorem dX9_drawOrders_25 : decode cX9_drawOrders 25 = .ok (.aload_n 0, 1) := by decide +kernel
theorem dX9_drawOrders_26 : decode cX9_drawOrders 26 = .ok (.getfield 74, 3) := by decide +kernel
theorem dX9_drawOrders_29 : decode cX9_drawOrders 29 = .ok (.iload_n 3, 1) := by decide +kernel
theorem dX9_drawOrders_30 : decode cX9_drawOrders 30 = .ok (.iload_n 2, 1) := by decide +kernel
theorem dX9_drawOrders_31 : decode cX9_drawOrders 31 = .ok (.bipush 16, 2) := by decide +kernel
theorem dX9_drawOrders_33 : decode cX9_drawOrders 33 = .ok (.iushr, 1) := by decide +kernel
theorem dX9_drawOrders_34 : decode cX9_drawOrders 34 = .ok (.bipush 6, 2) := by decide +kernel
theorem dX9_drawOrders_36 : decode cX9_drawOrders 36 = .ok (.irem, 1) := by decide +kernel
theorem dX9_drawOrders_37 : decode cX9_drawOrders 37 = .ok (.iastore, 1) := by decide +kernel
theorem dX9_drawOrders_38 : decode cX9_drawOrders 38 = .ok (.iinc 3 1, 3) := by decide +kernel
theorem dX9_drawOrders_41 : decode cX9_drawOrders 41 = .ok (.goto (-37), 3) := by decide +kernel
theorem dX9_drawOrders_44 : decode cX9_drawOrders 44 = .ok (.return_, 1) := by decide +kernel
theorem dX10_init_0 : decode cX10_init 0 = .ok (.aload_n 0, 1) := by decide +kernel
theorem dX10_init_1 : decode cX10_init 1 = .ok (.invokespecial 1, 3) := by decide +kernel
theorem dX10_init_4 : decode cX10_init 4 = .ok (.aload_n 0, 1) := by decide +kernel
theorem dX10_init_5 : decode cX10_init 5 = .ok (.iconst 2, 1) := by decide +kernel
theorem dX10_init_6 : decode cX10_init 6 = .ok (.newarray .int, 2) := by decide +kernel
theorem dX10_init_8 : decode cX10_init 8 = .ok (.putfield 7, 3) := by decide +kernel
theorem dX10_init_11 : decode cX10_init 11 = .ok (.aload_n 0, 1) := by decide +kernel
theorem dX10_init_12 : decode cX10_init 12 = .ok (.bipush 94, 2) := by decide +kernel
theorem dX10_init_14 : decode cX10_init 14 = .ok (.newarray .int, 2) := by decide +kernel
theorem dX10_init_16 : decode cX10_init 16 = .ok (.putfield 13, 3) := by decide +kernel
theorem dX10_init_19 : decode cX10_init 19 = .ok (.aload_n 0, 1) := by decide +kernel
theorem dX10_init_20 : decode cX10_init 20 = .ok (.bipush 9, 2) := by decide +kernel
theorem dX10_init_22 : decode cX10_init 22 = .ok (.newarray .int, 2) := by decide +kernel
theorem dX10_init_24 : decode cX10_init 24 = .ok (.putfield 16, 3) := by decide +kernel
theorem dX10_init_27 : decode cX10_init 27 = .ok (.aload_n 0, 1) := by decide +kernel
theorem dX10_init_28 : decode cX10_init 28 = .ok (.bipush 9, 2) := by decide +kernel
theorem dX10_init_30 : decode cX10_init 30 = .ok (.newarray .int, 2) := by decide +kernel
theorem dX10_init_32 : decode cX10_init 32 = .ok (.putfield 19, 3) := by decide +kernel
theorem dX10_init_35 : decode cX10_init 35 = .ok (.aload_n 0, 1) := by decide +kernel
theorem dX10_init_36 : decode cX10_init 36 = .ok (.bipush 27, 2) := by decide +kernel
theorem dX10_init_38 : decode cX10_init 38 = .ok (.newarray .int, 2) := by decide +kernel
theorem dX10_init_40 : decode cX10_init 40 = .ok (.putfield 22, 3) := by decide +kernel
theorem dX10_init_43 : decode cX10_init 43 = .ok (.aload_n 0, 1) := by decide +kernel
theorem dX10_init_44 : decode cX10_init 44 = .ok (.bipush 11, 2) := by decide +kernel
theorem dX10_init_46 : decode cX10_init 46 = .ok (.newarray .int, 2) := by decide +kernel
theorem dX10_init_48 : decode cX10_init 48 = .ok (.putfield 25, 3) := by decide +kernel
theorem dX10_init_51 : decode cX10_init 51 = .ok (.aload_n 0, 1) := by decide +kernel
theorem dX10_init_52 : decode cX10_init 52 = .ok (.bipush 11, 2) := by decide +kernel
theorem dX10_init_54 : decode cX10_init 54 = .ok (.newarray .int, 2) := by decide +kernel
theorem dX10_init_56 : decode cX10_init 56 = .ok (.putfield 28, 3) := by decide +kernel
theorem dX10_init_59 : decode cX10_init 59 = .ok (.aload_n 0, 1) := by decide +kernel
theorem dX10_init_60 : decode cX10_init 60 = .ok (.bipush 11, 2) := by decide +kernel
theorem dX10_init_62 : decode cX10_init 62 = .ok (.newarray .int, 2) := by decide +kernel
theorem dX10_init_64 : decode cX10_init 64 = .ok (.putfield 31, 3) := by decide +kernel
theorem dX10_init_67 : decode cX10_init 67 = .ok (.aload_n 0, 1) := by decide +kernel
theorem dX10_init_68 : decode cX10_init 68 = .ok (.iconst 3, 1) := by decide +kernel
theorem dX10_init_69 : decode cX10_init 69 = .ok (.newarray .int, 2) := by decide +kernel
theorem dX10_init_71 : decode cX10_init 71 = .ok (.putfield 34, 3) := by decide +kernel
theorem dX10_init_74 : decode cX10_init 74 = .ok (.aload_n 0, 1) := by decide +kernel
theorem dX10_init_75 : decode cX10_init 75 = .ok (.bipush 8, 2) := by decide +kernel
theorem dX10_init_77 : decode cX10_init 77 = .ok (.newarray .int, 2) := by decide +kernel
theorem dX10_init_79 : decode cX10_init 79 = .ok (.putfield 37, 3) := by decide +kernel
theorem dX10_init_82 : decode cX10_init 82 = .ok (.aload_n 0, 1) := by decide +kernel
theorem dX10_init_83 : decode cX10_init 83 = .ok (.bipush 8, 2) := by decide +kernel
theorem dX10_init_85 : decode cX10_init 85 = .ok (.newarray .int, 2) := by decide +kernel
theorem dX10_init_87 : decode cX10_init 87 = .ok (.putfield 40, 3) := by decide +kernel
theorem dX10_init_90 : decode cX10_init 90 = .ok (.aload_n 0, 1) := by decide +kernel
theorem dX10_init_91 : decode cX10_init 91 = .ok (.bipush 8, 2) := by decide +kernel
theorem dX10_init_93 : decode cX10_init 93 = .ok (.newarray .int, 2) := by decide +kernel
theorem dX10_init_95 : decode cX10_init 95 = .ok (.putfield 43, 3) := by decide +kernel
theorem dX10_init_98 : decode cX10_init 98 = .ok (.aload_n 0, 1) := by decide +kernel
theorem dX10_init_99 : decode cX10_init 99 = .ok (.bipush 6, 2) := by decide +kernel
theorem dX10_init_101 : decode cX10_init 101 = .ok (.newarray .int, 2) := by decide +kernel
theorem dX10_init_103 : decode cX10_init 103 = .ok (.putfield 46, 3) := by decide +kernel
theorem dX10_init_106 : decode cX10_init 106 = .ok (.aload_n 0, 1) := by decide +kernel
theorem dX10_init_107 : decode cX10_init 107 = .ok (.bipush 8, 2) := by decide +kernel
theorem dX10_init_109 : decode cX10_init 109 = .ok (.newarray .int, 2) := by decide +kernel
theorem dX10_init_111 : decode cX10_init 111 = .ok (.putfield 49, 3) := by decide +kernel
theorem dX10_init_114 : decode cX10_init 114 = .ok (.aload_n 0, 1) := by decide +kernel
theorem dX10_init_115 : decode cX10_init 115 = .ok (.bipush 8, 2) := by decide +kernel
theorem dX10_init_117 : decode cX10_init 117 = .ok (.newarray .int, 2) := by decide +kernel
theorem dX10_init_119 : decode cX10_init 119 = .ok (.putfield 52, 3) := by decide +kernel
theorem dX10_init_122 : decode cX10_init 122 = .ok (.aload_n 0, 1) := by decide +kernel
theorem dX10_init_123 : decode cX10_init 123 = .ok (.bipush 80, 2) := by decide +kernel
theorem dX10_init_125 : decode cX10_init 125 = .ok (.newarray .int, 2) := by decide +kernel
theorem dX10_init_127 : decode cX10_init 127 = .ok (.putfield 55, 3) := by decide +kernel
theorem dX10_init_130 : decode cX10_init 130 = .ok (.aload_n 0, 1) := by decide +kernel
theorem dX10_init_131 : decode cX10_init 131 = .ok (.bipush 80, 2) := by decide +kernel
theorem dX10_init_133 : decode cX10_init 133 = .ok (.newarray .int, 2) := by decide +kernel
theorem dX10_init_135 : decode cX10_init 135 = .ok (.putfield 58, 3) := by decide +kernel
theorem dX10_init_138 : decode cX10_init 138 = .ok (.aload_n 0, 1) := by decide +kernel
theorem dX10_init_139 : decode cX10_init 139 = .ok (.bipush 10, 2) := by decide +kernel
theorem dX10_init_141 : decode cX10_init 141 = .ok (.newarray .int, 2) := by decide +kernel
theorem dX10_init_143 : decode cX10_init 143 = .ok (.putfield 61, 3) := by decide +kernel
theorem dX10_init_146 : decode cX10_init 146 = .ok (.aload_n 0, 1) := by decide +kernel
theorem dX10_init_147 : decode cX10_init 147 = .ok (.bipush 10, 2) := by decide +kernel
theorem dX10_init_149 : decode cX10_init 149 = .ok (.newarray .int, 2) := by decide +kernel
theorem dX10_init_151 : decode cX10_init 151 = .ok (.putfield 64, 3) := by decide +kernel
theorem dX10_init_154 : decode cX10_init 154 = .ok (.aload_n 0, 1) := by decide +kernel
theorem dX10_init_155 : decode cX10_init 155 = .ok (.bipush 10, 2) := by decide +kernel
theorem dX10_init_157 : decode cX10_init 157 = .ok (.newarray .int, 2) := by decide +kernel
theorem dX10_init_159 : decode cX10_init 159 = .ok (.putfield 67, 3) := by decide +kernel
theorem dX10_init_162 : decode cX10_init 162 = .ok (.aload_n 0, 1) := by decide +kernel
theorem dX10_init_163 : decode cX10_init 163 = .ok (.bipush 10, 2) := by decide +kernel
theorem dX10_init_165 : decode cX10_init 165 = .ok (.newarray .int, 2) := by decide +kernel
theorem dX10_init_167 : decode cX10_init 167 = .ok (.putfield 70, 3) := by decide +kernel
theorem dX10_init_170 : decode cX10_init 170 = .ok (.aload_n 0, 1) := by decide +kernel
theorem dX10_init_171 : decode cX10_init 171 = .ok (.iconst 2, 1) := by decide +kernel
theorem dX10_init_172 : decode cX10_init 172 = .ok (.newarray .int, 2) := by decide +kernel
theorem dX10_init_174 : decode cX10_init 174 = .ok (.putfield 73, 3) := by decide +kernel
theorem dX10_init_177 : decode cX10_init 177 = .ok (.aload_n 0, 1) := by decide +kernel
theorem dX10_init_178 : decode cX10_init 178 = .ok (.bipush 8, 2) := by decide +kernel
theorem dX10_init_180 : decode cX10_init 180 = .ok (.newarray .int, 2) := by decide +kernel
theorem dX10_init_182 : decode cX10_init 182 = .ok (.putfield 76, 3) := by decide +kernel
theorem dX10_init_185 : decode cX10_init 185 = .ok (.aload_n 0, 1) := by decide +kernel
theorem dX10_init_186 : decode cX10_init 186 = .ok (.bipush 8, 2) := by decide +kernel
theorem dX10_init_188 : decode cX10_init 188 = .ok (.newarray .int, 2) := by decide +kernel
theorem dX10_init_190 : decode cX10_init 190 = .ok (.putfield 79, 3) := by decide +kernel
theorem dX10_init_193 : decode cX10_init 193 = .ok (.aload_n 0, 1) := by decide +kernel
theorem dX10_init_194 : decode cX10_init 194 = .ok (.bipush 60, 2) := by decide +kernel
theorem dX10_init_196 : decode cX10_init 196 = .ok (.newarray .int, 2) := by decide +kernel
theorem dX10_init_198 : decode cX10_init 198 = .ok (.putfield 82, 3) := by decide +kernel
theorem dX10_init_201 : decode cX10_init 201 = .ok (.aload_n 0, 1) := by decide +kernel
theorem dX10_init_202 : decode cX10_init 202 = .ok (.bipush 10, 2) := by decide +kernel
theorem dX10_init_204 : decode cX10_init 204 = .ok (.newarray .int, 2) := by decide +kernel
theorem dX10_init_206 : decode cX10_init 206 = .ok (.putfield 85, 3) := by decide +kernel
theorem dX10_init_209 : decode cX10_init 209 = .ok (.aload_n 0, 1) := by decide +kernel
theorem dX10_init_210 : decode cX10_init 210 = .ok (.iconst 4, 1) := by decide +kernel
theorem dX10_init_211 : decode cX10_init 211 = .ok (.newarray .boolean, 2) := by decide +kernel
theorem dX10_init_213 : decode cX10_init 213 = .ok (.putfield 88, 3) := by decide +kernel
theorem dX10_init_216 : decode cX10_init 216 = .ok (.aload_n 0, 1) := by decide +kernel
theorem dX10_init_217 : decode cX10_init 217 = .ok (.iconst 4, 1) := by decide +kernel
theorem dX10_init_218 : decode cX10_init 218 = .ok (.newarray .int, 2) := by decide +kernel
theorem dX10_init_220 : decode cX10_init 220 = .ok (.putfield 92, 3) := by decide +kernel
theorem dX10_init_223 : decode cX10_init 223 = .ok (.aload_n 0, 1) := by decide +kernel
theorem dX10_init_224 : decode cX10_init 224 = .ok (.iconst 4, 1) := by decide +kernel
theorem dX10_init_225 : decode cX10_init 225 = .ok (.newarray .int, 2) := by decide +kernel
theorem dX10_init_227 : decode cX10_init 227 = .ok (.putfield 95, 3) := by decide +kernel
theorem dX10_init_230 : decode cX10_init 230 = .ok (.aload_n 0, 1) := by decide +kernel
theorem dX10_init_231 : decode cX10_init 231 = .ok (.sipush 240, 3) := by decide +kernel
theorem dX10_init_234 : decode cX10_init 234 = .ok (.newarray .int, 2) := by decide +kernel
theorem dX10_init_236 : decode cX10_init 236 = .ok (.putfield 98, 3) := by decide +kernel
theorem dX10_init_239 : decode cX10_init 239 = .ok (.aload_n 0, 1) := by decide +kernel
theorem dX10_init_240 : decode cX10_init 240 = .ok (.bipush 60, 2) := by decide +kernel
theorem dX10_init_242 : decode cX10_init 242 = .ok (.newarray .int, 2) := by decide +kernel
theorem dX10_init_244 : decode cX10_init 244 = .ok (.putfield 101, 3) := by decide +kernel
theorem dX10_init_247 : decode cX10_init 247 = .ok (.aload_n 0, 1) := by decide +kernel
theorem dX10_init_248 : decode cX10_init 248 = .ok (.getfield 34, 3) := by decide +kernel
theorem dX10_init_251 : decode cX10_init 251 = .ok (.iconst 0, 1) := by decide +kernel
theorem dX10_init_252 : decode cX10_init 252 = .ok (.iconst 3, 1) := by decide +kernel
theorem dX10_init_253 : decode cX10_init 253 = .ok (.iastore, 1) := by decide +kernel
theorem dX10_init_254 : decode cX10_init 254 = .ok (.aload_n 0, 1) := by decide +kernel
theorem dX10_init_255 : decode cX10_init 255 = .ok (.getfield 34, 3) := by decide +kernel
theorem dX10_init_258 : decode cX10_init 258 = .ok (.iconst 1, 1) := by decide +kernel
theorem dX10_init_259 : decode cX10_init 259 = .ok (.iconst 2, 1) := by decide +kernel
theorem dX10_init_260 : decode cX10_init 260 = .ok (.iastore, 1) := by decide +kernel
theorem dX10_init_261 : decode cX10_init 261 = .ok (.aload_n 0, 1) := by decide +kernel
theorem dX10_init_262 : decode cX10_init 262 = .ok (.getfield 34, 3) := by decide +kernel
theorem dX10_init_265 : decode cX10_init 265 = .ok (.iconst 2, 1) := by decide +kernel
theorem dX10_init_266 : decode cX10_init 266 = .ok (.iconst 1, 1) := by decide +kernel
theorem dX10_init_267 : decode cX10_init 267 = .ok (.iastore, 1) := by decide +kernel
theorem dX10_init_268 : decode cX10_init 268 = .ok (.return_, 1) := by decide +kernel
theorem dX10_in_0 : decode cX10_in 0 = .ok (.iload_n 0, 1) := by decide +kernel
theorem dX10_in_1 : decode cX10_in 1 = .ok (.iload_n 1, 1) := by decide +kernel
theorem dX10_in_2 : decode cX10_in 2 = .ok (.if_icmp .lt 12, 3) := by decide +kernel
theorem dX10_in_5 : decode cX10_in 5 = .ok (.iload_n 0, 1) := by decide +kernel
theorem dX10_in_6 : decode cX10_in 6 = .ok (.iload_n 2, 1) := by decide +kernel
theorem dX10_in_7 : decode cX10_in 7 = .ok (.if_icmp .gt 7, 3) := by decide +kernel
theorem dX10_in_10 : decode cX10_in 10 = .ok (.iconst 1, 1) := by decide +kernel
theorem dX10_in_11 : decode cX10_in 11 = .ok (.goto 4, 3) := by decide +kernel
theorem dX10_in_14 : decode cX10_in 14 = .ok (.iconst 0, 1) := by decide +kernel
theorem dX10_in_15 : decode cX10_in 15 = .ok (.ireturn, 1) := by decide +kernel
theorem dX10_isIn_0 : decode cX10_isIn 0 = .ok (.iload_n 0, 1) := by decide +kernel
theorem dX10_isIn_1 : decode cX10_isIn 1 = .ok (.iload_n 1, 1) := by decide +kernel
theorem dX10_isIn_2 : decode cX10_isIn 2 = .ok (.ishr, 1) := by decide +kernel
theorem dX10_isIn_3 : decode cX10_isIn 3 = .ok (.iconst 1, 1) := by decide +kernel
theorem dX10_isIn_4 : decode cX10_isIn 4 = .ok (.iand, 1) := by decide +kernel
theorem dX10_isIn_5 : decode cX10_isIn 5 = .ok (.iconst 1, 1) := by decide +kernel
theorem dX10_isIn_6 : decode cX10_isIn 6 = .ok (.if_icmp .ne 7, 3) := by decide +kernel
theorem dX10_isIn_9 : decode cX10_isIn 9 = .ok (.iconst 1, 1) := by decide +kernel
theorem dX10_isIn_10 : decode cX10_isIn 10 = .ok (.goto 4, 3) := by decide +kernel
theorem dX10_isIn_13 : decode cX10_isIn 13 = .ok (.iconst 0, 1) := by decide +kernel
theorem dX10_isIn_14 : decode cX10_isIn 14 = .ok (.ireturn, 1) := by decide +kernel
theorem dX10_no_0 : decode cX10_no 0 = .ok (.ldc2_w 104, 3) := by decide +kernel
theorem dX10_no_3 : decode cX10_no 3 = .ok (.iload_n 0, 1) := by decide +kernel
theorem dX10_no_4 : decode cX10_no 4 = .ok (.i2l, 1) := by decide +kernel
theorem dX10_no_5 : decode cX10_no 5 = .ok (.lsub, 1) := by decide +kernel
theorem dX10_no_6 : decode cX10_no 6 = .ok (.lreturn, 1) := by decide +kernel
theorem dX10_lowest_0 : decode cX10_lowest 0 = .ok (.lload_n 0, 1) := by decide +kernel
theorem dX10_lowest_1 : decode cX10_lowest 1 = .ok (.lstore 5, 2) := by decide +kernel
theorem dX10_lowest_3 : decode cX10_lowest 3 = .ok (.lload_n 2, 1) := by decide +kernel
theorem dX10_lowest_4 : decode cX10_lowest 4 = .ok (.lstore 7, 2) := by decide +kernel
theorem dX10_lowest_6 : decode cX10_lowest 6 = .ok (.lload 7, 2) := by decide +kernel
theorem dX10_lowest_8 : decode cX10_lowest 8 = .ok (.lconst 0, 1) := by decide +kernel
theorem dX10_lowest_9 : decode cX10_lowest 9 = .ok (.lcmp, 1) := by decide +kernel
theorem dX10_lowest_10 : decode cX10_lowest 10 = .ok (.ifCond .eq 21, 3) := by decide +kernel
theorem dX10_lowest_13 : decode cX10_lowest 13 = .ok (.lload 5, 2) := by decide +kernel
theorem dX10_lowest_15 : decode cX10_lowest 15 = .ok (.lload 7, 2) := by decide +kernel
theorem dX10_lowest_17 : decode cX10_lowest 17 = .ok (.lrem, 1) := by decide +kernel
theorem dX10_lowest_18 : decode cX10_lowest 18 = .ok (.lstore 9, 2) := by decide +kernel
theorem dX10_lowest_20 : decode cX10_lowest 20 = .ok (.lload 7, 2) := by decide +kernel
theorem dX10_lowest_22 : decode cX10_lowest 22 = .ok (.lstore 5, 2) := by decide +kernel
theorem dX10_lowest_24 : decode cX10_lowest 24 = .ok (.lload 9, 2) := by decide +kernel
theorem dX10_lowest_26 : decode cX10_lowest 26 = .ok (.lstore 7, 2) := by decide +kernel
theorem dX10_lowest_28 : decode cX10_lowest 28 = .ok (.goto (-22), 3) := by decide +kernel
theorem dX10_lowest_31 : decode cX10_lowest 31 = .ok (.iload 4, 2) := by decide +kernel
theorem dX10_lowest_33 : decode cX10_lowest 33 = .ok (.ifCond .ne 10, 3) := by decide +kernel
theorem dX10_lowest_36 : decode cX10_lowest 36 = .ok (.lload_n 0, 1) := by decide +kernel
theorem dX10_lowest_37 : decode cX10_lowest 37 = .ok (.lload 5, 2) := by decide +kernel
theorem dX10_lowest_39 : decode cX10_lowest 39 = .ok (.ldiv, 1) := by decide +kernel
theorem dX10_lowest_40 : decode cX10_lowest 40 = .ok (.goto 7, 3) := by decide +kernel
theorem dX10_lowest_43 : decode cX10_lowest 43 = .ok (.lload_n 2, 1) := by decide +kernel
theorem dX10_lowest_44 : decode cX10_lowest 44 = .ok (.lload 5, 2) := by decide +kernel
theorem dX10_lowest_46 : decode cX10_lowest 46 = .ok (.ldiv, 1) := by decide +kernel
theorem dX10_lowest_47 : decode cX10_lowest 47 = .ok (.lreturn, 1) := by decide +kernel
theorem dX10_isText_0 : decode cX10_isText 0 = .ok (.iload_n 0, 1) := by decide +kernel
theorem dX10_isText_1 : decode cX10_isText 1 = .ok (.iconst 0, 1) := by decide +kernel
theorem dX10_isText_2 : decode cX10_isText 2 = .ok (.iconst 1, 1) := by decide +kernel
theorem dX10_isText_3 : decode cX10_isText 3 = .ok (.invokestatic 106, 3) := by decide +kernel
theorem dX10_isText_6 : decode cX10_isText 6 = .ok (.ireturn, 1) := by decide +kernel
theorem dX10_isNight_0 : decode cX10_isNight 0 = .ok (.iload_n 0, 1) := by decide +kernel
theorem dX10_isNight_1 : decode cX10_isNight 1 = .ok (.iconst 0, 1) := by decide +kernel
theorem dX10_isNight_2 : decode cX10_isNight 2 = .ok (.bipush 9, 2) := by decide +kernel
theorem dX10_isNight_4 : decode cX10_isNight 4 = .ok (.invokestatic 106, 3) := by decide +kernel
theorem dX10_isNight_7 : decode cX10_isNight 7 = .ok (.ireturn, 1) := by decide +kernel
theorem dX10_type_0 : decode cX10_type 0 = .ok (.iload_n 1, 1) := by decide +kernel
theorem dX10_type_1 : decode cX10_type 1 = .ok (.invokestatic 110, 3) := by decide +kernel
theorem dX10_type_4 : decode cX10_type 4 = .ok (.ifCond .eq 14, 3) := by decide +kernel
theorem dX10_type_7 : decode cX10_type 7 = .ok (.iload_n 2, 1) := by decide +kernel
theorem dX10_type_8 : decode cX10_type 8 = .ok (.iconst 0, 1) := by decide +kernel
theorem dX10_type_9 : decode cX10_type 9 = .ok (.sipush 255, 3) := by decide +kernel
theorem dX10_type_12 : decode cX10_type 12 = .ok (.invokestatic 106, 3) := by decide +kernel
theorem dX10_type_15 : decode cX10_type 15 = .ok (.ifCond .ne 6, 3) := by decide +kernel
theorem dX10_type_18 : decode cX10_type 18 = .ok (.bipush (-2), 2) := by decide +kernel
theorem dX10_type_20 : decode cX10_type 20 = .ok (.ireturn, 1) := by decide +kernel
theorem dX10_type_21 : decode cX10_type 21 = .ok (.aload_n 0, 1) := by decide +kernel
theorem dX10_type_22 : decode cX10_type 22 = .ok (.getfield 7, 3) := by decide +kernel
theorem dX10_type_25 : decode cX10_type 25 = .ok (.iload_n 1, 1) := by decide +kernel
theorem dX10_type_26 : decode cX10_type 26 = .ok (.iaload, 1) := by decide +kernel
theorem dX10_type_27 : decode cX10_type 27 = .ok (.iload_n 1, 1) := by decide +kernel
theorem dX10_type_28 : decode cX10_type 28 = .ok (.ifCond .ne 8, 3) := by decide +kernel
theorem dX10_type_31 : decode cX10_type 31 = .ok (.bipush 47, 2) := by decide +kernel
theorem dX10_type_33 : decode cX10_type 33 = .ok (.goto 5, 3) := by decide +kernel
theorem dX10_type_36 : decode cX10_type 36 = .ok (.bipush 30, 2) := by decide +kernel
theorem dX10_type_38 : decode cX10_type 38 = .ok (.if_icmp .ne 6, 3) := by decide +kernel
theorem dX10_type_41 : decode cX10_type 41 = .ok (.bipush (-4), 2) := by decide +kernel
theorem dX10_type_43 : decode cX10_type 43 = .ok (.ireturn, 1) := by decide +kernel
theorem dX10_type_44 : decode cX10_type 44 = .ok (.aload_n 0, 1) := by decide +kernel
theorem dX10_type_45 : decode cX10_type 45 = .ok (.getfield 13, 3) := by decide +kernel
theorem dX10_type_48 : decode cX10_type 48 = .ok (.bipush 47, 2) := by decide +kernel
theorem dX10_type_50 : decode cX10_type 50 = .ok (.iload_n 1, 1) := by decide +kernel
theorem dX10_type_51 : decode cX10_type 51 = .ok (.imul, 1) := by decide +kernel
theorem dX10_type_52 : decode cX10_type 52 = .ok (.aload_n 0, 1) := by decide +kernel
theorem dX10_type_53 : decode cX10_type 53 = .ok (.getfield 7, 3) := by decide +kernel
theorem dX10_type_56 : decode cX10_type 56 = .ok (.iload_n 1, 1) := by decide +kernel
theorem dX10_type_57 : decode cX10_type 57 = .ok (.iaload, 1) := by decide +kernel
theorem dX10_type_58 : decode cX10_type 58 = .ok (.iadd, 1) := by decide +kernel
theorem dX10_type_59 : decode cX10_type 59 = .ok (.iload_n 2, 1) := by decide +kernel
theorem dX10_type_60 : decode cX10_type 60 = .ok (.iastore, 1) := by decide +kernel
theorem dX10_type_61 : decode cX10_type 61 = .ok (.aload_n 0, 1) := by decide +kernel
theorem dX10_type_62 : decode cX10_type 62 = .ok (.getfield 7, 3) := by decide +kernel
theorem dX10_type_65 : decode cX10_type 65 = .ok (.iload_n 1, 1) := by decide +kernel
theorem dX10_type_66 : decode cX10_type 66 = .ok (.dup2, 1) := by decide +kernel
theorem dX10_type_67 : decode cX10_type 67 = .ok (.iaload, 1) := by decide +kernel
theorem dX10_type_68 : decode cX10_type 68 = .ok (.iconst 1, 1) := by decide +kernel
theorem dX10_type_69 : decode cX10_type 69 = .ok (.iadd, 1) := by decide +kernel
theorem dX10_type_70 : decode cX10_type 70 = .ok (.iastore, 1) := by decide +kernel
theorem dX10_type_71 : decode cX10_type 71 = .ok (.aload_n 0, 1) := by decide +kernel
theorem dX10_type_72 : decode cX10_type 72 = .ok (.getfield 7, 3) := by decide +kernel
theorem dX10_type_75 : decode cX10_type 75 = .ok (.iload_n 1, 1) := by decide +kernel
theorem dX10_type_76 : decode cX10_type 76 = .ok (.iaload, 1) := by decide +kernel
theorem dX10_type_77 : decode cX10_type 77 = .ok (.ireturn, 1) := by decide +kernel
theorem dX10_wipe_0 : decode cX10_wipe 0 = .ok (.iload_n 1, 1) := by decide +kernel
theorem dX10_wipe_1 : decode cX10_wipe 1 = .ok (.invokestatic 110, 3) := by decide +kernel
theorem dX10_wipe_4 : decode cX10_wipe 4 = .ok (.ifCond .ne 6, 3) := by decide +kernel
theorem dX10_wipe_7 : decode cX10_wipe 7 = .ok (.bipush (-2), 2) := by decide +kernel
theorem dX10_wipe_9 : decode cX10_wipe 9 = .ok (.ireturn, 1) := by decide +kernel
theorem dX10_wipe_10 : decode cX10_wipe 10 = .ok (.aload_n 0, 1) := by decide +kernel
theorem dX10_wipe_11 : decode cX10_wipe 11 = .ok (.getfield 7, 3) := by decide +kernel
theorem dX10_wipe_14 : decode cX10_wipe 14 = .ok (.iload_n 1, 1) := by decide +kernel
theorem dX10_wipe_15 : decode cX10_wipe 15 = .ok (.iaload, 1) := by decide +kernel
theorem dX10_wipe_16 : decode cX10_wipe 16 = .ok (.istore_n 2, 1) := by decide +kernel
theorem dX10_wipe_17 : decode cX10_wipe 17 = .ok (.aload_n 0, 1) := by decide +kernel
theorem dX10_wipe_18 : decode cX10_wipe 18 = .ok (.getfield 7, 3) := by decide +kernel
theorem dX10_wipe_21 : decode cX10_wipe 21 = .ok (.iload_n 1, 1) := by decide +kernel
theorem dX10_wipe_22 : decode cX10_wipe 22 = .ok (.iconst 0, 1) := by decide +kernel
theorem dX10_wipe_23 : decode cX10_wipe 23 = .ok (.iastore, 1) := by decide +kernel
theorem dX10_wipe_24 : decode cX10_wipe 24 = .ok (.iload_n 2, 1) := by decide +kernel
theorem dX10_wipe_25 : decode cX10_wipe 25 = .ok (.ireturn, 1) := by decide +kernel
theorem dX10_undo_0 : decode cX10_undo 0 = .ok (.iload_n 1, 1) := by decide +kernel
theorem dX10_undo_1 : decode cX10_undo 1 = .ok (.invokestatic 110, 3) := by decide +kernel
theorem dX10_undo_4 : decode cX10_undo 4 = .ok (.ifCond .ne 6, 3) := by decide +kernel
theorem dX10_undo_7 : decode cX10_undo 7 = .ok (.bipush (-2), 2) := by decide +kernel
theorem dX10_undo_9 : decode cX10_undo 9 = .ok (.ireturn, 1) := by decide +kernel
theorem dX10_undo_10 : decode cX10_undo 10 = .ok (.aload_n 0, 1) := by decide +kernel
theorem dX10_undo_11 : decode cX10_undo 11 = .ok (.getfield 7, 3) := by decide +kernel
theorem dX10_undo_14 : decode cX10_undo 14 = .ok (.iload_n 1, 1) := by decide +kernel
theorem dX10_undo_15 : decode cX10_undo 15 = .ok (.iaload, 1) := by decide +kernel
theorem dX10_undo_16 : decode cX10_undo 16 = .ok (.ifCond .ne 6, 3) := by decide +kernel
theorem dX10_undo_19 : decode cX10_undo 19 = .ok (.bipush (-3), 2) := by decide +kernel
theorem dX10_undo_21 : decode cX10_undo 21 = .ok (.ireturn, 1) := by decide +kernel
theorem dX10_undo_22 : decode cX10_undo 22 = .ok (.aload_n 0, 1) := by decide +kernel
theorem dX10_undo_23 : decode cX10_undo 23 = .ok (.getfield 7, 3) := by decide +kernel
theorem dX10_undo_26 : decode cX10_undo 26 = .ok (.iload_n 1, 1) := by decide +kernel
theorem dX10_undo_27 : decode cX10_undo 27 = .ok (.dup2, 1) := by decide +kernel
theorem dX10_undo_28 : decode cX10_undo 28 = .ok (.iaload, 1) := by decide +kernel
theorem dX10_undo_29 : decode cX10_undo 29 = .ok (.iconst 1, 1) := by decide +kernel
theorem dX10_undo_30 : decode cX10_undo 30 = .ok (.isub, 1) := by decide +kernel
theorem dX10_undo_31 : decode cX10_undo 31 = .ok (.iastore, 1) := by decide +kernel
theorem dX10_undo_32 : decode cX10_undo 32 = .ok (.aload_n 0, 1) := by decide +kernel
theorem dX10_undo_33 : decode cX10_undo 33 = .ok (.getfield 7, 3) := by decide +kernel
theorem dX10_undo_36 : decode cX10_undo 36 = .ok (.iload_n 1, 1) := by decide +kernel
theorem dX10_undo_37 : decode cX10_undo 37 = .ok (.iaload, 1) := by decide +kernel
theorem dX10_undo_38 : decode cX10_undo 38 = .ok (.ireturn, 1) := by decide +kernel
theorem dX10_byteAt_0 : decode cX10_byteAt 0 = .ok (.iload_n 2, 1) := by decide +kernel
theorem dX10_byteAt_1 : decode cX10_byteAt 1 = .ok (.aload_n 0, 1) := by decide +kernel
theorem dX10_byteAt_2 : decode cX10_byteAt 2 = .ok (.getfield 7, 3) := by decide +kernel
theorem dX10_byteAt_5 : decode cX10_byteAt 5 = .ok (.iload_n 1, 1) := by decide +kernel
theorem dX10_byteAt_6 : decode cX10_byteAt 6 = .ok (.iaload, 1) := by decide +kernel
theorem dX10_byteAt_7 : decode cX10_byteAt 7 = .ok (.if_icmp .ge 17, 3) := by decide +kernel
theorem dX10_byteAt_10 : decode cX10_byteAt 10 = .ok (.aload_n 0, 1) := by decide +kernel
theorem dX10_byteAt_11 : decode cX10_byteAt 11 = .ok (.getfield 13, 3) := by decide +kernel
theorem dX10_byteAt_14 : decode cX10_byteAt 14 = .ok (.bipush 47, 2) := by decide +kernel
theorem dX10_byteAt_16 : decode cX10_byteAt 16 = .ok (.iload_n 1, 1) := by decide +kernel
theorem dX10_byteAt_17 : decode cX10_byteAt 17 = .ok (.imul, 1) := by decide +kernel
theorem dX10_byteAt_18 : decode cX10_byteAt 18 = .ok (.iload_n 2, 1) := by decide +kernel
theorem dX10_byteAt_19 : decode cX10_byteAt 19 = .ok (.iadd, 1) := by decide +kernel
theorem dX10_byteAt_20 : decode cX10_byteAt 20 = .ok (.iaload, 1) := by decide +kernel
theorem dX10_byteAt_21 : decode cX10_byteAt 21 = .ok (.goto 4, 3) := by decide +kernel
theorem dX10_byteAt_24 : decode cX10_byteAt 24 = .ok (.iconst (-1), 1) := by decide +kernel
theorem dX10_byteAt_25 : decode cX10_byteAt 25 = .ok (.ireturn, 1) := by decide +kernel
theorem dX10_letterAt_0 : decode cX10_letterAt 0 = .ok (.aload_n 0, 1) := by decide +kernel
theorem dX10_letterAt_1 : decode cX10_letterAt 1 = .ok (.iload_n 1, 1) := by decide +kernel
theorem dX10_letterAt_2 : decode cX10_letterAt 2 = .ok (.iload_n 2, 1) := by decide +kernel
theorem dX10_letterAt_3 : decode cX10_letterAt 3 = .ok (.invokevirtual 114, 3) := by decide +kernel
theorem dX10_letterAt_6 : decode cX10_letterAt 6 = .ok (.bipush 97, 2) := by decide +kernel
theorem dX10_letterAt_8 : decode cX10_letterAt 8 = .ok (.isub, 1) := by decide +kernel
theorem dX10_letterAt_9 : decode cX10_letterAt 9 = .ok (.istore_n 3, 1) := by decide +kernel
theorem dX10_letterAt_10 : decode cX10_letterAt 10 = .ok (.iload_n 3, 1) := by decide +kernel
theorem dX10_letterAt_11 : decode cX10_letterAt 11 = .ok (.iconst 0, 1) := by decide +kernel
theorem dX10_letterAt_12 : decode cX10_letterAt 12 = .ok (.iconst 2, 1) := by decide +kernel
theorem dX10_letterAt_13 : decode cX10_letterAt 13 = .ok (.invokestatic 106, 3) := by decide +kernel
theorem dX10_letterAt_16 : decode cX10_letterAt 16 = .ok (.ifCond .eq 7, 3) := by decide +kernel
theorem dX10_letterAt_19 : decode cX10_letterAt 19 = .ok (.iload_n 3, 1) := by decide +kernel
theorem dX10_letterAt_20 : decode cX10_letterAt 20 = .ok (.goto 4, 3) := by decide +kernel
theorem dX10_letterAt_23 : decode cX10_letterAt 23 = .ok (.iconst (-1), 1) := by decide +kernel
theorem dX10_letterAt_24 : decode cX10_letterAt 24 = .ok (.ireturn, 1) := by decide +kernel
theorem dX10_readsMember_0 : decode cX10_readsMember 0 = .ok (.aload_n 0, 1) := by decide +kernel
theorem dX10_readsMember_1 : decode cX10_readsMember 1 = .ok (.iconst 0, 1) := by decide +kernel
theorem dX10_readsMember_2 : decode cX10_readsMember 2 = .ok (.iload_n 2, 1) := by decide +kernel
theorem dX10_readsMember_3 : decode cX10_readsMember 3 = .ok (.invokevirtual 114, 3) := by decide +kernel
theorem dX10_readsMember_6 : decode cX10_readsMember 6 = .ok (.istore_n 3, 1) := by decide +kernel
theorem dX10_readsMember_7 : decode cX10_readsMember 7 = .ok (.iload_n 3, 1) := by decide +kernel
theorem dX10_readsMember_8 : decode cX10_readsMember 8 = .ok (.bipush 115, 2) := by decide +kernel
theorem dX10_readsMember_10 : decode cX10_readsMember 10 = .ok (.if_icmp .ne 7, 3) := by decide +kernel
theorem dX10_readsMember_13 : decode cX10_readsMember 13 = .ok (.iconst 0, 1) := by decide +kernel
theorem dX10_readsMember_14 : decode cX10_readsMember 14 = .ok (.goto 24, 3) := by decide +kernel
theorem dX10_readsMember_17 : decode cX10_readsMember 17 = .ok (.iload_n 3, 1) := by decide +kernel
theorem dX10_readsMember_18 : decode cX10_readsMember 18 = .ok (.bipush 98, 2) := by decide +kernel
theorem dX10_readsMember_20 : decode cX10_readsMember 20 = .ok (.if_icmp .ne 7, 3) := by decide +kernel
theorem dX10_readsMember_23 : decode cX10_readsMember 23 = .ok (.iconst 1, 1) := by decide +kernel
theorem dX10_readsMember_24 : decode cX10_readsMember 24 = .ok (.goto 14, 3) := by decide +kernel
theorem dX10_readsMember_27 : decode cX10_readsMember 27 = .ok (.iload_n 3, 1) := by decide +kernel
theorem dX10_readsMember_28 : decode cX10_readsMember 28 = .ok (.bipush 100, 2) := by decide +kernel
theorem dX10_readsMember_30 : decode cX10_readsMember 30 = .ok (.if_icmp .ne 7, 3) := by decide +kernel
theorem dX10_readsMember_33 : decode cX10_readsMember 33 = .ok (.iconst 2, 1) := by decide +kernel
theorem dX10_readsMember_34 : decode cX10_readsMember 34 = .ok (.goto 4, 3) := by decide +kernel
theorem dX10_readsMember_37 : decode cX10_readsMember 37 = .ok (.iconst (-1), 1) := by decide +kernel
theorem dX10_readsMember_38 : decode cX10_readsMember 38 = .ok (.istore 4, 2) := by decide +kernel
theorem dX10_readsMember_40 : decode cX10_readsMember 40 = .ok (.aload_n 0, 1) := by decide +kernel
theorem dX10_readsMember_41 : decode cX10_readsMember 41 = .ok (.iconst 0, 1) := by decide +kernel
theorem dX10_readsMember_42 : decode cX10_readsMember 42 = .ok (.iload_n 2, 1) := by decide +kernel
theorem dX10_readsMember_43 : decode cX10_readsMember 43 = .ok (.iconst 1, 1) := by decide +kernel
theorem dX10_readsMember_44 : decode cX10_readsMember 44 = .ok (.iadd, 1) := by decide +kernel
theorem dX10_readsMember_45 : decode cX10_readsMember 45 = .ok (.invokevirtual 114, 3) := by decide +kernel
theorem dX10_readsMember_48 : decode cX10_readsMember 48 = .ok (.bipush 48, 2) := by decide +kernel
theorem dX10_readsMember_50 : decode cX10_readsMember 50 = .ok (.isub, 1) := by decide +kernel
theorem dX10_readsMember_51 : decode cX10_readsMember 51 = .ok (.istore 5, 2) := by decide +kernel
theorem dX10_readsMember_53 : decode cX10_readsMember 53 = .ok (.iload 4, 2) := by decide +kernel
theorem dX10_readsMember_55 : decode cX10_readsMember 55 = .ok (.iconst (-1), 1) := by decide +kernel
theorem dX10_readsMember_56 : decode cX10_readsMember 56 = .ok (.if_icmp .ne 5, 3) := by decide +kernel
theorem dX10_readsMember_59 : decode cX10_readsMember 59 = .ok (.iconst 0, 1) := by decide +kernel
theorem dX10_readsMember_60 : decode cX10_readsMember 60 = .ok (.ireturn, 1) := by decide +kernel
theorem dX10_readsMember_61 : decode cX10_readsMember 61 = .ok (.iload 5, 2) := by decide +kernel
theorem dX10_readsMember_63 : decode cX10_readsMember 63 = .ok (.iconst 0, 1) := by decide +kernel
theorem dX10_readsMember_64 : decode cX10_readsMember 64 = .ok (.iconst 5, 1) := by decide +kernel
theorem dX10_readsMember_65 : decode cX10_readsMember 65 = .ok (.invokestatic 106, 3) := by decide +kernel
theorem dX10_readsMember_68 : decode cX10_readsMember 68 = .ok (.ifCond .ne 5, 3) := by decide +kernel
theorem dX10_readsMember_71 : decode cX10_readsMember 71 = .ok (.iconst 1, 1) := by decide +kernel
theorem dX10_readsMember_72 : decode cX10_readsMember 72 = .ok (.ireturn, 1) := by decide +kernel
theorem dX10_readsMember_73 : decode cX10_readsMember 73 = .ok (.iconst 0, 1) := by decide +kernel
theorem dX10_readsMember_74 : decode cX10_readsMember 74 = .ok (.istore 6, 2) := by decide +kernel
theorem dX10_readsMember_76 : decode cX10_readsMember 76 = .ok (.iconst 0, 1) := by decide +kernel
theorem dX10_readsMember_77 : decode cX10_readsMember 77 = .ok (.istore 7, 2) := by decide +kernel
theorem dX10_readsMember_79 : decode cX10_readsMember 79 = .ok (.iload 7, 2) := by decide +kernel
theorem dX10_readsMember_81 : decode cX10_readsMember 81 = .ok (.iconst 3, 1) := by decide +kernel
theorem dX10_readsMember_82 : decode cX10_readsMember 82 = .ok (.if_icmp .ge 65, 3) := by decide +kernel
theorem dX10_readsMember_85 : decode cX10_readsMember 85 = .ok (.aload_n 0, 1) := by decide +kernel
theorem dX10_readsMember_86 : decode cX10_readsMember 86 = .ok (.iconst 0, 1) := by decide +kernel
theorem dX10_readsMember_87 : decode cX10_readsMember 87 = .ok (.iload_n 2, 1) := by decide +kernel
theorem dX10_readsMember_88 : decode cX10_readsMember 88 = .ok (.iconst 2, 1) := by decide +kernel
theorem dX10_readsMember_89 : decode cX10_readsMember 89 = .ok (.iadd, 1) := by decide +kernel
theorem dX10_readsMember_90 : decode cX10_readsMember 90 = .ok (.iload 7, 2) := by decide +kernel
theorem dX10_readsMember_92 : decode cX10_readsMember 92 = .ok (.iadd, 1) := by decide +kernel
theorem dX10_readsMember_93 : decode cX10_readsMember 93 = .ok (.invokevirtual 118, 3) := by decide +kernel
theorem dX10_readsMember_96 : decode cX10_readsMember 96 = .ok (.istore 8, 2) := by decide +kernel
theorem dX10_readsMember_98 : decode cX10_readsMember 98 = .ok (.iload 8, 2) := by decide +kernel
theorem dX10_readsMember_100 : decode cX10_readsMember 100 = .ok (.iconst (-1), 1) := by decide +kernel
theorem dX10_readsMember_101 : decode cX10_readsMember 101 = .ok (.if_icmp .eq 13, 3) := by decide +kernel
theorem dX10_readsMember_104 : decode cX10_readsMember 104 = .ok (.iload 6, 2) := by decide +kernel
theorem dX10_readsMember_106 : decode cX10_readsMember 106 = .ok (.iload 8, 2) := by decide +kernel
theorem dX10_readsMember_108 : decode cX10_readsMember 108 = .ok (.invokestatic 121, 3) := by decide +kernel
theorem dX10_readsMember_111 : decode cX10_readsMember 111 = .ok (.ifCond .eq 8, 3) := by decide +kernel
theorem dX10_readsMember_114 : decode cX10_readsMember 114 = .ok (.iconst 2, 1) := by decide +kernel
theorem dX10_readsMember_115 : decode cX10_readsMember 115 = .ok (.iload 7, 2) := by decide +kernel
theorem dX10_readsMember_117 : decode cX10_readsMember 117 = .ok (.iadd, 1) := by decide +kernel
theorem dX10_readsMember_118 : decode cX10_readsMember 118 = .ok (.ireturn, 1) := by decide +kernel
theorem dX10_readsMember_119 : decode cX10_readsMember 119 = .ok (.iload 6, 2) := by decide +kernel
theorem dX10_readsMember_121 : decode cX10_readsMember 121 = .ok (.iconst 1, 1) := by decide +kernel
theorem dX10_readsMember_122 : decode cX10_readsMember 122 = .ok (.iload 8, 2) := by decide +kernel
theorem dX10_readsMember_124 : decode cX10_readsMember 124 = .ok (.ishl, 1) := by decide +kernel
theorem dX10_readsMember_125 : decode cX10_readsMember 125 = .ok (.ior, 1) := by decide +kernel
theorem dX10_readsMember_126 : decode cX10_readsMember 126 = .ok (.istore 6, 2) := by decide +kernel
theorem dX10_readsMember_128 : decode cX10_readsMember 128 = .ok (.aload_n 0, 1) := by decide +kernel
theorem dX10_readsMember_129 : decode cX10_readsMember 129 = .ok (.getfield 22, 3) := by decide +kernel
theorem dX10_readsMember_132 : decode cX10_readsMember 132 = .ok (.iconst 3, 1) := by decide +kernel
theorem dX10_readsMember_133 : decode cX10_readsMember 133 = .ok (.iload_n 1, 1) := by decide +kernel
theorem dX10_readsMember_134 : decode cX10_readsMember 134 = .ok (.imul, 1) := by decide +kernel
theorem dX10_readsMember_135 : decode cX10_readsMember 135 = .ok (.iload 7, 2) := by decide +kernel
theorem dX10_readsMember_137 : decode cX10_readsMember 137 = .ok (.iadd, 1) := by decide +kernel
theorem dX10_readsMember_138 : decode cX10_readsMember 138 = .ok (.iload 8, 2) := by decide +kernel
theorem dX10_readsMember_140 : decode cX10_readsMember 140 = .ok (.iastore, 1) := by decide +kernel
theorem dX10_readsMember_141 : decode cX10_readsMember 141 = .ok (.iinc 7 1, 3) := by decide +kernel
theorem dX10_readsMember_144 : decode cX10_readsMember 144 = .ok (.goto (-65), 3) := by decide +kernel
theorem dX10_readsMember_147 : decode cX10_readsMember 147 = .ok (.aload_n 0, 1) := by decide +kernel
theorem dX10_readsMember_148 : decode cX10_readsMember 148 = .ok (.getfield 16, 3) := by decide +kernel
theorem dX10_readsMember_151 : decode cX10_readsMember 151 = .ok (.iload_n 1, 1) := by decide +kernel
theorem dX10_readsMember_152 : decode cX10_readsMember 152 = .ok (.iload 4, 2) := by decide +kernel
theorem dX10_readsMember_154 : decode cX10_readsMember 154 = .ok (.iastore, 1) := by decide +kernel
theorem dX10_readsMember_155 : decode cX10_readsMember 155 = .ok (.aload_n 0, 1) := by decide +kernel
theorem dX10_readsMember_156 : decode cX10_readsMember 156 = .ok (.getfield 19, 3) := by decide +kernel
theorem dX10_readsMember_159 : decode cX10_readsMember 159 = .ok (.iload_n 1, 1) := by decide +kernel
theorem dX10_readsMember_160 : decode cX10_readsMember 160 = .ok (.iload 5, 2) := by decide +kernel
theorem dX10_readsMember_162 : decode cX10_readsMember 162 = .ok (.iastore, 1) := by decide +kernel
theorem dX10_readsMember_163 : decode cX10_readsMember 163 = .ok (.iconst 5, 1) := by decide +kernel
theorem dX10_readsMember_164 : decode cX10_readsMember 164 = .ok (.ireturn, 1) := by decide +kernel
theorem dX10_readsMembers_0 : decode cX10_readsMembers 0 = .ok (.iconst 0, 1) := by decide +kernel
theorem dX10_readsMembers_1 : decode cX10_readsMembers 1 = .ok (.istore_n 1, 1) := by decide +kernel
theorem dX10_readsMembers_2 : decode cX10_readsMembers 2 = .ok (.iconst 0, 1) := by decide +kernel
theorem dX10_readsMembers_3 : decode cX10_readsMembers 3 = .ok (.istore_n 2, 1) := by decide +kernel
theorem dX10_readsMembers_4 : decode cX10_readsMembers 4 = .ok (.aload_n 0, 1) := by decide +kernel
theorem dX10_readsMembers_5 : decode cX10_readsMembers 5 = .ok (.iconst 0, 1) := by decide +kernel
theorem dX10_readsMembers_6 : decode cX10_readsMembers 6 = .ok (.putfield 125, 3) := by decide +kernel
theorem dX10_readsMembers_9 : decode cX10_readsMembers 9 = .ok (.iload_n 2, 1) := by decide +kernel
theorem dX10_readsMembers_10 : decode cX10_readsMembers 10 = .ok (.aload_n 0, 1) := by decide +kernel
theorem dX10_readsMembers_11 : decode cX10_readsMembers 11 = .ok (.getfield 7, 3) := by decide +kernel
theorem dX10_readsMembers_14 : decode cX10_readsMembers 14 = .ok (.iconst 0, 1) := by decide +kernel
theorem dX10_readsMembers_15 : decode cX10_readsMembers 15 = .ok (.iaload, 1) := by decide +kernel
theorem dX10_readsMembers_16 : decode cX10_readsMembers 16 = .ok (.if_icmp .lt 7, 3) := by decide +kernel
theorem dX10_readsMembers_19 : decode cX10_readsMembers 19 = .ok (.iload_n 2, 1) := by decide +kernel
theorem dX10_readsMembers_20 : decode cX10_readsMembers 20 = .ok (.ifCond .le 71, 3) := by decide +kernel
theorem dX10_readsMembers_23 : decode cX10_readsMembers 23 = .ok (.iload_n 1, 1) := by decide +kernel
theorem dX10_readsMembers_24 : decode cX10_readsMembers 24 = .ok (.bipush 8, 2) := by decide +kernel
theorem dX10_readsMembers_26 : decode cX10_readsMembers 26 = .ok (.if_icmp .ne 7, 3) := by decide +kernel
theorem dX10_readsMembers_29 : decode cX10_readsMembers 29 = .ok (.iconst 0, 1) := by decide +kernel
theorem dX10_readsMembers_30 : decode cX10_readsMembers 30 = .ok (.goto 9, 3) := by decide +kernel
theorem dX10_readsMembers_33 : decode cX10_readsMembers 33 = .ok (.aload_n 0, 1) := by decide +kernel
theorem dX10_readsMembers_34 : decode cX10_readsMembers 34 = .ok (.iload_n 1, 1) := by decide +kernel
theorem dX10_readsMembers_35 : decode cX10_readsMembers 35 = .ok (.iload_n 2, 1) := by decide +kernel
theorem dX10_readsMembers_36 : decode cX10_readsMembers 36 = .ok (.invokevirtual 129, 3) := by decide +kernel
theorem dX10_readsMembers_39 : decode cX10_readsMembers 39 = .ok (.istore_n 3, 1) := by decide +kernel
theorem dX10_readsMembers_40 : decode cX10_readsMembers 40 = .ok (.iload_n 3, 1) := by decide +kernel
theorem dX10_readsMembers_41 : decode cX10_readsMembers 41 = .ok (.iconst 5, 1) := by decide +kernel
theorem dX10_readsMembers_42 : decode cX10_readsMembers 42 = .ok (.if_icmp .ge 7, 3) := by decide +kernel
theorem dX10_readsMembers_45 : decode cX10_readsMembers 45 = .ok (.iload_n 2, 1) := by decide +kernel
theorem dX10_readsMembers_46 : decode cX10_readsMembers 46 = .ok (.iload_n 3, 1) := by decide +kernel
theorem dX10_readsMembers_47 : decode cX10_readsMembers 47 = .ok (.iadd, 1) := by decide +kernel
theorem dX10_readsMembers_48 : decode cX10_readsMembers 48 = .ok (.ireturn, 1) := by decide +kernel
theorem dX10_readsMembers_49 : decode cX10_readsMembers 49 = .ok (.iinc 1 1, 3) := by decide +kernel
theorem dX10_readsMembers_52 : decode cX10_readsMembers 52 = .ok (.iinc 2 5, 3) := by decide +kernel
theorem dX10_readsMembers_55 : decode cX10_readsMembers 55 = .ok (.iload_n 2, 1) := by decide +kernel
theorem dX10_readsMembers_56 : decode cX10_readsMembers 56 = .ok (.aload_n 0, 1) := by decide +kernel
theorem dX10_readsMembers_57 : decode cX10_readsMembers 57 = .ok (.getfield 7, 3) := by decide +kernel
theorem dX10_readsMembers_60 : decode cX10_readsMembers 60 = .ok (.iconst 0, 1) := by decide +kernel
theorem dX10_readsMembers_61 : decode cX10_readsMembers 61 = .ok (.iaload, 1) := by decide +kernel
theorem dX10_readsMembers_62 : decode cX10_readsMembers 62 = .ok (.if_icmp .ne 10, 3) := by decide +kernel
theorem dX10_readsMembers_65 : decode cX10_readsMembers 65 = .ok (.aload_n 0, 1) := by decide +kernel
theorem dX10_readsMembers_66 : decode cX10_readsMembers 66 = .ok (.iload_n 1, 1) := by decide +kernel
theorem dX10_readsMembers_67 : decode cX10_readsMembers 67 = .ok (.putfield 125, 3) := by decide +kernel
theorem dX10_readsMembers_70 : decode cX10_readsMembers 70 = .ok (.iconst (-1), 1) := by decide +kernel
theorem dX10_readsMembers_71 : decode cX10_readsMembers 71 = .ok (.ireturn, 1) := by decide +kernel
theorem dX10_readsMembers_72 : decode cX10_readsMembers 72 = .ok (.aload_n 0, 1) := by decide +kernel
theorem dX10_readsMembers_73 : decode cX10_readsMembers 73 = .ok (.iconst 0, 1) := by decide +kernel
theorem dX10_readsMembers_74 : decode cX10_readsMembers 74 = .ok (.iload_n 2, 1) := by decide +kernel
theorem dX10_readsMembers_75 : decode cX10_readsMembers 75 = .ok (.invokevirtual 114, 3) := by decide +kernel
theorem dX10_readsMembers_78 : decode cX10_readsMembers 78 = .ok (.bipush 59, 2) := by decide +kernel
theorem dX10_readsMembers_80 : decode cX10_readsMembers 80 = .ok (.if_icmp .eq 5, 3) := by decide +kernel
theorem dX10_readsMembers_83 : decode cX10_readsMembers 83 = .ok (.iload_n 2, 1) := by decide +kernel
theorem dX10_readsMembers_84 : decode cX10_readsMembers 84 = .ok (.ireturn, 1) := by decide +kernel
theorem dX10_readsMembers_85 : decode cX10_readsMembers 85 = .ok (.iinc 2 1, 3) := by decide +kernel
theorem dX10_readsMembers_88 : decode cX10_readsMembers 88 = .ok (.goto (-79), 3) := by decide +kernel
theorem dX10_readsMembers_91 : decode cX10_readsMembers 91 = .ok (.iconst (-1), 1) := by decide +kernel
theorem dX10_readsMembers_92 : decode cX10_readsMembers 92 = .ok (.ireturn, 1) := by decide +kernel
theorem dX10_readsMotions_0 : decode cX10_readsMotions 0 = .ok (.iconst 0, 1) := by decide +kernel
theorem dX10_readsMotions_1 : decode cX10_readsMotions 1 = .ok (.istore_n 1, 1) := by decide +kernel
theorem dX10_readsMotions_2 : decode cX10_readsMotions 2 = .ok (.aload_n 0, 1) := by decide +kernel
theorem dX10_readsMotions_3 : decode cX10_readsMotions 3 = .ok (.iconst 0, 1) := by decide +kernel
theorem dX10_readsMotions_4 : decode cX10_readsMotions 4 = .ok (.putfield 132, 3) := by decide +kernel
theorem dX10_readsMotions_7 : decode cX10_readsMotions 7 = .ok (.iconst 3, 1) := by decide +kernel
theorem dX10_readsMotions_8 : decode cX10_readsMotions 8 = .ok (.iload_n 1, 1) := by decide +kernel
theorem dX10_readsMotions_9 : decode cX10_readsMotions 9 = .ok (.imul, 1) := by decide +kernel
theorem dX10_readsMotions_10 : decode cX10_readsMotions 10 = .ok (.aload_n 0, 1) := by decide +kernel
theorem dX10_readsMotions_11 : decode cX10_readsMotions 11 = .ok (.getfield 7, 3) := by decide +kernel
theorem dX10_readsMotions_14 : decode cX10_readsMotions 14 = .ok (.iconst 1, 1) := by decide +kernel
theorem dX10_readsMotions_15 : decode cX10_readsMotions 15 = .ok (.iaload, 1) := by decide +kernel
theorem dX10_readsMotions_16 : decode cX10_readsMotions 16 = .ok (.if_icmp .ge 107, 3) := by decide +kernel
theorem dX10_readsMotions_19 : decode cX10_readsMotions 19 = .ok (.aload_n 0, 1) := by decide +kernel
theorem dX10_readsMotions_20 : decode cX10_readsMotions 20 = .ok (.iconst 1, 1) := by decide +kernel
theorem dX10_readsMotions_21 : decode cX10_readsMotions 21 = .ok (.iconst 3, 1) := by decide +kernel
theorem dX10_readsMotions_22 : decode cX10_readsMotions 22 = .ok (.iload_n 1, 1) := by decide +kernel
theorem dX10_readsMotions_23 : decode cX10_readsMotions 23 = .ok (.imul, 1) := by decide +kernel
theorem dX10_readsMotions_24 : decode cX10_readsMotions 24 = .ok (.invokevirtual 118, 3) := by decide +kernel
theorem dX10_readsMotions_27 : decode cX10_readsMotions 27 = .ok (.istore_n 2, 1) := by decide +kernel
theorem dX10_readsMotions_28 : decode cX10_readsMotions 28 = .ok (.aload_n 0, 1) := by decide +kernel
theorem dX10_readsMotions_29 : decode cX10_readsMotions 29 = .ok (.iconst 1, 1) := by decide +kernel
theorem dX10_readsMotions_30 : decode cX10_readsMotions 30 = .ok (.iconst 3, 1) := by decide +kernel
theorem dX10_readsMotions_31 : decode cX10_readsMotions 31 = .ok (.iload_n 1, 1) := by decide +kernel
theorem dX10_readsMotions_32 : decode cX10_readsMotions 32 = .ok (.imul, 1) := by decide +kernel
end
section
theorem dX10_readsMotions_33 : decode cX10_readsMotions 33 = .ok (.iconst 1, 1) := by decide +kernel
theorem dX10_readsMotions_34 : decode cX10_readsMotions 34 = .ok (.iadd, 1) := by decide +kernel
theorem dX10_readsMotions_35 : decode cX10_readsMotions 35 = .ok (.invokevirtual 118, 3) := by decide +kernel
theorem dX10_readsMotions_38 : decode cX10_readsMotions 38 = .ok (.istore_n 3, 1) := by decide +kernel
theorem dX10_readsMotions_39 : decode cX10_readsMotions 39 = .ok (.aload_n 0, 1) := by decide +kernel
theorem dX10_readsMotions_40 : decode cX10_readsMotions 40 = .ok (.iconst 1, 1) := by decide +kernel
theorem dX10_readsMotions_41 : decode cX10_readsMotions 41 = .ok (.iconst 3, 1) := by decide +kernel
theorem dX10_readsMotions_42 : decode cX10_readsMotions 42 = .ok (.iload_n 1, 1) := by decide +kernel
theorem dX10_readsMotions_43 : decode cX10_readsMotions 43 = .ok (.imul, 1) := by decide +kernel
theorem dX10_readsMotions_44 : decode cX10_readsMotions 44 = .ok (.iconst 2, 1) := by decide +kernel
theorem dX10_readsMotions_45 : decode cX10_readsMotions 45 = .ok (.iadd, 1) := by decide +kernel
theorem dX10_readsMotions_46 : decode cX10_readsMotions 46 = .ok (.invokevirtual 114, 3) := by decide +kernel
theorem dX10_readsMotions_49 : decode cX10_readsMotions 49 = .ok (.bipush 48, 2) := by decide +kernel
theorem dX10_readsMotions_51 : decode cX10_readsMotions 51 = .ok (.isub, 1) := by decide +kernel
theorem dX10_readsMotions_52 : decode cX10_readsMotions 52 = .ok (.istore 4, 2) := by decide +kernel
theorem dX10_readsMotions_54 : decode cX10_readsMotions 54 = .ok (.iload_n 2, 1) := by decide +kernel
theorem dX10_readsMotions_55 : decode cX10_readsMotions 55 = .ok (.iconst (-1), 1) := by decide +kernel
theorem dX10_readsMotions_56 : decode cX10_readsMotions 56 = .ok (.if_icmp .ne 7, 3) := by decide +kernel
theorem dX10_readsMotions_59 : decode cX10_readsMotions 59 = .ok (.iconst 3, 1) := by decide +kernel
theorem dX10_readsMotions_60 : decode cX10_readsMotions 60 = .ok (.iload_n 1, 1) := by decide +kernel
theorem dX10_readsMotions_61 : decode cX10_readsMotions 61 = .ok (.imul, 1) := by decide +kernel
theorem dX10_readsMotions_62 : decode cX10_readsMotions 62 = .ok (.ireturn, 1) := by decide +kernel
theorem dX10_readsMotions_63 : decode cX10_readsMotions 63 = .ok (.iload_n 3, 1) := by decide +kernel
theorem dX10_readsMotions_64 : decode cX10_readsMotions 64 = .ok (.iconst (-1), 1) := by decide +kernel
theorem dX10_readsMotions_65 : decode cX10_readsMotions 65 = .ok (.if_icmp .eq 8, 3) := by decide +kernel
theorem dX10_readsMotions_68 : decode cX10_readsMotions 68 = .ok (.iload_n 3, 1) := by decide +kernel
theorem dX10_readsMotions_69 : decode cX10_readsMotions 69 = .ok (.iload_n 2, 1) := by decide +kernel
theorem dX10_readsMotions_70 : decode cX10_readsMotions 70 = .ok (.if_icmp .ne 9, 3) := by decide +kernel
theorem dX10_readsMotions_73 : decode cX10_readsMotions 73 = .ok (.iconst 3, 1) := by decide +kernel
theorem dX10_readsMotions_74 : decode cX10_readsMotions 74 = .ok (.iload_n 1, 1) := by decide +kernel
theorem dX10_readsMotions_75 : decode cX10_readsMotions 75 = .ok (.imul, 1) := by decide +kernel
theorem dX10_readsMotions_76 : decode cX10_readsMotions 76 = .ok (.iconst 1, 1) := by decide +kernel
theorem dX10_readsMotions_77 : decode cX10_readsMotions 77 = .ok (.iadd, 1) := by decide +kernel
theorem dX10_readsMotions_78 : decode cX10_readsMotions 78 = .ok (.ireturn, 1) := by decide +kernel
theorem dX10_readsMotions_79 : decode cX10_readsMotions 79 = .ok (.iload 4, 2) := by decide +kernel
theorem dX10_readsMotions_81 : decode cX10_readsMotions 81 = .ok (.iconst 1, 1) := by decide +kernel
theorem dX10_readsMotions_82 : decode cX10_readsMotions 82 = .ok (.iconst 2, 1) := by decide +kernel
theorem dX10_readsMotions_83 : decode cX10_readsMotions 83 = .ok (.invokestatic 106, 3) := by decide +kernel
theorem dX10_readsMotions_86 : decode cX10_readsMotions 86 = .ok (.ifCond .ne 9, 3) := by decide +kernel
theorem dX10_readsMotions_89 : decode cX10_readsMotions 89 = .ok (.iconst 3, 1) := by decide +kernel
theorem dX10_readsMotions_90 : decode cX10_readsMotions 90 = .ok (.iload_n 1, 1) := by decide +kernel
theorem dX10_readsMotions_91 : decode cX10_readsMotions 91 = .ok (.imul, 1) := by decide +kernel
theorem dX10_readsMotions_92 : decode cX10_readsMotions 92 = .ok (.iconst 2, 1) := by decide +kernel
theorem dX10_readsMotions_93 : decode cX10_readsMotions 93 = .ok (.iadd, 1) := by decide +kernel
theorem dX10_readsMotions_94 : decode cX10_readsMotions 94 = .ok (.ireturn, 1) := by decide +kernel
theorem dX10_readsMotions_95 : decode cX10_readsMotions 95 = .ok (.aload_n 0, 1) := by decide +kernel
theorem dX10_readsMotions_96 : decode cX10_readsMotions 96 = .ok (.getfield 25, 3) := by decide +kernel
theorem dX10_readsMotions_99 : decode cX10_readsMotions 99 = .ok (.iload_n 1, 1) := by decide +kernel
theorem dX10_readsMotions_100 : decode cX10_readsMotions 100 = .ok (.iload_n 2, 1) := by decide +kernel
theorem dX10_readsMotions_101 : decode cX10_readsMotions 101 = .ok (.iastore, 1) := by decide +kernel
theorem dX10_readsMotions_102 : decode cX10_readsMotions 102 = .ok (.aload_n 0, 1) := by decide +kernel
theorem dX10_readsMotions_103 : decode cX10_readsMotions 103 = .ok (.getfield 28, 3) := by decide +kernel
theorem dX10_readsMotions_106 : decode cX10_readsMotions 106 = .ok (.iload_n 1, 1) := by decide +kernel
theorem dX10_readsMotions_107 : decode cX10_readsMotions 107 = .ok (.iload_n 3, 1) := by decide +kernel
theorem dX10_readsMotions_108 : decode cX10_readsMotions 108 = .ok (.iastore, 1) := by decide +kernel
theorem dX10_readsMotions_109 : decode cX10_readsMotions 109 = .ok (.aload_n 0, 1) := by decide +kernel
theorem dX10_readsMotions_110 : decode cX10_readsMotions 110 = .ok (.getfield 31, 3) := by decide +kernel
theorem dX10_readsMotions_113 : decode cX10_readsMotions 113 = .ok (.iload_n 1, 1) := by decide +kernel
theorem dX10_readsMotions_114 : decode cX10_readsMotions 114 = .ok (.iload 4, 2) := by decide +kernel
theorem dX10_readsMotions_116 : decode cX10_readsMotions 116 = .ok (.iastore, 1) := by decide +kernel
theorem dX10_readsMotions_117 : decode cX10_readsMotions 117 = .ok (.iinc 1 1, 3) := by decide +kernel
theorem dX10_readsMotions_120 : decode cX10_readsMotions 120 = .ok (.goto (-113), 3) := by decide +kernel
theorem dX10_readsMotions_123 : decode cX10_readsMotions 123 = .ok (.aload_n 0, 1) := by decide +kernel
theorem dX10_readsMotions_124 : decode cX10_readsMotions 124 = .ok (.iload_n 1, 1) := by decide +kernel
theorem dX10_readsMotions_125 : decode cX10_readsMotions 125 = .ok (.putfield 132, 3) := by decide +kernel
theorem dX10_readsMotions_128 : decode cX10_readsMotions 128 = .ok (.iconst (-1), 1) := by decide +kernel
theorem dX10_readsMotions_129 : decode cX10_readsMotions 129 = .ok (.ireturn, 1) := by decide +kernel
theorem dX10_faultOf_0 : decode cX10_faultOf 0 = .ok (.aload_n 0, 1) := by decide +kernel
theorem dX10_faultOf_1 : decode cX10_faultOf 1 = .ok (.invokevirtual 135, 3) := by decide +kernel
theorem dX10_faultOf_4 : decode cX10_faultOf 4 = .ok (.istore_n 2, 1) := by decide +kernel
theorem dX10_faultOf_5 : decode cX10_faultOf 5 = .ok (.aload_n 0, 1) := by decide +kernel
theorem dX10_faultOf_6 : decode cX10_faultOf 6 = .ok (.invokevirtual 139, 3) := by decide +kernel
theorem dX10_faultOf_9 : decode cX10_faultOf 9 = .ok (.istore_n 3, 1) := by decide +kernel
theorem dX10_faultOf_10 : decode cX10_faultOf 10 = .ok (.iload_n 1, 1) := by decide +kernel
theorem dX10_faultOf_11 : decode cX10_faultOf 11 = .ok (.ifCond .ne 7, 3) := by decide +kernel
theorem dX10_faultOf_14 : decode cX10_faultOf 14 = .ok (.iload_n 2, 1) := by decide +kernel
theorem dX10_faultOf_15 : decode cX10_faultOf 15 = .ok (.goto 4, 3) := by decide +kernel
theorem dX10_faultOf_18 : decode cX10_faultOf 18 = .ok (.iload_n 3, 1) := by decide +kernel
theorem dX10_faultOf_19 : decode cX10_faultOf 19 = .ok (.ireturn, 1) := by decide +kernel
theorem dX10_reads_0 : decode cX10_reads 0 = .ok (.aload_n 0, 1) := by decide +kernel
theorem dX10_reads_1 : decode cX10_reads 1 = .ok (.iconst 0, 1) := by decide +kernel
theorem dX10_reads_2 : decode cX10_reads 2 = .ok (.invokevirtual 142, 3) := by decide +kernel
theorem dX10_reads_5 : decode cX10_reads 5 = .ok (.istore_n 1, 1) := by decide +kernel
theorem dX10_reads_6 : decode cX10_reads 6 = .ok (.return_, 1) := by decide +kernel
theorem dX10_fault_0 : decode cX10_fault 0 = .ok (.iload_n 1, 1) := by decide +kernel
theorem dX10_fault_1 : decode cX10_fault 1 = .ok (.invokestatic 110, 3) := by decide +kernel
theorem dX10_fault_4 : decode cX10_fault 4 = .ok (.ifCond .eq 11, 3) := by decide +kernel
theorem dX10_fault_7 : decode cX10_fault 7 = .ok (.aload_n 0, 1) := by decide +kernel
theorem dX10_fault_8 : decode cX10_fault 8 = .ok (.iload_n 1, 1) := by decide +kernel
theorem dX10_fault_9 : decode cX10_fault 9 = .ok (.invokevirtual 142, 3) := by decide +kernel
theorem dX10_fault_12 : decode cX10_fault 12 = .ok (.goto 5, 3) := by decide +kernel
theorem dX10_fault_15 : decode cX10_fault 15 = .ok (.bipush (-2), 2) := by decide +kernel
theorem dX10_fault_17 : decode cX10_fault 17 = .ok (.ireturn, 1) := by decide +kernel
theorem dX10_isMember_0 : decode cX10_isMember 0 = .ok (.aload_n 0, 1) := by decide +kernel
theorem dX10_isMember_1 : decode cX10_isMember 1 = .ok (.invokevirtual 146, 3) := by decide +kernel
theorem dX10_isMember_4 : decode cX10_isMember 4 = .ok (.iload_n 1, 1) := by decide +kernel
theorem dX10_isMember_5 : decode cX10_isMember 5 = .ok (.iconst 0, 1) := by decide +kernel
theorem dX10_isMember_6 : decode cX10_isMember 6 = .ok (.aload_n 0, 1) := by decide +kernel
theorem dX10_isMember_7 : decode cX10_isMember 7 = .ok (.getfield 125, 3) := by decide +kernel
theorem dX10_isMember_10 : decode cX10_isMember 10 = .ok (.iconst 1, 1) := by decide +kernel
theorem dX10_isMember_11 : decode cX10_isMember 11 = .ok (.isub, 1) := by decide +kernel
theorem dX10_isMember_12 : decode cX10_isMember 12 = .ok (.invokestatic 106, 3) := by decide +kernel
theorem dX10_isMember_15 : decode cX10_isMember 15 = .ok (.ireturn, 1) := by decide +kernel
theorem dX10_memberOf_0 : decode cX10_memberOf 0 = .ok (.iload_n 2, 1) := by decide +kernel
theorem dX10_memberOf_1 : decode cX10_memberOf 1 = .ok (.ifCond .ne 12, 3) := by decide +kernel
theorem dX10_memberOf_4 : decode cX10_memberOf 4 = .ok (.aload_n 0, 1) := by decide +kernel
theorem dX10_memberOf_5 : decode cX10_memberOf 5 = .ok (.getfield 16, 3) := by decide +kernel
theorem dX10_memberOf_8 : decode cX10_memberOf 8 = .ok (.iload_n 1, 1) := by decide +kernel
theorem dX10_memberOf_9 : decode cX10_memberOf 9 = .ok (.iaload, 1) := by decide +kernel
theorem dX10_memberOf_10 : decode cX10_memberOf 10 = .ok (.goto 29, 3) := by decide +kernel
theorem dX10_memberOf_13 : decode cX10_memberOf 13 = .ok (.iload_n 2, 1) := by decide +kernel
theorem dX10_memberOf_14 : decode cX10_memberOf 14 = .ok (.iconst 1, 1) := by decide +kernel
theorem dX10_memberOf_15 : decode cX10_memberOf 15 = .ok (.if_icmp .ne 12, 3) := by decide +kernel
theorem dX10_memberOf_18 : decode cX10_memberOf 18 = .ok (.aload_n 0, 1) := by decide +kernel
theorem dX10_memberOf_19 : decode cX10_memberOf 19 = .ok (.getfield 19, 3) := by decide +kernel
theorem dX10_memberOf_22 : decode cX10_memberOf 22 = .ok (.iload_n 1, 1) := by decide +kernel
theorem dX10_memberOf_23 : decode cX10_memberOf 23 = .ok (.iaload, 1) := by decide +kernel
theorem dX10_memberOf_24 : decode cX10_memberOf 24 = .ok (.goto 15, 3) := by decide +kernel
theorem dX10_memberOf_27 : decode cX10_memberOf 27 = .ok (.aload_n 0, 1) := by decide +kernel
theorem dX10_memberOf_28 : decode cX10_memberOf 28 = .ok (.getfield 22, 3) := by decide +kernel
theorem dX10_memberOf_31 : decode cX10_memberOf 31 = .ok (.iconst 3, 1) := by decide +kernel
theorem dX10_memberOf_32 : decode cX10_memberOf 32 = .ok (.iload_n 1, 1) := by decide +kernel
theorem dX10_memberOf_33 : decode cX10_memberOf 33 = .ok (.imul, 1) := by decide +kernel
theorem dX10_memberOf_34 : decode cX10_memberOf 34 = .ok (.iload_n 2, 1) := by decide +kernel
theorem dX10_memberOf_35 : decode cX10_memberOf 35 = .ok (.iadd, 1) := by decide +kernel
theorem dX10_memberOf_36 : decode cX10_memberOf 36 = .ok (.iconst 2, 1) := by decide +kernel
theorem dX10_memberOf_37 : decode cX10_memberOf 37 = .ok (.isub, 1) := by decide +kernel
theorem dX10_memberOf_38 : decode cX10_memberOf 38 = .ok (.iaload, 1) := by decide +kernel
theorem dX10_memberOf_39 : decode cX10_memberOf 39 = .ok (.ireturn, 1) := by decide +kernel
theorem dX10_member_0 : decode cX10_member 0 = .ok (.aload_n 0, 1) := by decide +kernel
theorem dX10_member_1 : decode cX10_member 1 = .ok (.iload_n 1, 1) := by decide +kernel
theorem dX10_member_2 : decode cX10_member 2 = .ok (.invokevirtual 149, 3) := by decide +kernel
theorem dX10_member_5 : decode cX10_member 5 = .ok (.ifCond .eq 21, 3) := by decide +kernel
theorem dX10_member_8 : decode cX10_member 8 = .ok (.iload_n 2, 1) := by decide +kernel
theorem dX10_member_9 : decode cX10_member 9 = .ok (.iconst 0, 1) := by decide +kernel
theorem dX10_member_10 : decode cX10_member 10 = .ok (.iconst 4, 1) := by decide +kernel
theorem dX10_member_11 : decode cX10_member 11 = .ok (.invokestatic 106, 3) := by decide +kernel
theorem dX10_member_14 : decode cX10_member 14 = .ok (.ifCond .eq 12, 3) := by decide +kernel
theorem dX10_member_17 : decode cX10_member 17 = .ok (.aload_n 0, 1) := by decide +kernel
theorem dX10_member_18 : decode cX10_member 18 = .ok (.iload_n 1, 1) := by decide +kernel
theorem dX10_member_19 : decode cX10_member 19 = .ok (.iload_n 2, 1) := by decide +kernel
theorem dX10_member_20 : decode cX10_member 20 = .ok (.invokevirtual 152, 3) := by decide +kernel
theorem dX10_member_23 : decode cX10_member 23 = .ok (.goto 5, 3) := by decide +kernel
theorem dX10_member_26 : decode cX10_member 26 = .ok (.bipush (-2), 2) := by decide +kernel
theorem dX10_member_28 : decode cX10_member 28 = .ok (.ireturn, 1) := by decide +kernel
theorem dX10_motionOf_0 : decode cX10_motionOf 0 = .ok (.aload_n 0, 1) := by decide +kernel
theorem dX10_motionOf_1 : decode cX10_motionOf 1 = .ok (.invokevirtual 146, 3) := by decide +kernel
theorem dX10_motionOf_4 : decode cX10_motionOf 4 = .ok (.iload_n 1, 1) := by decide +kernel
theorem dX10_motionOf_5 : decode cX10_motionOf 5 = .ok (.aload_n 0, 1) := by decide +kernel
theorem dX10_motionOf_6 : decode cX10_motionOf 6 = .ok (.getfield 132, 3) := by decide +kernel
theorem dX10_motionOf_9 : decode cX10_motionOf 9 = .ok (.if_icmp .lt 7, 3) := by decide +kernel
theorem dX10_motionOf_12 : decode cX10_motionOf 12 = .ok (.iconst (-1), 1) := by decide +kernel
theorem dX10_motionOf_13 : decode cX10_motionOf 13 = .ok (.goto 36, 3) := by decide +kernel
theorem dX10_motionOf_16 : decode cX10_motionOf 16 = .ok (.iload_n 2, 1) := by decide +kernel
theorem dX10_motionOf_17 : decode cX10_motionOf 17 = .ok (.ifCond .ne 12, 3) := by decide +kernel
theorem dX10_motionOf_20 : decode cX10_motionOf 20 = .ok (.aload_n 0, 1) := by decide +kernel
theorem dX10_motionOf_21 : decode cX10_motionOf 21 = .ok (.getfield 25, 3) := by decide +kernel
theorem dX10_motionOf_24 : decode cX10_motionOf 24 = .ok (.iload_n 1, 1) := by decide +kernel
theorem dX10_motionOf_25 : decode cX10_motionOf 25 = .ok (.iaload, 1) := by decide +kernel
theorem dX10_motionOf_26 : decode cX10_motionOf 26 = .ok (.goto 23, 3) := by decide +kernel
theorem dX10_motionOf_29 : decode cX10_motionOf 29 = .ok (.iload_n 2, 1) := by decide +kernel
theorem dX10_motionOf_30 : decode cX10_motionOf 30 = .ok (.iconst 1, 1) := by decide +kernel
theorem dX10_motionOf_31 : decode cX10_motionOf 31 = .ok (.if_icmp .ne 12, 3) := by decide +kernel
theorem dX10_motionOf_34 : decode cX10_motionOf 34 = .ok (.aload_n 0, 1) := by decide +kernel
theorem dX10_motionOf_35 : decode cX10_motionOf 35 = .ok (.getfield 28, 3) := by decide +kernel
theorem dX10_motionOf_38 : decode cX10_motionOf 38 = .ok (.iload_n 1, 1) := by decide +kernel
theorem dX10_motionOf_39 : decode cX10_motionOf 39 = .ok (.iaload, 1) := by decide +kernel
theorem dX10_motionOf_40 : decode cX10_motionOf 40 = .ok (.goto 9, 3) := by decide +kernel
theorem dX10_motionOf_43 : decode cX10_motionOf 43 = .ok (.aload_n 0, 1) := by decide +kernel
theorem dX10_motionOf_44 : decode cX10_motionOf 44 = .ok (.getfield 31, 3) := by decide +kernel
theorem dX10_motionOf_47 : decode cX10_motionOf 47 = .ok (.iload_n 1, 1) := by decide +kernel
theorem dX10_motionOf_48 : decode cX10_motionOf 48 = .ok (.iaload, 1) := by decide +kernel
theorem dX10_motionOf_49 : decode cX10_motionOf 49 = .ok (.ireturn, 1) := by decide +kernel
theorem dX10_motion_0 : decode cX10_motion 0 = .ok (.iload_n 1, 1) := by decide +kernel
theorem dX10_motion_1 : decode cX10_motion 1 = .ok (.invokestatic 155, 3) := by decide +kernel
theorem dX10_motion_4 : decode cX10_motion 4 = .ok (.ifCond .eq 21, 3) := by decide +kernel
theorem dX10_motion_7 : decode cX10_motion 7 = .ok (.iload_n 2, 1) := by decide +kernel
theorem dX10_motion_8 : decode cX10_motion 8 = .ok (.iconst 0, 1) := by decide +kernel
theorem dX10_motion_9 : decode cX10_motion 9 = .ok (.iconst 2, 1) := by decide +kernel
theorem dX10_motion_10 : decode cX10_motion 10 = .ok (.invokestatic 106, 3) := by decide +kernel
theorem dX10_motion_13 : decode cX10_motion 13 = .ok (.ifCond .eq 12, 3) := by decide +kernel
theorem dX10_motion_16 : decode cX10_motion 16 = .ok (.aload_n 0, 1) := by decide +kernel
theorem dX10_motion_17 : decode cX10_motion 17 = .ok (.iload_n 1, 1) := by decide +kernel
theorem dX10_motion_18 : decode cX10_motion 18 = .ok (.iload_n 2, 1) := by decide +kernel
theorem dX10_motion_19 : decode cX10_motion 19 = .ok (.invokevirtual 158, 3) := by decide +kernel
theorem dX10_motion_22 : decode cX10_motion 22 = .ok (.goto 5, 3) := by decide +kernel
theorem dX10_motion_25 : decode cX10_motion 25 = .ok (.bipush (-2), 2) := by decide +kernel
theorem dX10_motion_27 : decode cX10_motion 27 = .ok (.ireturn, 1) := by decide +kernel
theorem dX10_weight_0 : decode cX10_weight 0 = .ok (.iload_n 1, 1) := by decide +kernel
theorem dX10_weight_1 : decode cX10_weight 1 = .ok (.iconst 0, 1) := by decide +kernel
theorem dX10_weight_2 : decode cX10_weight 2 = .ok (.iconst 2, 1) := by decide +kernel
theorem dX10_weight_3 : decode cX10_weight 3 = .ok (.invokestatic 106, 3) := by decide +kernel
theorem dX10_weight_6 : decode cX10_weight 6 = .ok (.ifCond .eq 13, 3) := by decide +kernel
theorem dX10_weight_9 : decode cX10_weight 9 = .ok (.iload_n 2, 1) := by decide +kernel
theorem dX10_weight_10 : decode cX10_weight 10 = .ok (.iconst 0, 1) := by decide +kernel
theorem dX10_weight_11 : decode cX10_weight 11 = .ok (.bipush 9, 2) := by decide +kernel
theorem dX10_weight_13 : decode cX10_weight 13 = .ok (.invokestatic 106, 3) := by decide +kernel
theorem dX10_weight_16 : decode cX10_weight 16 = .ok (.ifCond .ne 6, 3) := by decide +kernel
theorem dX10_weight_19 : decode cX10_weight 19 = .ok (.bipush (-2), 2) := by decide +kernel
theorem dX10_weight_21 : decode cX10_weight 21 = .ok (.ireturn, 1) := by decide +kernel
theorem dX10_weight_22 : decode cX10_weight 22 = .ok (.aload_n 0, 1) := by decide +kernel
theorem dX10_weight_23 : decode cX10_weight 23 = .ok (.getfield 34, 3) := by decide +kernel
theorem dX10_weight_26 : decode cX10_weight 26 = .ok (.iload_n 1, 1) := by decide +kernel
theorem dX10_weight_27 : decode cX10_weight 27 = .ok (.iaload, 1) := by decide +kernel
theorem dX10_weight_28 : decode cX10_weight 28 = .ok (.istore_n 3, 1) := by decide +kernel
theorem dX10_weight_29 : decode cX10_weight 29 = .ok (.aload_n 0, 1) := by decide +kernel
theorem dX10_weight_30 : decode cX10_weight 30 = .ok (.getfield 34, 3) := by decide +kernel
theorem dX10_weight_33 : decode cX10_weight 33 = .ok (.iload_n 1, 1) := by decide +kernel
theorem dX10_weight_34 : decode cX10_weight 34 = .ok (.iload_n 2, 1) := by decide +kernel
theorem dX10_weight_35 : decode cX10_weight 35 = .ok (.iastore, 1) := by decide +kernel
theorem dX10_weight_36 : decode cX10_weight 36 = .ok (.iload_n 3, 1) := by decide +kernel
theorem dX10_weight_37 : decode cX10_weight 37 = .ok (.ireturn, 1) := by decide +kernel
theorem dX10_fold_0 : decode cX10_fold 0 = .ok (.iload_n 1, 1) := by decide +kernel
theorem dX10_fold_1 : decode cX10_fold 1 = .ok (.invokestatic 155, 3) := by decide +kernel
theorem dX10_fold_4 : decode cX10_fold 4 = .ok (.ifCond .eq 22, 3) := by decide +kernel
theorem dX10_fold_7 : decode cX10_fold 7 = .ok (.iload_n 2, 1) := by decide +kernel
theorem dX10_fold_8 : decode cX10_fold 8 = .ok (.iconst 0, 1) := by decide +kernel
theorem dX10_fold_9 : decode cX10_fold 9 = .ok (.bipush 7, 2) := by decide +kernel
theorem dX10_fold_11 : decode cX10_fold 11 = .ok (.invokestatic 106, 3) := by decide +kernel
theorem dX10_fold_14 : decode cX10_fold 14 = .ok (.ifCond .eq 12, 3) := by decide +kernel
theorem dX10_fold_17 : decode cX10_fold 17 = .ok (.iload_n 3, 1) := by decide +kernel
theorem dX10_fold_18 : decode cX10_fold 18 = .ok (.iconst 0, 1) := by decide +kernel
theorem dX10_fold_19 : decode cX10_fold 19 = .ok (.iconst 5, 1) := by decide +kernel
theorem dX10_fold_20 : decode cX10_fold 20 = .ok (.invokestatic 106, 3) := by decide +kernel
theorem dX10_fold_23 : decode cX10_fold 23 = .ok (.ifCond .ne 6, 3) := by decide +kernel
theorem dX10_fold_26 : decode cX10_fold 26 = .ok (.bipush (-2), 2) := by decide +kernel
theorem dX10_fold_28 : decode cX10_fold 28 = .ok (.ireturn, 1) := by decide +kernel
theorem dX10_fold_29 : decode cX10_fold 29 = .ok (.aload_n 0, 1) := by decide +kernel
theorem dX10_fold_30 : decode cX10_fold 30 = .ok (.getfield 161, 3) := by decide +kernel
theorem dX10_fold_33 : decode cX10_fold 33 = .ok (.bipush 8, 2) := by decide +kernel
theorem dX10_fold_35 : decode cX10_fold 35 = .ok (.if_icmp .ne 6, 3) := by decide +kernel
theorem dX10_fold_38 : decode cX10_fold 38 = .ok (.bipush (-4), 2) := by decide +kernel
theorem dX10_fold_40 : decode cX10_fold 40 = .ok (.ireturn, 1) := by decide +kernel
theorem dX10_fold_41 : decode cX10_fold 41 = .ok (.aload_n 0, 1) := by decide +kernel
theorem dX10_fold_42 : decode cX10_fold 42 = .ok (.getfield 37, 3) := by decide +kernel
theorem dX10_fold_45 : decode cX10_fold 45 = .ok (.aload_n 0, 1) := by decide +kernel
theorem dX10_fold_46 : decode cX10_fold 46 = .ok (.getfield 161, 3) := by decide +kernel
theorem dX10_fold_49 : decode cX10_fold 49 = .ok (.iload_n 1, 1) := by decide +kernel
theorem dX10_fold_50 : decode cX10_fold 50 = .ok (.iastore, 1) := by decide +kernel
theorem dX10_fold_51 : decode cX10_fold 51 = .ok (.aload_n 0, 1) := by decide +kernel
theorem dX10_fold_52 : decode cX10_fold 52 = .ok (.getfield 40, 3) := by decide +kernel
theorem dX10_fold_55 : decode cX10_fold 55 = .ok (.aload_n 0, 1) := by decide +kernel
theorem dX10_fold_56 : decode cX10_fold 56 = .ok (.getfield 161, 3) := by decide +kernel
theorem dX10_fold_59 : decode cX10_fold 59 = .ok (.iload_n 2, 1) := by decide +kernel
theorem dX10_fold_60 : decode cX10_fold 60 = .ok (.iastore, 1) := by decide +kernel
theorem dX10_fold_61 : decode cX10_fold 61 = .ok (.aload_n 0, 1) := by decide +kernel
theorem dX10_fold_62 : decode cX10_fold 62 = .ok (.getfield 43, 3) := by decide +kernel
theorem dX10_fold_65 : decode cX10_fold 65 = .ok (.aload_n 0, 1) := by decide +kernel
theorem dX10_fold_66 : decode cX10_fold 66 = .ok (.getfield 161, 3) := by decide +kernel
theorem dX10_fold_69 : decode cX10_fold 69 = .ok (.iload_n 3, 1) := by decide +kernel
theorem dX10_fold_70 : decode cX10_fold 70 = .ok (.iastore, 1) := by decide +kernel
theorem dX10_fold_71 : decode cX10_fold 71 = .ok (.aload_n 0, 1) := by decide +kernel
theorem dX10_fold_72 : decode cX10_fold 72 = .ok (.dup, 1) := by decide +kernel
theorem dX10_fold_73 : decode cX10_fold 73 = .ok (.getfield 161, 3) := by decide +kernel
theorem dX10_fold_76 : decode cX10_fold 76 = .ok (.iconst 1, 1) := by decide +kernel
theorem dX10_fold_77 : decode cX10_fold 77 = .ok (.iadd, 1) := by decide +kernel
theorem dX10_fold_78 : decode cX10_fold 78 = .ok (.putfield 161, 3) := by decide +kernel
theorem dX10_fold_81 : decode cX10_fold 81 = .ok (.aload_n 0, 1) := by decide +kernel
theorem dX10_fold_82 : decode cX10_fold 82 = .ok (.getfield 161, 3) := by decide +kernel
theorem dX10_fold_85 : decode cX10_fold 85 = .ok (.ireturn, 1) := by decide +kernel
theorem dX10_jar_0 : decode cX10_jar 0 = .ok (.iload_n 1, 1) := by decide +kernel
theorem dX10_jar_1 : decode cX10_jar 1 = .ok (.invokestatic 155, 3) := by decide +kernel
theorem dX10_jar_4 : decode cX10_jar 4 = .ok (.ifCond .ne 6, 3) := by decide +kernel
theorem dX10_jar_7 : decode cX10_jar 7 = .ok (.bipush (-2), 2) := by decide +kernel
theorem dX10_jar_9 : decode cX10_jar 9 = .ok (.ireturn, 1) := by decide +kernel
theorem dX10_jar_10 : decode cX10_jar 10 = .ok (.aload_n 0, 1) := by decide +kernel
theorem dX10_jar_11 : decode cX10_jar 11 = .ok (.getfield 164, 3) := by decide +kernel
theorem dX10_jar_14 : decode cX10_jar 14 = .ok (.bipush 6, 2) := by decide +kernel
theorem dX10_jar_16 : decode cX10_jar 16 = .ok (.if_icmp .ne 6, 3) := by decide +kernel
theorem dX10_jar_19 : decode cX10_jar 19 = .ok (.bipush (-4), 2) := by decide +kernel
theorem dX10_jar_21 : decode cX10_jar 21 = .ok (.ireturn, 1) := by decide +kernel
theorem dX10_jar_22 : decode cX10_jar 22 = .ok (.aload_n 0, 1) := by decide +kernel
theorem dX10_jar_23 : decode cX10_jar 23 = .ok (.getfield 46, 3) := by decide +kernel
theorem dX10_jar_26 : decode cX10_jar 26 = .ok (.aload_n 0, 1) := by decide +kernel
theorem dX10_jar_27 : decode cX10_jar 27 = .ok (.getfield 164, 3) := by decide +kernel
theorem dX10_jar_30 : decode cX10_jar 30 = .ok (.iload_n 1, 1) := by decide +kernel
theorem dX10_jar_31 : decode cX10_jar 31 = .ok (.iastore, 1) := by decide +kernel
theorem dX10_jar_32 : decode cX10_jar 32 = .ok (.aload_n 0, 1) := by decide +kernel
theorem dX10_jar_33 : decode cX10_jar 33 = .ok (.dup, 1) := by decide +kernel
theorem dX10_jar_34 : decode cX10_jar 34 = .ok (.getfield 164, 3) := by decide +kernel
theorem dX10_jar_37 : decode cX10_jar 37 = .ok (.iconst 1, 1) := by decide +kernel
theorem dX10_jar_38 : decode cX10_jar 38 = .ok (.iadd, 1) := by decide +kernel
theorem dX10_jar_39 : decode cX10_jar 39 = .ok (.putfield 164, 3) := by decide +kernel
theorem dX10_jar_42 : decode cX10_jar 42 = .ok (.aload_n 0, 1) := by decide +kernel
theorem dX10_jar_43 : decode cX10_jar 43 = .ok (.getfield 164, 3) := by decide +kernel
theorem dX10_jar_46 : decode cX10_jar 46 = .ok (.ireturn, 1) := by decide +kernel
theorem dX10_back_0 : decode cX10_back 0 = .ok (.iload_n 1, 1) := by decide +kernel
theorem dX10_back_1 : decode cX10_back 1 = .ok (.iconst 0, 1) := by decide +kernel
theorem dX10_back_2 : decode cX10_back 2 = .ok (.iconst 1, 1) := by decide +kernel
theorem dX10_back_3 : decode cX10_back 3 = .ok (.invokestatic 106, 3) := by decide +kernel
theorem dX10_back_6 : decode cX10_back 6 = .ok (.ifCond .ne 6, 3) := by decide +kernel
theorem dX10_back_9 : decode cX10_back 9 = .ok (.bipush (-2), 2) := by decide +kernel
theorem dX10_back_11 : decode cX10_back 11 = .ok (.ireturn, 1) := by decide +kernel
theorem dX10_back_12 : decode cX10_back 12 = .ok (.iload_n 1, 1) := by decide +kernel
theorem dX10_back_13 : decode cX10_back 13 = .ok (.ifCond .ne 10, 3) := by decide +kernel
theorem dX10_back_16 : decode cX10_back 16 = .ok (.aload_n 0, 1) := by decide +kernel
theorem dX10_back_17 : decode cX10_back 17 = .ok (.getfield 161, 3) := by decide +kernel
theorem dX10_back_20 : decode cX10_back 20 = .ok (.goto 7, 3) := by decide +kernel
theorem dX10_back_23 : decode cX10_back 23 = .ok (.aload_n 0, 1) := by decide +kernel
theorem dX10_back_24 : decode cX10_back 24 = .ok (.getfield 164, 3) := by decide +kernel
theorem dX10_back_27 : decode cX10_back 27 = .ok (.istore_n 2, 1) := by decide +kernel
theorem dX10_back_28 : decode cX10_back 28 = .ok (.iload_n 2, 1) := by decide +kernel
theorem dX10_back_29 : decode cX10_back 29 = .ok (.ifCond .ne 6, 3) := by decide +kernel
theorem dX10_back_32 : decode cX10_back 32 = .ok (.bipush (-3), 2) := by decide +kernel
theorem dX10_back_34 : decode cX10_back 34 = .ok (.ireturn, 1) := by decide +kernel
theorem dX10_back_35 : decode cX10_back 35 = .ok (.aload_n 0, 1) := by decide +kernel
theorem dX10_back_36 : decode cX10_back 36 = .ok (.dup, 1) := by decide +kernel
theorem dX10_back_37 : decode cX10_back 37 = .ok (.getfield 161, 3) := by decide +kernel
theorem dX10_back_40 : decode cX10_back 40 = .ok (.iload_n 1, 1) := by decide +kernel
theorem dX10_back_41 : decode cX10_back 41 = .ok (.ifCond .ne 7, 3) := by decide +kernel
theorem dX10_back_44 : decode cX10_back 44 = .ok (.iconst 1, 1) := by decide +kernel
theorem dX10_back_45 : decode cX10_back 45 = .ok (.goto 4, 3) := by decide +kernel
theorem dX10_back_48 : decode cX10_back 48 = .ok (.iconst 0, 1) := by decide +kernel
theorem dX10_back_49 : decode cX10_back 49 = .ok (.isub, 1) := by decide +kernel
theorem dX10_back_50 : decode cX10_back 50 = .ok (.putfield 161, 3) := by decide +kernel
theorem dX10_back_53 : decode cX10_back 53 = .ok (.aload_n 0, 1) := by decide +kernel
theorem dX10_back_54 : decode cX10_back 54 = .ok (.dup, 1) := by decide +kernel
theorem dX10_back_55 : decode cX10_back 55 = .ok (.getfield 164, 3) := by decide +kernel
theorem dX10_back_58 : decode cX10_back 58 = .ok (.iload_n 1, 1) := by decide +kernel
theorem dX10_back_59 : decode cX10_back 59 = .ok (.iconst 1, 1) := by decide +kernel
theorem dX10_back_60 : decode cX10_back 60 = .ok (.if_icmp .ne 7, 3) := by decide +kernel
theorem dX10_back_63 : decode cX10_back 63 = .ok (.iconst 1, 1) := by decide +kernel
theorem dX10_back_64 : decode cX10_back 64 = .ok (.goto 4, 3) := by decide +kernel
theorem dX10_back_67 : decode cX10_back 67 = .ok (.iconst 0, 1) := by decide +kernel
theorem dX10_back_68 : decode cX10_back 68 = .ok (.isub, 1) := by decide +kernel
theorem dX10_back_69 : decode cX10_back 69 = .ok (.putfield 164, 3) := by decide +kernel
theorem dX10_back_72 : decode cX10_back 72 = .ok (.iload_n 2, 1) := by decide +kernel
theorem dX10_back_73 : decode cX10_back 73 = .ok (.iconst 1, 1) := by decide +kernel
theorem dX10_back_74 : decode cX10_back 74 = .ok (.isub, 1) := by decide +kernel
theorem dX10_back_75 : decode cX10_back 75 = .ok (.ireturn, 1) := by decide +kernel
theorem dX10_read_0 : decode cX10_read 0 = .ok (.iload_n 1, 1) := by decide +kernel
theorem dX10_read_1 : decode cX10_read 1 = .ok (.invokestatic 167, 3) := by decide +kernel
theorem dX10_read_4 : decode cX10_read 4 = .ok (.ifCond .ne 6, 3) := by decide +kernel
theorem dX10_read_7 : decode cX10_read 7 = .ok (.bipush (-2), 2) := by decide +kernel
theorem dX10_read_9 : decode cX10_read 9 = .ok (.ireturn, 1) := by decide +kernel
theorem dX10_read_10 : decode cX10_read 10 = .ok (.aload_n 0, 1) := by decide +kernel
theorem dX10_read_11 : decode cX10_read 11 = .ok (.getfield 88, 3) := by decide +kernel
theorem dX10_read_14 : decode cX10_read 14 = .ok (.iload_n 1, 1) := by decide +kernel
theorem dX10_read_15 : decode cX10_read 15 = .ok (.baload, 1) := by decide +kernel
theorem dX10_read_16 : decode cX10_read 16 = .ok (.ifCond .ne 9, 3) := by decide +kernel
theorem dX10_read_19 : decode cX10_read 19 = .ok (.aload_n 0, 1) := by decide +kernel
theorem dX10_read_20 : decode cX10_read 20 = .ok (.iconst 1, 1) := by decide +kernel
theorem dX10_read_21 : decode cX10_read 21 = .ok (.invokevirtual 170, 3) := by decide +kernel
theorem dX10_read_24 : decode cX10_read 24 = .ok (.ireturn, 1) := by decide +kernel
theorem dX10_read_25 : decode cX10_read 25 = .ok (.iconst 0, 1) := by decide +kernel
theorem dX10_read_26 : decode cX10_read 26 = .ok (.istore_n 2, 1) := by decide +kernel
theorem dX10_read_27 : decode cX10_read 27 = .ok (.iconst 3, 1) := by decide +kernel
theorem dX10_read_28 : decode cX10_read 28 = .ok (.iload_n 2, 1) := by decide +kernel
theorem dX10_read_29 : decode cX10_read 29 = .ok (.imul, 1) := by decide +kernel
theorem dX10_read_30 : decode cX10_read 30 = .ok (.iconst 2, 1) := by decide +kernel
theorem dX10_read_31 : decode cX10_read 31 = .ok (.iadd, 1) := by decide +kernel
theorem dX10_read_32 : decode cX10_read 32 = .ok (.aload_n 0, 1) := by decide +kernel
theorem dX10_read_33 : decode cX10_read 33 = .ok (.getfield 95, 3) := by decide +kernel
theorem dX10_read_36 : decode cX10_read 36 = .ok (.iload_n 1, 1) := by decide +kernel
theorem dX10_read_37 : decode cX10_read 37 = .ok (.iaload, 1) := by decide +kernel
theorem dX10_read_38 : decode cX10_read 38 = .ok (.if_icmp .ge 59, 3) := by decide +kernel
theorem dX10_read_41 : decode cX10_read 41 = .ok (.aload_n 0, 1) := by decide +kernel
theorem dX10_read_42 : decode cX10_read 42 = .ok (.aload_n 0, 1) := by decide +kernel
theorem dX10_read_43 : decode cX10_read 43 = .ok (.getfield 98, 3) := by decide +kernel
theorem dX10_read_46 : decode cX10_read 46 = .ok (.bipush 60, 2) := by decide +kernel
theorem dX10_read_48 : decode cX10_read 48 = .ok (.iload_n 1, 1) := by decide +kernel
theorem dX10_read_49 : decode cX10_read 49 = .ok (.imul, 1) := by decide +kernel
theorem dX10_read_50 : decode cX10_read 50 = .ok (.iconst 3, 1) := by decide +kernel
theorem dX10_read_51 : decode cX10_read 51 = .ok (.iload_n 2, 1) := by decide +kernel
theorem dX10_read_52 : decode cX10_read 52 = .ok (.imul, 1) := by decide +kernel
theorem dX10_read_53 : decode cX10_read 53 = .ok (.iadd, 1) := by decide +kernel
theorem dX10_read_54 : decode cX10_read 54 = .ok (.iaload, 1) := by decide +kernel
theorem dX10_read_55 : decode cX10_read 55 = .ok (.aload_n 0, 1) := by decide +kernel
theorem dX10_read_56 : decode cX10_read 56 = .ok (.getfield 98, 3) := by decide +kernel
theorem dX10_read_59 : decode cX10_read 59 = .ok (.bipush 60, 2) := by decide +kernel
theorem dX10_read_61 : decode cX10_read 61 = .ok (.iload_n 1, 1) := by decide +kernel
theorem dX10_read_62 : decode cX10_read 62 = .ok (.imul, 1) := by decide +kernel
theorem dX10_read_63 : decode cX10_read 63 = .ok (.iconst 3, 1) := by decide +kernel
theorem dX10_read_64 : decode cX10_read 64 = .ok (.iload_n 2, 1) := by decide +kernel
theorem dX10_read_65 : decode cX10_read 65 = .ok (.imul, 1) := by decide +kernel
theorem dX10_read_66 : decode cX10_read 66 = .ok (.iadd, 1) := by decide +kernel
theorem dX10_read_67 : decode cX10_read 67 = .ok (.iconst 1, 1) := by decide +kernel
theorem dX10_read_68 : decode cX10_read 68 = .ok (.iadd, 1) := by decide +kernel
theorem dX10_read_69 : decode cX10_read 69 = .ok (.iaload, 1) := by decide +kernel
theorem dX10_read_70 : decode cX10_read 70 = .ok (.aload_n 0, 1) := by decide +kernel
theorem dX10_read_71 : decode cX10_read 71 = .ok (.getfield 98, 3) := by decide +kernel
theorem dX10_read_74 : decode cX10_read 74 = .ok (.bipush 60, 2) := by decide +kernel
theorem dX10_read_76 : decode cX10_read 76 = .ok (.iload_n 1, 1) := by decide +kernel
theorem dX10_read_77 : decode cX10_read 77 = .ok (.imul, 1) := by decide +kernel
theorem dX10_read_78 : decode cX10_read 78 = .ok (.iconst 3, 1) := by decide +kernel
theorem dX10_read_79 : decode cX10_read 79 = .ok (.iload_n 2, 1) := by decide +kernel
theorem dX10_read_80 : decode cX10_read 80 = .ok (.imul, 1) := by decide +kernel
theorem dX10_read_81 : decode cX10_read 81 = .ok (.iadd, 1) := by decide +kernel
theorem dX10_read_82 : decode cX10_read 82 = .ok (.iconst 2, 1) := by decide +kernel
theorem dX10_read_83 : decode cX10_read 83 = .ok (.iadd, 1) := by decide +kernel
theorem dX10_read_84 : decode cX10_read 84 = .ok (.iaload, 1) := by decide +kernel
theorem dX10_read_85 : decode cX10_read 85 = .ok (.invokevirtual 173, 3) := by decide +kernel
theorem dX10_read_88 : decode cX10_read 88 = .ok (.ifCond .le 9, 3) := by decide +kernel
theorem dX10_read_91 : decode cX10_read 91 = .ok (.iinc 2 1, 3) := by decide +kernel
theorem dX10_read_94 : decode cX10_read 94 = .ok (.goto (-67), 3) := by decide +kernel
theorem dX10_read_97 : decode cX10_read 97 = .ok (.iload_n 2, 1) := by decide +kernel
theorem dX10_read_98 : decode cX10_read 98 = .ok (.ireturn, 1) := by decide +kernel
theorem dX10_isOther_0 : decode cX10_isOther 0 = .ok (.iconst 0, 1) := by decide +kernel
theorem dX10_isOther_1 : decode cX10_isOther 1 = .ok (.istore 4, 2) := by decide +kernel
theorem dX10_isOther_3 : decode cX10_isOther 3 = .ok (.iload 4, 2) := by decide +kernel
theorem dX10_isOther_5 : decode cX10_isOther 5 = .ok (.iconst 3, 1) := by decide +kernel
theorem dX10_isOther_6 : decode cX10_isOther 6 = .ok (.if_icmp .ge 43, 3) := by decide +kernel
theorem dX10_isOther_9 : decode cX10_isOther 9 = .ok (.aload_n 0, 1) := by decide +kernel
theorem dX10_isOther_10 : decode cX10_isOther 10 = .ok (.getfield 22, 3) := by decide +kernel
theorem dX10_isOther_13 : decode cX10_isOther 13 = .ok (.iconst 3, 1) := by decide +kernel
theorem dX10_isOther_14 : decode cX10_isOther 14 = .ok (.iload_n 1, 1) := by decide +kernel
theorem dX10_isOther_15 : decode cX10_isOther 15 = .ok (.imul, 1) := by decide +kernel
theorem dX10_isOther_16 : decode cX10_isOther 16 = .ok (.iload 4, 2) := by decide +kernel
theorem dX10_isOther_18 : decode cX10_isOther 18 = .ok (.iadd, 1) := by decide +kernel
theorem dX10_isOther_19 : decode cX10_isOther 19 = .ok (.iaload, 1) := by decide +kernel
theorem dX10_isOther_20 : decode cX10_isOther 20 = .ok (.iload_n 2, 1) := by decide +kernel
theorem dX10_isOther_21 : decode cX10_isOther 21 = .ok (.if_icmp .ne 5, 3) := by decide +kernel
theorem dX10_isOther_24 : decode cX10_isOther 24 = .ok (.iconst 0, 1) := by decide +kernel
theorem dX10_isOther_25 : decode cX10_isOther 25 = .ok (.ireturn, 1) := by decide +kernel
theorem dX10_isOther_26 : decode cX10_isOther 26 = .ok (.aload_n 0, 1) := by decide +kernel
theorem dX10_isOther_27 : decode cX10_isOther 27 = .ok (.getfield 22, 3) := by decide +kernel
theorem dX10_isOther_30 : decode cX10_isOther 30 = .ok (.iconst 3, 1) := by decide +kernel
theorem dX10_isOther_31 : decode cX10_isOther 31 = .ok (.iload_n 1, 1) := by decide +kernel
theorem dX10_isOther_32 : decode cX10_isOther 32 = .ok (.imul, 1) := by decide +kernel
theorem dX10_isOther_33 : decode cX10_isOther 33 = .ok (.iload 4, 2) := by decide +kernel
theorem dX10_isOther_35 : decode cX10_isOther 35 = .ok (.iadd, 1) := by decide +kernel
theorem dX10_isOther_36 : decode cX10_isOther 36 = .ok (.iaload, 1) := by decide +kernel
theorem dX10_isOther_37 : decode cX10_isOther 37 = .ok (.iload_n 3, 1) := by decide +kernel
theorem dX10_isOther_38 : decode cX10_isOther 38 = .ok (.if_icmp .ne 5, 3) := by decide +kernel
theorem dX10_isOther_41 : decode cX10_isOther 41 = .ok (.iconst 1, 1) := by decide +kernel
theorem dX10_isOther_42 : decode cX10_isOther 42 = .ok (.ireturn, 1) := by decide +kernel
theorem dX10_isOther_43 : decode cX10_isOther 43 = .ok (.iinc 4 1, 3) := by decide +kernel
theorem dX10_isOther_46 : decode cX10_isOther 46 = .ok (.goto (-43), 3) := by decide +kernel
theorem dX10_isOther_49 : decode cX10_isOther 49 = .ok (.iconst 0, 1) := by decide +kernel
theorem dX10_isOther_50 : decode cX10_isOther 50 = .ok (.ireturn, 1) := by decide +kernel
theorem dX10_leansOther_0 : decode cX10_leansOther 0 = .ok (.iconst 0, 1) := by decide +kernel
theorem dX10_leansOther_1 : decode cX10_leansOther 1 = .ok (.istore 4, 2) := by decide +kernel
theorem dX10_leansOther_3 : decode cX10_leansOther 3 = .ok (.iconst 0, 1) := by decide +kernel
theorem dX10_leansOther_4 : decode cX10_leansOther 4 = .ok (.istore 5, 2) := by decide +kernel
theorem dX10_leansOther_6 : decode cX10_leansOther 6 = .ok (.iload 5, 2) := by decide +kernel
theorem dX10_leansOther_8 : decode cX10_leansOther 8 = .ok (.aload_n 0, 1) := by decide +kernel
theorem dX10_leansOther_9 : decode cX10_leansOther 9 = .ok (.getfield 125, 3) := by decide +kernel
theorem dX10_leansOther_12 : decode cX10_leansOther 12 = .ok (.if_icmp .ge 56, 3) := by decide +kernel
theorem dX10_leansOther_15 : decode cX10_leansOther 15 = .ok (.aload_n 0, 1) := by decide +kernel
theorem dX10_leansOther_16 : decode cX10_leansOther 16 = .ok (.getfield 52, 3) := by decide +kernel
theorem dX10_leansOther_19 : decode cX10_leansOther 19 = .ok (.iload_n 1, 1) := by decide +kernel
theorem dX10_leansOther_20 : decode cX10_leansOther 20 = .ok (.iaload, 1) := by decide +kernel
theorem dX10_leansOther_21 : decode cX10_leansOther 21 = .ok (.iconst 2, 1) := by decide +kernel
theorem dX10_leansOther_22 : decode cX10_leansOther 22 = .ok (.if_icmp .ge 46, 3) := by decide +kernel
theorem dX10_leansOther_25 : decode cX10_leansOther 25 = .ok (.aload_n 0, 1) := by decide +kernel
theorem dX10_leansOther_26 : decode cX10_leansOther 26 = .ok (.getfield 49, 3) := by decide +kernel
theorem dX10_leansOther_29 : decode cX10_leansOther 29 = .ok (.iload 5, 2) := by decide +kernel
theorem dX10_leansOther_31 : decode cX10_leansOther 31 = .ok (.iaload, 1) := by decide +kernel
theorem dX10_leansOther_32 : decode cX10_leansOther 32 = .ok (.aload_n 0, 1) := by decide +kernel
theorem dX10_leansOther_33 : decode cX10_leansOther 33 = .ok (.getfield 49, 3) := by decide +kernel
theorem dX10_leansOther_36 : decode cX10_leansOther 36 = .ok (.iload_n 1, 1) := by decide +kernel
theorem dX10_leansOther_37 : decode cX10_leansOther 37 = .ok (.iaload, 1) := by decide +kernel
theorem dX10_leansOther_38 : decode cX10_leansOther 38 = .ok (.if_icmp .ne 24, 3) := by decide +kernel
theorem dX10_leansOther_41 : decode cX10_leansOther 41 = .ok (.iload 4, 2) := by decide +kernel
theorem dX10_leansOther_43 : decode cX10_leansOther 43 = .ok (.aload_n 0, 1) := by decide +kernel
theorem dX10_leansOther_44 : decode cX10_leansOther 44 = .ok (.iload 5, 2) := by decide +kernel
theorem dX10_leansOther_46 : decode cX10_leansOther 46 = .ok (.iload_n 2, 1) := by decide +kernel
theorem dX10_leansOther_47 : decode cX10_leansOther 47 = .ok (.iload_n 3, 1) := by decide +kernel
theorem dX10_leansOther_48 : decode cX10_leansOther 48 = .ok (.invokevirtual 177, 3) := by decide +kernel
theorem dX10_leansOther_51 : decode cX10_leansOther 51 = .ok (.ifCond .eq 7, 3) := by decide +kernel
theorem dX10_leansOther_54 : decode cX10_leansOther 54 = .ok (.iconst 1, 1) := by decide +kernel
theorem dX10_leansOther_55 : decode cX10_leansOther 55 = .ok (.goto 4, 3) := by decide +kernel
theorem dX10_leansOther_58 : decode cX10_leansOther 58 = .ok (.iconst (-1), 1) := by decide +kernel
theorem dX10_leansOther_59 : decode cX10_leansOther 59 = .ok (.iadd, 1) := by decide +kernel
theorem dX10_leansOther_60 : decode cX10_leansOther 60 = .ok (.istore 4, 2) := by decide +kernel
theorem dX10_leansOther_62 : decode cX10_leansOther 62 = .ok (.iinc 5 1, 3) := by decide +kernel
theorem dX10_leansOther_65 : decode cX10_leansOther 65 = .ok (.goto (-59), 3) := by decide +kernel
theorem dX10_leansOther_68 : decode cX10_leansOther 68 = .ok (.iload 4, 2) := by decide +kernel
theorem dX10_leansOther_70 : decode cX10_leansOther 70 = .ok (.ifCond .ne 13, 3) := by decide +kernel
theorem dX10_leansOther_73 : decode cX10_leansOther 73 = .ok (.aload_n 0, 1) := by decide +kernel
theorem dX10_leansOther_74 : decode cX10_leansOther 74 = .ok (.iload_n 1, 1) := by decide +kernel
theorem dX10_leansOther_75 : decode cX10_leansOther 75 = .ok (.iload_n 2, 1) := by decide +kernel
theorem dX10_leansOther_76 : decode cX10_leansOther 76 = .ok (.iload_n 3, 1) := by decide +kernel
theorem dX10_leansOther_77 : decode cX10_leansOther 77 = .ok (.invokevirtual 177, 3) := by decide +kernel
theorem dX10_leansOther_80 : decode cX10_leansOther 80 = .ok (.goto 13, 3) := by decide +kernel
theorem dX10_leansOther_83 : decode cX10_leansOther 83 = .ok (.iload 4, 2) := by decide +kernel
theorem dX10_leansOther_85 : decode cX10_leansOther 85 = .ok (.ifCond .le 7, 3) := by decide +kernel
theorem dX10_leansOther_88 : decode cX10_leansOther 88 = .ok (.iconst 1, 1) := by decide +kernel
theorem dX10_leansOther_89 : decode cX10_leansOther 89 = .ok (.goto 4, 3) := by decide +kernel
theorem dX10_leansOther_92 : decode cX10_leansOther 92 = .ok (.iconst 0, 1) := by decide +kernel
theorem dX10_leansOther_93 : decode cX10_leansOther 93 = .ok (.ireturn, 1) := by decide +kernel
theorem dX10_leans_0 : decode cX10_leans 0 = .ok (.aload_n 0, 1) := by decide +kernel
theorem dX10_leans_1 : decode cX10_leans 1 = .ok (.iconst 0, 1) := by decide +kernel
theorem dX10_leans_2 : decode cX10_leans 2 = .ok (.putfield 180, 3) := by decide +kernel
theorem dX10_leans_5 : decode cX10_leans 5 = .ok (.aload_n 0, 1) := by decide +kernel
theorem dX10_leans_6 : decode cX10_leans 6 = .ok (.iconst (-1), 1) := by decide +kernel
theorem dX10_leans_7 : decode cX10_leans 7 = .ok (.putfield 183, 3) := by decide +kernel
theorem dX10_leans_10 : decode cX10_leans 10 = .ok (.iconst 0, 1) := by decide +kernel
theorem dX10_leans_11 : decode cX10_leans 11 = .ok (.istore_n 3, 1) := by decide +kernel
theorem dX10_leans_12 : decode cX10_leans 12 = .ok (.iload_n 3, 1) := by decide +kernel
theorem dX10_leans_13 : decode cX10_leans 13 = .ok (.aload_n 0, 1) := by decide +kernel
theorem dX10_leans_14 : decode cX10_leans 14 = .ok (.getfield 125, 3) := by decide +kernel
theorem dX10_leans_17 : decode cX10_leans 17 = .ok (.if_icmp .ge 73, 3) := by decide +kernel
theorem dX10_leans_20 : decode cX10_leans 20 = .ok (.aload_n 0, 1) := by decide +kernel
theorem dX10_leans_21 : decode cX10_leans 21 = .ok (.dup, 1) := by decide +kernel
theorem dX10_leans_22 : decode cX10_leans 22 = .ok (.getfield 180, 3) := by decide +kernel
theorem dX10_leans_25 : decode cX10_leans 25 = .ok (.aload_n 0, 1) := by decide +kernel
theorem dX10_leans_26 : decode cX10_leans 26 = .ok (.iload_n 3, 1) := by decide +kernel
theorem dX10_leans_27 : decode cX10_leans 27 = .ok (.iload_n 1, 1) := by decide +kernel
theorem dX10_leans_28 : decode cX10_leans 28 = .ok (.iload_n 2, 1) := by decide +kernel
theorem dX10_leans_29 : decode cX10_leans 29 = .ok (.invokevirtual 186, 3) := by decide +kernel
theorem dX10_leans_32 : decode cX10_leans 32 = .ok (.ifCond .eq 9, 3) := by decide +kernel
theorem dX10_leans_35 : decode cX10_leans 35 = .ok (.iconst 1, 1) := by decide +kernel
theorem dX10_leans_36 : decode cX10_leans 36 = .ok (.iload_n 3, 1) := by decide +kernel
theorem dX10_leans_37 : decode cX10_leans 37 = .ok (.ishl, 1) := by decide +kernel
theorem dX10_leans_38 : decode cX10_leans 38 = .ok (.goto 4, 3) := by decide +kernel
theorem dX10_leans_41 : decode cX10_leans 41 = .ok (.iconst 0, 1) := by decide +kernel
theorem dX10_leans_42 : decode cX10_leans 42 = .ok (.ior, 1) := by decide +kernel
theorem dX10_leans_43 : decode cX10_leans 43 = .ok (.putfield 180, 3) := by decide +kernel
theorem dX10_leans_46 : decode cX10_leans 46 = .ok (.aload_n 0, 1) := by decide +kernel
theorem dX10_leans_47 : decode cX10_leans 47 = .ok (.aload_n 0, 1) := by decide +kernel
theorem dX10_leans_48 : decode cX10_leans 48 = .ok (.getfield 183, 3) := by decide +kernel
theorem dX10_leans_51 : decode cX10_leans 51 = .ok (.iconst (-1), 1) := by decide +kernel
theorem dX10_leans_52 : decode cX10_leans 52 = .ok (.if_icmp .eq 21, 3) := by decide +kernel
theorem dX10_leans_55 : decode cX10_leans 55 = .ok (.aload_n 0, 1) := by decide +kernel
theorem dX10_leans_56 : decode cX10_leans 56 = .ok (.getfield 49, 3) := by decide +kernel
theorem dX10_leans_59 : decode cX10_leans 59 = .ok (.iload_n 3, 1) := by decide +kernel
theorem dX10_leans_60 : decode cX10_leans 60 = .ok (.iaload, 1) := by decide +kernel
theorem dX10_leans_61 : decode cX10_leans 61 = .ok (.aload_n 0, 1) := by decide +kernel
theorem dX10_leans_62 : decode cX10_leans 62 = .ok (.getfield 49, 3) := by decide +kernel
theorem dX10_leans_65 : decode cX10_leans 65 = .ok (.aload_n 0, 1) := by decide +kernel
theorem dX10_leans_66 : decode cX10_leans 66 = .ok (.getfield 183, 3) := by decide +kernel
theorem dX10_leans_69 : decode cX10_leans 69 = .ok (.iaload, 1) := by decide +kernel
theorem dX10_leans_70 : decode cX10_leans 70 = .ok (.if_icmp .ge 7, 3) := by decide +kernel
theorem dX10_leans_73 : decode cX10_leans 73 = .ok (.iload_n 3, 1) := by decide +kernel
theorem dX10_leans_74 : decode cX10_leans 74 = .ok (.goto 7, 3) := by decide +kernel
theorem dX10_leans_77 : decode cX10_leans 77 = .ok (.aload_n 0, 1) := by decide +kernel
theorem dX10_leans_78 : decode cX10_leans 78 = .ok (.getfield 183, 3) := by decide +kernel
theorem dX10_leans_81 : decode cX10_leans 81 = .ok (.putfield 183, 3) := by decide +kernel
theorem dX10_leans_84 : decode cX10_leans 84 = .ok (.iinc 3 1, 3) := by decide +kernel
theorem dX10_leans_87 : decode cX10_leans 87 = .ok (.goto (-75), 3) := by decide +kernel
theorem dX10_leans_90 : decode cX10_leans 90 = .ok (.return_, 1) := by decide +kernel
theorem dX10_carries_0 : decode cX10_carries 0 = .ok (.aload_n 0, 1) := by decide +kernel
theorem dX10_carries_1 : decode cX10_carries 1 = .ok (.getfield 180, 3) := by decide +kernel
theorem dX10_carries_4 : decode cX10_carries 4 = .ok (.iload 4, 2) := by decide +kernel
theorem dX10_carries_6 : decode cX10_carries 6 = .ok (.ixor, 1) := by decide +kernel
theorem dX10_carries_7 : decode cX10_carries 7 = .ok (.istore 5, 2) := by decide +kernel
theorem dX10_carries_9 : decode cX10_carries 9 = .ok (.iconst 0, 1) := by decide +kernel
theorem dX10_carries_10 : decode cX10_carries 10 = .ok (.istore 6, 2) := by decide +kernel
theorem dX10_carries_12 : decode cX10_carries 12 = .ok (.iconst 0, 1) := by decide +kernel
theorem dX10_carries_13 : decode cX10_carries 13 = .ok (.istore 7, 2) := by decide +kernel
theorem dX10_carries_15 : decode cX10_carries 15 = .ok (.iload 7, 2) := by decide +kernel
theorem dX10_carries_17 : decode cX10_carries 17 = .ok (.aload_n 0, 1) := by decide +kernel
theorem dX10_carries_18 : decode cX10_carries 18 = .ok (.getfield 125, 3) := by decide +kernel
theorem dX10_carries_21 : decode cX10_carries 21 = .ok (.if_icmp .ge 55, 3) := by decide +kernel
theorem dX10_carries_24 : decode cX10_carries 24 = .ok (.iload_n 3, 1) := by decide +kernel
theorem dX10_carries_25 : decode cX10_carries 25 = .ok (.iconst 1, 1) := by decide +kernel
theorem dX10_carries_26 : decode cX10_carries 26 = .ok (.if_icmp .ne 7, 3) := by decide +kernel
theorem dX10_carries_29 : decode cX10_carries 29 = .ok (.iconst 1, 1) := by decide +kernel
theorem dX10_carries_30 : decode cX10_carries 30 = .ok (.goto 15, 3) := by decide +kernel
theorem dX10_carries_33 : decode cX10_carries 33 = .ok (.aload_n 0, 1) := by decide +kernel
theorem dX10_carries_34 : decode cX10_carries 34 = .ok (.getfield 34, 3) := by decide +kernel
theorem dX10_carries_37 : decode cX10_carries 37 = .ok (.aload_n 0, 1) := by decide +kernel
theorem dX10_carries_38 : decode cX10_carries 38 = .ok (.getfield 16, 3) := by decide +kernel
theorem dX10_carries_41 : decode cX10_carries 41 = .ok (.iload 7, 2) := by decide +kernel
theorem dX10_carries_43 : decode cX10_carries 43 = .ok (.iaload, 1) := by decide +kernel
theorem dX10_carries_44 : decode cX10_carries 44 = .ok (.iaload, 1) := by decide +kernel
theorem dX10_carries_45 : decode cX10_carries 45 = .ok (.istore 8, 2) := by decide +kernel
theorem dX10_carries_47 : decode cX10_carries 47 = .ok (.iload 6, 2) := by decide +kernel
theorem dX10_carries_49 : decode cX10_carries 49 = .ok (.iload 5, 2) := by decide +kernel
theorem dX10_carries_51 : decode cX10_carries 51 = .ok (.iload 7, 2) := by decide +kernel
theorem dX10_carries_53 : decode cX10_carries 53 = .ok (.invokestatic 121, 3) := by decide +kernel
theorem dX10_carries_56 : decode cX10_carries 56 = .ok (.ifCond .eq 8, 3) := by decide +kernel
theorem dX10_carries_59 : decode cX10_carries 59 = .ok (.iload 8, 2) := by decide +kernel
theorem dX10_carries_61 : decode cX10_carries 61 = .ok (.goto 6, 3) := by decide +kernel
theorem dX10_carries_64 : decode cX10_carries 64 = .ok (.iload 8, 2) := by decide +kernel
theorem dX10_carries_66 : decode cX10_carries 66 = .ok (.ineg, 1) := by decide +kernel
theorem dX10_carries_67 : decode cX10_carries 67 = .ok (.iadd, 1) := by decide +kernel
theorem dX10_carries_68 : decode cX10_carries 68 = .ok (.istore 6, 2) := by decide +kernel
theorem dX10_carries_70 : decode cX10_carries 70 = .ok (.iinc 7 1, 3) := by decide +kernel
theorem dX10_carries_73 : decode cX10_carries 73 = .ok (.goto (-58), 3) := by decide +kernel
theorem dX10_carries_76 : decode cX10_carries 76 = .ok (.aload_n 0, 1) := by decide +kernel
theorem dX10_carries_77 : decode cX10_carries 77 = .ok (.iload 6, 2) := by decide +kernel
theorem dX10_carries_79 : decode cX10_carries 79 = .ok (.ifCond .ge 9, 3) := by decide +kernel
theorem dX10_carries_82 : decode cX10_carries 82 = .ok (.iload 6, 2) := by decide +kernel
theorem dX10_carries_84 : decode cX10_carries 84 = .ok (.ineg, 1) := by decide +kernel
theorem dX10_carries_85 : decode cX10_carries 85 = .ok (.goto 5, 3) := by decide +kernel
theorem dX10_carries_88 : decode cX10_carries 88 = .ok (.iload 6, 2) := by decide +kernel
theorem dX10_carries_90 : decode cX10_carries 90 = .ok (.putfield 189, 3) := by decide +kernel
theorem dX10_carries_93 : decode cX10_carries 93 = .ok (.aload_n 0, 1) := by decide +kernel
theorem dX10_carries_94 : decode cX10_carries 94 = .ok (.getfield 125, 3) := by decide +kernel
theorem dX10_carries_97 : decode cX10_carries 97 = .ok (.ifCond .ne 7, 3) := by decide +kernel
theorem dX10_carries_100 : decode cX10_carries 100 = .ok (.iconst (-1), 1) := by decide +kernel
theorem dX10_carries_101 : decode cX10_carries 101 = .ok (.goto 30, 3) := by decide +kernel
theorem dX10_carries_104 : decode cX10_carries 104 = .ok (.iload 6, 2) := by decide +kernel
theorem dX10_carries_106 : decode cX10_carries 106 = .ok (.ifCond .gt 20, 3) := by decide +kernel
theorem dX10_carries_109 : decode cX10_carries 109 = .ok (.iload 6, 2) := by decide +kernel
theorem dX10_carries_111 : decode cX10_carries 111 = .ok (.ifCond .ne 19, 3) := by decide +kernel
theorem dX10_carries_114 : decode cX10_carries 114 = .ok (.iload 5, 2) := by decide +kernel
theorem dX10_carries_116 : decode cX10_carries 116 = .ok (.aload_n 0, 1) := by decide +kernel
theorem dX10_carries_117 : decode cX10_carries 117 = .ok (.getfield 183, 3) := by decide +kernel
theorem dX10_carries_120 : decode cX10_carries 120 = .ok (.invokestatic 121, 3) := by decide +kernel
theorem dX10_carries_123 : decode cX10_carries 123 = .ok (.ifCond .eq 7, 3) := by decide +kernel
theorem dX10_carries_126 : decode cX10_carries 126 = .ok (.iload_n 2, 1) := by decide +kernel
theorem dX10_carries_127 : decode cX10_carries 127 = .ok (.goto 4, 3) := by decide +kernel
theorem dX10_carries_130 : decode cX10_carries 130 = .ok (.iload_n 1, 1) := by decide +kernel
theorem dX10_carries_131 : decode cX10_carries 131 = .ok (.ireturn, 1) := by decide +kernel
theorem dX10_asTold_0 : decode cX10_asTold 0 = .ok (.aload_n 0, 1) := by decide +kernel
theorem dX10_asTold_1 : decode cX10_asTold 1 = .ok (.invokevirtual 146, 3) := by decide +kernel
theorem dX10_asTold_4 : decode cX10_asTold 4 = .ok (.aload_n 0, 1) := by decide +kernel
theorem dX10_asTold_5 : decode cX10_asTold 5 = .ok (.iconst 0, 1) := by decide +kernel
theorem dX10_asTold_6 : decode cX10_asTold 6 = .ok (.putfield 192, 3) := by decide +kernel
theorem dX10_asTold_9 : decode cX10_asTold 9 = .ok (.aload_n 0, 1) := by decide +kernel
theorem dX10_asTold_10 : decode cX10_asTold 10 = .ok (.iconst (-1), 1) := by decide +kernel
theorem dX10_asTold_11 : decode cX10_asTold 11 = .ok (.putfield 195, 3) := by decide +kernel
theorem dX10_asTold_14 : decode cX10_asTold 14 = .ok (.aload_n 0, 1) := by decide +kernel
theorem dX10_asTold_15 : decode cX10_asTold 15 = .ok (.iconst 0, 1) := by decide +kernel
theorem dX10_asTold_16 : decode cX10_asTold 16 = .ok (.putfield 198, 3) := by decide +kernel
theorem dX10_asTold_19 : decode cX10_asTold 19 = .ok (.aload_n 0, 1) := by decide +kernel
theorem dX10_asTold_20 : decode cX10_asTold 20 = .ok (.iconst 0, 1) := by decide +kernel
theorem dX10_asTold_21 : decode cX10_asTold 21 = .ok (.putfield 201, 3) := by decide +kernel
theorem dX10_asTold_24 : decode cX10_asTold 24 = .ok (.iconst 0, 1) := by decide +kernel
theorem dX10_asTold_25 : decode cX10_asTold 25 = .ok (.istore_n 1, 1) := by decide +kernel
theorem dX10_asTold_26 : decode cX10_asTold 26 = .ok (.iload_n 1, 1) := by decide +kernel
theorem dX10_asTold_27 : decode cX10_asTold 27 = .ok (.aload_n 0, 1) := by decide +kernel
theorem dX10_asTold_28 : decode cX10_asTold 28 = .ok (.getfield 164, 3) := by decide +kernel
theorem dX10_asTold_31 : decode cX10_asTold 31 = .ok (.if_icmp .ge 26, 3) := by decide +kernel
theorem dX10_asTold_34 : decode cX10_asTold 34 = .ok (.aload_n 0, 1) := by decide +kernel
theorem dX10_asTold_35 : decode cX10_asTold 35 = .ok (.dup, 1) := by decide +kernel
theorem dX10_asTold_36 : decode cX10_asTold 36 = .ok (.getfield 201, 3) := by decide +kernel
theorem dX10_asTold_39 : decode cX10_asTold 39 = .ok (.iconst 1, 1) := by decide +kernel
theorem dX10_asTold_40 : decode cX10_asTold 40 = .ok (.aload_n 0, 1) := by decide +kernel
theorem dX10_asTold_41 : decode cX10_asTold 41 = .ok (.getfield 46, 3) := by decide +kernel
theorem dX10_asTold_44 : decode cX10_asTold 44 = .ok (.iload_n 1, 1) := by decide +kernel
theorem dX10_asTold_45 : decode cX10_asTold 45 = .ok (.iaload, 1) := by decide +kernel
theorem dX10_asTold_46 : decode cX10_asTold 46 = .ok (.ishl, 1) := by decide +kernel
theorem dX10_asTold_47 : decode cX10_asTold 47 = .ok (.ior, 1) := by decide +kernel
theorem dX10_asTold_48 : decode cX10_asTold 48 = .ok (.putfield 201, 3) := by decide +kernel
theorem dX10_asTold_51 : decode cX10_asTold 51 = .ok (.iinc 1 1, 3) := by decide +kernel
theorem dX10_asTold_54 : decode cX10_asTold 54 = .ok (.goto (-28), 3) := by decide +kernel
theorem dX10_asTold_57 : decode cX10_asTold 57 = .ok (.return_, 1) := by decide +kernel
theorem dX10_laysOut_0 : decode cX10_laysOut 0 = .ok (.iconst 0, 1) := by decide +kernel
theorem dX10_laysOut_1 : decode cX10_laysOut 1 = .ok (.istore_n 2, 1) := by decide +kernel
theorem dX10_laysOut_2 : decode cX10_laysOut 2 = .ok (.iload_n 2, 1) := by decide +kernel
theorem dX10_laysOut_3 : decode cX10_laysOut 3 = .ok (.aload_n 0, 1) := by decide +kernel
theorem dX10_laysOut_4 : decode cX10_laysOut 4 = .ok (.getfield 125, 3) := by decide +kernel
theorem dX10_laysOut_7 : decode cX10_laysOut 7 = .ok (.if_icmp .ge 144, 3) := by decide +kernel
theorem dX10_laysOut_10 : decode cX10_laysOut 10 = .ok (.iconst 0, 1) := by decide +kernel
theorem dX10_laysOut_11 : decode cX10_laysOut 11 = .ok (.istore_n 3, 1) := by decide +kernel
theorem dX10_laysOut_12 : decode cX10_laysOut 12 = .ok (.iload_n 3, 1) := by decide +kernel
theorem dX10_laysOut_13 : decode cX10_laysOut 13 = .ok (.aload_n 0, 1) := by decide +kernel
theorem dX10_laysOut_14 : decode cX10_laysOut 14 = .ok (.getfield 161, 3) := by decide +kernel
theorem dX10_laysOut_17 : decode cX10_laysOut 17 = .ok (.if_icmp .ge 52, 3) := by decide +kernel
theorem dX10_laysOut_20 : decode cX10_laysOut 20 = .ok (.aload_n 0, 1) := by decide +kernel
theorem dX10_laysOut_21 : decode cX10_laysOut 21 = .ok (.getfield 37, 3) := by decide +kernel
theorem dX10_laysOut_24 : decode cX10_laysOut 24 = .ok (.iload_n 3, 1) := by decide +kernel
theorem dX10_laysOut_25 : decode cX10_laysOut 25 = .ok (.iaload, 1) := by decide +kernel
theorem dX10_laysOut_26 : decode cX10_laysOut 26 = .ok (.iload_n 1, 1) := by decide +kernel
theorem dX10_laysOut_27 : decode cX10_laysOut 27 = .ok (.if_icmp .ne 36, 3) := by decide +kernel
theorem dX10_laysOut_30 : decode cX10_laysOut 30 = .ok (.aload_n 0, 1) := by decide +kernel
theorem dX10_laysOut_31 : decode cX10_laysOut 31 = .ok (.getfield 40, 3) := by decide +kernel
theorem dX10_laysOut_34 : decode cX10_laysOut 34 = .ok (.iload_n 3, 1) := by decide +kernel
theorem dX10_laysOut_35 : decode cX10_laysOut 35 = .ok (.iaload, 1) := by decide +kernel
theorem dX10_laysOut_36 : decode cX10_laysOut 36 = .ok (.iload_n 2, 1) := by decide +kernel
theorem dX10_laysOut_37 : decode cX10_laysOut 37 = .ok (.if_icmp .ne 26, 3) := by decide +kernel
theorem dX10_laysOut_40 : decode cX10_laysOut 40 = .ok (.aload_n 0, 1) := by decide +kernel
theorem dX10_laysOut_41 : decode cX10_laysOut 41 = .ok (.getfield 192, 3) := by decide +kernel
theorem dX10_laysOut_44 : decode cX10_laysOut 44 = .ok (.iload_n 3, 1) := by decide +kernel
theorem dX10_laysOut_45 : decode cX10_laysOut 45 = .ok (.invokestatic 121, 3) := by decide +kernel
theorem dX10_laysOut_48 : decode cX10_laysOut 48 = .ok (.ifCond .ne 15, 3) := by decide +kernel
theorem dX10_laysOut_51 : decode cX10_laysOut 51 = .ok (.aload_n 0, 1) := by decide +kernel
theorem dX10_laysOut_52 : decode cX10_laysOut 52 = .ok (.getfield 49, 3) := by decide +kernel
theorem dX10_laysOut_55 : decode cX10_laysOut 55 = .ok (.iload_n 2, 1) := by decide +kernel
theorem dX10_laysOut_56 : decode cX10_laysOut 56 = .ok (.aload_n 0, 1) := by decide +kernel
theorem dX10_laysOut_57 : decode cX10_laysOut 57 = .ok (.getfield 43, 3) := by decide +kernel
theorem dX10_laysOut_60 : decode cX10_laysOut 60 = .ok (.iload_n 3, 1) := by decide +kernel
theorem dX10_laysOut_61 : decode cX10_laysOut 61 = .ok (.iaload, 1) := by decide +kernel
theorem dX10_laysOut_62 : decode cX10_laysOut 62 = .ok (.iastore, 1) := by decide +kernel
theorem dX10_laysOut_63 : decode cX10_laysOut 63 = .ok (.iinc 3 1, 3) := by decide +kernel
theorem dX10_laysOut_66 : decode cX10_laysOut 66 = .ok (.goto (-54), 3) := by decide +kernel
theorem dX10_laysOut_69 : decode cX10_laysOut 69 = .ok (.aload_n 0, 1) := by decide +kernel
theorem dX10_laysOut_70 : decode cX10_laysOut 70 = .ok (.getfield 49, 3) := by decide +kernel
theorem dX10_laysOut_73 : decode cX10_laysOut 73 = .ok (.iload_n 2, 1) := by decide +kernel
theorem dX10_laysOut_74 : decode cX10_laysOut 74 = .ok (.aload_n 0, 1) := by decide +kernel
theorem dX10_laysOut_75 : decode cX10_laysOut 75 = .ok (.getfield 195, 3) := by decide +kernel
theorem dX10_laysOut_78 : decode cX10_laysOut 78 = .ok (.iload_n 1, 1) := by decide +kernel
theorem dX10_laysOut_79 : decode cX10_laysOut 79 = .ok (.if_icmp .ne 18, 3) := by decide +kernel
theorem dX10_laysOut_82 : decode cX10_laysOut 82 = .ok (.aload_n 0, 1) := by decide +kernel
theorem dX10_laysOut_83 : decode cX10_laysOut 83 = .ok (.getfield 198, 3) := by decide +kernel
theorem dX10_laysOut_86 : decode cX10_laysOut 86 = .ok (.iload_n 2, 1) := by decide +kernel
theorem dX10_laysOut_87 : decode cX10_laysOut 87 = .ok (.invokestatic 121, 3) := by decide +kernel
theorem dX10_laysOut_90 : decode cX10_laysOut 90 = .ok (.ifCond .eq 7, 3) := by decide +kernel
theorem dX10_laysOut_93 : decode cX10_laysOut 93 = .ok (.iconst 0, 1) := by decide +kernel
theorem dX10_laysOut_94 : decode cX10_laysOut 94 = .ok (.goto 9, 3) := by decide +kernel
theorem dX10_laysOut_97 : decode cX10_laysOut 97 = .ok (.aload_n 0, 1) := by decide +kernel
theorem dX10_laysOut_98 : decode cX10_laysOut 98 = .ok (.getfield 49, 3) := by decide +kernel
theorem dX10_laysOut_101 : decode cX10_laysOut 101 = .ok (.iload_n 2, 1) := by decide +kernel
theorem dX10_laysOut_102 : decode cX10_laysOut 102 = .ok (.iaload, 1) := by decide +kernel
theorem dX10_laysOut_103 : decode cX10_laysOut 103 = .ok (.iastore, 1) := by decide +kernel
theorem dX10_laysOut_104 : decode cX10_laysOut 104 = .ok (.iconst 5, 1) := by decide +kernel
theorem dX10_laysOut_105 : decode cX10_laysOut 105 = .ok (.aload_n 0, 1) := by decide +kernel
theorem dX10_laysOut_106 : decode cX10_laysOut 106 = .ok (.getfield 49, 3) := by decide +kernel
theorem dX10_laysOut_109 : decode cX10_laysOut 109 = .ok (.iload_n 2, 1) := by decide +kernel
theorem dX10_laysOut_110 : decode cX10_laysOut 110 = .ok (.iaload, 1) := by decide +kernel
theorem dX10_laysOut_111 : decode cX10_laysOut 111 = .ok (.isub, 1) := by decide +kernel
theorem dX10_laysOut_112 : decode cX10_laysOut 112 = .ok (.aload_n 0, 1) := by decide +kernel
theorem dX10_laysOut_113 : decode cX10_laysOut 113 = .ok (.getfield 201, 3) := by decide +kernel
theorem dX10_laysOut_116 : decode cX10_laysOut 116 = .ok (.iload_n 1, 1) := by decide +kernel
theorem dX10_laysOut_117 : decode cX10_laysOut 117 = .ok (.invokestatic 121, 3) := by decide +kernel
theorem dX10_laysOut_120 : decode cX10_laysOut 120 = .ok (.ifCond .eq 7, 3) := by decide +kernel
theorem dX10_laysOut_123 : decode cX10_laysOut 123 = .ok (.iconst 3, 1) := by decide +kernel
theorem dX10_laysOut_124 : decode cX10_laysOut 124 = .ok (.goto 4, 3) := by decide +kernel
theorem dX10_laysOut_127 : decode cX10_laysOut 127 = .ok (.iconst 0, 1) := by decide +kernel
theorem dX10_laysOut_128 : decode cX10_laysOut 128 = .ok (.isub, 1) := by decide +kernel
theorem dX10_laysOut_129 : decode cX10_laysOut 129 = .ok (.istore_n 3, 1) := by decide +kernel
theorem dX10_laysOut_130 : decode cX10_laysOut 130 = .ok (.aload_n 0, 1) := by decide +kernel
theorem dX10_laysOut_131 : decode cX10_laysOut 131 = .ok (.getfield 52, 3) := by decide +kernel
theorem dX10_laysOut_134 : decode cX10_laysOut 134 = .ok (.iload_n 2, 1) := by decide +kernel
theorem dX10_laysOut_135 : decode cX10_laysOut 135 = .ok (.iload_n 3, 1) := by decide +kernel
theorem dX10_laysOut_136 : decode cX10_laysOut 136 = .ok (.ifCond .le 7, 3) := by decide +kernel
theorem dX10_laysOut_139 : decode cX10_laysOut 139 = .ok (.iload_n 3, 1) := by decide +kernel
theorem dX10_laysOut_140 : decode cX10_laysOut 140 = .ok (.goto 4, 3) := by decide +kernel
theorem dX10_laysOut_143 : decode cX10_laysOut 143 = .ok (.iconst 0, 1) := by decide +kernel
theorem dX10_laysOut_144 : decode cX10_laysOut 144 = .ok (.iastore, 1) := by decide +kernel
theorem dX10_laysOut_145 : decode cX10_laysOut 145 = .ok (.iinc 2 1, 3) := by decide +kernel
theorem dX10_laysOut_148 : decode cX10_laysOut 148 = .ok (.goto (-146), 3) := by decide +kernel
theorem dX10_laysOut_151 : decode cX10_laysOut 151 = .ok (.return_, 1) := by decide +kernel
theorem dX10_runs_0 : decode cX10_runs 0 = .ok (.iconst 0, 1) := by decide +kernel
theorem dX10_runs_1 : decode cX10_runs 1 = .ok (.istore_n 1, 1) := by decide +kernel
theorem dX10_runs_2 : decode cX10_runs 2 = .ok (.iload_n 1, 1) := by decide +kernel
theorem dX10_runs_3 : decode cX10_runs 3 = .ok (.aload_n 0, 1) := by decide +kernel
theorem dX10_runs_4 : decode cX10_runs 4 = .ok (.getfield 125, 3) := by decide +kernel
theorem dX10_runs_7 : decode cX10_runs 7 = .ok (.if_icmp .ge 21, 3) := by decide +kernel
theorem dX10_runs_10 : decode cX10_runs 10 = .ok (.aload_n 0, 1) := by decide +kernel
theorem dX10_runs_11 : decode cX10_runs 11 = .ok (.getfield 49, 3) := by decide +kernel
theorem dX10_runs_14 : decode cX10_runs 14 = .ok (.iload_n 1, 1) := by decide +kernel
theorem dX10_runs_15 : decode cX10_runs 15 = .ok (.aload_n 0, 1) := by decide +kernel
theorem dX10_runs_16 : decode cX10_runs 16 = .ok (.getfield 19, 3) := by decide +kernel
theorem dX10_runs_19 : decode cX10_runs 19 = .ok (.iload_n 1, 1) := by decide +kernel
theorem dX10_runs_20 : decode cX10_runs 20 = .ok (.iaload, 1) := by decide +kernel
theorem dX10_runs_21 : decode cX10_runs 21 = .ok (.iastore, 1) := by decide +kernel
theorem dX10_runs_22 : decode cX10_runs 22 = .ok (.iinc 1 1, 3) := by decide +kernel
theorem dX10_runs_25 : decode cX10_runs 25 = .ok (.goto (-23), 3) := by decide +kernel
theorem dX10_runs_28 : decode cX10_runs 28 = .ok (.iconst 0, 1) := by decide +kernel
theorem dX10_runs_29 : decode cX10_runs 29 = .ok (.istore_n 1, 1) := by decide +kernel
theorem dX10_runs_30 : decode cX10_runs 30 = .ok (.iload_n 1, 1) := by decide +kernel
theorem dX10_runs_31 : decode cX10_runs 31 = .ok (.bipush 10, 2) := by decide +kernel
theorem dX10_runs_33 : decode cX10_runs 33 = .ok (.if_icmp .ge 154, 3) := by decide +kernel
theorem dX10_runs_36 : decode cX10_runs 36 = .ok (.aload_n 0, 1) := by decide +kernel
theorem dX10_runs_37 : decode cX10_runs 37 = .ok (.iload_n 1, 1) := by decide +kernel
theorem dX10_runs_38 : decode cX10_runs 38 = .ok (.invokevirtual 204, 3) := by decide +kernel
theorem dX10_runs_41 : decode cX10_runs 41 = .ok (.iconst 0, 1) := by decide +kernel
theorem dX10_runs_42 : decode cX10_runs 42 = .ok (.istore_n 2, 1) := by decide +kernel
theorem dX10_runs_43 : decode cX10_runs 43 = .ok (.iload_n 2, 1) := by decide +kernel
theorem dX10_runs_44 : decode cX10_runs 44 = .ok (.aload_n 0, 1) := by decide +kernel
theorem dX10_runs_45 : decode cX10_runs 45 = .ok (.getfield 125, 3) := by decide +kernel
theorem dX10_runs_48 : decode cX10_runs 48 = .ok (.if_icmp .ge 43, 3) := by decide +kernel
theorem dX10_runs_51 : decode cX10_runs 51 = .ok (.aload_n 0, 1) := by decide +kernel
theorem dX10_runs_52 : decode cX10_runs 52 = .ok (.getfield 55, 3) := by decide +kernel
theorem dX10_runs_55 : decode cX10_runs 55 = .ok (.bipush 8, 2) := by decide +kernel
theorem dX10_runs_57 : decode cX10_runs 57 = .ok (.iload_n 1, 1) := by decide +kernel
theorem dX10_runs_58 : decode cX10_runs 58 = .ok (.imul, 1) := by decide +kernel
theorem dX10_runs_59 : decode cX10_runs 59 = .ok (.iload_n 2, 1) := by decide +kernel
theorem dX10_runs_60 : decode cX10_runs 60 = .ok (.iadd, 1) := by decide +kernel
theorem dX10_runs_61 : decode cX10_runs 61 = .ok (.aload_n 0, 1) := by decide +kernel
theorem dX10_runs_62 : decode cX10_runs 62 = .ok (.getfield 49, 3) := by decide +kernel
theorem dX10_runs_65 : decode cX10_runs 65 = .ok (.iload_n 2, 1) := by decide +kernel
theorem dX10_runs_66 : decode cX10_runs 66 = .ok (.iaload, 1) := by decide +kernel
theorem dX10_runs_67 : decode cX10_runs 67 = .ok (.iastore, 1) := by decide +kernel
theorem dX10_runs_68 : decode cX10_runs 68 = .ok (.aload_n 0, 1) := by decide +kernel
theorem dX10_runs_69 : decode cX10_runs 69 = .ok (.getfield 58, 3) := by decide +kernel
theorem dX10_runs_72 : decode cX10_runs 72 = .ok (.bipush 8, 2) := by decide +kernel
theorem dX10_runs_74 : decode cX10_runs 74 = .ok (.iload_n 1, 1) := by decide +kernel
theorem dX10_runs_75 : decode cX10_runs 75 = .ok (.imul, 1) := by decide +kernel
theorem dX10_runs_76 : decode cX10_runs 76 = .ok (.iload_n 2, 1) := by decide +kernel
theorem dX10_runs_77 : decode cX10_runs 77 = .ok (.iadd, 1) := by decide +kernel
theorem dX10_runs_78 : decode cX10_runs 78 = .ok (.aload_n 0, 1) := by decide +kernel
theorem dX10_runs_79 : decode cX10_runs 79 = .ok (.getfield 52, 3) := by decide +kernel
theorem dX10_runs_82 : decode cX10_runs 82 = .ok (.iload_n 2, 1) := by decide +kernel
theorem dX10_runs_83 : decode cX10_runs 83 = .ok (.iaload, 1) := by decide +kernel
theorem dX10_runs_84 : decode cX10_runs 84 = .ok (.iastore, 1) := by decide +kernel
theorem dX10_runs_85 : decode cX10_runs 85 = .ok (.iinc 2 1, 3) := by decide +kernel
theorem dX10_runs_88 : decode cX10_runs 88 = .ok (.goto (-45), 3) := by decide +kernel
theorem dX10_runs_91 : decode cX10_runs 91 = .ok (.aload_n 0, 1) := by decide +kernel
theorem dX10_runs_92 : decode cX10_runs 92 = .ok (.getfield 70, 3) := by decide +kernel
theorem dX10_runs_95 : decode cX10_runs 95 = .ok (.iload_n 1, 1) := by decide +kernel
theorem dX10_runs_96 : decode cX10_runs 96 = .ok (.iconst (-1), 1) := by decide +kernel
theorem dX10_runs_97 : decode cX10_runs 97 = .ok (.iastore, 1) := by decide +kernel
theorem dX10_runs_98 : decode cX10_runs 98 = .ok (.iload_n 1, 1) := by decide +kernel
theorem dX10_runs_99 : decode cX10_runs 99 = .ok (.aload_n 0, 1) := by decide +kernel
theorem dX10_runs_100 : decode cX10_runs 100 = .ok (.getfield 132, 3) := by decide +kernel
theorem dX10_runs_103 : decode cX10_runs 103 = .ok (.if_icmp .ge 78, 3) := by decide +kernel
theorem dX10_runs_106 : decode cX10_runs 106 = .ok (.aload_n 0, 1) := by decide +kernel
theorem dX10_runs_107 : decode cX10_runs 107 = .ok (.aload_n 0, 1) := by decide +kernel
theorem dX10_runs_108 : decode cX10_runs 108 = .ok (.getfield 25, 3) := by decide +kernel
theorem dX10_runs_111 : decode cX10_runs 111 = .ok (.iload_n 1, 1) := by decide +kernel
theorem dX10_runs_112 : decode cX10_runs 112 = .ok (.iaload, 1) := by decide +kernel
theorem dX10_runs_113 : decode cX10_runs 113 = .ok (.aload_n 0, 1) := by decide +kernel
theorem dX10_runs_114 : decode cX10_runs 114 = .ok (.getfield 28, 3) := by decide +kernel
theorem dX10_runs_117 : decode cX10_runs 117 = .ok (.iload_n 1, 1) := by decide +kernel
theorem dX10_runs_118 : decode cX10_runs 118 = .ok (.iaload, 1) := by decide +kernel
theorem dX10_runs_119 : decode cX10_runs 119 = .ok (.invokevirtual 208, 3) := by decide +kernel
theorem dX10_runs_122 : decode cX10_runs 122 = .ok (.aload_n 0, 1) := by decide +kernel
theorem dX10_runs_123 : decode cX10_runs 123 = .ok (.getfield 70, 3) := by decide +kernel
theorem dX10_runs_126 : decode cX10_runs 126 = .ok (.iload_n 1, 1) := by decide +kernel
theorem dX10_runs_127 : decode cX10_runs 127 = .ok (.aload_n 0, 1) := by decide +kernel
theorem dX10_runs_128 : decode cX10_runs 128 = .ok (.aload_n 0, 1) := by decide +kernel
theorem dX10_runs_129 : decode cX10_runs 129 = .ok (.getfield 25, 3) := by decide +kernel
theorem dX10_runs_132 : decode cX10_runs 132 = .ok (.iload_n 1, 1) := by decide +kernel
theorem dX10_runs_133 : decode cX10_runs 133 = .ok (.iaload, 1) := by decide +kernel
theorem dX10_runs_134 : decode cX10_runs 134 = .ok (.aload_n 0, 1) := by decide +kernel
theorem dX10_runs_135 : decode cX10_runs 135 = .ok (.getfield 28, 3) := by decide +kernel
theorem dX10_runs_138 : decode cX10_runs 138 = .ok (.iload_n 1, 1) := by decide +kernel
theorem dX10_runs_139 : decode cX10_runs 139 = .ok (.iaload, 1) := by decide +kernel
theorem dX10_runs_140 : decode cX10_runs 140 = .ok (.aload_n 0, 1) := by decide +kernel
theorem dX10_runs_141 : decode cX10_runs 141 = .ok (.getfield 31, 3) := by decide +kernel
theorem dX10_runs_144 : decode cX10_runs 144 = .ok (.iload_n 1, 1) := by decide +kernel
theorem dX10_runs_145 : decode cX10_runs 145 = .ok (.iaload, 1) := by decide +kernel
theorem dX10_runs_146 : decode cX10_runs 146 = .ok (.iconst 0, 1) := by decide +kernel
theorem dX10_runs_147 : decode cX10_runs 147 = .ok (.invokevirtual 212, 3) := by decide +kernel
theorem dX10_runs_150 : decode cX10_runs 150 = .ok (.iastore, 1) := by decide +kernel
theorem dX10_runs_151 : decode cX10_runs 151 = .ok (.aload_n 0, 1) := by decide +kernel
theorem dX10_runs_152 : decode cX10_runs 152 = .ok (.getfield 61, 3) := by decide +kernel
theorem dX10_runs_155 : decode cX10_runs 155 = .ok (.iload_n 1, 1) := by decide +kernel
theorem dX10_runs_156 : decode cX10_runs 156 = .ok (.aload_n 0, 1) := by decide +kernel
theorem dX10_runs_157 : decode cX10_runs 157 = .ok (.getfield 180, 3) := by decide +kernel
theorem dX10_runs_160 : decode cX10_runs 160 = .ok (.iastore, 1) := by decide +kernel
theorem dX10_runs_161 : decode cX10_runs 161 = .ok (.aload_n 0, 1) := by decide +kernel
theorem dX10_runs_162 : decode cX10_runs 162 = .ok (.getfield 64, 3) := by decide +kernel
theorem dX10_runs_165 : decode cX10_runs 165 = .ok (.iload_n 1, 1) := by decide +kernel
theorem dX10_runs_166 : decode cX10_runs 166 = .ok (.aload_n 0, 1) := by decide +kernel
theorem dX10_runs_167 : decode cX10_runs 167 = .ok (.getfield 189, 3) := by decide +kernel
theorem dX10_runs_170 : decode cX10_runs 170 = .ok (.iastore, 1) := by decide +kernel
theorem dX10_runs_171 : decode cX10_runs 171 = .ok (.aload_n 0, 1) := by decide +kernel
theorem dX10_runs_172 : decode cX10_runs 172 = .ok (.getfield 67, 3) := by decide +kernel
theorem dX10_runs_175 : decode cX10_runs 175 = .ok (.iload_n 1, 1) := by decide +kernel
theorem dX10_runs_176 : decode cX10_runs 176 = .ok (.aload_n 0, 1) := by decide +kernel
theorem dX10_runs_177 : decode cX10_runs 177 = .ok (.getfield 183, 3) := by decide +kernel
theorem dX10_runs_180 : decode cX10_runs 180 = .ok (.iastore, 1) := by decide +kernel
theorem dX10_runs_181 : decode cX10_runs 181 = .ok (.iinc 1 1, 3) := by decide +kernel
theorem dX10_runs_184 : decode cX10_runs 184 = .ok (.goto (-154), 3) := by decide +kernel
theorem dX10_runs_187 : decode cX10_runs 187 = .ok (.return_, 1) := by decide +kernel
theorem dX10_runsTold_0 : decode cX10_runsTold 0 = .ok (.aload_n 0, 1) := by decide +kernel
theorem dX10_runsTold_1 : decode cX10_runsTold 1 = .ok (.invokevirtual 216, 3) := by decide +kernel
theorem dX10_runsTold_4 : decode cX10_runsTold 4 = .ok (.aload_n 0, 1) := by decide +kernel
theorem dX10_runsTold_5 : decode cX10_runsTold 5 = .ok (.invokevirtual 219, 3) := by decide +kernel
theorem dX10_runsTold_8 : decode cX10_runsTold 8 = .ok (.return_, 1) := by decide +kernel
theorem dX10_liesOf_0 : decode cX10_liesOf 0 = .ok (.aload_n 0, 1) := by decide +kernel
theorem dX10_liesOf_1 : decode cX10_liesOf 1 = .ok (.invokevirtual 222, 3) := by decide +kernel
theorem dX10_liesOf_4 : decode cX10_liesOf 4 = .ok (.iload_n 3, 1) := by decide +kernel
theorem dX10_liesOf_5 : decode cX10_liesOf 5 = .ok (.ifCond .ne 17, 3) := by decide +kernel
theorem dX10_liesOf_8 : decode cX10_liesOf 8 = .ok (.aload_n 0, 1) := by decide +kernel
theorem dX10_liesOf_9 : decode cX10_liesOf 9 = .ok (.getfield 55, 3) := by decide +kernel
theorem dX10_liesOf_12 : decode cX10_liesOf 12 = .ok (.bipush 8, 2) := by decide +kernel
theorem dX10_liesOf_14 : decode cX10_liesOf 14 = .ok (.iload_n 1, 1) := by decide +kernel
theorem dX10_liesOf_15 : decode cX10_liesOf 15 = .ok (.imul, 1) := by decide +kernel
theorem dX10_liesOf_16 : decode cX10_liesOf 16 = .ok (.iload_n 2, 1) := by decide +kernel
theorem dX10_liesOf_17 : decode cX10_liesOf 17 = .ok (.iadd, 1) := by decide +kernel
theorem dX10_liesOf_18 : decode cX10_liesOf 18 = .ok (.iaload, 1) := by decide +kernel
theorem dX10_liesOf_19 : decode cX10_liesOf 19 = .ok (.goto 52, 3) := by decide +kernel
theorem dX10_liesOf_22 : decode cX10_liesOf 22 = .ok (.iload_n 3, 1) := by decide +kernel
theorem dX10_liesOf_23 : decode cX10_liesOf 23 = .ok (.iconst 1, 1) := by decide +kernel
theorem dX10_liesOf_24 : decode cX10_liesOf 24 = .ok (.if_icmp .ne 17, 3) := by decide +kernel
theorem dX10_liesOf_27 : decode cX10_liesOf 27 = .ok (.aload_n 0, 1) := by decide +kernel
theorem dX10_liesOf_28 : decode cX10_liesOf 28 = .ok (.getfield 58, 3) := by decide +kernel
theorem dX10_liesOf_31 : decode cX10_liesOf 31 = .ok (.bipush 8, 2) := by decide +kernel
theorem dX10_liesOf_33 : decode cX10_liesOf 33 = .ok (.iload_n 1, 1) := by decide +kernel
theorem dX10_liesOf_34 : decode cX10_liesOf 34 = .ok (.imul, 1) := by decide +kernel
theorem dX10_liesOf_35 : decode cX10_liesOf 35 = .ok (.iload_n 2, 1) := by decide +kernel
theorem dX10_liesOf_36 : decode cX10_liesOf 36 = .ok (.iadd, 1) := by decide +kernel
theorem dX10_liesOf_37 : decode cX10_liesOf 37 = .ok (.iaload, 1) := by decide +kernel
theorem dX10_liesOf_38 : decode cX10_liesOf 38 = .ok (.goto 33, 3) := by decide +kernel
theorem dX10_liesOf_41 : decode cX10_liesOf 41 = .ok (.iload_n 1, 1) := by decide +kernel
theorem dX10_liesOf_42 : decode cX10_liesOf 42 = .ok (.aload_n 0, 1) := by decide +kernel
theorem dX10_liesOf_43 : decode cX10_liesOf 43 = .ok (.getfield 132, 3) := by decide +kernel
theorem dX10_liesOf_46 : decode cX10_liesOf 46 = .ok (.if_icmp .lt 7, 3) := by decide +kernel
theorem dX10_liesOf_49 : decode cX10_liesOf 49 = .ok (.iconst (-1), 1) := by decide +kernel
theorem dX10_liesOf_50 : decode cX10_liesOf 50 = .ok (.goto 21, 3) := by decide +kernel
theorem dX10_liesOf_53 : decode cX10_liesOf 53 = .ok (.aload_n 0, 1) := by decide +kernel
theorem dX10_liesOf_54 : decode cX10_liesOf 54 = .ok (.getfield 61, 3) := by decide +kernel
theorem dX10_liesOf_57 : decode cX10_liesOf 57 = .ok (.iload_n 1, 1) := by decide +kernel
theorem dX10_liesOf_58 : decode cX10_liesOf 58 = .ok (.iaload, 1) := by decide +kernel
theorem dX10_liesOf_59 : decode cX10_liesOf 59 = .ok (.iload_n 2, 1) := by decide +kernel
theorem dX10_liesOf_60 : decode cX10_liesOf 60 = .ok (.invokestatic 121, 3) := by decide +kernel
theorem dX10_liesOf_63 : decode cX10_liesOf 63 = .ok (.ifCond .eq 7, 3) := by decide +kernel
theorem dX10_liesOf_66 : decode cX10_liesOf 66 = .ok (.iconst 1, 1) := by decide +kernel
theorem dX10_liesOf_67 : decode cX10_liesOf 67 = .ok (.goto 4, 3) := by decide +kernel
theorem dX10_liesOf_70 : decode cX10_liesOf 70 = .ok (.iconst 0, 1) := by decide +kernel
theorem dX10_liesOf_71 : decode cX10_liesOf 71 = .ok (.ireturn, 1) := by decide +kernel
theorem dX10_lies_0 : decode cX10_lies 0 = .ok (.iload_n 1, 1) := by decide +kernel
theorem dX10_lies_1 : decode cX10_lies 1 = .ok (.invokestatic 155, 3) := by decide +kernel
theorem dX10_lies_4 : decode cX10_lies 4 = .ok (.ifCond .eq 30, 3) := by decide +kernel
theorem dX10_lies_7 : decode cX10_lies 7 = .ok (.aload_n 0, 1) := by decide +kernel
theorem dX10_lies_8 : decode cX10_lies 8 = .ok (.iload_n 2, 1) := by decide +kernel
theorem dX10_lies_9 : decode cX10_lies 9 = .ok (.invokevirtual 149, 3) := by decide +kernel
theorem dX10_lies_12 : decode cX10_lies 12 = .ok (.ifCond .eq 22, 3) := by decide +kernel
theorem dX10_lies_15 : decode cX10_lies 15 = .ok (.iload_n 3, 1) := by decide +kernel
theorem dX10_lies_16 : decode cX10_lies 16 = .ok (.iconst 0, 1) := by decide +kernel
theorem dX10_lies_17 : decode cX10_lies 17 = .ok (.iconst 2, 1) := by decide +kernel
theorem dX10_lies_18 : decode cX10_lies 18 = .ok (.invokestatic 106, 3) := by decide +kernel
theorem dX10_lies_21 : decode cX10_lies 21 = .ok (.ifCond .eq 13, 3) := by decide +kernel
theorem dX10_lies_24 : decode cX10_lies 24 = .ok (.aload_n 0, 1) := by decide +kernel
theorem dX10_lies_25 : decode cX10_lies 25 = .ok (.iload_n 1, 1) := by decide +kernel
theorem dX10_lies_26 : decode cX10_lies 26 = .ok (.iload_n 2, 1) := by decide +kernel
theorem dX10_lies_27 : decode cX10_lies 27 = .ok (.iload_n 3, 1) := by decide +kernel
theorem dX10_lies_28 : decode cX10_lies 28 = .ok (.invokevirtual 225, 3) := by decide +kernel
theorem dX10_lies_31 : decode cX10_lies 31 = .ok (.goto 5, 3) := by decide +kernel
theorem dX10_lies_34 : decode cX10_lies 34 = .ok (.bipush (-2), 2) := by decide +kernel
theorem dX10_lies_36 : decode cX10_lies 36 = .ok (.ireturn, 1) := by decide +kernel
theorem dX10_forFirst_0 : decode cX10_forFirst 0 = .ok (.iconst 0, 1) := by decide +kernel
theorem dX10_forFirst_1 : decode cX10_forFirst 1 = .ok (.istore_n 2, 1) := by decide +kernel
theorem dX10_forFirst_2 : decode cX10_forFirst 2 = .ok (.iconst 0, 1) := by decide +kernel
theorem dX10_forFirst_3 : decode cX10_forFirst 3 = .ok (.istore_n 3, 1) := by decide +kernel
theorem dX10_forFirst_4 : decode cX10_forFirst 4 = .ok (.iload_n 3, 1) := by decide +kernel
theorem dX10_forFirst_5 : decode cX10_forFirst 5 = .ok (.aload_n 0, 1) := by decide +kernel
theorem dX10_forFirst_6 : decode cX10_forFirst 6 = .ok (.getfield 125, 3) := by decide +kernel
theorem dX10_forFirst_9 : decode cX10_forFirst 9 = .ok (.if_icmp .ge 30, 3) := by decide +kernel
theorem dX10_forFirst_12 : decode cX10_forFirst 12 = .ok (.iload_n 2, 1) := by decide +kernel
theorem dX10_forFirst_13 : decode cX10_forFirst 13 = .ok (.aload_n 0, 1) := by decide +kernel
theorem dX10_forFirst_14 : decode cX10_forFirst 14 = .ok (.getfield 61, 3) := by decide +kernel
theorem dX10_forFirst_17 : decode cX10_forFirst 17 = .ok (.iload_n 1, 1) := by decide +kernel
theorem dX10_forFirst_18 : decode cX10_forFirst 18 = .ok (.iaload, 1) := by decide +kernel
theorem dX10_forFirst_19 : decode cX10_forFirst 19 = .ok (.iload_n 3, 1) := by decide +kernel
theorem dX10_forFirst_20 : decode cX10_forFirst 20 = .ok (.invokestatic 121, 3) := by decide +kernel
theorem dX10_forFirst_23 : decode cX10_forFirst 23 = .ok (.ifCond .eq 7, 3) := by decide +kernel
theorem dX10_forFirst_26 : decode cX10_forFirst 26 = .ok (.iconst 0, 1) := by decide +kernel
theorem dX10_forFirst_27 : decode cX10_forFirst 27 = .ok (.goto 4, 3) := by decide +kernel
theorem dX10_forFirst_30 : decode cX10_forFirst 30 = .ok (.iconst 1, 1) := by decide +kernel
theorem dX10_forFirst_31 : decode cX10_forFirst 31 = .ok (.iadd, 1) := by decide +kernel
theorem dX10_forFirst_32 : decode cX10_forFirst 32 = .ok (.istore_n 2, 1) := by decide +kernel
theorem dX10_forFirst_33 : decode cX10_forFirst 33 = .ok (.iinc 3 1, 3) := by decide +kernel
theorem dX10_forFirst_36 : decode cX10_forFirst 36 = .ok (.goto (-32), 3) := by decide +kernel
theorem dX10_forFirst_39 : decode cX10_forFirst 39 = .ok (.iload_n 2, 1) := by decide +kernel
theorem dX10_forFirst_40 : decode cX10_forFirst 40 = .ok (.ireturn, 1) := by decide +kernel
theorem dX10_voteOf_0 : decode cX10_voteOf 0 = .ok (.aload_n 0, 1) := by decide +kernel
theorem dX10_voteOf_1 : decode cX10_voteOf 1 = .ok (.invokevirtual 222, 3) := by decide +kernel
theorem dX10_voteOf_4 : decode cX10_voteOf 4 = .ok (.iload_n 1, 1) := by decide +kernel
theorem dX10_voteOf_5 : decode cX10_voteOf 5 = .ok (.aload_n 0, 1) := by decide +kernel
theorem dX10_voteOf_6 : decode cX10_voteOf 6 = .ok (.getfield 132, 3) := by decide +kernel
theorem dX10_voteOf_9 : decode cX10_voteOf 9 = .ok (.if_icmp .ge 10, 3) := by decide +kernel
theorem dX10_voteOf_12 : decode cX10_voteOf 12 = .ok (.aload_n 0, 1) := by decide +kernel
theorem dX10_voteOf_13 : decode cX10_voteOf 13 = .ok (.getfield 125, 3) := by decide +kernel
theorem dX10_voteOf_16 : decode cX10_voteOf 16 = .ok (.ifCond .ne 5, 3) := by decide +kernel
theorem dX10_voteOf_19 : decode cX10_voteOf 19 = .ok (.iconst (-1), 1) := by decide +kernel
theorem dX10_voteOf_20 : decode cX10_voteOf 20 = .ok (.ireturn, 1) := by decide +kernel
theorem dX10_voteOf_21 : decode cX10_voteOf 21 = .ok (.iload_n 2, 1) := by decide +kernel
theorem dX10_voteOf_22 : decode cX10_voteOf 22 = .ok (.ifCond .ne 11, 3) := by decide +kernel
theorem dX10_voteOf_25 : decode cX10_voteOf 25 = .ok (.aload_n 0, 1) := by decide +kernel
theorem dX10_voteOf_26 : decode cX10_voteOf 26 = .ok (.iload_n 1, 1) := by decide +kernel
theorem dX10_voteOf_27 : decode cX10_voteOf 27 = .ok (.invokevirtual 228, 3) := by decide +kernel
theorem dX10_voteOf_30 : decode cX10_voteOf 30 = .ok (.goto 37, 3) := by decide +kernel
theorem dX10_voteOf_33 : decode cX10_voteOf 33 = .ok (.iload_n 2, 1) := by decide +kernel
theorem dX10_voteOf_34 : decode cX10_voteOf 34 = .ok (.iconst 1, 1) := by decide +kernel
theorem dX10_voteOf_35 : decode cX10_voteOf 35 = .ok (.if_icmp .ne 12, 3) := by decide +kernel
theorem dX10_voteOf_38 : decode cX10_voteOf 38 = .ok (.aload_n 0, 1) := by decide +kernel
theorem dX10_voteOf_39 : decode cX10_voteOf 39 = .ok (.getfield 64, 3) := by decide +kernel
theorem dX10_voteOf_42 : decode cX10_voteOf 42 = .ok (.iload_n 1, 1) := by decide +kernel
theorem dX10_voteOf_43 : decode cX10_voteOf 43 = .ok (.iaload, 1) := by decide +kernel
theorem dX10_voteOf_44 : decode cX10_voteOf 44 = .ok (.goto 23, 3) := by decide +kernel
theorem dX10_voteOf_47 : decode cX10_voteOf 47 = .ok (.iload_n 2, 1) := by decide +kernel
theorem dX10_voteOf_48 : decode cX10_voteOf 48 = .ok (.iconst 2, 1) := by decide +kernel
theorem dX10_voteOf_49 : decode cX10_voteOf 49 = .ok (.if_icmp .ne 12, 3) := by decide +kernel
theorem dX10_voteOf_52 : decode cX10_voteOf 52 = .ok (.aload_n 0, 1) := by decide +kernel
theorem dX10_voteOf_53 : decode cX10_voteOf 53 = .ok (.getfield 70, 3) := by decide +kernel
theorem dX10_voteOf_56 : decode cX10_voteOf 56 = .ok (.iload_n 1, 1) := by decide +kernel
theorem dX10_voteOf_57 : decode cX10_voteOf 57 = .ok (.iaload, 1) := by decide +kernel
theorem dX10_voteOf_58 : decode cX10_voteOf 58 = .ok (.goto 9, 3) := by decide +kernel
theorem dX10_voteOf_61 : decode cX10_voteOf 61 = .ok (.aload_n 0, 1) := by decide +kernel
theorem dX10_voteOf_62 : decode cX10_voteOf 62 = .ok (.getfield 67, 3) := by decide +kernel
theorem dX10_voteOf_65 : decode cX10_voteOf 65 = .ok (.iload_n 1, 1) := by decide +kernel
theorem dX10_voteOf_66 : decode cX10_voteOf 66 = .ok (.iaload, 1) := by decide +kernel
theorem dX10_voteOf_67 : decode cX10_voteOf 67 = .ok (.ireturn, 1) := by decide +kernel
theorem dX10_vote_0 : decode cX10_vote 0 = .ok (.iload_n 1, 1) := by decide +kernel
theorem dX10_vote_1 : decode cX10_vote 1 = .ok (.invokestatic 155, 3) := by decide +kernel
theorem dX10_vote_4 : decode cX10_vote 4 = .ok (.ifCond .eq 21, 3) := by decide +kernel
theorem dX10_vote_7 : decode cX10_vote 7 = .ok (.iload_n 2, 1) := by decide +kernel
theorem dX10_vote_8 : decode cX10_vote 8 = .ok (.iconst 0, 1) := by decide +kernel
theorem dX10_vote_9 : decode cX10_vote 9 = .ok (.iconst 3, 1) := by decide +kernel
theorem dX10_vote_10 : decode cX10_vote 10 = .ok (.invokestatic 106, 3) := by decide +kernel
theorem dX10_vote_13 : decode cX10_vote 13 = .ok (.ifCond .eq 12, 3) := by decide +kernel
theorem dX10_vote_16 : decode cX10_vote 16 = .ok (.aload_n 0, 1) := by decide +kernel
theorem dX10_vote_17 : decode cX10_vote 17 = .ok (.iload_n 1, 1) := by decide +kernel
theorem dX10_vote_18 : decode cX10_vote 18 = .ok (.iload_n 2, 1) := by decide +kernel
theorem dX10_vote_19 : decode cX10_vote 19 = .ok (.invokevirtual 231, 3) := by decide +kernel
theorem dX10_vote_22 : decode cX10_vote 22 = .ok (.goto 5, 3) := by decide +kernel
theorem dX10_vote_25 : decode cX10_vote 25 = .ok (.bipush (-2), 2) := by decide +kernel
theorem dX10_vote_27 : decode cX10_vote 27 = .ok (.ireturn, 1) := by decide +kernel
theorem dX10_houseNow_0 : decode cX10_houseNow 0 = .ok (.iconst (-1), 1) := by decide +kernel
theorem dX10_houseNow_1 : decode cX10_houseNow 1 = .ok (.istore_n 2, 1) := by decide +kernel
theorem dX10_houseNow_2 : decode cX10_houseNow 2 = .ok (.iconst 0, 1) := by decide +kernel
theorem dX10_houseNow_3 : decode cX10_houseNow 3 = .ok (.istore_n 3, 1) := by decide +kernel
theorem dX10_houseNow_4 : decode cX10_houseNow 4 = .ok (.iload_n 3, 1) := by decide +kernel
theorem dX10_houseNow_5 : decode cX10_houseNow 5 = .ok (.iload_n 1, 1) := by decide +kernel
theorem dX10_houseNow_6 : decode cX10_houseNow 6 = .ok (.if_icmp .gt 30, 3) := by decide +kernel
theorem dX10_houseNow_9 : decode cX10_houseNow 9 = .ok (.aload_n 0, 1) := by decide +kernel
theorem dX10_houseNow_10 : decode cX10_houseNow 10 = .ok (.getfield 70, 3) := by decide +kernel
theorem dX10_houseNow_13 : decode cX10_houseNow 13 = .ok (.iload_n 3, 1) := by decide +kernel
theorem dX10_houseNow_14 : decode cX10_houseNow 14 = .ok (.iaload, 1) := by decide +kernel
theorem dX10_houseNow_15 : decode cX10_houseNow 15 = .ok (.iconst (-1), 1) := by decide +kernel
theorem dX10_houseNow_16 : decode cX10_houseNow 16 = .ok (.if_icmp .ne 7, 3) := by decide +kernel
theorem dX10_houseNow_19 : decode cX10_houseNow 19 = .ok (.iload_n 2, 1) := by decide +kernel
theorem dX10_houseNow_20 : decode cX10_houseNow 20 = .ok (.goto 9, 3) := by decide +kernel
theorem dX10_houseNow_23 : decode cX10_houseNow 23 = .ok (.aload_n 0, 1) := by decide +kernel
theorem dX10_houseNow_24 : decode cX10_houseNow 24 = .ok (.getfield 70, 3) := by decide +kernel
theorem dX10_houseNow_27 : decode cX10_houseNow 27 = .ok (.iload_n 3, 1) := by decide +kernel
theorem dX10_houseNow_28 : decode cX10_houseNow 28 = .ok (.iaload, 1) := by decide +kernel
theorem dX10_houseNow_29 : decode cX10_houseNow 29 = .ok (.istore_n 2, 1) := by decide +kernel
theorem dX10_houseNow_30 : decode cX10_houseNow 30 = .ok (.iinc 3 1, 3) := by decide +kernel
theorem dX10_houseNow_33 : decode cX10_houseNow 33 = .ok (.goto (-29), 3) := by decide +kernel
theorem dX10_houseNow_36 : decode cX10_houseNow 36 = .ok (.iload_n 2, 1) := by decide +kernel
end
section
theorem dX10_houseNow_37 : decode cX10_houseNow 37 = .ok (.ireturn, 1) := by decide +kernel
theorem dX10_houseOf_0 : decode cX10_houseOf 0 = .ok (.aload_n 0, 1) := by decide +kernel
theorem dX10_houseOf_1 : decode cX10_houseOf 1 = .ok (.invokevirtual 222, 3) := by decide +kernel
theorem dX10_houseOf_4 : decode cX10_houseOf 4 = .ok (.aload_n 0, 1) := by decide +kernel
theorem dX10_houseOf_5 : decode cX10_houseOf 5 = .ok (.iload_n 1, 1) := by decide +kernel
theorem dX10_houseOf_6 : decode cX10_houseOf 6 = .ok (.invokevirtual 234, 3) := by decide +kernel
theorem dX10_houseOf_9 : decode cX10_houseOf 9 = .ok (.ireturn, 1) := by decide +kernel
theorem dX10_house_0 : decode cX10_house 0 = .ok (.iload_n 1, 1) := by decide +kernel
theorem dX10_house_1 : decode cX10_house 1 = .ok (.invokestatic 155, 3) := by decide +kernel
theorem dX10_house_4 : decode cX10_house 4 = .ok (.ifCond .eq 11, 3) := by decide +kernel
theorem dX10_house_7 : decode cX10_house 7 = .ok (.aload_n 0, 1) := by decide +kernel
theorem dX10_house_8 : decode cX10_house 8 = .ok (.iload_n 1, 1) := by decide +kernel
theorem dX10_house_9 : decode cX10_house 9 = .ok (.invokevirtual 237, 3) := by decide +kernel
theorem dX10_house_12 : decode cX10_house 12 = .ok (.goto 5, 3) := by decide +kernel
theorem dX10_house_15 : decode cX10_house 15 = .ok (.bipush (-2), 2) := by decide +kernel
theorem dX10_house_17 : decode cX10_house 17 = .ok (.ireturn, 1) := by decide +kernel
theorem dX10_toldNow_0 : decode cX10_toldNow 0 = .ok (.aload_n 0, 1) := by decide +kernel
theorem dX10_toldNow_1 : decode cX10_toldNow 1 = .ok (.invokevirtual 222, 3) := by decide +kernel
theorem dX10_toldNow_4 : decode cX10_toldNow 4 = .ok (.iconst 0, 1) := by decide +kernel
theorem dX10_toldNow_5 : decode cX10_toldNow 5 = .ok (.istore_n 1, 1) := by decide +kernel
theorem dX10_toldNow_6 : decode cX10_toldNow 6 = .ok (.iconst 0, 1) := by decide +kernel
theorem dX10_toldNow_7 : decode cX10_toldNow 7 = .ok (.istore_n 2, 1) := by decide +kernel
theorem dX10_toldNow_8 : decode cX10_toldNow 8 = .ok (.iload_n 2, 1) := by decide +kernel
theorem dX10_toldNow_9 : decode cX10_toldNow 9 = .ok (.aload_n 0, 1) := by decide +kernel
theorem dX10_toldNow_10 : decode cX10_toldNow 10 = .ok (.getfield 132, 3) := by decide +kernel
theorem dX10_toldNow_13 : decode cX10_toldNow 13 = .ok (.if_icmp .ge 33, 3) := by decide +kernel
theorem dX10_toldNow_16 : decode cX10_toldNow 16 = .ok (.aload_n 0, 1) := by decide +kernel
theorem dX10_toldNow_17 : decode cX10_toldNow 17 = .ok (.getfield 125, 3) := by decide +kernel
theorem dX10_toldNow_20 : decode cX10_toldNow 20 = .ok (.ifCond .le 26, 3) := by decide +kernel
theorem dX10_toldNow_23 : decode cX10_toldNow 23 = .ok (.iload_n 1, 1) := by decide +kernel
theorem dX10_toldNow_24 : decode cX10_toldNow 24 = .ok (.aload_n 0, 1) := by decide +kernel
theorem dX10_toldNow_25 : decode cX10_toldNow 25 = .ok (.getfield 64, 3) := by decide +kernel
theorem dX10_toldNow_28 : decode cX10_toldNow 28 = .ok (.iload_n 2, 1) := by decide +kernel
theorem dX10_toldNow_29 : decode cX10_toldNow 29 = .ok (.iaload, 1) := by decide +kernel
theorem dX10_toldNow_30 : decode cX10_toldNow 30 = .ok (.ifCond .ne 7, 3) := by decide +kernel
theorem dX10_toldNow_33 : decode cX10_toldNow 33 = .ok (.iconst 1, 1) := by decide +kernel
theorem dX10_toldNow_34 : decode cX10_toldNow 34 = .ok (.goto 4, 3) := by decide +kernel
theorem dX10_toldNow_37 : decode cX10_toldNow 37 = .ok (.iconst 0, 1) := by decide +kernel
theorem dX10_toldNow_38 : decode cX10_toldNow 38 = .ok (.iadd, 1) := by decide +kernel
theorem dX10_toldNow_39 : decode cX10_toldNow 39 = .ok (.istore_n 1, 1) := by decide +kernel
theorem dX10_toldNow_40 : decode cX10_toldNow 40 = .ok (.iinc 2 1, 3) := by decide +kernel
theorem dX10_toldNow_43 : decode cX10_toldNow 43 = .ok (.goto (-35), 3) := by decide +kernel
theorem dX10_toldNow_46 : decode cX10_toldNow 46 = .ok (.iload_n 1, 1) := by decide +kernel
theorem dX10_toldNow_47 : decode cX10_toldNow 47 = .ok (.ireturn, 1) := by decide +kernel
theorem dX10_told_0 : decode cX10_told 0 = .ok (.aload_n 0, 1) := by decide +kernel
theorem dX10_told_1 : decode cX10_told 1 = .ok (.invokevirtual 240, 3) := by decide +kernel
theorem dX10_told_4 : decode cX10_told 4 = .ok (.ireturn, 1) := by decide +kernel
theorem dX10_pleasures_0 : decode cX10_pleasures 0 = .ok (.iconst 0, 1) := by decide +kernel
theorem dX10_pleasures_1 : decode cX10_pleasures 1 = .ok (.istore_n 2, 1) := by decide +kernel
theorem dX10_pleasures_2 : decode cX10_pleasures 2 = .ok (.iconst 0, 1) := by decide +kernel
theorem dX10_pleasures_3 : decode cX10_pleasures 3 = .ok (.istore_n 3, 1) := by decide +kernel
theorem dX10_pleasures_4 : decode cX10_pleasures 4 = .ok (.iload_n 3, 1) := by decide +kernel
theorem dX10_pleasures_5 : decode cX10_pleasures 5 = .ok (.aload_n 0, 1) := by decide +kernel
theorem dX10_pleasures_6 : decode cX10_pleasures 6 = .ok (.getfield 132, 3) := by decide +kernel
theorem dX10_pleasures_9 : decode cX10_pleasures 9 = .ok (.if_icmp .ge 54, 3) := by decide +kernel
theorem dX10_pleasures_12 : decode cX10_pleasures 12 = .ok (.iload_n 2, 1) := by decide +kernel
theorem dX10_pleasures_13 : decode cX10_pleasures 13 = .ok (.aload_n 0, 1) := by decide +kernel
theorem dX10_pleasures_14 : decode cX10_pleasures 14 = .ok (.getfield 70, 3) := by decide +kernel
theorem dX10_pleasures_17 : decode cX10_pleasures 17 = .ok (.iload_n 3, 1) := by decide +kernel
theorem dX10_pleasures_18 : decode cX10_pleasures 18 = .ok (.iaload, 1) := by decide +kernel
theorem dX10_pleasures_19 : decode cX10_pleasures 19 = .ok (.aload_n 0, 1) := by decide +kernel
theorem dX10_pleasures_20 : decode cX10_pleasures 20 = .ok (.getfield 61, 3) := by decide +kernel
theorem dX10_pleasures_23 : decode cX10_pleasures 23 = .ok (.iload_n 3, 1) := by decide +kernel
theorem dX10_pleasures_24 : decode cX10_pleasures 24 = .ok (.iaload, 1) := by decide +kernel
theorem dX10_pleasures_25 : decode cX10_pleasures 25 = .ok (.iload_n 1, 1) := by decide +kernel
theorem dX10_pleasures_26 : decode cX10_pleasures 26 = .ok (.invokestatic 121, 3) := by decide +kernel
theorem dX10_pleasures_29 : decode cX10_pleasures 29 = .ok (.ifCond .eq 12, 3) := by decide +kernel
theorem dX10_pleasures_32 : decode cX10_pleasures 32 = .ok (.aload_n 0, 1) := by decide +kernel
theorem dX10_pleasures_33 : decode cX10_pleasures 33 = .ok (.getfield 28, 3) := by decide +kernel
theorem dX10_pleasures_36 : decode cX10_pleasures 36 = .ok (.iload_n 3, 1) := by decide +kernel
theorem dX10_pleasures_37 : decode cX10_pleasures 37 = .ok (.iaload, 1) := by decide +kernel
theorem dX10_pleasures_38 : decode cX10_pleasures 38 = .ok (.goto 9, 3) := by decide +kernel
theorem dX10_pleasures_41 : decode cX10_pleasures 41 = .ok (.aload_n 0, 1) := by decide +kernel
theorem dX10_pleasures_42 : decode cX10_pleasures 42 = .ok (.getfield 25, 3) := by decide +kernel
theorem dX10_pleasures_45 : decode cX10_pleasures 45 = .ok (.iload_n 3, 1) := by decide +kernel
theorem dX10_pleasures_46 : decode cX10_pleasures 46 = .ok (.iaload, 1) := by decide +kernel
theorem dX10_pleasures_47 : decode cX10_pleasures 47 = .ok (.if_icmp .ne 7, 3) := by decide +kernel
theorem dX10_pleasures_50 : decode cX10_pleasures 50 = .ok (.iconst 1, 1) := by decide +kernel
theorem dX10_pleasures_51 : decode cX10_pleasures 51 = .ok (.goto 4, 3) := by decide +kernel
theorem dX10_pleasures_54 : decode cX10_pleasures 54 = .ok (.iconst 0, 1) := by decide +kernel
theorem dX10_pleasures_55 : decode cX10_pleasures 55 = .ok (.iadd, 1) := by decide +kernel
theorem dX10_pleasures_56 : decode cX10_pleasures 56 = .ok (.istore_n 2, 1) := by decide +kernel
theorem dX10_pleasures_57 : decode cX10_pleasures 57 = .ok (.iinc 3 1, 3) := by decide +kernel
theorem dX10_pleasures_60 : decode cX10_pleasures 60 = .ok (.goto (-56), 3) := by decide +kernel
theorem dX10_pleasures_63 : decode cX10_pleasures 63 = .ok (.iload_n 2, 1) := by decide +kernel
theorem dX10_pleasures_64 : decode cX10_pleasures 64 = .ok (.ireturn, 1) := by decide +kernel
theorem dX10_pleasedNow_0 : decode cX10_pleasedNow 0 = .ok (.aload_n 0, 1) := by decide +kernel
theorem dX10_pleasedNow_1 : decode cX10_pleasedNow 1 = .ok (.invokevirtual 222, 3) := by decide +kernel
theorem dX10_pleasedNow_4 : decode cX10_pleasedNow 4 = .ok (.iconst (-1), 1) := by decide +kernel
theorem dX10_pleasedNow_5 : decode cX10_pleasedNow 5 = .ok (.istore_n 1, 1) := by decide +kernel
theorem dX10_pleasedNow_6 : decode cX10_pleasedNow 6 = .ok (.iconst 0, 1) := by decide +kernel
theorem dX10_pleasedNow_7 : decode cX10_pleasedNow 7 = .ok (.istore_n 2, 1) := by decide +kernel
theorem dX10_pleasedNow_8 : decode cX10_pleasedNow 8 = .ok (.iload_n 2, 1) := by decide +kernel
theorem dX10_pleasedNow_9 : decode cX10_pleasedNow 9 = .ok (.aload_n 0, 1) := by decide +kernel
theorem dX10_pleasedNow_10 : decode cX10_pleasedNow 10 = .ok (.getfield 125, 3) := by decide +kernel
theorem dX10_pleasedNow_13 : decode cX10_pleasedNow 13 = .ok (.if_icmp .ge 33, 3) := by decide +kernel
theorem dX10_pleasedNow_16 : decode cX10_pleasedNow 16 = .ok (.iload_n 1, 1) := by decide +kernel
theorem dX10_pleasedNow_17 : decode cX10_pleasedNow 17 = .ok (.iconst (-1), 1) := by decide +kernel
theorem dX10_pleasedNow_18 : decode cX10_pleasedNow 18 = .ok (.if_icmp .eq 16, 3) := by decide +kernel
theorem dX10_pleasedNow_21 : decode cX10_pleasedNow 21 = .ok (.aload_n 0, 1) := by decide +kernel
theorem dX10_pleasedNow_22 : decode cX10_pleasedNow 22 = .ok (.iload_n 2, 1) := by decide +kernel
theorem dX10_pleasedNow_23 : decode cX10_pleasedNow 23 = .ok (.invokevirtual 243, 3) := by decide +kernel
theorem dX10_pleasedNow_26 : decode cX10_pleasedNow 26 = .ok (.aload_n 0, 1) := by decide +kernel
theorem dX10_pleasedNow_27 : decode cX10_pleasedNow 27 = .ok (.iload_n 1, 1) := by decide +kernel
theorem dX10_pleasedNow_28 : decode cX10_pleasedNow 28 = .ok (.invokevirtual 243, 3) := by decide +kernel
theorem dX10_pleasedNow_31 : decode cX10_pleasedNow 31 = .ok (.if_icmp .le 7, 3) := by decide +kernel
theorem dX10_pleasedNow_34 : decode cX10_pleasedNow 34 = .ok (.iload_n 2, 1) := by decide +kernel
theorem dX10_pleasedNow_35 : decode cX10_pleasedNow 35 = .ok (.goto 4, 3) := by decide +kernel
theorem dX10_pleasedNow_38 : decode cX10_pleasedNow 38 = .ok (.iload_n 1, 1) := by decide +kernel
theorem dX10_pleasedNow_39 : decode cX10_pleasedNow 39 = .ok (.istore_n 1, 1) := by decide +kernel
theorem dX10_pleasedNow_40 : decode cX10_pleasedNow 40 = .ok (.iinc 2 1, 3) := by decide +kernel
theorem dX10_pleasedNow_43 : decode cX10_pleasedNow 43 = .ok (.goto (-35), 3) := by decide +kernel
theorem dX10_pleasedNow_46 : decode cX10_pleasedNow 46 = .ok (.iload_n 1, 1) := by decide +kernel
theorem dX10_pleasedNow_47 : decode cX10_pleasedNow 47 = .ok (.ireturn, 1) := by decide +kernel
theorem dX10_pleased_0 : decode cX10_pleased 0 = .ok (.aload_n 0, 1) := by decide +kernel
theorem dX10_pleased_1 : decode cX10_pleased 1 = .ok (.invokevirtual 246, 3) := by decide +kernel
theorem dX10_pleased_4 : decode cX10_pleased 4 = .ok (.ireturn, 1) := by decide +kernel
theorem dX10_isTurned_0 : decode cX10_isTurned 0 = .ok (.aload_n 0, 1) := by decide +kernel
theorem dX10_isTurned_1 : decode cX10_isTurned 1 = .ok (.iload_n 1, 1) := by decide +kernel
theorem dX10_isTurned_2 : decode cX10_isTurned 2 = .ok (.putfield 195, 3) := by decide +kernel
theorem dX10_isTurned_5 : decode cX10_isTurned 5 = .ok (.aload_n 0, 1) := by decide +kernel
theorem dX10_isTurned_6 : decode cX10_isTurned 6 = .ok (.iload_n 2, 1) := by decide +kernel
theorem dX10_isTurned_7 : decode cX10_isTurned 7 = .ok (.putfield 198, 3) := by decide +kernel
theorem dX10_isTurned_10 : decode cX10_isTurned 10 = .ok (.aload_n 0, 1) := by decide +kernel
theorem dX10_isTurned_11 : decode cX10_isTurned 11 = .ok (.invokevirtual 219, 3) := by decide +kernel
theorem dX10_isTurned_14 : decode cX10_isTurned 14 = .ok (.aload_n 0, 1) := by decide +kernel
theorem dX10_isTurned_15 : decode cX10_isTurned 15 = .ok (.getfield 70, 3) := by decide +kernel
theorem dX10_isTurned_18 : decode cX10_isTurned 18 = .ok (.iload_n 1, 1) := by decide +kernel
theorem dX10_isTurned_19 : decode cX10_isTurned 19 = .ok (.iaload, 1) := by decide +kernel
theorem dX10_isTurned_20 : decode cX10_isTurned 20 = .ok (.iload_n 3, 1) := by decide +kernel
theorem dX10_isTurned_21 : decode cX10_isTurned 21 = .ok (.if_icmp .eq 7, 3) := by decide +kernel
theorem dX10_isTurned_24 : decode cX10_isTurned 24 = .ok (.iconst 1, 1) := by decide +kernel
theorem dX10_isTurned_25 : decode cX10_isTurned 25 = .ok (.goto 4, 3) := by decide +kernel
theorem dX10_isTurned_28 : decode cX10_isTurned 28 = .ok (.iconst 0, 1) := by decide +kernel
theorem dX10_isTurned_29 : decode cX10_isTurned 29 = .ok (.ireturn, 1) := by decide +kernel
theorem dX10_liftBy_0 : decode cX10_liftBy 0 = .ok (.aload_n 0, 1) := by decide +kernel
theorem dX10_liftBy_1 : decode cX10_liftBy 1 = .ok (.invokevirtual 222, 3) := by decide +kernel
theorem dX10_liftBy_4 : decode cX10_liftBy 4 = .ok (.aload_n 0, 1) := by decide +kernel
theorem dX10_liftBy_5 : decode cX10_liftBy 5 = .ok (.getfield 70, 3) := by decide +kernel
theorem dX10_liftBy_8 : decode cX10_liftBy 8 = .ok (.iload_n 1, 1) := by decide +kernel
theorem dX10_liftBy_9 : decode cX10_liftBy 9 = .ok (.iaload, 1) := by decide +kernel
theorem dX10_liftBy_10 : decode cX10_liftBy 10 = .ok (.istore_n 2, 1) := by decide +kernel
theorem dX10_liftBy_11 : decode cX10_liftBy 11 = .ok (.iload_n 2, 1) := by decide +kernel
theorem dX10_liftBy_12 : decode cX10_liftBy 12 = .ok (.iconst (-1), 1) := by decide +kernel
theorem dX10_liftBy_13 : decode cX10_liftBy 13 = .ok (.if_icmp .ne 5, 3) := by decide +kernel
theorem dX10_liftBy_16 : decode cX10_liftBy 16 = .ok (.iconst (-1), 1) := by decide +kernel
theorem dX10_liftBy_17 : decode cX10_liftBy 17 = .ok (.ireturn, 1) := by decide +kernel
theorem dX10_liftBy_18 : decode cX10_liftBy 18 = .ok (.iconst 0, 1) := by decide +kernel
theorem dX10_liftBy_19 : decode cX10_liftBy 19 = .ok (.istore_n 3, 1) := by decide +kernel
theorem dX10_liftBy_20 : decode cX10_liftBy 20 = .ok (.iload_n 3, 1) := by decide +kernel
theorem dX10_liftBy_21 : decode cX10_liftBy 21 = .ok (.aload_n 0, 1) := by decide +kernel
theorem dX10_liftBy_22 : decode cX10_liftBy 22 = .ok (.getfield 125, 3) := by decide +kernel
theorem dX10_liftBy_25 : decode cX10_liftBy 25 = .ok (.if_icmp .ge 30, 3) := by decide +kernel
theorem dX10_liftBy_28 : decode cX10_liftBy 28 = .ok (.aload_n 0, 1) := by decide +kernel
theorem dX10_liftBy_29 : decode cX10_liftBy 29 = .ok (.getfield 73, 3) := by decide +kernel
theorem dX10_liftBy_32 : decode cX10_liftBy 32 = .ok (.iconst 0, 1) := by decide +kernel
theorem dX10_liftBy_33 : decode cX10_liftBy 33 = .ok (.iload_n 3, 1) := by decide +kernel
theorem dX10_liftBy_34 : decode cX10_liftBy 34 = .ok (.iastore, 1) := by decide +kernel
theorem dX10_liftBy_35 : decode cX10_liftBy 35 = .ok (.aload_n 0, 1) := by decide +kernel
theorem dX10_liftBy_36 : decode cX10_liftBy 36 = .ok (.iload_n 1, 1) := by decide +kernel
theorem dX10_liftBy_37 : decode cX10_liftBy 37 = .ok (.iconst 1, 1) := by decide +kernel
theorem dX10_liftBy_38 : decode cX10_liftBy 38 = .ok (.iload_n 3, 1) := by decide +kernel
theorem dX10_liftBy_39 : decode cX10_liftBy 39 = .ok (.ishl, 1) := by decide +kernel
theorem dX10_liftBy_40 : decode cX10_liftBy 40 = .ok (.iload_n 2, 1) := by decide +kernel
theorem dX10_liftBy_41 : decode cX10_liftBy 41 = .ok (.invokevirtual 249, 3) := by decide +kernel
theorem dX10_liftBy_44 : decode cX10_liftBy 44 = .ok (.ifCond .eq 5, 3) := by decide +kernel
theorem dX10_liftBy_47 : decode cX10_liftBy 47 = .ok (.iconst 1, 1) := by decide +kernel
theorem dX10_liftBy_48 : decode cX10_liftBy 48 = .ok (.ireturn, 1) := by decide +kernel
theorem dX10_liftBy_49 : decode cX10_liftBy 49 = .ok (.iinc 3 1, 3) := by decide +kernel
theorem dX10_liftBy_52 : decode cX10_liftBy 52 = .ok (.goto (-32), 3) := by decide +kernel
theorem dX10_liftBy_55 : decode cX10_liftBy 55 = .ok (.iconst 0, 1) := by decide +kernel
theorem dX10_liftBy_56 : decode cX10_liftBy 56 = .ok (.istore_n 3, 1) := by decide +kernel
theorem dX10_liftBy_57 : decode cX10_liftBy 57 = .ok (.iload_n 3, 1) := by decide +kernel
theorem dX10_liftBy_58 : decode cX10_liftBy 58 = .ok (.aload_n 0, 1) := by decide +kernel
theorem dX10_liftBy_59 : decode cX10_liftBy 59 = .ok (.getfield 125, 3) := by decide +kernel
theorem dX10_liftBy_62 : decode cX10_liftBy 62 = .ok (.if_icmp .ge 63, 3) := by decide +kernel
theorem dX10_liftBy_65 : decode cX10_liftBy 65 = .ok (.iload_n 3, 1) := by decide +kernel
theorem dX10_liftBy_66 : decode cX10_liftBy 66 = .ok (.iconst 1, 1) := by decide +kernel
theorem dX10_liftBy_67 : decode cX10_liftBy 67 = .ok (.iadd, 1) := by decide +kernel
theorem dX10_liftBy_68 : decode cX10_liftBy 68 = .ok (.istore 4, 2) := by decide +kernel
theorem dX10_liftBy_70 : decode cX10_liftBy 70 = .ok (.iload 4, 2) := by decide +kernel
theorem dX10_liftBy_72 : decode cX10_liftBy 72 = .ok (.aload_n 0, 1) := by decide +kernel
theorem dX10_liftBy_73 : decode cX10_liftBy 73 = .ok (.getfield 125, 3) := by decide +kernel
theorem dX10_liftBy_76 : decode cX10_liftBy 76 = .ok (.if_icmp .ge 43, 3) := by decide +kernel
theorem dX10_liftBy_79 : decode cX10_liftBy 79 = .ok (.aload_n 0, 1) := by decide +kernel
theorem dX10_liftBy_80 : decode cX10_liftBy 80 = .ok (.getfield 73, 3) := by decide +kernel
theorem dX10_liftBy_83 : decode cX10_liftBy 83 = .ok (.iconst 0, 1) := by decide +kernel
theorem dX10_liftBy_84 : decode cX10_liftBy 84 = .ok (.iload_n 3, 1) := by decide +kernel
theorem dX10_liftBy_85 : decode cX10_liftBy 85 = .ok (.iastore, 1) := by decide +kernel
theorem dX10_liftBy_86 : decode cX10_liftBy 86 = .ok (.aload_n 0, 1) := by decide +kernel
theorem dX10_liftBy_87 : decode cX10_liftBy 87 = .ok (.getfield 73, 3) := by decide +kernel
theorem dX10_liftBy_90 : decode cX10_liftBy 90 = .ok (.iconst 1, 1) := by decide +kernel
theorem dX10_liftBy_91 : decode cX10_liftBy 91 = .ok (.iload 4, 2) := by decide +kernel
theorem dX10_liftBy_93 : decode cX10_liftBy 93 = .ok (.iastore, 1) := by decide +kernel
theorem dX10_liftBy_94 : decode cX10_liftBy 94 = .ok (.aload_n 0, 1) := by decide +kernel
theorem dX10_liftBy_95 : decode cX10_liftBy 95 = .ok (.iload_n 1, 1) := by decide +kernel
theorem dX10_liftBy_96 : decode cX10_liftBy 96 = .ok (.iconst 1, 1) := by decide +kernel
theorem dX10_liftBy_97 : decode cX10_liftBy 97 = .ok (.iload_n 3, 1) := by decide +kernel
theorem dX10_liftBy_98 : decode cX10_liftBy 98 = .ok (.ishl, 1) := by decide +kernel
theorem dX10_liftBy_99 : decode cX10_liftBy 99 = .ok (.iconst 1, 1) := by decide +kernel
theorem dX10_liftBy_100 : decode cX10_liftBy 100 = .ok (.iload 4, 2) := by decide +kernel
theorem dX10_liftBy_102 : decode cX10_liftBy 102 = .ok (.ishl, 1) := by decide +kernel
theorem dX10_liftBy_103 : decode cX10_liftBy 103 = .ok (.ior, 1) := by decide +kernel
theorem dX10_liftBy_104 : decode cX10_liftBy 104 = .ok (.iload_n 2, 1) := by decide +kernel
theorem dX10_liftBy_105 : decode cX10_liftBy 105 = .ok (.invokevirtual 249, 3) := by decide +kernel
theorem dX10_liftBy_108 : decode cX10_liftBy 108 = .ok (.ifCond .eq 5, 3) := by decide +kernel
theorem dX10_liftBy_111 : decode cX10_liftBy 111 = .ok (.iconst 2, 1) := by decide +kernel
theorem dX10_liftBy_112 : decode cX10_liftBy 112 = .ok (.ireturn, 1) := by decide +kernel
theorem dX10_liftBy_113 : decode cX10_liftBy 113 = .ok (.iinc 4 1, 3) := by decide +kernel
theorem dX10_liftBy_116 : decode cX10_liftBy 116 = .ok (.goto (-46), 3) := by decide +kernel
theorem dX10_liftBy_119 : decode cX10_liftBy 119 = .ok (.iinc 3 1, 3) := by decide +kernel
theorem dX10_liftBy_122 : decode cX10_liftBy 122 = .ok (.goto (-65), 3) := by decide +kernel
theorem dX10_liftBy_125 : decode cX10_liftBy 125 = .ok (.iconst (-1), 1) := by decide +kernel
theorem dX10_liftBy_126 : decode cX10_liftBy 126 = .ok (.ireturn, 1) := by decide +kernel
theorem dX10_ofRow_0 : decode cX10_ofRow 0 = .ok (.iload_n 2, 1) := by decide +kernel
theorem dX10_ofRow_1 : decode cX10_ofRow 1 = .ok (.iconst (-1), 1) := by decide +kernel
theorem dX10_ofRow_2 : decode cX10_ofRow 2 = .ok (.if_icmp .ne 7, 3) := by decide +kernel
theorem dX10_ofRow_5 : decode cX10_ofRow 5 = .ok (.iload_n 1, 1) := by decide +kernel
theorem dX10_ofRow_6 : decode cX10_ofRow 6 = .ok (.goto 18, 3) := by decide +kernel
theorem dX10_ofRow_9 : decode cX10_ofRow 9 = .ok (.iload_n 2, 1) := by decide +kernel
theorem dX10_ofRow_10 : decode cX10_ofRow 10 = .ok (.iload_n 1, 1) := by decide +kernel
theorem dX10_ofRow_11 : decode cX10_ofRow 11 = .ok (.if_icmp .ge 12, 3) := by decide +kernel
theorem dX10_ofRow_14 : decode cX10_ofRow 14 = .ok (.aload_n 0, 1) := by decide +kernel
theorem dX10_ofRow_15 : decode cX10_ofRow 15 = .ok (.getfield 73, 3) := by decide +kernel
theorem dX10_ofRow_18 : decode cX10_ofRow 18 = .ok (.iload_n 2, 1) := by decide +kernel
theorem dX10_ofRow_19 : decode cX10_ofRow 19 = .ok (.iaload, 1) := by decide +kernel
theorem dX10_ofRow_20 : decode cX10_ofRow 20 = .ok (.goto 4, 3) := by decide +kernel
theorem dX10_ofRow_23 : decode cX10_ofRow 23 = .ok (.iconst (-1), 1) := by decide +kernel
theorem dX10_ofRow_24 : decode cX10_ofRow 24 = .ok (.ireturn, 1) := by decide +kernel
theorem dX10_lift_0 : decode cX10_lift 0 = .ok (.iload_n 1, 1) := by decide +kernel
theorem dX10_lift_1 : decode cX10_lift 1 = .ok (.invokestatic 155, 3) := by decide +kernel
theorem dX10_lift_4 : decode cX10_lift 4 = .ok (.ifCond .eq 25, 3) := by decide +kernel
theorem dX10_lift_7 : decode cX10_lift 7 = .ok (.iload_n 2, 1) := by decide +kernel
theorem dX10_lift_8 : decode cX10_lift 8 = .ok (.iconst (-1), 1) := by decide +kernel
theorem dX10_lift_9 : decode cX10_lift 9 = .ok (.iconst 1, 1) := by decide +kernel
theorem dX10_lift_10 : decode cX10_lift 10 = .ok (.invokestatic 106, 3) := by decide +kernel
theorem dX10_lift_13 : decode cX10_lift 13 = .ok (.ifCond .eq 16, 3) := by decide +kernel
theorem dX10_lift_16 : decode cX10_lift 16 = .ok (.aload_n 0, 1) := by decide +kernel
theorem dX10_lift_17 : decode cX10_lift 17 = .ok (.aload_n 0, 1) := by decide +kernel
theorem dX10_lift_18 : decode cX10_lift 18 = .ok (.iload_n 1, 1) := by decide +kernel
theorem dX10_lift_19 : decode cX10_lift 19 = .ok (.invokevirtual 252, 3) := by decide +kernel
theorem dX10_lift_22 : decode cX10_lift 22 = .ok (.iload_n 2, 1) := by decide +kernel
theorem dX10_lift_23 : decode cX10_lift 23 = .ok (.invokevirtual 255, 3) := by decide +kernel
theorem dX10_lift_26 : decode cX10_lift 26 = .ok (.goto 5, 3) := by decide +kernel
theorem dX10_lift_29 : decode cX10_lift 29 = .ok (.bipush (-2), 2) := by decide +kernel
theorem dX10_lift_31 : decode cX10_lift 31 = .ok (.ireturn, 1) := by decide +kernel
theorem dX10_puts_0 : decode cX10_puts 0 = .ok (.aload_n 0, 1) := by decide +kernel
theorem dX10_puts_1 : decode cX10_puts 1 = .ok (.iload_n 1, 1) := by decide +kernel
theorem dX10_puts_2 : decode cX10_puts 2 = .ok (.iload_n 2, 1) := by decide +kernel
theorem dX10_puts_3 : decode cX10_puts 3 = .ok (.invokevirtual 208, 3) := by decide +kernel
theorem dX10_puts_6 : decode cX10_puts 6 = .ok (.aload_n 0, 1) := by decide +kernel
theorem dX10_puts_7 : decode cX10_puts 7 = .ok (.iload_n 1, 1) := by decide +kernel
theorem dX10_puts_8 : decode cX10_puts 8 = .ok (.iload_n 2, 1) := by decide +kernel
theorem dX10_puts_9 : decode cX10_puts 9 = .ok (.iconst 1, 1) := by decide +kernel
theorem dX10_puts_10 : decode cX10_puts 10 = .ok (.iconst 0, 1) := by decide +kernel
theorem dX10_puts_11 : decode cX10_puts 11 = .ok (.invokevirtual 212, 3) := by decide +kernel
theorem dX10_puts_14 : decode cX10_puts 14 = .ok (.ireturn, 1) := by decide +kernel
theorem dX10_agendaOf_0 : decode cX10_agendaOf 0 = .ok (.aload_n 0, 1) := by decide +kernel
theorem dX10_agendaOf_1 : decode cX10_agendaOf 1 = .ok (.invokevirtual 146, 3) := by decide +kernel
theorem dX10_agendaOf_4 : decode cX10_agendaOf 4 = .ok (.iconst 0, 1) := by decide +kernel
theorem dX10_agendaOf_5 : decode cX10_agendaOf 5 = .ok (.istore_n 2, 1) := by decide +kernel
theorem dX10_agendaOf_6 : decode cX10_agendaOf 6 = .ok (.iload_n 2, 1) := by decide +kernel
theorem dX10_agendaOf_7 : decode cX10_agendaOf 7 = .ok (.aload_n 0, 1) := by decide +kernel
theorem dX10_agendaOf_8 : decode cX10_agendaOf 8 = .ok (.getfield 125, 3) := by decide +kernel
theorem dX10_agendaOf_11 : decode cX10_agendaOf 11 = .ok (.if_icmp .ge 35, 3) := by decide +kernel
theorem dX10_agendaOf_14 : decode cX10_agendaOf 14 = .ok (.aload_n 0, 1) := by decide +kernel
theorem dX10_agendaOf_15 : decode cX10_agendaOf 15 = .ok (.getfield 49, 3) := by decide +kernel
theorem dX10_agendaOf_18 : decode cX10_agendaOf 18 = .ok (.iload_n 2, 1) := by decide +kernel
theorem dX10_agendaOf_19 : decode cX10_agendaOf 19 = .ok (.aload_n 0, 1) := by decide +kernel
theorem dX10_agendaOf_20 : decode cX10_agendaOf 20 = .ok (.getfield 19, 3) := by decide +kernel
theorem dX10_agendaOf_23 : decode cX10_agendaOf 23 = .ok (.iload_n 2, 1) := by decide +kernel
theorem dX10_agendaOf_24 : decode cX10_agendaOf 24 = .ok (.iaload, 1) := by decide +kernel
theorem dX10_agendaOf_25 : decode cX10_agendaOf 25 = .ok (.iastore, 1) := by decide +kernel
theorem dX10_agendaOf_26 : decode cX10_agendaOf 26 = .ok (.aload_n 0, 1) := by decide +kernel
theorem dX10_agendaOf_27 : decode cX10_agendaOf 27 = .ok (.getfield 52, 3) := by decide +kernel
theorem dX10_agendaOf_30 : decode cX10_agendaOf 30 = .ok (.iload_n 2, 1) := by decide +kernel
theorem dX10_agendaOf_31 : decode cX10_agendaOf 31 = .ok (.iconst 5, 1) := by decide +kernel
theorem dX10_agendaOf_32 : decode cX10_agendaOf 32 = .ok (.aload_n 0, 1) := by decide +kernel
theorem dX10_agendaOf_33 : decode cX10_agendaOf 33 = .ok (.getfield 19, 3) := by decide +kernel
theorem dX10_agendaOf_36 : decode cX10_agendaOf 36 = .ok (.iload_n 2, 1) := by decide +kernel
theorem dX10_agendaOf_37 : decode cX10_agendaOf 37 = .ok (.iaload, 1) := by decide +kernel
theorem dX10_agendaOf_38 : decode cX10_agendaOf 38 = .ok (.isub, 1) := by decide +kernel
theorem dX10_agendaOf_39 : decode cX10_agendaOf 39 = .ok (.iastore, 1) := by decide +kernel
theorem dX10_agendaOf_40 : decode cX10_agendaOf 40 = .ok (.iinc 2 1, 3) := by decide +kernel
theorem dX10_agendaOf_43 : decode cX10_agendaOf 43 = .ok (.goto (-37), 3) := by decide +kernel
theorem dX10_agendaOf_46 : decode cX10_agendaOf 46 = .ok (.iconst 0, 1) := by decide +kernel
theorem dX10_agendaOf_47 : decode cX10_agendaOf 47 = .ok (.istore_n 2, 1) := by decide +kernel
theorem dX10_agendaOf_48 : decode cX10_agendaOf 48 = .ok (.iload_n 2, 1) := by decide +kernel
theorem dX10_agendaOf_49 : decode cX10_agendaOf 49 = .ok (.iconst 3, 1) := by decide +kernel
theorem dX10_agendaOf_50 : decode cX10_agendaOf 50 = .ok (.if_icmp .ge 65, 3) := by decide +kernel
theorem dX10_agendaOf_53 : decode cX10_agendaOf 53 = .ok (.aload_n 0, 1) := by decide +kernel
theorem dX10_agendaOf_54 : decode cX10_agendaOf 54 = .ok (.getfield 125, 3) := by decide +kernel
theorem dX10_agendaOf_57 : decode cX10_agendaOf 57 = .ok (.ifCond .le 58, 3) := by decide +kernel
theorem dX10_agendaOf_60 : decode cX10_agendaOf 60 = .ok (.iload_n 2, 1) := by decide +kernel
theorem dX10_agendaOf_61 : decode cX10_agendaOf 61 = .ok (.iconst 2, 1) := by decide +kernel
theorem dX10_agendaOf_62 : decode cX10_agendaOf 62 = .ok (.if_icmp .ne 7, 3) := by decide +kernel
theorem dX10_agendaOf_65 : decode cX10_agendaOf 65 = .ok (.iconst 1, 1) := by decide +kernel
theorem dX10_agendaOf_66 : decode cX10_agendaOf 66 = .ok (.goto 4, 3) := by decide +kernel
theorem dX10_agendaOf_69 : decode cX10_agendaOf 69 = .ok (.iconst 0, 1) := by decide +kernel
theorem dX10_agendaOf_70 : decode cX10_agendaOf 70 = .ok (.istore_n 3, 1) := by decide +kernel
theorem dX10_agendaOf_71 : decode cX10_agendaOf 71 = .ok (.iload_n 2, 1) := by decide +kernel
theorem dX10_agendaOf_72 : decode cX10_agendaOf 72 = .ok (.ifCond .ne 7, 3) := by decide +kernel
theorem dX10_agendaOf_75 : decode cX10_agendaOf 75 = .ok (.iconst 1, 1) := by decide +kernel
theorem dX10_agendaOf_76 : decode cX10_agendaOf 76 = .ok (.goto 4, 3) := by decide +kernel
theorem dX10_agendaOf_79 : decode cX10_agendaOf 79 = .ok (.iconst 2, 1) := by decide +kernel
theorem dX10_agendaOf_80 : decode cX10_agendaOf 80 = .ok (.istore 4, 2) := by decide +kernel
theorem dX10_agendaOf_82 : decode cX10_agendaOf 82 = .ok (.aload_n 0, 1) := by decide +kernel
theorem dX10_agendaOf_83 : decode cX10_agendaOf 83 = .ok (.iload_n 3, 1) := by decide +kernel
theorem dX10_agendaOf_84 : decode cX10_agendaOf 84 = .ok (.iload 4, 2) := by decide +kernel
theorem dX10_agendaOf_86 : decode cX10_agendaOf 86 = .ok (.invokevirtual 258, 3) := by decide +kernel
theorem dX10_agendaOf_89 : decode cX10_agendaOf 89 = .ok (.istore 5, 2) := by decide +kernel
theorem dX10_agendaOf_91 : decode cX10_agendaOf 91 = .ok (.aload_n 0, 1) := by decide +kernel
theorem dX10_agendaOf_92 : decode cX10_agendaOf 92 = .ok (.iload 5, 2) := by decide +kernel
theorem dX10_agendaOf_94 : decode cX10_agendaOf 94 = .ok (.iconst 3, 1) := by decide +kernel
theorem dX10_agendaOf_95 : decode cX10_agendaOf 95 = .ok (.iload_n 3, 1) := by decide +kernel
theorem dX10_agendaOf_96 : decode cX10_agendaOf 96 = .ok (.isub, 1) := by decide +kernel
theorem dX10_agendaOf_97 : decode cX10_agendaOf 97 = .ok (.iload 4, 2) := by decide +kernel
theorem dX10_agendaOf_99 : decode cX10_agendaOf 99 = .ok (.isub, 1) := by decide +kernel
theorem dX10_agendaOf_100 : decode cX10_agendaOf 100 = .ok (.invokevirtual 258, 3) := by decide +kernel
theorem dX10_agendaOf_103 : decode cX10_agendaOf 103 = .ok (.iload_n 1, 1) := by decide +kernel
theorem dX10_agendaOf_104 : decode cX10_agendaOf 104 = .ok (.if_icmp .ne 5, 3) := by decide +kernel
theorem dX10_agendaOf_107 : decode cX10_agendaOf 107 = .ok (.iload_n 2, 1) := by decide +kernel
theorem dX10_agendaOf_108 : decode cX10_agendaOf 108 = .ok (.ireturn, 1) := by decide +kernel
theorem dX10_agendaOf_109 : decode cX10_agendaOf 109 = .ok (.iinc 2 1, 3) := by decide +kernel
theorem dX10_agendaOf_112 : decode cX10_agendaOf 112 = .ok (.goto (-64), 3) := by decide +kernel
theorem dX10_agendaOf_115 : decode cX10_agendaOf 115 = .ok (.iconst (-1), 1) := by decide +kernel
theorem dX10_agendaOf_116 : decode cX10_agendaOf 116 = .ok (.ireturn, 1) := by decide +kernel
theorem dX10_agenda_0 : decode cX10_agenda 0 = .ok (.iload_n 1, 1) := by decide +kernel
theorem dX10_agenda_1 : decode cX10_agenda 1 = .ok (.iconst 0, 1) := by decide +kernel
theorem dX10_agenda_2 : decode cX10_agenda 2 = .ok (.iconst 2, 1) := by decide +kernel
theorem dX10_agenda_3 : decode cX10_agenda 3 = .ok (.invokestatic 106, 3) := by decide +kernel
theorem dX10_agenda_6 : decode cX10_agenda 6 = .ok (.ifCond .eq 11, 3) := by decide +kernel
theorem dX10_agenda_9 : decode cX10_agenda 9 = .ok (.aload_n 0, 1) := by decide +kernel
theorem dX10_agenda_10 : decode cX10_agenda 10 = .ok (.iload_n 1, 1) := by decide +kernel
theorem dX10_agenda_11 : decode cX10_agenda 11 = .ok (.invokevirtual 261, 3) := by decide +kernel
theorem dX10_agenda_14 : decode cX10_agenda 14 = .ok (.goto 5, 3) := by decide +kernel
theorem dX10_agenda_17 : decode cX10_agenda 17 = .ok (.bipush (-2), 2) := by decide +kernel
theorem dX10_agenda_19 : decode cX10_agenda 19 = .ok (.ireturn, 1) := by decide +kernel
theorem dX10_weightOf_0 : decode cX10_weightOf 0 = .ok (.iconst 0, 1) := by decide +kernel
theorem dX10_weightOf_1 : decode cX10_weightOf 1 = .ok (.istore_n 2, 1) := by decide +kernel
theorem dX10_weightOf_2 : decode cX10_weightOf 2 = .ok (.iconst 0, 1) := by decide +kernel
theorem dX10_weightOf_3 : decode cX10_weightOf 3 = .ok (.istore_n 3, 1) := by decide +kernel
theorem dX10_weightOf_4 : decode cX10_weightOf 4 = .ok (.iload_n 3, 1) := by decide +kernel
theorem dX10_weightOf_5 : decode cX10_weightOf 5 = .ok (.aload_n 0, 1) := by decide +kernel
theorem dX10_weightOf_6 : decode cX10_weightOf 6 = .ok (.getfield 125, 3) := by decide +kernel
theorem dX10_weightOf_9 : decode cX10_weightOf 9 = .ok (.if_icmp .ge 35, 3) := by decide +kernel
theorem dX10_weightOf_12 : decode cX10_weightOf 12 = .ok (.iload_n 2, 1) := by decide +kernel
theorem dX10_weightOf_13 : decode cX10_weightOf 13 = .ok (.iload_n 1, 1) := by decide +kernel
theorem dX10_weightOf_14 : decode cX10_weightOf 14 = .ok (.iload_n 3, 1) := by decide +kernel
theorem dX10_weightOf_15 : decode cX10_weightOf 15 = .ok (.invokestatic 121, 3) := by decide +kernel
theorem dX10_weightOf_18 : decode cX10_weightOf 18 = .ok (.ifCond .eq 17, 3) := by decide +kernel
theorem dX10_weightOf_21 : decode cX10_weightOf 21 = .ok (.aload_n 0, 1) := by decide +kernel
theorem dX10_weightOf_22 : decode cX10_weightOf 22 = .ok (.getfield 34, 3) := by decide +kernel
theorem dX10_weightOf_25 : decode cX10_weightOf 25 = .ok (.aload_n 0, 1) := by decide +kernel
theorem dX10_weightOf_26 : decode cX10_weightOf 26 = .ok (.getfield 16, 3) := by decide +kernel
theorem dX10_weightOf_29 : decode cX10_weightOf 29 = .ok (.iload_n 3, 1) := by decide +kernel
theorem dX10_weightOf_30 : decode cX10_weightOf 30 = .ok (.iaload, 1) := by decide +kernel
theorem dX10_weightOf_31 : decode cX10_weightOf 31 = .ok (.iaload, 1) := by decide +kernel
theorem dX10_weightOf_32 : decode cX10_weightOf 32 = .ok (.goto 4, 3) := by decide +kernel
theorem dX10_weightOf_35 : decode cX10_weightOf 35 = .ok (.iconst 0, 1) := by decide +kernel
theorem dX10_weightOf_36 : decode cX10_weightOf 36 = .ok (.iadd, 1) := by decide +kernel
theorem dX10_weightOf_37 : decode cX10_weightOf 37 = .ok (.istore_n 2, 1) := by decide +kernel
theorem dX10_weightOf_38 : decode cX10_weightOf 38 = .ok (.iinc 3 1, 3) := by decide +kernel
theorem dX10_weightOf_41 : decode cX10_weightOf 41 = .ok (.goto (-37), 3) := by decide +kernel
theorem dX10_weightOf_44 : decode cX10_weightOf 44 = .ok (.iload_n 2, 1) := by decide +kernel
theorem dX10_weightOf_45 : decode cX10_weightOf 45 = .ok (.ireturn, 1) := by decide +kernel
theorem dX10_orders_0 : decode cX10_orders 0 = .ok (.lconst 1, 1) := by decide +kernel
theorem dX10_orders_1 : decode cX10_orders 1 = .ok (.lstore_n 1, 1) := by decide +kernel
theorem dX10_orders_2 : decode cX10_orders 2 = .ok (.iconst 2, 1) := by decide +kernel
theorem dX10_orders_3 : decode cX10_orders 3 = .ok (.istore_n 3, 1) := by decide +kernel
theorem dX10_orders_4 : decode cX10_orders 4 = .ok (.iload_n 3, 1) := by decide +kernel
theorem dX10_orders_5 : decode cX10_orders 5 = .ok (.iload_n 0, 1) := by decide +kernel
theorem dX10_orders_6 : decode cX10_orders 6 = .ok (.if_icmp .gt 14, 3) := by decide +kernel
theorem dX10_orders_9 : decode cX10_orders 9 = .ok (.lload_n 1, 1) := by decide +kernel
theorem dX10_orders_10 : decode cX10_orders 10 = .ok (.iload_n 3, 1) := by decide +kernel
theorem dX10_orders_11 : decode cX10_orders 11 = .ok (.i2l, 1) := by decide +kernel
theorem dX10_orders_12 : decode cX10_orders 12 = .ok (.lmul, 1) := by decide +kernel
theorem dX10_orders_13 : decode cX10_orders 13 = .ok (.lstore_n 1, 1) := by decide +kernel
theorem dX10_orders_14 : decode cX10_orders 14 = .ok (.iinc 3 1, 3) := by decide +kernel
theorem dX10_orders_17 : decode cX10_orders 17 = .ok (.goto (-13), 3) := by decide +kernel
theorem dX10_orders_20 : decode cX10_orders 20 = .ok (.lload_n 1, 1) := by decide +kernel
theorem dX10_orders_21 : decode cX10_orders 21 = .ok (.lreturn, 1) := by decide +kernel
theorem dX10_powerOf_0 : decode cX10_powerOf 0 = .ok (.aload_n 0, 1) := by decide +kernel
theorem dX10_powerOf_1 : decode cX10_powerOf 1 = .ok (.iconst 1, 1) := by decide +kernel
theorem dX10_powerOf_2 : decode cX10_powerOf 2 = .ok (.aload_n 0, 1) := by decide +kernel
theorem dX10_powerOf_3 : decode cX10_powerOf 3 = .ok (.getfield 125, 3) := by decide +kernel
theorem dX10_powerOf_6 : decode cX10_powerOf 6 = .ok (.ishl, 1) := by decide +kernel
theorem dX10_powerOf_7 : decode cX10_powerOf 7 = .ok (.iconst 1, 1) := by decide +kernel
theorem dX10_powerOf_8 : decode cX10_powerOf 8 = .ok (.isub, 1) := by decide +kernel
theorem dX10_powerOf_9 : decode cX10_powerOf 9 = .ok (.invokevirtual 264, 3) := by decide +kernel
theorem dX10_powerOf_12 : decode cX10_powerOf 12 = .ok (.istore_n 3, 1) := by decide +kernel
theorem dX10_powerOf_13 : decode cX10_powerOf 13 = .ok (.lconst 0, 1) := by decide +kernel
theorem dX10_powerOf_14 : decode cX10_powerOf 14 = .ok (.lstore 4, 2) := by decide +kernel
theorem dX10_powerOf_16 : decode cX10_powerOf 16 = .ok (.iconst 0, 1) := by decide +kernel
theorem dX10_powerOf_17 : decode cX10_powerOf 17 = .ok (.istore 6, 2) := by decide +kernel
theorem dX10_powerOf_19 : decode cX10_powerOf 19 = .ok (.iload 6, 2) := by decide +kernel
theorem dX10_powerOf_21 : decode cX10_powerOf 21 = .ok (.iconst 1, 1) := by decide +kernel
theorem dX10_powerOf_22 : decode cX10_powerOf 22 = .ok (.aload_n 0, 1) := by decide +kernel
theorem dX10_powerOf_23 : decode cX10_powerOf 23 = .ok (.getfield 125, 3) := by decide +kernel
theorem dX10_powerOf_26 : decode cX10_powerOf 26 = .ok (.ishl, 1) := by decide +kernel
theorem dX10_powerOf_27 : decode cX10_powerOf 27 = .ok (.if_icmp .ge 126, 3) := by decide +kernel
theorem dX10_powerOf_30 : decode cX10_powerOf 30 = .ok (.aload_n 0, 1) := by decide +kernel
theorem dX10_powerOf_31 : decode cX10_powerOf 31 = .ok (.iload 6, 2) := by decide +kernel
theorem dX10_powerOf_33 : decode cX10_powerOf 33 = .ok (.invokevirtual 264, 3) := by decide +kernel
theorem dX10_powerOf_36 : decode cX10_powerOf 36 = .ok (.istore 7, 2) := by decide +kernel
theorem dX10_powerOf_38 : decode cX10_powerOf 38 = .ok (.iload 6, 2) := by decide +kernel
theorem dX10_powerOf_40 : decode cX10_powerOf 40 = .ok (.iload_n 1, 1) := by decide +kernel
theorem dX10_powerOf_41 : decode cX10_powerOf 41 = .ok (.invokestatic 121, 3) := by decide +kernel
theorem dX10_powerOf_44 : decode cX10_powerOf 44 = .ok (.ifCond .ne 35, 3) := by decide +kernel
theorem dX10_powerOf_47 : decode cX10_powerOf 47 = .ok (.iconst 2, 1) := by decide +kernel
theorem dX10_powerOf_48 : decode cX10_powerOf 48 = .ok (.iload 7, 2) := by decide +kernel
theorem dX10_powerOf_50 : decode cX10_powerOf 50 = .ok (.imul, 1) := by decide +kernel
theorem dX10_powerOf_51 : decode cX10_powerOf 51 = .ok (.iload_n 3, 1) := by decide +kernel
theorem dX10_powerOf_52 : decode cX10_powerOf 52 = .ok (.if_icmp .gt 27, 3) := by decide +kernel
theorem dX10_powerOf_55 : decode cX10_powerOf 55 = .ok (.iconst 2, 1) := by decide +kernel
theorem dX10_powerOf_56 : decode cX10_powerOf 56 = .ok (.iload 7, 2) := by decide +kernel
theorem dX10_powerOf_58 : decode cX10_powerOf 58 = .ok (.aload_n 0, 1) := by decide +kernel
theorem dX10_powerOf_59 : decode cX10_powerOf 59 = .ok (.getfield 34, 3) := by decide +kernel
theorem dX10_powerOf_62 : decode cX10_powerOf 62 = .ok (.aload_n 0, 1) := by decide +kernel
theorem dX10_powerOf_63 : decode cX10_powerOf 63 = .ok (.getfield 16, 3) := by decide +kernel
theorem dX10_powerOf_66 : decode cX10_powerOf 66 = .ok (.iload_n 1, 1) := by decide +kernel
theorem dX10_powerOf_67 : decode cX10_powerOf 67 = .ok (.iaload, 1) := by decide +kernel
theorem dX10_powerOf_68 : decode cX10_powerOf 68 = .ok (.iaload, 1) := by decide +kernel
theorem dX10_powerOf_69 : decode cX10_powerOf 69 = .ok (.iadd, 1) := by decide +kernel
theorem dX10_powerOf_70 : decode cX10_powerOf 70 = .ok (.imul, 1) := by decide +kernel
theorem dX10_powerOf_71 : decode cX10_powerOf 71 = .ok (.iload_n 3, 1) := by decide +kernel
theorem dX10_powerOf_72 : decode cX10_powerOf 72 = .ok (.if_icmp .le 7, 3) := by decide +kernel
theorem dX10_powerOf_75 : decode cX10_powerOf 75 = .ok (.iconst 1, 1) := by decide +kernel
theorem dX10_powerOf_76 : decode cX10_powerOf 76 = .ok (.goto 4, 3) := by decide +kernel
theorem dX10_powerOf_79 : decode cX10_powerOf 79 = .ok (.iconst 0, 1) := by decide +kernel
theorem dX10_powerOf_80 : decode cX10_powerOf 80 = .ok (.istore 8, 2) := by decide +kernel
theorem dX10_powerOf_82 : decode cX10_powerOf 82 = .ok (.iconst 0, 1) := by decide +kernel
theorem dX10_powerOf_83 : decode cX10_powerOf 83 = .ok (.istore 9, 2) := by decide +kernel
theorem dX10_powerOf_85 : decode cX10_powerOf 85 = .ok (.iconst 0, 1) := by decide +kernel
theorem dX10_powerOf_86 : decode cX10_powerOf 86 = .ok (.istore 10, 2) := by decide +kernel
theorem dX10_powerOf_88 : decode cX10_powerOf 88 = .ok (.iload 10, 2) := by decide +kernel
theorem dX10_powerOf_90 : decode cX10_powerOf 90 = .ok (.aload_n 0, 1) := by decide +kernel
theorem dX10_powerOf_91 : decode cX10_powerOf 91 = .ok (.getfield 125, 3) := by decide +kernel
theorem dX10_powerOf_94 : decode cX10_powerOf 94 = .ok (.if_icmp .ge 21, 3) := by decide +kernel
theorem dX10_powerOf_97 : decode cX10_powerOf 97 = .ok (.iload 9, 2) := by decide +kernel
theorem dX10_powerOf_99 : decode cX10_powerOf 99 = .ok (.iload 6, 2) := by decide +kernel
theorem dX10_powerOf_101 : decode cX10_powerOf 101 = .ok (.iload 10, 2) := by decide +kernel
theorem dX10_powerOf_103 : decode cX10_powerOf 103 = .ok (.ishr, 1) := by decide +kernel
theorem dX10_powerOf_104 : decode cX10_powerOf 104 = .ok (.iconst 1, 1) := by decide +kernel
theorem dX10_powerOf_105 : decode cX10_powerOf 105 = .ok (.iand, 1) := by decide +kernel
theorem dX10_powerOf_106 : decode cX10_powerOf 106 = .ok (.iadd, 1) := by decide +kernel
theorem dX10_powerOf_107 : decode cX10_powerOf 107 = .ok (.istore 9, 2) := by decide +kernel
theorem dX10_powerOf_109 : decode cX10_powerOf 109 = .ok (.iinc 10 1, 3) := by decide +kernel
theorem dX10_powerOf_112 : decode cX10_powerOf 112 = .ok (.goto (-24), 3) := by decide +kernel
theorem dX10_powerOf_115 : decode cX10_powerOf 115 = .ok (.lload 4, 2) := by decide +kernel
theorem dX10_powerOf_117 : decode cX10_powerOf 117 = .ok (.iload 8, 2) := by decide +kernel
theorem dX10_powerOf_119 : decode cX10_powerOf 119 = .ok (.ifCond .eq 24, 3) := by decide +kernel
theorem dX10_powerOf_122 : decode cX10_powerOf 122 = .ok (.iload 9, 2) := by decide +kernel
theorem dX10_powerOf_124 : decode cX10_powerOf 124 = .ok (.invokestatic 267, 3) := by decide +kernel
theorem dX10_powerOf_127 : decode cX10_powerOf 127 = .ok (.aload_n 0, 1) := by decide +kernel
theorem dX10_powerOf_128 : decode cX10_powerOf 128 = .ok (.getfield 125, 3) := by decide +kernel
theorem dX10_powerOf_131 : decode cX10_powerOf 131 = .ok (.iconst 1, 1) := by decide +kernel
theorem dX10_powerOf_132 : decode cX10_powerOf 132 = .ok (.isub, 1) := by decide +kernel
theorem dX10_powerOf_133 : decode cX10_powerOf 133 = .ok (.iload 9, 2) := by decide +kernel
theorem dX10_powerOf_135 : decode cX10_powerOf 135 = .ok (.isub, 1) := by decide +kernel
theorem dX10_powerOf_136 : decode cX10_powerOf 136 = .ok (.invokestatic 267, 3) := by decide +kernel
theorem dX10_powerOf_139 : decode cX10_powerOf 139 = .ok (.lmul, 1) := by decide +kernel
theorem dX10_powerOf_140 : decode cX10_powerOf 140 = .ok (.goto 4, 3) := by decide +kernel
theorem dX10_powerOf_143 : decode cX10_powerOf 143 = .ok (.lconst 0, 1) := by decide +kernel
theorem dX10_powerOf_144 : decode cX10_powerOf 144 = .ok (.ladd, 1) := by decide +kernel
theorem dX10_powerOf_145 : decode cX10_powerOf 145 = .ok (.lstore 4, 2) := by decide +kernel
theorem dX10_powerOf_147 : decode cX10_powerOf 147 = .ok (.iinc 6 1, 3) := by decide +kernel
theorem dX10_powerOf_150 : decode cX10_powerOf 150 = .ok (.goto (-131), 3) := by decide +kernel
theorem dX10_powerOf_153 : decode cX10_powerOf 153 = .ok (.lload 4, 2) := by decide +kernel
theorem dX10_powerOf_155 : decode cX10_powerOf 155 = .ok (.aload_n 0, 1) := by decide +kernel
theorem dX10_powerOf_156 : decode cX10_powerOf 156 = .ok (.getfield 125, 3) := by decide +kernel
theorem dX10_powerOf_159 : decode cX10_powerOf 159 = .ok (.invokestatic 267, 3) := by decide +kernel
theorem dX10_powerOf_162 : decode cX10_powerOf 162 = .ok (.iload_n 2, 1) := by decide +kernel
theorem dX10_powerOf_163 : decode cX10_powerOf 163 = .ok (.invokestatic 271, 3) := by decide +kernel
theorem dX10_powerOf_166 : decode cX10_powerOf 166 = .ok (.lreturn, 1) := by decide +kernel
theorem dX10_power_0 : decode cX10_power 0 = .ok (.aload_n 0, 1) := by decide +kernel
theorem dX10_power_1 : decode cX10_power 1 = .ok (.iload_n 1, 1) := by decide +kernel
theorem dX10_power_2 : decode cX10_power 2 = .ok (.invokevirtual 149, 3) := by decide +kernel
theorem dX10_power_5 : decode cX10_power 5 = .ok (.ifCond .eq 21, 3) := by decide +kernel
theorem dX10_power_8 : decode cX10_power 8 = .ok (.iload_n 2, 1) := by decide +kernel
theorem dX10_power_9 : decode cX10_power 9 = .ok (.iconst 0, 1) := by decide +kernel
theorem dX10_power_10 : decode cX10_power 10 = .ok (.iconst 1, 1) := by decide +kernel
theorem dX10_power_11 : decode cX10_power 11 = .ok (.invokestatic 106, 3) := by decide +kernel
theorem dX10_power_14 : decode cX10_power 14 = .ok (.ifCond .eq 12, 3) := by decide +kernel
theorem dX10_power_17 : decode cX10_power 17 = .ok (.aload_n 0, 1) := by decide +kernel
theorem dX10_power_18 : decode cX10_power 18 = .ok (.iload_n 1, 1) := by decide +kernel
theorem dX10_power_19 : decode cX10_power 19 = .ok (.iload_n 2, 1) := by decide +kernel
theorem dX10_power_20 : decode cX10_power 20 = .ok (.invokevirtual 275, 3) := by decide +kernel
theorem dX10_power_23 : decode cX10_power 23 = .ok (.goto 8, 3) := by decide +kernel
theorem dX10_power_26 : decode cX10_power 26 = .ok (.bipush (-2), 2) := by decide +kernel
theorem dX10_power_28 : decode cX10_power 28 = .ok (.invokestatic 279, 3) := by decide +kernel
theorem dX10_power_31 : decode cX10_power 31 = .ok (.lreturn, 1) := by decide +kernel
theorem dX10_beats_0 : decode cX10_beats 0 = .ok (.iconst 0, 1) := by decide +kernel
theorem dX10_beats_1 : decode cX10_beats 1 = .ok (.istore_n 3, 1) := by decide +kernel
theorem dX10_beats_2 : decode cX10_beats 2 = .ok (.iconst 0, 1) := by decide +kernel
theorem dX10_beats_3 : decode cX10_beats 3 = .ok (.istore 4, 2) := by decide +kernel
theorem dX10_beats_5 : decode cX10_beats 5 = .ok (.iload 4, 2) := by decide +kernel
theorem dX10_beats_7 : decode cX10_beats 7 = .ok (.aload_n 0, 1) := by decide +kernel
theorem dX10_beats_8 : decode cX10_beats 8 = .ok (.getfield 125, 3) := by decide +kernel
theorem dX10_beats_11 : decode cX10_beats 11 = .ok (.if_icmp .ge 28, 3) := by decide +kernel
theorem dX10_beats_14 : decode cX10_beats 14 = .ok (.iload_n 3, 1) := by decide +kernel
theorem dX10_beats_15 : decode cX10_beats 15 = .ok (.aload_n 0, 1) := by decide +kernel
theorem dX10_beats_16 : decode cX10_beats 16 = .ok (.iload 4, 2) := by decide +kernel
theorem dX10_beats_18 : decode cX10_beats 18 = .ok (.iload_n 1, 1) := by decide +kernel
theorem dX10_beats_19 : decode cX10_beats 19 = .ok (.iload_n 2, 1) := by decide +kernel
theorem dX10_beats_20 : decode cX10_beats 20 = .ok (.invokevirtual 177, 3) := by decide +kernel
theorem dX10_beats_23 : decode cX10_beats 23 = .ok (.ifCond .eq 7, 3) := by decide +kernel
theorem dX10_beats_26 : decode cX10_beats 26 = .ok (.iconst (-1), 1) := by decide +kernel
theorem dX10_beats_27 : decode cX10_beats 27 = .ok (.goto 4, 3) := by decide +kernel
theorem dX10_beats_30 : decode cX10_beats 30 = .ok (.iconst 1, 1) := by decide +kernel
theorem dX10_beats_31 : decode cX10_beats 31 = .ok (.iadd, 1) := by decide +kernel
theorem dX10_beats_32 : decode cX10_beats 32 = .ok (.istore_n 3, 1) := by decide +kernel
theorem dX10_beats_33 : decode cX10_beats 33 = .ok (.iinc 4 1, 3) := by decide +kernel
theorem dX10_beats_36 : decode cX10_beats 36 = .ok (.goto (-31), 3) := by decide +kernel
theorem dX10_beats_39 : decode cX10_beats 39 = .ok (.iload_n 3, 1) := by decide +kernel
theorem dX10_beats_40 : decode cX10_beats 40 = .ok (.ifCond .le 7, 3) := by decide +kernel
theorem dX10_beats_43 : decode cX10_beats 43 = .ok (.iconst 1, 1) := by decide +kernel
theorem dX10_beats_44 : decode cX10_beats 44 = .ok (.goto 4, 3) := by decide +kernel
theorem dX10_beats_47 : decode cX10_beats 47 = .ok (.iconst 0, 1) := by decide +kernel
theorem dX10_beats_48 : decode cX10_beats 48 = .ok (.ireturn, 1) := by decide +kernel
theorem dX10_ringNow_0 : decode cX10_ringNow 0 = .ok (.aload_n 0, 1) := by decide +kernel
theorem dX10_ringNow_1 : decode cX10_ringNow 1 = .ok (.invokevirtual 146, 3) := by decide +kernel
theorem dX10_ringNow_4 : decode cX10_ringNow 4 = .ok (.aload_n 0, 1) := by decide +kernel
theorem dX10_ringNow_5 : decode cX10_ringNow 5 = .ok (.iconst 0, 1) := by decide +kernel
theorem dX10_ringNow_6 : decode cX10_ringNow 6 = .ok (.iconst 1, 1) := by decide +kernel
theorem dX10_ringNow_7 : decode cX10_ringNow 7 = .ok (.invokevirtual 282, 3) := by decide +kernel
theorem dX10_ringNow_10 : decode cX10_ringNow 10 = .ok (.ifCond .eq 25, 3) := by decide +kernel
theorem dX10_ringNow_13 : decode cX10_ringNow 13 = .ok (.aload_n 0, 1) := by decide +kernel
theorem dX10_ringNow_14 : decode cX10_ringNow 14 = .ok (.iconst 1, 1) := by decide +kernel
theorem dX10_ringNow_15 : decode cX10_ringNow 15 = .ok (.iconst 2, 1) := by decide +kernel
theorem dX10_ringNow_16 : decode cX10_ringNow 16 = .ok (.invokevirtual 282, 3) := by decide +kernel
theorem dX10_ringNow_19 : decode cX10_ringNow 19 = .ok (.ifCond .eq 16, 3) := by decide +kernel
theorem dX10_ringNow_22 : decode cX10_ringNow 22 = .ok (.aload_n 0, 1) := by decide +kernel
theorem dX10_ringNow_23 : decode cX10_ringNow 23 = .ok (.iconst 2, 1) := by decide +kernel
theorem dX10_ringNow_24 : decode cX10_ringNow 24 = .ok (.iconst 0, 1) := by decide +kernel
theorem dX10_ringNow_25 : decode cX10_ringNow 25 = .ok (.invokevirtual 282, 3) := by decide +kernel
theorem dX10_ringNow_28 : decode cX10_ringNow 28 = .ok (.ifCond .eq 7, 3) := by decide +kernel
theorem dX10_ringNow_31 : decode cX10_ringNow 31 = .ok (.iconst 1, 1) := by decide +kernel
theorem dX10_ringNow_32 : decode cX10_ringNow 32 = .ok (.goto 35, 3) := by decide +kernel
theorem dX10_ringNow_35 : decode cX10_ringNow 35 = .ok (.aload_n 0, 1) := by decide +kernel
theorem dX10_ringNow_36 : decode cX10_ringNow 36 = .ok (.iconst 1, 1) := by decide +kernel
theorem dX10_ringNow_37 : decode cX10_ringNow 37 = .ok (.iconst 0, 1) := by decide +kernel
theorem dX10_ringNow_38 : decode cX10_ringNow 38 = .ok (.invokevirtual 282, 3) := by decide +kernel
theorem dX10_ringNow_41 : decode cX10_ringNow 41 = .ok (.ifCond .eq 25, 3) := by decide +kernel
theorem dX10_ringNow_44 : decode cX10_ringNow 44 = .ok (.aload_n 0, 1) := by decide +kernel
theorem dX10_ringNow_45 : decode cX10_ringNow 45 = .ok (.iconst 2, 1) := by decide +kernel
theorem dX10_ringNow_46 : decode cX10_ringNow 46 = .ok (.iconst 1, 1) := by decide +kernel
theorem dX10_ringNow_47 : decode cX10_ringNow 47 = .ok (.invokevirtual 282, 3) := by decide +kernel
theorem dX10_ringNow_50 : decode cX10_ringNow 50 = .ok (.ifCond .eq 16, 3) := by decide +kernel
theorem dX10_ringNow_53 : decode cX10_ringNow 53 = .ok (.aload_n 0, 1) := by decide +kernel
theorem dX10_ringNow_54 : decode cX10_ringNow 54 = .ok (.iconst 0, 1) := by decide +kernel
theorem dX10_ringNow_55 : decode cX10_ringNow 55 = .ok (.iconst 2, 1) := by decide +kernel
theorem dX10_ringNow_56 : decode cX10_ringNow 56 = .ok (.invokevirtual 282, 3) := by decide +kernel
theorem dX10_ringNow_59 : decode cX10_ringNow 59 = .ok (.ifCond .eq 7, 3) := by decide +kernel
theorem dX10_ringNow_62 : decode cX10_ringNow 62 = .ok (.iconst 2, 1) := by decide +kernel
theorem dX10_ringNow_63 : decode cX10_ringNow 63 = .ok (.goto 4, 3) := by decide +kernel
theorem dX10_ringNow_66 : decode cX10_ringNow 66 = .ok (.iconst 0, 1) := by decide +kernel
theorem dX10_ringNow_67 : decode cX10_ringNow 67 = .ok (.ireturn, 1) := by decide +kernel
theorem dX10_ring_0 : decode cX10_ring 0 = .ok (.aload_n 0, 1) := by decide +kernel
theorem dX10_ring_1 : decode cX10_ring 1 = .ok (.invokevirtual 285, 3) := by decide +kernel
theorem dX10_ring_4 : decode cX10_ring 4 = .ok (.ireturn, 1) := by decide +kernel
theorem dX10_shamOf_0 : decode cX10_shamOf 0 = .ok (.aload_n 0, 1) := by decide +kernel
theorem dX10_shamOf_1 : decode cX10_shamOf 1 = .ok (.invokevirtual 222, 3) := by decide +kernel
theorem dX10_shamOf_4 : decode cX10_shamOf 4 = .ok (.iload_n 1, 1) := by decide +kernel
theorem dX10_shamOf_5 : decode cX10_shamOf 5 = .ok (.aload_n 0, 1) := by decide +kernel
theorem dX10_shamOf_6 : decode cX10_shamOf 6 = .ok (.getfield 132, 3) := by decide +kernel
theorem dX10_shamOf_9 : decode cX10_shamOf 9 = .ok (.if_icmp .lt 5, 3) := by decide +kernel
theorem dX10_shamOf_12 : decode cX10_shamOf 12 = .ok (.iconst (-1), 1) := by decide +kernel
theorem dX10_shamOf_13 : decode cX10_shamOf 13 = .ok (.ireturn, 1) := by decide +kernel
theorem dX10_shamOf_14 : decode cX10_shamOf 14 = .ok (.aload_n 0, 1) := by decide +kernel
theorem dX10_shamOf_15 : decode cX10_shamOf 15 = .ok (.aload_n 0, 1) := by decide +kernel
theorem dX10_shamOf_16 : decode cX10_shamOf 16 = .ok (.getfield 61, 3) := by decide +kernel
theorem dX10_shamOf_19 : decode cX10_shamOf 19 = .ok (.iload_n 1, 1) := by decide +kernel
theorem dX10_shamOf_20 : decode cX10_shamOf 20 = .ok (.iaload, 1) := by decide +kernel
theorem dX10_shamOf_21 : decode cX10_shamOf 21 = .ok (.putfield 180, 3) := by decide +kernel
theorem dX10_shamOf_24 : decode cX10_shamOf 24 = .ok (.aload_n 0, 1) := by decide +kernel
theorem dX10_shamOf_25 : decode cX10_shamOf 25 = .ok (.aload_n 0, 1) := by decide +kernel
theorem dX10_shamOf_26 : decode cX10_shamOf 26 = .ok (.getfield 67, 3) := by decide +kernel
theorem dX10_shamOf_29 : decode cX10_shamOf 29 = .ok (.iload_n 1, 1) := by decide +kernel
theorem dX10_shamOf_30 : decode cX10_shamOf 30 = .ok (.iaload, 1) := by decide +kernel
theorem dX10_shamOf_31 : decode cX10_shamOf 31 = .ok (.putfield 183, 3) := by decide +kernel
theorem dX10_shamOf_34 : decode cX10_shamOf 34 = .ok (.aload_n 0, 1) := by decide +kernel
theorem dX10_shamOf_35 : decode cX10_shamOf 35 = .ok (.getfield 70, 3) := by decide +kernel
theorem dX10_shamOf_38 : decode cX10_shamOf 38 = .ok (.iload_n 1, 1) := by decide +kernel
theorem dX10_shamOf_39 : decode cX10_shamOf 39 = .ok (.iaload, 1) := by decide +kernel
theorem dX10_shamOf_40 : decode cX10_shamOf 40 = .ok (.istore_n 3, 1) := by decide +kernel
theorem dX10_shamOf_41 : decode cX10_shamOf 41 = .ok (.aload_n 0, 1) := by decide +kernel
theorem dX10_shamOf_42 : decode cX10_shamOf 42 = .ok (.aload_n 0, 1) := by decide +kernel
theorem dX10_shamOf_43 : decode cX10_shamOf 43 = .ok (.getfield 25, 3) := by decide +kernel
theorem dX10_shamOf_46 : decode cX10_shamOf 46 = .ok (.iload_n 1, 1) := by decide +kernel
theorem dX10_shamOf_47 : decode cX10_shamOf 47 = .ok (.iaload, 1) := by decide +kernel
theorem dX10_shamOf_48 : decode cX10_shamOf 48 = .ok (.aload_n 0, 1) := by decide +kernel
theorem dX10_shamOf_49 : decode cX10_shamOf 49 = .ok (.getfield 28, 3) := by decide +kernel
theorem dX10_shamOf_52 : decode cX10_shamOf 52 = .ok (.iload_n 1, 1) := by decide +kernel
theorem dX10_shamOf_53 : decode cX10_shamOf 53 = .ok (.iaload, 1) := by decide +kernel
theorem dX10_shamOf_54 : decode cX10_shamOf 54 = .ok (.aload_n 0, 1) := by decide +kernel
theorem dX10_shamOf_55 : decode cX10_shamOf 55 = .ok (.getfield 31, 3) := by decide +kernel
theorem dX10_shamOf_58 : decode cX10_shamOf 58 = .ok (.iload_n 1, 1) := by decide +kernel
theorem dX10_shamOf_59 : decode cX10_shamOf 59 = .ok (.iaload, 1) := by decide +kernel
theorem dX10_shamOf_60 : decode cX10_shamOf 60 = .ok (.iconst 1, 1) := by decide +kernel
theorem dX10_shamOf_61 : decode cX10_shamOf 61 = .ok (.iload_n 2, 1) := by decide +kernel
theorem dX10_shamOf_62 : decode cX10_shamOf 62 = .ok (.ishl, 1) := by decide +kernel
theorem dX10_shamOf_63 : decode cX10_shamOf 63 = .ok (.invokevirtual 212, 3) := by decide +kernel
theorem dX10_shamOf_66 : decode cX10_shamOf 66 = .ok (.istore 4, 2) := by decide +kernel
theorem dX10_shamOf_68 : decode cX10_shamOf 68 = .ok (.iload 4, 2) := by decide +kernel
theorem dX10_shamOf_70 : decode cX10_shamOf 70 = .ok (.iload_n 3, 1) := by decide +kernel
theorem dX10_shamOf_71 : decode cX10_shamOf 71 = .ok (.if_icmp .eq 18, 3) := by decide +kernel
theorem dX10_shamOf_74 : decode cX10_shamOf 74 = .ok (.aload_n 0, 1) := by decide +kernel
theorem dX10_shamOf_75 : decode cX10_shamOf 75 = .ok (.iload_n 2, 1) := by decide +kernel
theorem dX10_shamOf_76 : decode cX10_shamOf 76 = .ok (.iload_n 3, 1) := by decide +kernel
theorem dX10_shamOf_77 : decode cX10_shamOf 77 = .ok (.iload 4, 2) := by decide +kernel
theorem dX10_shamOf_79 : decode cX10_shamOf 79 = .ok (.invokevirtual 177, 3) := by decide +kernel
theorem dX10_shamOf_82 : decode cX10_shamOf 82 = .ok (.ifCond .eq 7, 3) := by decide +kernel
theorem dX10_shamOf_85 : decode cX10_shamOf 85 = .ok (.iconst 1, 1) := by decide +kernel
theorem dX10_shamOf_86 : decode cX10_shamOf 86 = .ok (.goto 4, 3) := by decide +kernel
theorem dX10_shamOf_89 : decode cX10_shamOf 89 = .ok (.iconst 0, 1) := by decide +kernel
theorem dX10_shamOf_90 : decode cX10_shamOf 90 = .ok (.ireturn, 1) := by decide +kernel
theorem dX10_sham_0 : decode cX10_sham 0 = .ok (.iload_n 1, 1) := by decide +kernel
theorem dX10_sham_1 : decode cX10_sham 1 = .ok (.invokestatic 155, 3) := by decide +kernel
theorem dX10_sham_4 : decode cX10_sham 4 = .ok (.ifCond .eq 20, 3) := by decide +kernel
theorem dX10_sham_7 : decode cX10_sham 7 = .ok (.aload_n 0, 1) := by decide +kernel
theorem dX10_sham_8 : decode cX10_sham 8 = .ok (.iload_n 2, 1) := by decide +kernel
theorem dX10_sham_9 : decode cX10_sham 9 = .ok (.invokevirtual 149, 3) := by decide +kernel
theorem dX10_sham_12 : decode cX10_sham 12 = .ok (.ifCond .eq 12, 3) := by decide +kernel
theorem dX10_sham_15 : decode cX10_sham 15 = .ok (.aload_n 0, 1) := by decide +kernel
theorem dX10_sham_16 : decode cX10_sham 16 = .ok (.iload_n 1, 1) := by decide +kernel
theorem dX10_sham_17 : decode cX10_sham 17 = .ok (.iload_n 2, 1) := by decide +kernel
theorem dX10_sham_18 : decode cX10_sham 18 = .ok (.invokevirtual 288, 3) := by decide +kernel
theorem dX10_sham_21 : decode cX10_sham 21 = .ok (.goto 5, 3) := by decide +kernel
theorem dX10_sham_24 : decode cX10_sham 24 = .ok (.bipush (-2), 2) := by decide +kernel
theorem dX10_sham_26 : decode cX10_sham 26 = .ok (.ireturn, 1) := by decide +kernel
theorem dX10_seen_0 : decode cX10_seen 0 = .ok (.iload_n 1, 1) := by decide +kernel
theorem dX10_seen_1 : decode cX10_seen 1 = .ok (.invokestatic 155, 3) := by decide +kernel
theorem dX10_seen_4 : decode cX10_seen 4 = .ok (.ifCond .eq 12, 3) := by decide +kernel
theorem dX10_seen_7 : decode cX10_seen 7 = .ok (.iload_n 2, 1) := by decide +kernel
theorem dX10_seen_8 : decode cX10_seen 8 = .ok (.iconst 0, 1) := by decide +kernel
theorem dX10_seen_9 : decode cX10_seen 9 = .ok (.iconst 3, 1) := by decide +kernel
theorem dX10_seen_10 : decode cX10_seen 10 = .ok (.invokestatic 106, 3) := by decide +kernel
theorem dX10_seen_13 : decode cX10_seen 13 = .ok (.ifCond .ne 6, 3) := by decide +kernel
theorem dX10_seen_16 : decode cX10_seen 16 = .ok (.bipush (-2), 2) := by decide +kernel
theorem dX10_seen_18 : decode cX10_seen 18 = .ok (.ireturn, 1) := by decide +kernel
theorem dX10_seen_19 : decode cX10_seen 19 = .ok (.aload_n 0, 1) := by decide +kernel
theorem dX10_seen_20 : decode cX10_seen 20 = .ok (.getfield 291, 3) := by decide +kernel
theorem dX10_seen_23 : decode cX10_seen 23 = .ok (.bipush 8, 2) := by decide +kernel
theorem dX10_seen_25 : decode cX10_seen 25 = .ok (.if_icmp .ne 6, 3) := by decide +kernel
theorem dX10_seen_28 : decode cX10_seen 28 = .ok (.bipush (-4), 2) := by decide +kernel
theorem dX10_seen_30 : decode cX10_seen 30 = .ok (.ireturn, 1) := by decide +kernel
theorem dX10_seen_31 : decode cX10_seen 31 = .ok (.aload_n 0, 1) := by decide +kernel
theorem dX10_seen_32 : decode cX10_seen 32 = .ok (.getfield 76, 3) := by decide +kernel
theorem dX10_seen_35 : decode cX10_seen 35 = .ok (.aload_n 0, 1) := by decide +kernel
theorem dX10_seen_36 : decode cX10_seen 36 = .ok (.getfield 291, 3) := by decide +kernel
theorem dX10_seen_39 : decode cX10_seen 39 = .ok (.iload_n 1, 1) := by decide +kernel
theorem dX10_seen_40 : decode cX10_seen 40 = .ok (.iastore, 1) := by decide +kernel
theorem dX10_seen_41 : decode cX10_seen 41 = .ok (.aload_n 0, 1) := by decide +kernel
theorem dX10_seen_42 : decode cX10_seen 42 = .ok (.getfield 79, 3) := by decide +kernel
theorem dX10_seen_45 : decode cX10_seen 45 = .ok (.aload_n 0, 1) := by decide +kernel
theorem dX10_seen_46 : decode cX10_seen 46 = .ok (.getfield 291, 3) := by decide +kernel
theorem dX10_seen_49 : decode cX10_seen 49 = .ok (.iload_n 2, 1) := by decide +kernel
theorem dX10_seen_50 : decode cX10_seen 50 = .ok (.iastore, 1) := by decide +kernel
theorem dX10_seen_51 : decode cX10_seen 51 = .ok (.aload_n 0, 1) := by decide +kernel
theorem dX10_seen_52 : decode cX10_seen 52 = .ok (.dup, 1) := by decide +kernel
theorem dX10_seen_53 : decode cX10_seen 53 = .ok (.getfield 291, 3) := by decide +kernel
theorem dX10_seen_56 : decode cX10_seen 56 = .ok (.iconst 1, 1) := by decide +kernel
theorem dX10_seen_57 : decode cX10_seen 57 = .ok (.iadd, 1) := by decide +kernel
theorem dX10_seen_58 : decode cX10_seen 58 = .ok (.putfield 291, 3) := by decide +kernel
theorem dX10_seen_61 : decode cX10_seen 61 = .ok (.aload_n 0, 1) := by decide +kernel
theorem dX10_seen_62 : decode cX10_seen 62 = .ok (.getfield 291, 3) := by decide +kernel
theorem dX10_seen_65 : decode cX10_seen 65 = .ok (.ireturn, 1) := by decide +kernel
theorem dX10_forget_0 : decode cX10_forget 0 = .ok (.aload_n 0, 1) := by decide +kernel
theorem dX10_forget_1 : decode cX10_forget 1 = .ok (.getfield 291, 3) := by decide +kernel
theorem dX10_forget_4 : decode cX10_forget 4 = .ok (.istore_n 1, 1) := by decide +kernel
theorem dX10_forget_5 : decode cX10_forget 5 = .ok (.aload_n 0, 1) := by decide +kernel
theorem dX10_forget_6 : decode cX10_forget 6 = .ok (.iconst 0, 1) := by decide +kernel
theorem dX10_forget_7 : decode cX10_forget 7 = .ok (.putfield 291, 3) := by decide +kernel
theorem dX10_forget_10 : decode cX10_forget 10 = .ok (.iload_n 1, 1) := by decide +kernel
theorem dX10_forget_11 : decode cX10_forget 11 = .ok (.ireturn, 1) := by decide +kernel
theorem dX10_isSeen_0 : decode cX10_isSeen 0 = .ok (.aload_n 0, 1) := by decide +kernel
theorem dX10_isSeen_1 : decode cX10_isSeen 1 = .ok (.invokevirtual 219, 3) := by decide +kernel
theorem dX10_isSeen_4 : decode cX10_isSeen 4 = .ok (.iconst 1, 1) := by decide +kernel
theorem dX10_isSeen_5 : decode cX10_isSeen 5 = .ok (.istore_n 1, 1) := by decide +kernel
theorem dX10_isSeen_6 : decode cX10_isSeen 6 = .ok (.iconst 0, 1) := by decide +kernel
theorem dX10_isSeen_7 : decode cX10_isSeen 7 = .ok (.istore_n 2, 1) := by decide +kernel
theorem dX10_isSeen_8 : decode cX10_isSeen 8 = .ok (.iload_n 2, 1) := by decide +kernel
theorem dX10_isSeen_9 : decode cX10_isSeen 9 = .ok (.aload_n 0, 1) := by decide +kernel
theorem dX10_isSeen_10 : decode cX10_isSeen 10 = .ok (.getfield 291, 3) := by decide +kernel
theorem dX10_isSeen_13 : decode cX10_isSeen 13 = .ok (.if_icmp .ge 50, 3) := by decide +kernel
theorem dX10_isSeen_16 : decode cX10_isSeen 16 = .ok (.iload_n 1, 1) := by decide +kernel
theorem dX10_isSeen_17 : decode cX10_isSeen 17 = .ok (.ifCond .eq 46, 3) := by decide +kernel
theorem dX10_isSeen_20 : decode cX10_isSeen 20 = .ok (.aload_n 0, 1) := by decide +kernel
theorem dX10_isSeen_21 : decode cX10_isSeen 21 = .ok (.getfield 70, 3) := by decide +kernel
theorem dX10_isSeen_24 : decode cX10_isSeen 24 = .ok (.aload_n 0, 1) := by decide +kernel
theorem dX10_isSeen_25 : decode cX10_isSeen 25 = .ok (.getfield 76, 3) := by decide +kernel
theorem dX10_isSeen_28 : decode cX10_isSeen 28 = .ok (.iload_n 2, 1) := by decide +kernel
theorem dX10_isSeen_29 : decode cX10_isSeen 29 = .ok (.iaload, 1) := by decide +kernel
theorem dX10_isSeen_30 : decode cX10_isSeen 30 = .ok (.iaload, 1) := by decide +kernel
theorem dX10_isSeen_31 : decode cX10_isSeen 31 = .ok (.istore_n 3, 1) := by decide +kernel
theorem dX10_isSeen_32 : decode cX10_isSeen 32 = .ok (.iload_n 3, 1) := by decide +kernel
theorem dX10_isSeen_33 : decode cX10_isSeen 33 = .ok (.iconst (-1), 1) := by decide +kernel
theorem dX10_isSeen_34 : decode cX10_isSeen 34 = .ok (.if_icmp .ne 7, 3) := by decide +kernel
theorem dX10_isSeen_37 : decode cX10_isSeen 37 = .ok (.iconst 3, 1) := by decide +kernel
theorem dX10_isSeen_38 : decode cX10_isSeen 38 = .ok (.goto 4, 3) := by decide +kernel
theorem dX10_isSeen_41 : decode cX10_isSeen 41 = .ok (.iload_n 3, 1) := by decide +kernel
theorem dX10_isSeen_42 : decode cX10_isSeen 42 = .ok (.aload_n 0, 1) := by decide +kernel
theorem dX10_isSeen_43 : decode cX10_isSeen 43 = .ok (.getfield 79, 3) := by decide +kernel
theorem dX10_isSeen_46 : decode cX10_isSeen 46 = .ok (.iload_n 2, 1) := by decide +kernel
theorem dX10_isSeen_47 : decode cX10_isSeen 47 = .ok (.iaload, 1) := by decide +kernel
theorem dX10_isSeen_48 : decode cX10_isSeen 48 = .ok (.if_icmp .ne 7, 3) := by decide +kernel
theorem dX10_isSeen_51 : decode cX10_isSeen 51 = .ok (.iconst 1, 1) := by decide +kernel
theorem dX10_isSeen_52 : decode cX10_isSeen 52 = .ok (.goto 4, 3) := by decide +kernel
theorem dX10_isSeen_55 : decode cX10_isSeen 55 = .ok (.iconst 0, 1) := by decide +kernel
theorem dX10_isSeen_56 : decode cX10_isSeen 56 = .ok (.istore_n 1, 1) := by decide +kernel
theorem dX10_isSeen_57 : decode cX10_isSeen 57 = .ok (.iinc 2 1, 3) := by decide +kernel
theorem dX10_isSeen_60 : decode cX10_isSeen 60 = .ok (.goto (-52), 3) := by decide +kernel
theorem dX10_isSeen_63 : decode cX10_isSeen 63 = .ok (.iload_n 1, 1) := by decide +kernel
theorem dX10_isSeen_64 : decode cX10_isSeen 64 = .ok (.ireturn, 1) := by decide +kernel
theorem dX10_neverNow_0 : decode cX10_neverNow 0 = .ok (.aload_n 0, 1) := by decide +kernel
theorem dX10_neverNow_1 : decode cX10_neverNow 1 = .ok (.invokevirtual 216, 3) := by decide +kernel
theorem dX10_neverNow_4 : decode cX10_neverNow 4 = .ok (.iconst 0, 1) := by decide +kernel
theorem dX10_neverNow_5 : decode cX10_neverNow 5 = .ok (.istore_n 1, 1) := by decide +kernel
theorem dX10_neverNow_6 : decode cX10_neverNow 6 = .ok (.iconst 0, 1) := by decide +kernel
theorem dX10_neverNow_7 : decode cX10_neverNow 7 = .ok (.istore_n 2, 1) := by decide +kernel
theorem dX10_neverNow_8 : decode cX10_neverNow 8 = .ok (.iload_n 2, 1) := by decide +kernel
theorem dX10_neverNow_9 : decode cX10_neverNow 9 = .ok (.aload_n 0, 1) := by decide +kernel
theorem dX10_neverNow_10 : decode cX10_neverNow 10 = .ok (.getfield 161, 3) := by decide +kernel
theorem dX10_neverNow_13 : decode cX10_neverNow 13 = .ok (.if_icmp .ge 33, 3) := by decide +kernel
theorem dX10_neverNow_16 : decode cX10_neverNow 16 = .ok (.aload_n 0, 1) := by decide +kernel
theorem dX10_neverNow_17 : decode cX10_neverNow 17 = .ok (.iconst 1, 1) := by decide +kernel
theorem dX10_neverNow_18 : decode cX10_neverNow 18 = .ok (.iload_n 2, 1) := by decide +kernel
theorem dX10_neverNow_19 : decode cX10_neverNow 19 = .ok (.ishl, 1) := by decide +kernel
theorem dX10_neverNow_20 : decode cX10_neverNow 20 = .ok (.putfield 192, 3) := by decide +kernel
theorem dX10_neverNow_23 : decode cX10_neverNow 23 = .ok (.iload_n 1, 1) := by decide +kernel
theorem dX10_neverNow_24 : decode cX10_neverNow 24 = .ok (.aload_n 0, 1) := by decide +kernel
theorem dX10_neverNow_25 : decode cX10_neverNow 25 = .ok (.invokevirtual 294, 3) := by decide +kernel
theorem dX10_neverNow_28 : decode cX10_neverNow 28 = .ok (.ifCond .eq 9, 3) := by decide +kernel
theorem dX10_neverNow_31 : decode cX10_neverNow 31 = .ok (.iconst 1, 1) := by decide +kernel
theorem dX10_neverNow_32 : decode cX10_neverNow 32 = .ok (.iload_n 2, 1) := by decide +kernel
theorem dX10_neverNow_33 : decode cX10_neverNow 33 = .ok (.ishl, 1) := by decide +kernel
theorem dX10_neverNow_34 : decode cX10_neverNow 34 = .ok (.goto 4, 3) := by decide +kernel
theorem dX10_neverNow_37 : decode cX10_neverNow 37 = .ok (.iconst 0, 1) := by decide +kernel
theorem dX10_neverNow_38 : decode cX10_neverNow 38 = .ok (.ior, 1) := by decide +kernel
theorem dX10_neverNow_39 : decode cX10_neverNow 39 = .ok (.istore_n 1, 1) := by decide +kernel
theorem dX10_neverNow_40 : decode cX10_neverNow 40 = .ok (.iinc 2 1, 3) := by decide +kernel
theorem dX10_neverNow_43 : decode cX10_neverNow 43 = .ok (.goto (-35), 3) := by decide +kernel
theorem dX10_neverNow_46 : decode cX10_neverNow 46 = .ok (.iload_n 1, 1) := by decide +kernel
theorem dX10_neverNow_47 : decode cX10_neverNow 47 = .ok (.ireturn, 1) := by decide +kernel
theorem dX10_never_0 : decode cX10_never 0 = .ok (.aload_n 0, 1) := by decide +kernel
theorem dX10_never_1 : decode cX10_never 1 = .ok (.invokevirtual 298, 3) := by decide +kernel
theorem dX10_never_4 : decode cX10_never 4 = .ok (.ireturn, 1) := by decide +kernel
theorem dX10_takesOrder_0 : decode cX10_takesOrder 0 = .ok (.iload_n 2, 1) := by decide +kernel
theorem dX10_takesOrder_1 : decode cX10_takesOrder 1 = .ok (.iconst 2, 1) := by decide +kernel
theorem dX10_takesOrder_2 : decode cX10_takesOrder 2 = .ok (.idiv, 1) := by decide +kernel
theorem dX10_takesOrder_3 : decode cX10_takesOrder 3 = .ok (.istore_n 3, 1) := by decide +kernel
theorem dX10_takesOrder_4 : decode cX10_takesOrder 4 = .ok (.iload_n 3, 1) := by decide +kernel
theorem dX10_takesOrder_5 : decode cX10_takesOrder 5 = .ok (.ifCond .ne 7, 3) := by decide +kernel
theorem dX10_takesOrder_8 : decode cX10_takesOrder 8 = .ok (.iconst 1, 1) := by decide +kernel
theorem dX10_takesOrder_9 : decode cX10_takesOrder 9 = .ok (.goto 4, 3) := by decide +kernel
theorem dX10_takesOrder_12 : decode cX10_takesOrder 12 = .ok (.iconst 0, 1) := by decide +kernel
theorem dX10_takesOrder_13 : decode cX10_takesOrder 13 = .ok (.istore 4, 2) := by decide +kernel
theorem dX10_takesOrder_15 : decode cX10_takesOrder 15 = .ok (.iload_n 3, 1) := by decide +kernel
theorem dX10_takesOrder_16 : decode cX10_takesOrder 16 = .ok (.iconst 2, 1) := by decide +kernel
theorem dX10_takesOrder_17 : decode cX10_takesOrder 17 = .ok (.if_icmp .ne 7, 3) := by decide +kernel
theorem dX10_takesOrder_20 : decode cX10_takesOrder 20 = .ok (.iconst 1, 1) := by decide +kernel
theorem dX10_takesOrder_21 : decode cX10_takesOrder 21 = .ok (.goto 4, 3) := by decide +kernel
theorem dX10_takesOrder_24 : decode cX10_takesOrder 24 = .ok (.iconst 2, 1) := by decide +kernel
theorem dX10_takesOrder_25 : decode cX10_takesOrder 25 = .ok (.istore 5, 2) := by decide +kernel
theorem dX10_takesOrder_27 : decode cX10_takesOrder 27 = .ok (.aload_n 0, 1) := by decide +kernel
theorem dX10_takesOrder_28 : decode cX10_takesOrder 28 = .ok (.getfield 22, 3) := by decide +kernel
theorem dX10_takesOrder_31 : decode cX10_takesOrder 31 = .ok (.iconst 3, 1) := by decide +kernel
theorem dX10_takesOrder_32 : decode cX10_takesOrder 32 = .ok (.iload_n 1, 1) := by decide +kernel
theorem dX10_takesOrder_33 : decode cX10_takesOrder 33 = .ok (.imul, 1) := by decide +kernel
theorem dX10_takesOrder_34 : decode cX10_takesOrder 34 = .ok (.iload_n 3, 1) := by decide +kernel
theorem dX10_takesOrder_35 : decode cX10_takesOrder 35 = .ok (.iastore, 1) := by decide +kernel
theorem dX10_takesOrder_36 : decode cX10_takesOrder 36 = .ok (.aload_n 0, 1) := by decide +kernel
theorem dX10_takesOrder_37 : decode cX10_takesOrder 37 = .ok (.getfield 22, 3) := by decide +kernel
theorem dX10_takesOrder_40 : decode cX10_takesOrder 40 = .ok (.iconst 3, 1) := by decide +kernel
theorem dX10_takesOrder_41 : decode cX10_takesOrder 41 = .ok (.iload_n 1, 1) := by decide +kernel
theorem dX10_takesOrder_42 : decode cX10_takesOrder 42 = .ok (.imul, 1) := by decide +kernel
theorem dX10_takesOrder_43 : decode cX10_takesOrder 43 = .ok (.iconst 1, 1) := by decide +kernel
theorem dX10_takesOrder_44 : decode cX10_takesOrder 44 = .ok (.iadd, 1) := by decide +kernel
theorem dX10_takesOrder_45 : decode cX10_takesOrder 45 = .ok (.iload_n 2, 1) := by decide +kernel
theorem dX10_takesOrder_46 : decode cX10_takesOrder 46 = .ok (.iconst 2, 1) := by decide +kernel
theorem dX10_takesOrder_47 : decode cX10_takesOrder 47 = .ok (.irem, 1) := by decide +kernel
theorem dX10_takesOrder_48 : decode cX10_takesOrder 48 = .ok (.ifCond .ne 8, 3) := by decide +kernel
theorem dX10_takesOrder_51 : decode cX10_takesOrder 51 = .ok (.iload 4, 2) := by decide +kernel
theorem dX10_takesOrder_53 : decode cX10_takesOrder 53 = .ok (.goto 5, 3) := by decide +kernel
theorem dX10_takesOrder_56 : decode cX10_takesOrder 56 = .ok (.iload 5, 2) := by decide +kernel
theorem dX10_takesOrder_58 : decode cX10_takesOrder 58 = .ok (.iastore, 1) := by decide +kernel
theorem dX10_takesOrder_59 : decode cX10_takesOrder 59 = .ok (.aload_n 0, 1) := by decide +kernel
theorem dX10_takesOrder_60 : decode cX10_takesOrder 60 = .ok (.getfield 22, 3) := by decide +kernel
theorem dX10_takesOrder_63 : decode cX10_takesOrder 63 = .ok (.iconst 3, 1) := by decide +kernel
theorem dX10_takesOrder_64 : decode cX10_takesOrder 64 = .ok (.iload_n 1, 1) := by decide +kernel
theorem dX10_takesOrder_65 : decode cX10_takesOrder 65 = .ok (.imul, 1) := by decide +kernel
theorem dX10_takesOrder_66 : decode cX10_takesOrder 66 = .ok (.iconst 2, 1) := by decide +kernel
theorem dX10_takesOrder_67 : decode cX10_takesOrder 67 = .ok (.iadd, 1) := by decide +kernel
theorem dX10_takesOrder_68 : decode cX10_takesOrder 68 = .ok (.iload_n 2, 1) := by decide +kernel
theorem dX10_takesOrder_69 : decode cX10_takesOrder 69 = .ok (.iconst 2, 1) := by decide +kernel
theorem dX10_takesOrder_70 : decode cX10_takesOrder 70 = .ok (.irem, 1) := by decide +kernel
theorem dX10_takesOrder_71 : decode cX10_takesOrder 71 = .ok (.ifCond .ne 8, 3) := by decide +kernel
theorem dX10_takesOrder_74 : decode cX10_takesOrder 74 = .ok (.iload 5, 2) := by decide +kernel
theorem dX10_takesOrder_76 : decode cX10_takesOrder 76 = .ok (.goto 5, 3) := by decide +kernel
theorem dX10_takesOrder_79 : decode cX10_takesOrder 79 = .ok (.iload 4, 2) := by decide +kernel
theorem dX10_takesOrder_81 : decode cX10_takesOrder 81 = .ok (.iastore, 1) := by decide +kernel
theorem dX10_takesOrder_82 : decode cX10_takesOrder 82 = .ok (.return_, 1) := by decide +kernel
theorem dX10_wouldBy_0 : decode cX10_wouldBy 0 = .ok (.aload_n 0, 1) := by decide +kernel
theorem dX10_wouldBy_1 : decode cX10_wouldBy 1 = .ok (.invokevirtual 216, 3) := by decide +kernel
theorem dX10_wouldBy_4 : decode cX10_wouldBy 4 = .ok (.aload_n 0, 1) := by decide +kernel
theorem dX10_wouldBy_5 : decode cX10_wouldBy 5 = .ok (.getfield 22, 3) := by decide +kernel
theorem dX10_wouldBy_8 : decode cX10_wouldBy 8 = .ok (.iconst 3, 1) := by decide +kernel
theorem dX10_wouldBy_9 : decode cX10_wouldBy 9 = .ok (.iload_n 1, 1) := by decide +kernel
theorem dX10_wouldBy_10 : decode cX10_wouldBy 10 = .ok (.imul, 1) := by decide +kernel
theorem dX10_wouldBy_11 : decode cX10_wouldBy 11 = .ok (.iaload, 1) := by decide +kernel
theorem dX10_wouldBy_12 : decode cX10_wouldBy 12 = .ok (.istore_n 2, 1) := by decide +kernel
theorem dX10_wouldBy_13 : decode cX10_wouldBy 13 = .ok (.aload_n 0, 1) := by decide +kernel
theorem dX10_wouldBy_14 : decode cX10_wouldBy 14 = .ok (.getfield 22, 3) := by decide +kernel
theorem dX10_wouldBy_17 : decode cX10_wouldBy 17 = .ok (.iconst 3, 1) := by decide +kernel
theorem dX10_wouldBy_18 : decode cX10_wouldBy 18 = .ok (.iload_n 1, 1) := by decide +kernel
theorem dX10_wouldBy_19 : decode cX10_wouldBy 19 = .ok (.imul, 1) := by decide +kernel
theorem dX10_wouldBy_20 : decode cX10_wouldBy 20 = .ok (.iconst 1, 1) := by decide +kernel
theorem dX10_wouldBy_21 : decode cX10_wouldBy 21 = .ok (.iadd, 1) := by decide +kernel
theorem dX10_wouldBy_22 : decode cX10_wouldBy 22 = .ok (.iaload, 1) := by decide +kernel
theorem dX10_wouldBy_23 : decode cX10_wouldBy 23 = .ok (.istore_n 3, 1) := by decide +kernel
theorem dX10_wouldBy_24 : decode cX10_wouldBy 24 = .ok (.aload_n 0, 1) := by decide +kernel
theorem dX10_wouldBy_25 : decode cX10_wouldBy 25 = .ok (.getfield 22, 3) := by decide +kernel
theorem dX10_wouldBy_28 : decode cX10_wouldBy 28 = .ok (.iconst 3, 1) := by decide +kernel
theorem dX10_wouldBy_29 : decode cX10_wouldBy 29 = .ok (.iload_n 1, 1) := by decide +kernel
theorem dX10_wouldBy_30 : decode cX10_wouldBy 30 = .ok (.imul, 1) := by decide +kernel
theorem dX10_wouldBy_31 : decode cX10_wouldBy 31 = .ok (.iconst 2, 1) := by decide +kernel
theorem dX10_wouldBy_32 : decode cX10_wouldBy 32 = .ok (.iadd, 1) := by decide +kernel
theorem dX10_wouldBy_33 : decode cX10_wouldBy 33 = .ok (.iaload, 1) := by decide +kernel
theorem dX10_wouldBy_34 : decode cX10_wouldBy 34 = .ok (.istore 4, 2) := by decide +kernel
theorem dX10_wouldBy_36 : decode cX10_wouldBy 36 = .ok (.iconst 0, 1) := by decide +kernel
theorem dX10_wouldBy_37 : decode cX10_wouldBy 37 = .ok (.istore 5, 2) := by decide +kernel
theorem dX10_wouldBy_39 : decode cX10_wouldBy 39 = .ok (.iconst 0, 1) := by decide +kernel
theorem dX10_wouldBy_40 : decode cX10_wouldBy 40 = .ok (.istore 6, 2) := by decide +kernel
theorem dX10_wouldBy_42 : decode cX10_wouldBy 42 = .ok (.iload 6, 2) := by decide +kernel
theorem dX10_wouldBy_44 : decode cX10_wouldBy 44 = .ok (.bipush 6, 2) := by decide +kernel
theorem dX10_wouldBy_46 : decode cX10_wouldBy 46 = .ok (.if_icmp .ge 72, 3) := by decide +kernel
theorem dX10_wouldBy_49 : decode cX10_wouldBy 49 = .ok (.aload_n 0, 1) := by decide +kernel
theorem dX10_wouldBy_50 : decode cX10_wouldBy 50 = .ok (.iload_n 1, 1) := by decide +kernel
theorem dX10_wouldBy_51 : decode cX10_wouldBy 51 = .ok (.iload 6, 2) := by decide +kernel
theorem dX10_wouldBy_53 : decode cX10_wouldBy 53 = .ok (.invokevirtual 301, 3) := by decide +kernel
theorem dX10_wouldBy_56 : decode cX10_wouldBy 56 = .ok (.iload 5, 2) := by decide +kernel
theorem dX10_wouldBy_58 : decode cX10_wouldBy 58 = .ok (.aload_n 0, 1) := by decide +kernel
theorem dX10_wouldBy_59 : decode cX10_wouldBy 59 = .ok (.invokevirtual 294, 3) := by decide +kernel
theorem dX10_wouldBy_62 : decode cX10_wouldBy 62 = .ok (.ifCond .eq 10, 3) := by decide +kernel
theorem dX10_wouldBy_65 : decode cX10_wouldBy 65 = .ok (.iconst 1, 1) := by decide +kernel
theorem dX10_wouldBy_66 : decode cX10_wouldBy 66 = .ok (.iload 6, 2) := by decide +kernel
theorem dX10_wouldBy_68 : decode cX10_wouldBy 68 = .ok (.ishl, 1) := by decide +kernel
theorem dX10_wouldBy_69 : decode cX10_wouldBy 69 = .ok (.goto 4, 3) := by decide +kernel
theorem dX10_wouldBy_72 : decode cX10_wouldBy 72 = .ok (.iconst 0, 1) := by decide +kernel
theorem dX10_wouldBy_73 : decode cX10_wouldBy 73 = .ok (.ior, 1) := by decide +kernel
theorem dX10_wouldBy_74 : decode cX10_wouldBy 74 = .ok (.istore 5, 2) := by decide +kernel
theorem dX10_wouldBy_76 : decode cX10_wouldBy 76 = .ok (.iconst 0, 1) := by decide +kernel
theorem dX10_wouldBy_77 : decode cX10_wouldBy 77 = .ok (.istore 7, 2) := by decide +kernel
theorem dX10_wouldBy_79 : decode cX10_wouldBy 79 = .ok (.iload 7, 2) := by decide +kernel
theorem dX10_wouldBy_81 : decode cX10_wouldBy 81 = .ok (.bipush 10, 2) := by decide +kernel
theorem dX10_wouldBy_83 : decode cX10_wouldBy 83 = .ok (.if_icmp .ge 29, 3) := by decide +kernel
theorem dX10_wouldBy_86 : decode cX10_wouldBy 86 = .ok (.aload_n 0, 1) := by decide +kernel
theorem dX10_wouldBy_87 : decode cX10_wouldBy 87 = .ok (.getfield 82, 3) := by decide +kernel
theorem dX10_wouldBy_90 : decode cX10_wouldBy 90 = .ok (.bipush 10, 2) := by decide +kernel
theorem dX10_wouldBy_92 : decode cX10_wouldBy 92 = .ok (.iload 6, 2) := by decide +kernel
theorem dX10_wouldBy_94 : decode cX10_wouldBy 94 = .ok (.imul, 1) := by decide +kernel
theorem dX10_wouldBy_95 : decode cX10_wouldBy 95 = .ok (.iload 7, 2) := by decide +kernel
theorem dX10_wouldBy_97 : decode cX10_wouldBy 97 = .ok (.iadd, 1) := by decide +kernel
theorem dX10_wouldBy_98 : decode cX10_wouldBy 98 = .ok (.aload_n 0, 1) := by decide +kernel
theorem dX10_wouldBy_99 : decode cX10_wouldBy 99 = .ok (.getfield 70, 3) := by decide +kernel
theorem dX10_wouldBy_102 : decode cX10_wouldBy 102 = .ok (.iload 7, 2) := by decide +kernel
theorem dX10_wouldBy_104 : decode cX10_wouldBy 104 = .ok (.iaload, 1) := by decide +kernel
theorem dX10_wouldBy_105 : decode cX10_wouldBy 105 = .ok (.iastore, 1) := by decide +kernel
theorem dX10_wouldBy_106 : decode cX10_wouldBy 106 = .ok (.iinc 7 1, 3) := by decide +kernel
theorem dX10_wouldBy_109 : decode cX10_wouldBy 109 = .ok (.goto (-30), 3) := by decide +kernel
theorem dX10_wouldBy_112 : decode cX10_wouldBy 112 = .ok (.iinc 6 1, 3) := by decide +kernel
theorem dX10_wouldBy_115 : decode cX10_wouldBy 115 = .ok (.goto (-73), 3) := by decide +kernel
theorem dX10_wouldBy_118 : decode cX10_wouldBy 118 = .ok (.aload_n 0, 1) := by decide +kernel
theorem dX10_wouldBy_119 : decode cX10_wouldBy 119 = .ok (.getfield 22, 3) := by decide +kernel
theorem dX10_wouldBy_122 : decode cX10_wouldBy 122 = .ok (.iconst 3, 1) := by decide +kernel
theorem dX10_wouldBy_123 : decode cX10_wouldBy 123 = .ok (.iload_n 1, 1) := by decide +kernel
theorem dX10_wouldBy_124 : decode cX10_wouldBy 124 = .ok (.imul, 1) := by decide +kernel
theorem dX10_wouldBy_125 : decode cX10_wouldBy 125 = .ok (.iload_n 2, 1) := by decide +kernel
theorem dX10_wouldBy_126 : decode cX10_wouldBy 126 = .ok (.iastore, 1) := by decide +kernel
theorem dX10_wouldBy_127 : decode cX10_wouldBy 127 = .ok (.aload_n 0, 1) := by decide +kernel
theorem dX10_wouldBy_128 : decode cX10_wouldBy 128 = .ok (.getfield 22, 3) := by decide +kernel
theorem dX10_wouldBy_131 : decode cX10_wouldBy 131 = .ok (.iconst 3, 1) := by decide +kernel
theorem dX10_wouldBy_132 : decode cX10_wouldBy 132 = .ok (.iload_n 1, 1) := by decide +kernel
theorem dX10_wouldBy_133 : decode cX10_wouldBy 133 = .ok (.imul, 1) := by decide +kernel
theorem dX10_wouldBy_134 : decode cX10_wouldBy 134 = .ok (.iconst 1, 1) := by decide +kernel
theorem dX10_wouldBy_135 : decode cX10_wouldBy 135 = .ok (.iadd, 1) := by decide +kernel
theorem dX10_wouldBy_136 : decode cX10_wouldBy 136 = .ok (.iload_n 3, 1) := by decide +kernel
theorem dX10_wouldBy_137 : decode cX10_wouldBy 137 = .ok (.iastore, 1) := by decide +kernel
theorem dX10_wouldBy_138 : decode cX10_wouldBy 138 = .ok (.aload_n 0, 1) := by decide +kernel
theorem dX10_wouldBy_139 : decode cX10_wouldBy 139 = .ok (.getfield 22, 3) := by decide +kernel
theorem dX10_wouldBy_142 : decode cX10_wouldBy 142 = .ok (.iconst 3, 1) := by decide +kernel
theorem dX10_wouldBy_143 : decode cX10_wouldBy 143 = .ok (.iload_n 1, 1) := by decide +kernel
theorem dX10_wouldBy_144 : decode cX10_wouldBy 144 = .ok (.imul, 1) := by decide +kernel
theorem dX10_wouldBy_145 : decode cX10_wouldBy 145 = .ok (.iconst 2, 1) := by decide +kernel
theorem dX10_wouldBy_146 : decode cX10_wouldBy 146 = .ok (.iadd, 1) := by decide +kernel
theorem dX10_wouldBy_147 : decode cX10_wouldBy 147 = .ok (.iload 4, 2) := by decide +kernel
theorem dX10_wouldBy_149 : decode cX10_wouldBy 149 = .ok (.iastore, 1) := by decide +kernel
theorem dX10_wouldBy_150 : decode cX10_wouldBy 150 = .ok (.iload 5, 2) := by decide +kernel
theorem dX10_wouldBy_152 : decode cX10_wouldBy 152 = .ok (.ireturn, 1) := by decide +kernel
theorem dX10_would_0 : decode cX10_would 0 = .ok (.aload_n 0, 1) := by decide +kernel
theorem dX10_would_1 : decode cX10_would 1 = .ok (.iload_n 1, 1) := by decide +kernel
theorem dX10_would_2 : decode cX10_would 2 = .ok (.invokevirtual 149, 3) := by decide +kernel
theorem dX10_would_5 : decode cX10_would 5 = .ok (.ifCond .eq 11, 3) := by decide +kernel
theorem dX10_would_8 : decode cX10_would 8 = .ok (.aload_n 0, 1) := by decide +kernel
theorem dX10_would_9 : decode cX10_would 9 = .ok (.iload_n 1, 1) := by decide +kernel
theorem dX10_would_10 : decode cX10_would 10 = .ok (.invokevirtual 304, 3) := by decide +kernel
theorem dX10_would_13 : decode cX10_would 13 = .ok (.goto 5, 3) := by decide +kernel
theorem dX10_would_16 : decode cX10_would 16 = .ok (.bipush (-2), 2) := by decide +kernel
theorem dX10_would_18 : decode cX10_would 18 = .ok (.ireturn, 1) := by decide +kernel
theorem dX10_askOf_0 : decode cX10_askOf 0 = .ok (.aload_n 0, 1) := by decide +kernel
theorem dX10_askOf_1 : decode cX10_askOf 1 = .ok (.iload_n 1, 1) := by decide +kernel
theorem dX10_askOf_2 : decode cX10_askOf 2 = .ok (.invokevirtual 304, 3) := by decide +kernel
theorem dX10_askOf_5 : decode cX10_askOf 5 = .ok (.istore_n 2, 1) := by decide +kernel
theorem dX10_askOf_6 : decode cX10_askOf 6 = .ok (.iconst (-1), 1) := by decide +kernel
theorem dX10_askOf_7 : decode cX10_askOf 7 = .ok (.istore_n 3, 1) := by decide +kernel
theorem dX10_askOf_8 : decode cX10_askOf 8 = .ok (.iconst 0, 1) := by decide +kernel
theorem dX10_askOf_9 : decode cX10_askOf 9 = .ok (.istore 4, 2) := by decide +kernel
theorem dX10_askOf_11 : decode cX10_askOf 11 = .ok (.iconst 0, 1) := by decide +kernel
theorem dX10_askOf_12 : decode cX10_askOf 12 = .ok (.istore 5, 2) := by decide +kernel
theorem dX10_askOf_14 : decode cX10_askOf 14 = .ok (.iload 5, 2) := by decide +kernel
theorem dX10_askOf_16 : decode cX10_askOf 16 = .ok (.bipush 10, 2) := by decide +kernel
theorem dX10_askOf_18 : decode cX10_askOf 18 = .ok (.if_icmp .ge 165, 3) := by decide +kernel
theorem dX10_askOf_21 : decode cX10_askOf 21 = .ok (.iconst 0, 1) := by decide +kernel
theorem dX10_askOf_22 : decode cX10_askOf 22 = .ok (.istore 6, 2) := by decide +kernel
theorem dX10_askOf_24 : decode cX10_askOf 24 = .ok (.iconst 0, 1) := by decide +kernel
theorem dX10_askOf_25 : decode cX10_askOf 25 = .ok (.istore 7, 2) := by decide +kernel
theorem dX10_askOf_27 : decode cX10_askOf 27 = .ok (.iload 7, 2) := by decide +kernel
theorem dX10_askOf_29 : decode cX10_askOf 29 = .ok (.bipush 6, 2) := by decide +kernel
theorem dX10_askOf_31 : decode cX10_askOf 31 = .ok (.if_icmp .ge 101, 3) := by decide +kernel
theorem dX10_askOf_34 : decode cX10_askOf 34 = .ok (.iconst 0, 1) := by decide +kernel
theorem dX10_askOf_35 : decode cX10_askOf 35 = .ok (.istore 8, 2) := by decide +kernel
theorem dX10_askOf_37 : decode cX10_askOf 37 = .ok (.iconst 0, 1) := by decide +kernel
theorem dX10_askOf_38 : decode cX10_askOf 38 = .ok (.istore 9, 2) := by decide +kernel
theorem dX10_askOf_40 : decode cX10_askOf 40 = .ok (.iload 9, 2) := by decide +kernel
theorem dX10_askOf_42 : decode cX10_askOf 42 = .ok (.bipush 6, 2) := by decide +kernel
theorem dX10_askOf_44 : decode cX10_askOf 44 = .ok (.if_icmp .ge 66, 3) := by decide +kernel
theorem dX10_askOf_47 : decode cX10_askOf 47 = .ok (.iload 8, 2) := by decide +kernel
theorem dX10_askOf_49 : decode cX10_askOf 49 = .ok (.iload_n 2, 1) := by decide +kernel
theorem dX10_askOf_50 : decode cX10_askOf 50 = .ok (.iload 7, 2) := by decide +kernel
theorem dX10_askOf_52 : decode cX10_askOf 52 = .ok (.invokestatic 121, 3) := by decide +kernel
theorem dX10_askOf_55 : decode cX10_askOf 55 = .ok (.ifCond .eq 45, 3) := by decide +kernel
theorem dX10_askOf_58 : decode cX10_askOf 58 = .ok (.iload_n 2, 1) := by decide +kernel
theorem dX10_askOf_59 : decode cX10_askOf 59 = .ok (.iload 9, 2) := by decide +kernel
theorem dX10_askOf_61 : decode cX10_askOf 61 = .ok (.invokestatic 121, 3) := by decide +kernel
theorem dX10_askOf_64 : decode cX10_askOf 64 = .ok (.ifCond .eq 36, 3) := by decide +kernel
theorem dX10_askOf_67 : decode cX10_askOf 67 = .ok (.aload_n 0, 1) := by decide +kernel
theorem dX10_askOf_68 : decode cX10_askOf 68 = .ok (.getfield 82, 3) := by decide +kernel
theorem dX10_askOf_71 : decode cX10_askOf 71 = .ok (.bipush 10, 2) := by decide +kernel
theorem dX10_askOf_73 : decode cX10_askOf 73 = .ok (.iload 7, 2) := by decide +kernel
theorem dX10_askOf_75 : decode cX10_askOf 75 = .ok (.imul, 1) := by decide +kernel
theorem dX10_askOf_76 : decode cX10_askOf 76 = .ok (.iload 5, 2) := by decide +kernel
theorem dX10_askOf_78 : decode cX10_askOf 78 = .ok (.iadd, 1) := by decide +kernel
theorem dX10_askOf_79 : decode cX10_askOf 79 = .ok (.iaload, 1) := by decide +kernel
theorem dX10_askOf_80 : decode cX10_askOf 80 = .ok (.aload_n 0, 1) := by decide +kernel
theorem dX10_askOf_81 : decode cX10_askOf 81 = .ok (.getfield 82, 3) := by decide +kernel
theorem dX10_askOf_84 : decode cX10_askOf 84 = .ok (.bipush 10, 2) := by decide +kernel
theorem dX10_askOf_86 : decode cX10_askOf 86 = .ok (.iload 9, 2) := by decide +kernel
theorem dX10_askOf_88 : decode cX10_askOf 88 = .ok (.imul, 1) := by decide +kernel
theorem dX10_askOf_89 : decode cX10_askOf 89 = .ok (.iload 5, 2) := by decide +kernel
theorem dX10_askOf_91 : decode cX10_askOf 91 = .ok (.iadd, 1) := by decide +kernel
theorem dX10_askOf_92 : decode cX10_askOf 92 = .ok (.iaload, 1) := by decide +kernel
theorem dX10_askOf_93 : decode cX10_askOf 93 = .ok (.if_icmp .ne 7, 3) := by decide +kernel
theorem dX10_askOf_96 : decode cX10_askOf 96 = .ok (.iconst 1, 1) := by decide +kernel
theorem dX10_askOf_97 : decode cX10_askOf 97 = .ok (.goto 4, 3) := by decide +kernel
theorem dX10_askOf_100 : decode cX10_askOf 100 = .ok (.iconst 0, 1) := by decide +kernel
theorem dX10_askOf_101 : decode cX10_askOf 101 = .ok (.iadd, 1) := by decide +kernel
theorem dX10_askOf_102 : decode cX10_askOf 102 = .ok (.istore 8, 2) := by decide +kernel
theorem dX10_askOf_104 : decode cX10_askOf 104 = .ok (.iinc 9 1, 3) := by decide +kernel
theorem dX10_askOf_107 : decode cX10_askOf 107 = .ok (.goto (-67), 3) := by decide +kernel
theorem dX10_askOf_110 : decode cX10_askOf 110 = .ok (.iload 8, 2) := by decide +kernel
theorem dX10_askOf_112 : decode cX10_askOf 112 = .ok (.iload 6, 2) := by decide +kernel
theorem dX10_askOf_114 : decode cX10_askOf 114 = .ok (.if_icmp .le 8, 3) := by decide +kernel
theorem dX10_askOf_117 : decode cX10_askOf 117 = .ok (.iload 8, 2) := by decide +kernel
theorem dX10_askOf_119 : decode cX10_askOf 119 = .ok (.goto 5, 3) := by decide +kernel
theorem dX10_askOf_122 : decode cX10_askOf 122 = .ok (.iload 6, 2) := by decide +kernel
theorem dX10_askOf_124 : decode cX10_askOf 124 = .ok (.istore 6, 2) := by decide +kernel
theorem dX10_askOf_126 : decode cX10_askOf 126 = .ok (.iinc 7 1, 3) := by decide +kernel
theorem dX10_askOf_129 : decode cX10_askOf 129 = .ok (.goto (-102), 3) := by decide +kernel
theorem dX10_askOf_132 : decode cX10_askOf 132 = .ok (.iload_n 3, 1) := by decide +kernel
theorem dX10_askOf_133 : decode cX10_askOf 133 = .ok (.iconst (-1), 1) := by decide +kernel
theorem dX10_askOf_134 : decode cX10_askOf 134 = .ok (.if_icmp .eq 10, 3) := by decide +kernel
theorem dX10_askOf_137 : decode cX10_askOf 137 = .ok (.iload 6, 2) := by decide +kernel
theorem dX10_askOf_139 : decode cX10_askOf 139 = .ok (.iload 4, 2) := by decide +kernel
theorem dX10_askOf_141 : decode cX10_askOf 141 = .ok (.if_icmp .ge 7, 3) := by decide +kernel
theorem dX10_askOf_144 : decode cX10_askOf 144 = .ok (.iconst 1, 1) := by decide +kernel
theorem dX10_askOf_145 : decode cX10_askOf 145 = .ok (.goto 4, 3) := by decide +kernel
theorem dX10_askOf_148 : decode cX10_askOf 148 = .ok (.iconst 0, 1) := by decide +kernel
theorem dX10_askOf_149 : decode cX10_askOf 149 = .ok (.istore 7, 2) := by decide +kernel
theorem dX10_askOf_151 : decode cX10_askOf 151 = .ok (.iload 7, 2) := by decide +kernel
theorem dX10_askOf_153 : decode cX10_askOf 153 = .ok (.ifCond .eq 8, 3) := by decide +kernel
theorem dX10_askOf_156 : decode cX10_askOf 156 = .ok (.iload 5, 2) := by decide +kernel
theorem dX10_askOf_158 : decode cX10_askOf 158 = .ok (.goto 4, 3) := by decide +kernel
theorem dX10_askOf_161 : decode cX10_askOf 161 = .ok (.iload_n 3, 1) := by decide +kernel
theorem dX10_askOf_162 : decode cX10_askOf 162 = .ok (.istore_n 3, 1) := by decide +kernel
theorem dX10_askOf_163 : decode cX10_askOf 163 = .ok (.iload 7, 2) := by decide +kernel
theorem dX10_askOf_165 : decode cX10_askOf 165 = .ok (.ifCond .eq 8, 3) := by decide +kernel
theorem dX10_askOf_168 : decode cX10_askOf 168 = .ok (.iload 6, 2) := by decide +kernel
theorem dX10_askOf_170 : decode cX10_askOf 170 = .ok (.goto 5, 3) := by decide +kernel
theorem dX10_askOf_173 : decode cX10_askOf 173 = .ok (.iload 4, 2) := by decide +kernel
end
section
theorem dX10_askOf_175 : decode cX10_askOf 175 = .ok (.istore 4, 2) := by decide +kernel
theorem dX10_askOf_177 : decode cX10_askOf 177 = .ok (.iinc 5 1, 3) := by decide +kernel
theorem dX10_askOf_180 : decode cX10_askOf 180 = .ok (.goto (-166), 3) := by decide +kernel
theorem dX10_askOf_183 : decode cX10_askOf 183 = .ok (.iload_n 3, 1) := by decide +kernel
theorem dX10_askOf_184 : decode cX10_askOf 184 = .ok (.ireturn, 1) := by decide +kernel
theorem dX10_ask_0 : decode cX10_ask 0 = .ok (.aload_n 0, 1) := by decide +kernel
theorem dX10_ask_1 : decode cX10_ask 1 = .ok (.iload_n 1, 1) := by decide +kernel
theorem dX10_ask_2 : decode cX10_ask 2 = .ok (.invokevirtual 149, 3) := by decide +kernel
theorem dX10_ask_5 : decode cX10_ask 5 = .ok (.ifCond .eq 11, 3) := by decide +kernel
theorem dX10_ask_8 : decode cX10_ask 8 = .ok (.aload_n 0, 1) := by decide +kernel
theorem dX10_ask_9 : decode cX10_ask 9 = .ok (.iload_n 1, 1) := by decide +kernel
theorem dX10_ask_10 : decode cX10_ask 10 = .ok (.invokevirtual 307, 3) := by decide +kernel
theorem dX10_ask_13 : decode cX10_ask 13 = .ok (.goto 5, 3) := by decide +kernel
theorem dX10_ask_16 : decode cX10_ask 16 = .ok (.bipush (-2), 2) := by decide +kernel
theorem dX10_ask_18 : decode cX10_ask 18 = .ok (.ireturn, 1) := by decide +kernel
theorem dX10_ajarOf_0 : decode cX10_ajarOf 0 = .ok (.aload_n 0, 1) := by decide +kernel
theorem dX10_ajarOf_1 : decode cX10_ajarOf 1 = .ok (.invokevirtual 216, 3) := by decide +kernel
theorem dX10_ajarOf_4 : decode cX10_ajarOf 4 = .ok (.lconst 0, 1) := by decide +kernel
theorem dX10_ajarOf_5 : decode cX10_ajarOf 5 = .ok (.lstore 6, 2) := by decide +kernel
theorem dX10_ajarOf_7 : decode cX10_ajarOf 7 = .ok (.iconst 0, 1) := by decide +kernel
theorem dX10_ajarOf_8 : decode cX10_ajarOf 8 = .ok (.istore 8, 2) := by decide +kernel
theorem dX10_ajarOf_10 : decode cX10_ajarOf 10 = .ok (.iload 8, 2) := by decide +kernel
theorem dX10_ajarOf_12 : decode cX10_ajarOf 12 = .ok (.iconst 1, 1) := by decide +kernel
theorem dX10_ajarOf_13 : decode cX10_ajarOf 13 = .ok (.iload_n 2, 1) := by decide +kernel
theorem dX10_ajarOf_14 : decode cX10_ajarOf 14 = .ok (.iconst 1, 1) := by decide +kernel
theorem dX10_ajarOf_15 : decode cX10_ajarOf 15 = .ok (.iadd, 1) := by decide +kernel
theorem dX10_ajarOf_16 : decode cX10_ajarOf 16 = .ok (.ishl, 1) := by decide +kernel
theorem dX10_ajarOf_17 : decode cX10_ajarOf 17 = .ok (.if_icmp .ge 90, 3) := by decide +kernel
theorem dX10_ajarOf_20 : decode cX10_ajarOf 20 = .ok (.lconst 1, 1) := by decide +kernel
theorem dX10_ajarOf_21 : decode cX10_ajarOf 21 = .ok (.lstore 9, 2) := by decide +kernel
theorem dX10_ajarOf_23 : decode cX10_ajarOf 23 = .ok (.iconst 0, 1) := by decide +kernel
theorem dX10_ajarOf_24 : decode cX10_ajarOf 24 = .ok (.istore 11, 2) := by decide +kernel
theorem dX10_ajarOf_26 : decode cX10_ajarOf 26 = .ok (.iload 11, 2) := by decide +kernel
theorem dX10_ajarOf_28 : decode cX10_ajarOf 28 = .ok (.iload_n 2, 1) := by decide +kernel
theorem dX10_ajarOf_29 : decode cX10_ajarOf 29 = .ok (.if_icmp .gt 34, 3) := by decide +kernel
theorem dX10_ajarOf_32 : decode cX10_ajarOf 32 = .ok (.lload 9, 2) := by decide +kernel
theorem dX10_ajarOf_34 : decode cX10_ajarOf 34 = .ok (.iload 8, 2) := by decide +kernel
theorem dX10_ajarOf_36 : decode cX10_ajarOf 36 = .ok (.iload 11, 2) := by decide +kernel
theorem dX10_ajarOf_38 : decode cX10_ajarOf 38 = .ok (.invokestatic 121, 3) := by decide +kernel
theorem dX10_ajarOf_41 : decode cX10_ajarOf 41 = .ok (.ifCond .eq 8, 3) := by decide +kernel
theorem dX10_ajarOf_44 : decode cX10_ajarOf 44 = .ok (.iload_n 1, 1) := by decide +kernel
theorem dX10_ajarOf_45 : decode cX10_ajarOf 45 = .ok (.i2l, 1) := by decide +kernel
theorem dX10_ajarOf_46 : decode cX10_ajarOf 46 = .ok (.goto 8, 3) := by decide +kernel
theorem dX10_ajarOf_49 : decode cX10_ajarOf 49 = .ok (.bipush 16, 2) := by decide +kernel
theorem dX10_ajarOf_51 : decode cX10_ajarOf 51 = .ok (.iload_n 1, 1) := by decide +kernel
theorem dX10_ajarOf_52 : decode cX10_ajarOf 52 = .ok (.isub, 1) := by decide +kernel
theorem dX10_ajarOf_53 : decode cX10_ajarOf 53 = .ok (.i2l, 1) := by decide +kernel
theorem dX10_ajarOf_54 : decode cX10_ajarOf 54 = .ok (.lmul, 1) := by decide +kernel
theorem dX10_ajarOf_55 : decode cX10_ajarOf 55 = .ok (.lstore 9, 2) := by decide +kernel
theorem dX10_ajarOf_57 : decode cX10_ajarOf 57 = .ok (.iinc 11 1, 3) := by decide +kernel
theorem dX10_ajarOf_60 : decode cX10_ajarOf 60 = .ok (.goto (-34), 3) := by decide +kernel
theorem dX10_ajarOf_63 : decode cX10_ajarOf 63 = .ok (.lload 9, 2) := by decide +kernel
theorem dX10_ajarOf_65 : decode cX10_ajarOf 65 = .ok (.lconst 0, 1) := by decide +kernel
theorem dX10_ajarOf_66 : decode cX10_ajarOf 66 = .ok (.lcmp, 1) := by decide +kernel
theorem dX10_ajarOf_67 : decode cX10_ajarOf 67 = .ok (.ifCond .le 34, 3) := by decide +kernel
theorem dX10_ajarOf_70 : decode cX10_ajarOf 70 = .ok (.aload_n 0, 1) := by decide +kernel
theorem dX10_ajarOf_71 : decode cX10_ajarOf 71 = .ok (.iload 8, 2) := by decide +kernel
theorem dX10_ajarOf_73 : decode cX10_ajarOf 73 = .ok (.putfield 201, 3) := by decide +kernel
theorem dX10_ajarOf_76 : decode cX10_ajarOf 76 = .ok (.aload_n 0, 1) := by decide +kernel
theorem dX10_ajarOf_77 : decode cX10_ajarOf 77 = .ok (.invokevirtual 219, 3) := by decide +kernel
theorem dX10_ajarOf_80 : decode cX10_ajarOf 80 = .ok (.lload 6, 2) := by decide +kernel
theorem dX10_ajarOf_82 : decode cX10_ajarOf 82 = .ok (.aload_n 0, 1) := by decide +kernel
theorem dX10_ajarOf_83 : decode cX10_ajarOf 83 = .ok (.iload 4, 2) := by decide +kernel
theorem dX10_ajarOf_85 : decode cX10_ajarOf 85 = .ok (.invokevirtual 234, 3) := by decide +kernel
theorem dX10_ajarOf_88 : decode cX10_ajarOf 88 = .ok (.iload_n 3, 1) := by decide +kernel
theorem dX10_ajarOf_89 : decode cX10_ajarOf 89 = .ok (.if_icmp .ne 8, 3) := by decide +kernel
theorem dX10_ajarOf_92 : decode cX10_ajarOf 92 = .ok (.lload 9, 2) := by decide +kernel
theorem dX10_ajarOf_94 : decode cX10_ajarOf 94 = .ok (.goto 4, 3) := by decide +kernel
theorem dX10_ajarOf_97 : decode cX10_ajarOf 97 = .ok (.lconst 0, 1) := by decide +kernel
theorem dX10_ajarOf_98 : decode cX10_ajarOf 98 = .ok (.ladd, 1) := by decide +kernel
theorem dX10_ajarOf_99 : decode cX10_ajarOf 99 = .ok (.lstore 6, 2) := by decide +kernel
theorem dX10_ajarOf_101 : decode cX10_ajarOf 101 = .ok (.iinc 8 1, 3) := by decide +kernel
theorem dX10_ajarOf_104 : decode cX10_ajarOf 104 = .ok (.goto (-94), 3) := by decide +kernel
theorem dX10_ajarOf_107 : decode cX10_ajarOf 107 = .ok (.lload 6, 2) := by decide +kernel
theorem dX10_ajarOf_109 : decode cX10_ajarOf 109 = .ok (.lconst 1, 1) := by decide +kernel
theorem dX10_ajarOf_110 : decode cX10_ajarOf 110 = .ok (.iconst 4, 1) := by decide +kernel
theorem dX10_ajarOf_111 : decode cX10_ajarOf 111 = .ok (.iload_n 2, 1) := by decide +kernel
theorem dX10_ajarOf_112 : decode cX10_ajarOf 112 = .ok (.iconst 1, 1) := by decide +kernel
theorem dX10_ajarOf_113 : decode cX10_ajarOf 113 = .ok (.iadd, 1) := by decide +kernel
theorem dX10_ajarOf_114 : decode cX10_ajarOf 114 = .ok (.imul, 1) := by decide +kernel
theorem dX10_ajarOf_115 : decode cX10_ajarOf 115 = .ok (.lshl, 1) := by decide +kernel
theorem dX10_ajarOf_116 : decode cX10_ajarOf 116 = .ok (.iload 5, 2) := by decide +kernel
theorem dX10_ajarOf_118 : decode cX10_ajarOf 118 = .ok (.invokestatic 271, 3) := by decide +kernel
theorem dX10_ajarOf_121 : decode cX10_ajarOf 121 = .ok (.lreturn, 1) := by decide +kernel
theorem dX10_ajar_0 : decode cX10_ajar 0 = .ok (.iload_n 1, 1) := by decide +kernel
theorem dX10_ajar_1 : decode cX10_ajar 1 = .ok (.iconst 0, 1) := by decide +kernel
theorem dX10_ajar_2 : decode cX10_ajar 2 = .ok (.bipush 16, 2) := by decide +kernel
theorem dX10_ajar_4 : decode cX10_ajar 4 = .ok (.invokestatic 106, 3) := by decide +kernel
theorem dX10_ajar_7 : decode cX10_ajar 7 = .ok (.ifCond .eq 26, 3) := by decide +kernel
theorem dX10_ajar_10 : decode cX10_ajar 10 = .ok (.iload_n 2, 1) := by decide +kernel
theorem dX10_ajar_11 : decode cX10_ajar 11 = .ok (.iconst 0, 1) := by decide +kernel
theorem dX10_ajar_12 : decode cX10_ajar 12 = .ok (.bipush 9, 2) := by decide +kernel
theorem dX10_ajar_14 : decode cX10_ajar 14 = .ok (.invokestatic 106, 3) := by decide +kernel
theorem dX10_ajar_17 : decode cX10_ajar 17 = .ok (.ifCond .eq 16, 3) := by decide +kernel
theorem dX10_ajar_20 : decode cX10_ajar 20 = .ok (.iload_n 3, 1) := by decide +kernel
theorem dX10_ajar_21 : decode cX10_ajar 21 = .ok (.iconst 0, 1) := by decide +kernel
theorem dX10_ajar_22 : decode cX10_ajar 22 = .ok (.iconst 2, 1) := by decide +kernel
theorem dX10_ajar_23 : decode cX10_ajar 23 = .ok (.invokestatic 106, 3) := by decide +kernel
theorem dX10_ajar_26 : decode cX10_ajar 26 = .ok (.ifCond .eq 7, 3) := by decide +kernel
theorem dX10_ajar_29 : decode cX10_ajar 29 = .ok (.iconst 1, 1) := by decide +kernel
theorem dX10_ajar_30 : decode cX10_ajar 30 = .ok (.goto 4, 3) := by decide +kernel
theorem dX10_ajar_33 : decode cX10_ajar 33 = .ok (.iconst 0, 1) := by decide +kernel
theorem dX10_ajar_34 : decode cX10_ajar 34 = .ok (.istore 6, 2) := by decide +kernel
theorem dX10_ajar_36 : decode cX10_ajar 36 = .ok (.iload 6, 2) := by decide +kernel
theorem dX10_ajar_38 : decode cX10_ajar 38 = .ok (.ifCond .eq 35, 3) := by decide +kernel
theorem dX10_ajar_41 : decode cX10_ajar 41 = .ok (.iload 4, 2) := by decide +kernel
theorem dX10_ajar_43 : decode cX10_ajar 43 = .ok (.invokestatic 155, 3) := by decide +kernel
theorem dX10_ajar_46 : decode cX10_ajar 46 = .ok (.ifCond .eq 27, 3) := by decide +kernel
theorem dX10_ajar_49 : decode cX10_ajar 49 = .ok (.iload 5, 2) := by decide +kernel
theorem dX10_ajar_51 : decode cX10_ajar 51 = .ok (.iconst 0, 1) := by decide +kernel
theorem dX10_ajar_52 : decode cX10_ajar 52 = .ok (.iconst 1, 1) := by decide +kernel
theorem dX10_ajar_53 : decode cX10_ajar 53 = .ok (.invokestatic 106, 3) := by decide +kernel
theorem dX10_ajar_56 : decode cX10_ajar 56 = .ok (.ifCond .eq 17, 3) := by decide +kernel
theorem dX10_ajar_59 : decode cX10_ajar 59 = .ok (.aload_n 0, 1) := by decide +kernel
theorem dX10_ajar_60 : decode cX10_ajar 60 = .ok (.iload_n 1, 1) := by decide +kernel
theorem dX10_ajar_61 : decode cX10_ajar 61 = .ok (.iload_n 2, 1) := by decide +kernel
theorem dX10_ajar_62 : decode cX10_ajar 62 = .ok (.iload_n 3, 1) := by decide +kernel
theorem dX10_ajar_63 : decode cX10_ajar 63 = .ok (.iload 4, 2) := by decide +kernel
theorem dX10_ajar_65 : decode cX10_ajar 65 = .ok (.iload 5, 2) := by decide +kernel
theorem dX10_ajar_67 : decode cX10_ajar 67 = .ok (.invokevirtual 310, 3) := by decide +kernel
theorem dX10_ajar_70 : decode cX10_ajar 70 = .ok (.goto 8, 3) := by decide +kernel
theorem dX10_ajar_73 : decode cX10_ajar 73 = .ok (.bipush (-2), 2) := by decide +kernel
theorem dX10_ajar_75 : decode cX10_ajar 75 = .ok (.invokestatic 279, 3) := by decide +kernel
theorem dX10_ajar_78 : decode cX10_ajar 78 = .ok (.lreturn, 1) := by decide +kernel
theorem dX10_eveningsOf_0 : decode cX10_eveningsOf 0 = .ok (.aload_n 0, 1) := by decide +kernel
theorem dX10_eveningsOf_1 : decode cX10_eveningsOf 1 = .ok (.invokevirtual 222, 3) := by decide +kernel
theorem dX10_eveningsOf_4 : decode cX10_eveningsOf 4 = .ok (.iload_n 1, 1) := by decide +kernel
theorem dX10_eveningsOf_5 : decode cX10_eveningsOf 5 = .ok (.istore_n 3, 1) := by decide +kernel
theorem dX10_eveningsOf_6 : decode cX10_eveningsOf 6 = .ok (.iconst 0, 1) := by decide +kernel
theorem dX10_eveningsOf_7 : decode cX10_eveningsOf 7 = .ok (.istore 4, 2) := by decide +kernel
theorem dX10_eveningsOf_9 : decode cX10_eveningsOf 9 = .ok (.iconst 0, 1) := by decide +kernel
theorem dX10_eveningsOf_10 : decode cX10_eveningsOf 10 = .ok (.istore 5, 2) := by decide +kernel
theorem dX10_eveningsOf_12 : decode cX10_eveningsOf 12 = .ok (.iload 5, 2) := by decide +kernel
theorem dX10_eveningsOf_14 : decode cX10_eveningsOf 14 = .ok (.bipush 10, 2) := by decide +kernel
theorem dX10_eveningsOf_16 : decode cX10_eveningsOf 16 = .ok (.if_icmp .ge 23, 3) := by decide +kernel
theorem dX10_eveningsOf_19 : decode cX10_eveningsOf 19 = .ok (.aload_n 0, 1) := by decide +kernel
theorem dX10_eveningsOf_20 : decode cX10_eveningsOf 20 = .ok (.getfield 85, 3) := by decide +kernel
theorem dX10_eveningsOf_23 : decode cX10_eveningsOf 23 = .ok (.iload 5, 2) := by decide +kernel
theorem dX10_eveningsOf_25 : decode cX10_eveningsOf 25 = .ok (.aload_n 0, 1) := by decide +kernel
theorem dX10_eveningsOf_26 : decode cX10_eveningsOf 26 = .ok (.getfield 70, 3) := by decide +kernel
theorem dX10_eveningsOf_29 : decode cX10_eveningsOf 29 = .ok (.iload 5, 2) := by decide +kernel
theorem dX10_eveningsOf_31 : decode cX10_eveningsOf 31 = .ok (.iaload, 1) := by decide +kernel
theorem dX10_eveningsOf_32 : decode cX10_eveningsOf 32 = .ok (.iastore, 1) := by decide +kernel
theorem dX10_eveningsOf_33 : decode cX10_eveningsOf 33 = .ok (.iinc 5 1, 3) := by decide +kernel
theorem dX10_eveningsOf_36 : decode cX10_eveningsOf 36 = .ok (.goto (-24), 3) := by decide +kernel
theorem dX10_eveningsOf_39 : decode cX10_eveningsOf 39 = .ok (.iconst 0, 1) := by decide +kernel
theorem dX10_eveningsOf_40 : decode cX10_eveningsOf 40 = .ok (.istore 5, 2) := by decide +kernel
theorem dX10_eveningsOf_42 : decode cX10_eveningsOf 42 = .ok (.iload 5, 2) := by decide +kernel
theorem dX10_eveningsOf_44 : decode cX10_eveningsOf 44 = .ok (.aload_n 0, 1) := by decide +kernel
theorem dX10_eveningsOf_45 : decode cX10_eveningsOf 45 = .ok (.getfield 125, 3) := by decide +kernel
theorem dX10_eveningsOf_48 : decode cX10_eveningsOf 48 = .ok (.if_icmp .ge 32, 3) := by decide +kernel
theorem dX10_eveningsOf_51 : decode cX10_eveningsOf 51 = .ok (.ldc_w 314, 3) := by decide +kernel
theorem dX10_eveningsOf_54 : decode cX10_eveningsOf 54 = .ok (.iload_n 3, 1) := by decide +kernel
theorem dX10_eveningsOf_55 : decode cX10_eveningsOf 55 = .ok (.imul, 1) := by decide +kernel
theorem dX10_eveningsOf_56 : decode cX10_eveningsOf 56 = .ok (.sipush 12345, 3) := by decide +kernel
theorem dX10_eveningsOf_59 : decode cX10_eveningsOf 59 = .ok (.iadd, 1) := by decide +kernel
theorem dX10_eveningsOf_60 : decode cX10_eveningsOf 60 = .ok (.istore_n 3, 1) := by decide +kernel
theorem dX10_eveningsOf_61 : decode cX10_eveningsOf 61 = .ok (.aload_n 0, 1) := by decide +kernel
theorem dX10_eveningsOf_62 : decode cX10_eveningsOf 62 = .ok (.iload 5, 2) := by decide +kernel
theorem dX10_eveningsOf_64 : decode cX10_eveningsOf 64 = .ok (.iload_n 3, 1) := by decide +kernel
theorem dX10_eveningsOf_65 : decode cX10_eveningsOf 65 = .ok (.bipush 16, 2) := by decide +kernel
theorem dX10_eveningsOf_67 : decode cX10_eveningsOf 67 = .ok (.iushr, 1) := by decide +kernel
theorem dX10_eveningsOf_68 : decode cX10_eveningsOf 68 = .ok (.bipush 6, 2) := by decide +kernel
theorem dX10_eveningsOf_70 : decode cX10_eveningsOf 70 = .ok (.irem, 1) := by decide +kernel
theorem dX10_eveningsOf_71 : decode cX10_eveningsOf 71 = .ok (.invokevirtual 301, 3) := by decide +kernel
theorem dX10_eveningsOf_74 : decode cX10_eveningsOf 74 = .ok (.iinc 5 1, 3) := by decide +kernel
theorem dX10_eveningsOf_77 : decode cX10_eveningsOf 77 = .ok (.goto (-35), 3) := by decide +kernel
theorem dX10_eveningsOf_80 : decode cX10_eveningsOf 80 = .ok (.aload_n 0, 1) := by decide +kernel
theorem dX10_eveningsOf_81 : decode cX10_eveningsOf 81 = .ok (.invokevirtual 219, 3) := by decide +kernel
theorem dX10_eveningsOf_84 : decode cX10_eveningsOf 84 = .ok (.iconst 0, 1) := by decide +kernel
theorem dX10_eveningsOf_85 : decode cX10_eveningsOf 85 = .ok (.istore 5, 2) := by decide +kernel
theorem dX10_eveningsOf_87 : decode cX10_eveningsOf 87 = .ok (.iload 5, 2) := by decide +kernel
theorem dX10_eveningsOf_89 : decode cX10_eveningsOf 89 = .ok (.bipush 10, 2) := by decide +kernel
theorem dX10_eveningsOf_91 : decode cX10_eveningsOf 91 = .ok (.if_icmp .ge 36, 3) := by decide +kernel
theorem dX10_eveningsOf_94 : decode cX10_eveningsOf 94 = .ok (.iload 4, 2) := by decide +kernel
theorem dX10_eveningsOf_96 : decode cX10_eveningsOf 96 = .ok (.aload_n 0, 1) := by decide +kernel
theorem dX10_eveningsOf_97 : decode cX10_eveningsOf 97 = .ok (.getfield 70, 3) := by decide +kernel
theorem dX10_eveningsOf_100 : decode cX10_eveningsOf 100 = .ok (.iload 5, 2) := by decide +kernel
theorem dX10_eveningsOf_102 : decode cX10_eveningsOf 102 = .ok (.iaload, 1) := by decide +kernel
theorem dX10_eveningsOf_103 : decode cX10_eveningsOf 103 = .ok (.aload_n 0, 1) := by decide +kernel
theorem dX10_eveningsOf_104 : decode cX10_eveningsOf 104 = .ok (.getfield 85, 3) := by decide +kernel
theorem dX10_eveningsOf_107 : decode cX10_eveningsOf 107 = .ok (.iload 5, 2) := by decide +kernel
theorem dX10_eveningsOf_109 : decode cX10_eveningsOf 109 = .ok (.iaload, 1) := by decide +kernel
theorem dX10_eveningsOf_110 : decode cX10_eveningsOf 110 = .ok (.if_icmp .eq 7, 3) := by decide +kernel
theorem dX10_eveningsOf_113 : decode cX10_eveningsOf 113 = .ok (.iconst 1, 1) := by decide +kernel
theorem dX10_eveningsOf_114 : decode cX10_eveningsOf 114 = .ok (.goto 4, 3) := by decide +kernel
theorem dX10_eveningsOf_117 : decode cX10_eveningsOf 117 = .ok (.iconst 0, 1) := by decide +kernel
theorem dX10_eveningsOf_118 : decode cX10_eveningsOf 118 = .ok (.iadd, 1) := by decide +kernel
theorem dX10_eveningsOf_119 : decode cX10_eveningsOf 119 = .ok (.istore 4, 2) := by decide +kernel
theorem dX10_eveningsOf_121 : decode cX10_eveningsOf 121 = .ok (.iinc 5 1, 3) := by decide +kernel
theorem dX10_eveningsOf_124 : decode cX10_eveningsOf 124 = .ok (.goto (-37), 3) := by decide +kernel
theorem dX10_eveningsOf_127 : decode cX10_eveningsOf 127 = .ok (.iload_n 2, 1) := by decide +kernel
theorem dX10_eveningsOf_128 : decode cX10_eveningsOf 128 = .ok (.ifCond .ne 8, 3) := by decide +kernel
theorem dX10_eveningsOf_131 : decode cX10_eveningsOf 131 = .ok (.iload 4, 2) := by decide +kernel
theorem dX10_eveningsOf_133 : decode cX10_eveningsOf 133 = .ok (.goto 9, 3) := by decide +kernel
theorem dX10_eveningsOf_136 : decode cX10_eveningsOf 136 = .ok (.aload_n 0, 1) := by decide +kernel
theorem dX10_eveningsOf_137 : decode cX10_eveningsOf 137 = .ok (.bipush 9, 2) := by decide +kernel
theorem dX10_eveningsOf_139 : decode cX10_eveningsOf 139 = .ok (.invokevirtual 234, 3) := by decide +kernel
theorem dX10_eveningsOf_142 : decode cX10_eveningsOf 142 = .ok (.ireturn, 1) := by decide +kernel
theorem dX10_evenings_0 : decode cX10_evenings 0 = .ok (.iload_n 2, 1) := by decide +kernel
theorem dX10_evenings_1 : decode cX10_evenings 1 = .ok (.iconst 0, 1) := by decide +kernel
theorem dX10_evenings_2 : decode cX10_evenings 2 = .ok (.iconst 1, 1) := by decide +kernel
theorem dX10_evenings_3 : decode cX10_evenings 3 = .ok (.invokestatic 106, 3) := by decide +kernel
theorem dX10_evenings_6 : decode cX10_evenings 6 = .ok (.ifCond .eq 12, 3) := by decide +kernel
theorem dX10_evenings_9 : decode cX10_evenings 9 = .ok (.aload_n 0, 1) := by decide +kernel
theorem dX10_evenings_10 : decode cX10_evenings 10 = .ok (.iload_n 1, 1) := by decide +kernel
theorem dX10_evenings_11 : decode cX10_evenings 11 = .ok (.iload_n 2, 1) := by decide +kernel
theorem dX10_evenings_12 : decode cX10_evenings 12 = .ok (.invokevirtual 315, 3) := by decide +kernel
theorem dX10_evenings_15 : decode cX10_evenings 15 = .ok (.goto 5, 3) := by decide +kernel
theorem dX10_evenings_18 : decode cX10_evenings 18 = .ok (.bipush (-2), 2) := by decide +kernel
theorem dX10_evenings_20 : decode cX10_evenings 20 = .ok (.ireturn, 1) := by decide +kernel
theorem dX10_meets_0 : decode cX10_meets 0 = .ok (.aload_n 0, 1) := by decide +kernel
theorem dX10_meets_1 : decode cX10_meets 1 = .ok (.iload_n 1, 1) := by decide +kernel
theorem dX10_meets_2 : decode cX10_meets 2 = .ok (.putfield 318, 3) := by decide +kernel
theorem dX10_meets_5 : decode cX10_meets 5 = .ok (.bipush (-10), 2) := by decide +kernel
theorem dX10_meets_7 : decode cX10_meets 7 = .ok (.iload_n 1, 1) := by decide +kernel
theorem dX10_meets_8 : decode cX10_meets 8 = .ok (.isub, 1) := by decide +kernel
theorem dX10_meets_9 : decode cX10_meets 9 = .ok (.ireturn, 1) := by decide +kernel
theorem dX10_isSheet_0 : decode cX10_isSheet 0 = .ok (.iload_n 0, 1) := by decide +kernel
theorem dX10_isSheet_1 : decode cX10_isSheet 1 = .ok (.iconst 0, 1) := by decide +kernel
theorem dX10_isSheet_2 : decode cX10_isSheet 2 = .ok (.iconst 3, 1) := by decide +kernel
theorem dX10_isSheet_3 : decode cX10_isSheet 3 = .ok (.invokestatic 106, 3) := by decide +kernel
theorem dX10_isSheet_6 : decode cX10_isSheet 6 = .ok (.ireturn, 1) := by decide +kernel
theorem dX10_sheet_0 : decode cX10_sheet 0 = .ok (.iload_n 1, 1) := by decide +kernel
theorem dX10_sheet_1 : decode cX10_sheet 1 = .ok (.invokestatic 167, 3) := by decide +kernel
theorem dX10_sheet_4 : decode cX10_sheet 4 = .ok (.ifCond .eq 18, 3) := by decide +kernel
theorem dX10_sheet_7 : decode cX10_sheet 7 = .ok (.iload_n 2, 1) := by decide +kernel
theorem dX10_sheet_8 : decode cX10_sheet 8 = .ok (.iconst 0, 1) := by decide +kernel
theorem dX10_sheet_9 : decode cX10_sheet 9 = .ok (.iconst 2, 1) := by decide +kernel
theorem dX10_sheet_10 : decode cX10_sheet 10 = .ok (.invokestatic 106, 3) := by decide +kernel
theorem dX10_sheet_13 : decode cX10_sheet 13 = .ok (.ifCond .eq 9, 3) := by decide +kernel
theorem dX10_sheet_16 : decode cX10_sheet 16 = .ok (.iload_n 3, 1) := by decide +kernel
theorem dX10_sheet_17 : decode cX10_sheet 17 = .ok (.bipush 60, 2) := by decide +kernel
theorem dX10_sheet_19 : decode cX10_sheet 19 = .ok (.if_icmp .le 6, 3) := by decide +kernel
theorem dX10_sheet_22 : decode cX10_sheet 22 = .ok (.bipush (-2), 2) := by decide +kernel
theorem dX10_sheet_24 : decode cX10_sheet 24 = .ok (.ireturn, 1) := by decide +kernel
theorem dX10_sheet_25 : decode cX10_sheet 25 = .ok (.iload_n 3, 1) := by decide +kernel
theorem dX10_sheet_26 : decode cX10_sheet 26 = .ok (.ifCond .ge 9, 3) := by decide +kernel
theorem dX10_sheet_29 : decode cX10_sheet 29 = .ok (.aload_n 0, 1) := by decide +kernel
theorem dX10_sheet_30 : decode cX10_sheet 30 = .ok (.iconst 5, 1) := by decide +kernel
theorem dX10_sheet_31 : decode cX10_sheet 31 = .ok (.invokevirtual 170, 3) := by decide +kernel
theorem dX10_sheet_34 : decode cX10_sheet 34 = .ok (.ireturn, 1) := by decide +kernel
theorem dX10_sheet_35 : decode cX10_sheet 35 = .ok (.aload_n 0, 1) := by decide +kernel
theorem dX10_sheet_36 : decode cX10_sheet 36 = .ok (.getfield 88, 3) := by decide +kernel
theorem dX10_sheet_39 : decode cX10_sheet 39 = .ok (.iload_n 1, 1) := by decide +kernel
theorem dX10_sheet_40 : decode cX10_sheet 40 = .ok (.iconst 1, 1) := by decide +kernel
theorem dX10_sheet_41 : decode cX10_sheet 41 = .ok (.bastore, 1) := by decide +kernel
theorem dX10_sheet_42 : decode cX10_sheet 42 = .ok (.aload_n 0, 1) := by decide +kernel
theorem dX10_sheet_43 : decode cX10_sheet 43 = .ok (.getfield 92, 3) := by decide +kernel
theorem dX10_sheet_46 : decode cX10_sheet 46 = .ok (.iload_n 1, 1) := by decide +kernel
theorem dX10_sheet_47 : decode cX10_sheet 47 = .ok (.iload_n 2, 1) := by decide +kernel
theorem dX10_sheet_48 : decode cX10_sheet 48 = .ok (.iastore, 1) := by decide +kernel
theorem dX10_sheet_49 : decode cX10_sheet 49 = .ok (.aload_n 0, 1) := by decide +kernel
theorem dX10_sheet_50 : decode cX10_sheet 50 = .ok (.getfield 95, 3) := by decide +kernel
theorem dX10_sheet_53 : decode cX10_sheet 53 = .ok (.iload_n 1, 1) := by decide +kernel
theorem dX10_sheet_54 : decode cX10_sheet 54 = .ok (.iload_n 3, 1) := by decide +kernel
theorem dX10_sheet_55 : decode cX10_sheet 55 = .ok (.iastore, 1) := by decide +kernel
theorem dX10_sheet_56 : decode cX10_sheet 56 = .ok (.iconst 0, 1) := by decide +kernel
theorem dX10_sheet_57 : decode cX10_sheet 57 = .ok (.istore 4, 2) := by decide +kernel
theorem dX10_sheet_59 : decode cX10_sheet 59 = .ok (.iload 4, 2) := by decide +kernel
theorem dX10_sheet_61 : decode cX10_sheet 61 = .ok (.bipush 60, 2) := by decide +kernel
theorem dX10_sheet_63 : decode cX10_sheet 63 = .ok (.if_icmp .ge 22, 3) := by decide +kernel
theorem dX10_sheet_66 : decode cX10_sheet 66 = .ok (.aload_n 0, 1) := by decide +kernel
theorem dX10_sheet_67 : decode cX10_sheet 67 = .ok (.getfield 98, 3) := by decide +kernel
theorem dX10_sheet_70 : decode cX10_sheet 70 = .ok (.bipush 60, 2) := by decide +kernel
theorem dX10_sheet_72 : decode cX10_sheet 72 = .ok (.iload_n 1, 1) := by decide +kernel
theorem dX10_sheet_73 : decode cX10_sheet 73 = .ok (.imul, 1) := by decide +kernel
theorem dX10_sheet_74 : decode cX10_sheet 74 = .ok (.iload 4, 2) := by decide +kernel
theorem dX10_sheet_76 : decode cX10_sheet 76 = .ok (.iadd, 1) := by decide +kernel
theorem dX10_sheet_77 : decode cX10_sheet 77 = .ok (.iconst 0, 1) := by decide +kernel
theorem dX10_sheet_78 : decode cX10_sheet 78 = .ok (.iastore, 1) := by decide +kernel
theorem dX10_sheet_79 : decode cX10_sheet 79 = .ok (.iinc 4 1, 3) := by decide +kernel
theorem dX10_sheet_82 : decode cX10_sheet 82 = .ok (.goto (-23), 3) := by decide +kernel
theorem dX10_sheet_85 : decode cX10_sheet 85 = .ok (.iload_n 3, 1) := by decide +kernel
theorem dX10_sheet_86 : decode cX10_sheet 86 = .ok (.ireturn, 1) := by decide +kernel
theorem dX10_lose_0 : decode cX10_lose 0 = .ok (.iload_n 1, 1) := by decide +kernel
theorem dX10_lose_1 : decode cX10_lose 1 = .ok (.invokestatic 167, 3) := by decide +kernel
theorem dX10_lose_4 : decode cX10_lose 4 = .ok (.ifCond .ne 6, 3) := by decide +kernel
theorem dX10_lose_7 : decode cX10_lose 7 = .ok (.bipush (-2), 2) := by decide +kernel
theorem dX10_lose_9 : decode cX10_lose 9 = .ok (.ireturn, 1) := by decide +kernel
theorem dX10_lose_10 : decode cX10_lose 10 = .ok (.aload_n 0, 1) := by decide +kernel
theorem dX10_lose_11 : decode cX10_lose 11 = .ok (.getfield 88, 3) := by decide +kernel
theorem dX10_lose_14 : decode cX10_lose 14 = .ok (.iload_n 1, 1) := by decide +kernel
theorem dX10_lose_15 : decode cX10_lose 15 = .ok (.baload, 1) := by decide +kernel
theorem dX10_lose_16 : decode cX10_lose 16 = .ok (.ifCond .ne 9, 3) := by decide +kernel
theorem dX10_lose_19 : decode cX10_lose 19 = .ok (.aload_n 0, 1) := by decide +kernel
theorem dX10_lose_20 : decode cX10_lose 20 = .ok (.iconst 1, 1) := by decide +kernel
theorem dX10_lose_21 : decode cX10_lose 21 = .ok (.invokevirtual 170, 3) := by decide +kernel
theorem dX10_lose_24 : decode cX10_lose 24 = .ok (.ireturn, 1) := by decide +kernel
theorem dX10_lose_25 : decode cX10_lose 25 = .ok (.aload_n 0, 1) := by decide +kernel
theorem dX10_lose_26 : decode cX10_lose 26 = .ok (.getfield 88, 3) := by decide +kernel
theorem dX10_lose_29 : decode cX10_lose 29 = .ok (.iload_n 1, 1) := by decide +kernel
theorem dX10_lose_30 : decode cX10_lose 30 = .ok (.iconst 0, 1) := by decide +kernel
theorem dX10_lose_31 : decode cX10_lose 31 = .ok (.bastore, 1) := by decide +kernel
theorem dX10_lose_32 : decode cX10_lose 32 = .ok (.aload_n 0, 1) := by decide +kernel
theorem dX10_lose_33 : decode cX10_lose 33 = .ok (.getfield 95, 3) := by decide +kernel
theorem dX10_lose_36 : decode cX10_lose 36 = .ok (.iload_n 1, 1) := by decide +kernel
theorem dX10_lose_37 : decode cX10_lose 37 = .ok (.iaload, 1) := by decide +kernel
theorem dX10_lose_38 : decode cX10_lose 38 = .ok (.ireturn, 1) := by decide +kernel
theorem dX10_lacks_0 : decode cX10_lacks 0 = .ok (.aload_n 0, 1) := by decide +kernel
theorem dX10_lacks_1 : decode cX10_lacks 1 = .ok (.getfield 88, 3) := by decide +kernel
theorem dX10_lacks_4 : decode cX10_lacks 4 = .ok (.iload_n 1, 1) := by decide +kernel
theorem dX10_lacks_5 : decode cX10_lacks 5 = .ok (.baload, 1) := by decide +kernel
theorem dX10_lacks_6 : decode cX10_lacks 6 = .ok (.ifCond .ne 7, 3) := by decide +kernel
theorem dX10_lacks_9 : decode cX10_lacks 9 = .ok (.iconst 1, 1) := by decide +kernel
theorem dX10_lacks_10 : decode cX10_lacks 10 = .ok (.goto 38, 3) := by decide +kernel
theorem dX10_lacks_13 : decode cX10_lacks 13 = .ok (.aload_n 0, 1) := by decide +kernel
theorem dX10_lacks_14 : decode cX10_lacks 14 = .ok (.getfield 92, 3) := by decide +kernel
theorem dX10_lacks_17 : decode cX10_lacks 17 = .ok (.iload_n 1, 1) := by decide +kernel
theorem dX10_lacks_18 : decode cX10_lacks 18 = .ok (.iaload, 1) := by decide +kernel
theorem dX10_lacks_19 : decode cX10_lacks 19 = .ok (.iload_n 2, 1) := by decide +kernel
theorem dX10_lacks_20 : decode cX10_lacks 20 = .ok (.if_icmp .eq 7, 3) := by decide +kernel
theorem dX10_lacks_23 : decode cX10_lacks 23 = .ok (.iconst 3, 1) := by decide +kernel
theorem dX10_lacks_24 : decode cX10_lacks 24 = .ok (.goto 24, 3) := by decide +kernel
theorem dX10_lacks_27 : decode cX10_lacks 27 = .ok (.iload_n 3, 1) := by decide +kernel
theorem dX10_lacks_28 : decode cX10_lacks 28 = .ok (.iconst 0, 1) := by decide +kernel
theorem dX10_lacks_29 : decode cX10_lacks 29 = .ok (.aload_n 0, 1) := by decide +kernel
theorem dX10_lacks_30 : decode cX10_lacks 30 = .ok (.getfield 95, 3) := by decide +kernel
theorem dX10_lacks_33 : decode cX10_lacks 33 = .ok (.iload_n 1, 1) := by decide +kernel
theorem dX10_lacks_34 : decode cX10_lacks 34 = .ok (.iaload, 1) := by decide +kernel
theorem dX10_lacks_35 : decode cX10_lacks 35 = .ok (.iconst 1, 1) := by decide +kernel
theorem dX10_lacks_36 : decode cX10_lacks 36 = .ok (.isub, 1) := by decide +kernel
theorem dX10_lacks_37 : decode cX10_lacks 37 = .ok (.invokestatic 106, 3) := by decide +kernel
theorem dX10_lacks_40 : decode cX10_lacks 40 = .ok (.ifCond .eq 7, 3) := by decide +kernel
theorem dX10_lacks_43 : decode cX10_lacks 43 = .ok (.iconst 0, 1) := by decide +kernel
theorem dX10_lacks_44 : decode cX10_lacks 44 = .ok (.goto 4, 3) := by decide +kernel
theorem dX10_lacks_47 : decode cX10_lacks 47 = .ok (.iconst 2, 1) := by decide +kernel
theorem dX10_lacks_48 : decode cX10_lacks 48 = .ok (.ireturn, 1) := by decide +kernel
theorem dX10_keep_0 : decode cX10_keep 0 = .ok (.aload_n 0, 1) := by decide +kernel
theorem dX10_keep_1 : decode cX10_keep 1 = .ok (.getfield 98, 3) := by decide +kernel
theorem dX10_keep_4 : decode cX10_keep 4 = .ok (.bipush 60, 2) := by decide +kernel
theorem dX10_keep_6 : decode cX10_keep 6 = .ok (.iload_n 1, 1) := by decide +kernel
theorem dX10_keep_7 : decode cX10_keep 7 = .ok (.imul, 1) := by decide +kernel
theorem dX10_keep_8 : decode cX10_keep 8 = .ok (.iload_n 2, 1) := by decide +kernel
theorem dX10_keep_9 : decode cX10_keep 9 = .ok (.iadd, 1) := by decide +kernel
theorem dX10_keep_10 : decode cX10_keep 10 = .ok (.aload_n 0, 1) := by decide +kernel
theorem dX10_keep_11 : decode cX10_keep 11 = .ok (.getfield 92, 3) := by decide +kernel
theorem dX10_keep_14 : decode cX10_keep 14 = .ok (.iload_n 1, 1) := by decide +kernel
theorem dX10_keep_15 : decode cX10_keep 15 = .ok (.iaload, 1) := by decide +kernel
theorem dX10_keep_16 : decode cX10_keep 16 = .ok (.ifCond .ne 8, 3) := by decide +kernel
theorem dX10_keep_19 : decode cX10_keep 19 = .ok (.iload_n 3, 1) := by decide +kernel
theorem dX10_keep_20 : decode cX10_keep 20 = .ok (.i2b, 1) := by decide +kernel
theorem dX10_keep_21 : decode cX10_keep 21 = .ok (.goto 19, 3) := by decide +kernel
theorem dX10_keep_24 : decode cX10_keep 24 = .ok (.aload_n 0, 1) := by decide +kernel
theorem dX10_keep_25 : decode cX10_keep 25 = .ok (.getfield 92, 3) := by decide +kernel
theorem dX10_keep_28 : decode cX10_keep 28 = .ok (.iload_n 1, 1) := by decide +kernel
theorem dX10_keep_29 : decode cX10_keep 29 = .ok (.iaload, 1) := by decide +kernel
theorem dX10_keep_30 : decode cX10_keep 30 = .ok (.iconst 1, 1) := by decide +kernel
theorem dX10_keep_31 : decode cX10_keep 31 = .ok (.if_icmp .ne 8, 3) := by decide +kernel
theorem dX10_keep_34 : decode cX10_keep 34 = .ok (.iload_n 3, 1) := by decide +kernel
theorem dX10_keep_35 : decode cX10_keep 35 = .ok (.i2s, 1) := by decide +kernel
theorem dX10_keep_36 : decode cX10_keep 36 = .ok (.goto 4, 3) := by decide +kernel
theorem dX10_keep_39 : decode cX10_keep 39 = .ok (.iload_n 3, 1) := by decide +kernel
theorem dX10_keep_40 : decode cX10_keep 40 = .ok (.iastore, 1) := by decide +kernel
theorem dX10_keep_41 : decode cX10_keep 41 = .ok (.return_, 1) := by decide +kernel
theorem dX10_put_0 : decode cX10_put 0 = .ok (.iload_n 1, 1) := by decide +kernel
theorem dX10_put_1 : decode cX10_put 1 = .ok (.invokestatic 167, 3) := by decide +kernel
theorem dX10_put_4 : decode cX10_put 4 = .ok (.ifCond .eq 12, 3) := by decide +kernel
theorem dX10_put_7 : decode cX10_put 7 = .ok (.iload_n 2, 1) := by decide +kernel
theorem dX10_put_8 : decode cX10_put 8 = .ok (.iconst 0, 1) := by decide +kernel
theorem dX10_put_9 : decode cX10_put 9 = .ok (.iconst 2, 1) := by decide +kernel
theorem dX10_put_10 : decode cX10_put 10 = .ok (.invokestatic 106, 3) := by decide +kernel
theorem dX10_put_13 : decode cX10_put 13 = .ok (.ifCond .ne 6, 3) := by decide +kernel
theorem dX10_put_16 : decode cX10_put 16 = .ok (.bipush (-2), 2) := by decide +kernel
theorem dX10_put_18 : decode cX10_put 18 = .ok (.ireturn, 1) := by decide +kernel
theorem dX10_put_19 : decode cX10_put 19 = .ok (.aload_n 0, 1) := by decide +kernel
theorem dX10_put_20 : decode cX10_put 20 = .ok (.iload_n 1, 1) := by decide +kernel
theorem dX10_put_21 : decode cX10_put 21 = .ok (.iload_n 2, 1) := by decide +kernel
theorem dX10_put_22 : decode cX10_put 22 = .ok (.iload_n 3, 1) := by decide +kernel
theorem dX10_put_23 : decode cX10_put 23 = .ok (.invokevirtual 321, 3) := by decide +kernel
theorem dX10_put_26 : decode cX10_put 26 = .ok (.istore 5, 2) := by decide +kernel
theorem dX10_put_28 : decode cX10_put 28 = .ok (.iload 5, 2) := by decide +kernel
theorem dX10_put_30 : decode cX10_put 30 = .ok (.ifCond .le 10, 3) := by decide +kernel
theorem dX10_put_33 : decode cX10_put 33 = .ok (.aload_n 0, 1) := by decide +kernel
theorem dX10_put_34 : decode cX10_put 34 = .ok (.iload 5, 2) := by decide +kernel
theorem dX10_put_36 : decode cX10_put 36 = .ok (.invokevirtual 170, 3) := by decide +kernel
theorem dX10_put_39 : decode cX10_put 39 = .ok (.ireturn, 1) := by decide +kernel
theorem dX10_put_40 : decode cX10_put 40 = .ok (.aload_n 0, 1) := by decide +kernel
theorem dX10_put_41 : decode cX10_put 41 = .ok (.iload_n 1, 1) := by decide +kernel
theorem dX10_put_42 : decode cX10_put 42 = .ok (.iload_n 3, 1) := by decide +kernel
theorem dX10_put_43 : decode cX10_put 43 = .ok (.iload 4, 2) := by decide +kernel
theorem dX10_put_45 : decode cX10_put 45 = .ok (.invokevirtual 324, 3) := by decide +kernel
theorem dX10_put_48 : decode cX10_put 48 = .ok (.iconst 1, 1) := by decide +kernel
theorem dX10_put_49 : decode cX10_put 49 = .ok (.ireturn, 1) := by decide +kernel
theorem dX10_get_0 : decode cX10_get 0 = .ok (.iload_n 1, 1) := by decide +kernel
theorem dX10_get_1 : decode cX10_get 1 = .ok (.invokestatic 167, 3) := by decide +kernel
theorem dX10_get_4 : decode cX10_get 4 = .ok (.ifCond .eq 12, 3) := by decide +kernel
theorem dX10_get_7 : decode cX10_get 7 = .ok (.iload_n 2, 1) := by decide +kernel
theorem dX10_get_8 : decode cX10_get 8 = .ok (.iconst 0, 1) := by decide +kernel
theorem dX10_get_9 : decode cX10_get 9 = .ok (.iconst 2, 1) := by decide +kernel
theorem dX10_get_10 : decode cX10_get 10 = .ok (.invokestatic 106, 3) := by decide +kernel
theorem dX10_get_13 : decode cX10_get 13 = .ok (.ifCond .ne 7, 3) := by decide +kernel
theorem dX10_get_16 : decode cX10_get 16 = .ok (.ldc_w 328, 3) := by decide +kernel
theorem dX10_get_19 : decode cX10_get 19 = .ok (.ireturn, 1) := by decide +kernel
theorem dX10_get_20 : decode cX10_get 20 = .ok (.aload_n 0, 1) := by decide +kernel
theorem dX10_get_21 : decode cX10_get 21 = .ok (.iload_n 1, 1) := by decide +kernel
theorem dX10_get_22 : decode cX10_get 22 = .ok (.iload_n 2, 1) := by decide +kernel
theorem dX10_get_23 : decode cX10_get 23 = .ok (.iload_n 3, 1) := by decide +kernel
theorem dX10_get_24 : decode cX10_get 24 = .ok (.invokevirtual 321, 3) := by decide +kernel
theorem dX10_get_27 : decode cX10_get 27 = .ok (.istore 4, 2) := by decide +kernel
theorem dX10_get_29 : decode cX10_get 29 = .ok (.iload 4, 2) := by decide +kernel
theorem dX10_get_31 : decode cX10_get 31 = .ok (.ifCond .le 13, 3) := by decide +kernel
theorem dX10_get_34 : decode cX10_get 34 = .ok (.aload_n 0, 1) := by decide +kernel
theorem dX10_get_35 : decode cX10_get 35 = .ok (.iload 4, 2) := by decide +kernel
theorem dX10_get_37 : decode cX10_get 37 = .ok (.putfield 318, 3) := by decide +kernel
theorem dX10_get_40 : decode cX10_get 40 = .ok (.ldc_w 328, 3) := by decide +kernel
theorem dX10_get_43 : decode cX10_get 43 = .ok (.ireturn, 1) := by decide +kernel
theorem dX10_get_44 : decode cX10_get 44 = .ok (.aload_n 0, 1) := by decide +kernel
theorem dX10_get_45 : decode cX10_get 45 = .ok (.getfield 98, 3) := by decide +kernel
theorem dX10_get_48 : decode cX10_get 48 = .ok (.bipush 60, 2) := by decide +kernel
theorem dX10_get_50 : decode cX10_get 50 = .ok (.iload_n 1, 1) := by decide +kernel
theorem dX10_get_51 : decode cX10_get 51 = .ok (.imul, 1) := by decide +kernel
theorem dX10_get_52 : decode cX10_get 52 = .ok (.iload_n 3, 1) := by decide +kernel
theorem dX10_get_53 : decode cX10_get 53 = .ok (.iadd, 1) := by decide +kernel
theorem dX10_get_54 : decode cX10_get 54 = .ok (.iaload, 1) := by decide +kernel
theorem dX10_get_55 : decode cX10_get 55 = .ok (.ireturn, 1) := by decide +kernel
theorem dX10_copy_0 : decode cX10_copy 0 = .ok (.iload_n 1, 1) := by decide +kernel
theorem dX10_copy_1 : decode cX10_copy 1 = .ok (.invokestatic 167, 3) := by decide +kernel
theorem dX10_copy_4 : decode cX10_copy 4 = .ok (.ifCond .eq 10, 3) := by decide +kernel
theorem dX10_copy_7 : decode cX10_copy 7 = .ok (.iload_n 3, 1) := by decide +kernel
theorem dX10_copy_8 : decode cX10_copy 8 = .ok (.invokestatic 167, 3) := by decide +kernel
theorem dX10_copy_11 : decode cX10_copy 11 = .ok (.ifCond .ne 6, 3) := by decide +kernel
theorem dX10_copy_14 : decode cX10_copy 14 = .ok (.bipush (-2), 2) := by decide +kernel
theorem dX10_copy_16 : decode cX10_copy 16 = .ok (.ireturn, 1) := by decide +kernel
theorem dX10_copy_17 : decode cX10_copy 17 = .ok (.aload_n 0, 1) := by decide +kernel
theorem dX10_copy_18 : decode cX10_copy 18 = .ok (.getfield 88, 3) := by decide +kernel
theorem dX10_copy_21 : decode cX10_copy 21 = .ok (.iload_n 1, 1) := by decide +kernel
theorem dX10_copy_22 : decode cX10_copy 22 = .ok (.baload, 1) := by decide +kernel
theorem dX10_copy_23 : decode cX10_copy 23 = .ok (.ifCond .eq 12, 3) := by decide +kernel
theorem dX10_copy_26 : decode cX10_copy 26 = .ok (.aload_n 0, 1) := by decide +kernel
theorem dX10_copy_27 : decode cX10_copy 27 = .ok (.getfield 88, 3) := by decide +kernel
theorem dX10_copy_30 : decode cX10_copy 30 = .ok (.iload_n 3, 1) := by decide +kernel
theorem dX10_copy_31 : decode cX10_copy 31 = .ok (.baload, 1) := by decide +kernel
theorem dX10_copy_32 : decode cX10_copy 32 = .ok (.ifCond .ne 9, 3) := by decide +kernel
theorem dX10_copy_35 : decode cX10_copy 35 = .ok (.aload_n 0, 1) := by decide +kernel
theorem dX10_copy_36 : decode cX10_copy 36 = .ok (.iconst 1, 1) := by decide +kernel
theorem dX10_copy_37 : decode cX10_copy 37 = .ok (.invokevirtual 170, 3) := by decide +kernel
theorem dX10_copy_40 : decode cX10_copy 40 = .ok (.ireturn, 1) := by decide +kernel
theorem dX10_copy_41 : decode cX10_copy 41 = .ok (.aload_n 0, 1) := by decide +kernel
theorem dX10_copy_42 : decode cX10_copy 42 = .ok (.getfield 92, 3) := by decide +kernel
theorem dX10_copy_45 : decode cX10_copy 45 = .ok (.iload_n 1, 1) := by decide +kernel
theorem dX10_copy_46 : decode cX10_copy 46 = .ok (.iaload, 1) := by decide +kernel
theorem dX10_copy_47 : decode cX10_copy 47 = .ok (.aload_n 0, 1) := by decide +kernel
theorem dX10_copy_48 : decode cX10_copy 48 = .ok (.getfield 92, 3) := by decide +kernel
theorem dX10_copy_51 : decode cX10_copy 51 = .ok (.iload_n 3, 1) := by decide +kernel
theorem dX10_copy_52 : decode cX10_copy 52 = .ok (.iaload, 1) := by decide +kernel
theorem dX10_copy_53 : decode cX10_copy 53 = .ok (.if_icmp .eq 9, 3) := by decide +kernel
theorem dX10_copy_56 : decode cX10_copy 56 = .ok (.aload_n 0, 1) := by decide +kernel
theorem dX10_copy_57 : decode cX10_copy 57 = .ok (.iconst 4, 1) := by decide +kernel
theorem dX10_copy_58 : decode cX10_copy 58 = .ok (.invokevirtual 170, 3) := by decide +kernel
theorem dX10_copy_61 : decode cX10_copy 61 = .ok (.ireturn, 1) := by decide +kernel
theorem dX10_copy_62 : decode cX10_copy 62 = .ok (.iload_n 2, 1) := by decide +kernel
theorem dX10_copy_63 : decode cX10_copy 63 = .ok (.ifCond .lt 48, 3) := by decide +kernel
theorem dX10_copy_66 : decode cX10_copy 66 = .ok (.iload 4, 2) := by decide +kernel
theorem dX10_copy_68 : decode cX10_copy 68 = .ok (.ifCond .lt 43, 3) := by decide +kernel
theorem dX10_copy_71 : decode cX10_copy 71 = .ok (.iload 5, 2) := by decide +kernel
theorem dX10_copy_73 : decode cX10_copy 73 = .ok (.ifCond .lt 38, 3) := by decide +kernel
theorem dX10_copy_76 : decode cX10_copy 76 = .ok (.iload_n 2, 1) := by decide +kernel
theorem dX10_copy_77 : decode cX10_copy 77 = .ok (.i2l, 1) := by decide +kernel
theorem dX10_copy_78 : decode cX10_copy 78 = .ok (.iload 5, 2) := by decide +kernel
theorem dX10_copy_80 : decode cX10_copy 80 = .ok (.i2l, 1) := by decide +kernel
theorem dX10_copy_81 : decode cX10_copy 81 = .ok (.ladd, 1) := by decide +kernel
theorem dX10_copy_82 : decode cX10_copy 82 = .ok (.aload_n 0, 1) := by decide +kernel
theorem dX10_copy_83 : decode cX10_copy 83 = .ok (.getfield 95, 3) := by decide +kernel
theorem dX10_copy_86 : decode cX10_copy 86 = .ok (.iload_n 1, 1) := by decide +kernel
theorem dX10_copy_87 : decode cX10_copy 87 = .ok (.iaload, 1) := by decide +kernel
theorem dX10_copy_88 : decode cX10_copy 88 = .ok (.i2l, 1) := by decide +kernel
theorem dX10_copy_89 : decode cX10_copy 89 = .ok (.lcmp, 1) := by decide +kernel
theorem dX10_copy_90 : decode cX10_copy 90 = .ok (.ifCond .gt 21, 3) := by decide +kernel
theorem dX10_copy_93 : decode cX10_copy 93 = .ok (.iload 4, 2) := by decide +kernel
theorem dX10_copy_95 : decode cX10_copy 95 = .ok (.i2l, 1) := by decide +kernel
theorem dX10_copy_96 : decode cX10_copy 96 = .ok (.iload 5, 2) := by decide +kernel
theorem dX10_copy_98 : decode cX10_copy 98 = .ok (.i2l, 1) := by decide +kernel
theorem dX10_copy_99 : decode cX10_copy 99 = .ok (.ladd, 1) := by decide +kernel
theorem dX10_copy_100 : decode cX10_copy 100 = .ok (.aload_n 0, 1) := by decide +kernel
theorem dX10_copy_101 : decode cX10_copy 101 = .ok (.getfield 95, 3) := by decide +kernel
theorem dX10_copy_104 : decode cX10_copy 104 = .ok (.iload_n 3, 1) := by decide +kernel
theorem dX10_copy_105 : decode cX10_copy 105 = .ok (.iaload, 1) := by decide +kernel
theorem dX10_copy_106 : decode cX10_copy 106 = .ok (.i2l, 1) := by decide +kernel
theorem dX10_copy_107 : decode cX10_copy 107 = .ok (.lcmp, 1) := by decide +kernel
theorem dX10_copy_108 : decode cX10_copy 108 = .ok (.ifCond .le 9, 3) := by decide +kernel
theorem dX10_copy_111 : decode cX10_copy 111 = .ok (.aload_n 0, 1) := by decide +kernel
theorem dX10_copy_112 : decode cX10_copy 112 = .ok (.iconst 2, 1) := by decide +kernel
theorem dX10_copy_113 : decode cX10_copy 113 = .ok (.invokevirtual 170, 3) := by decide +kernel
theorem dX10_copy_116 : decode cX10_copy 116 = .ok (.ireturn, 1) := by decide +kernel
theorem dX10_copy_117 : decode cX10_copy 117 = .ok (.iconst 0, 1) := by decide +kernel
theorem dX10_copy_118 : decode cX10_copy 118 = .ok (.istore 6, 2) := by decide +kernel
theorem dX10_copy_120 : decode cX10_copy 120 = .ok (.iload 6, 2) := by decide +kernel
theorem dX10_copy_122 : decode cX10_copy 122 = .ok (.iload 5, 2) := by decide +kernel
theorem dX10_copy_124 : decode cX10_copy 124 = .ok (.if_icmp .ge 30, 3) := by decide +kernel
theorem dX10_copy_127 : decode cX10_copy 127 = .ok (.aload_n 0, 1) := by decide +kernel
theorem dX10_copy_128 : decode cX10_copy 128 = .ok (.getfield 101, 3) := by decide +kernel
theorem dX10_copy_131 : decode cX10_copy 131 = .ok (.iload 6, 2) := by decide +kernel
theorem dX10_copy_133 : decode cX10_copy 133 = .ok (.aload_n 0, 1) := by decide +kernel
theorem dX10_copy_134 : decode cX10_copy 134 = .ok (.getfield 98, 3) := by decide +kernel
theorem dX10_copy_137 : decode cX10_copy 137 = .ok (.bipush 60, 2) := by decide +kernel
theorem dX10_copy_139 : decode cX10_copy 139 = .ok (.iload_n 1, 1) := by decide +kernel
theorem dX10_copy_140 : decode cX10_copy 140 = .ok (.imul, 1) := by decide +kernel
theorem dX10_copy_141 : decode cX10_copy 141 = .ok (.iload_n 2, 1) := by decide +kernel
theorem dX10_copy_142 : decode cX10_copy 142 = .ok (.iadd, 1) := by decide +kernel
theorem dX10_copy_143 : decode cX10_copy 143 = .ok (.iload 6, 2) := by decide +kernel
theorem dX10_copy_145 : decode cX10_copy 145 = .ok (.iadd, 1) := by decide +kernel
theorem dX10_copy_146 : decode cX10_copy 146 = .ok (.iaload, 1) := by decide +kernel
theorem dX10_copy_147 : decode cX10_copy 147 = .ok (.iastore, 1) := by decide +kernel
theorem dX10_copy_148 : decode cX10_copy 148 = .ok (.iinc 6 1, 3) := by decide +kernel
theorem dX10_copy_151 : decode cX10_copy 151 = .ok (.goto (-31), 3) := by decide +kernel
theorem dX10_copy_154 : decode cX10_copy 154 = .ok (.iconst 0, 1) := by decide +kernel
theorem dX10_copy_155 : decode cX10_copy 155 = .ok (.istore 6, 2) := by decide +kernel
theorem dX10_copy_157 : decode cX10_copy 157 = .ok (.iload 6, 2) := by decide +kernel
theorem dX10_copy_159 : decode cX10_copy 159 = .ok (.iload 5, 2) := by decide +kernel
theorem dX10_copy_161 : decode cX10_copy 161 = .ok (.if_icmp .ge 31, 3) := by decide +kernel
theorem dX10_copy_164 : decode cX10_copy 164 = .ok (.aload_n 0, 1) := by decide +kernel
theorem dX10_copy_165 : decode cX10_copy 165 = .ok (.getfield 98, 3) := by decide +kernel
theorem dX10_copy_168 : decode cX10_copy 168 = .ok (.bipush 60, 2) := by decide +kernel
theorem dX10_copy_170 : decode cX10_copy 170 = .ok (.iload_n 3, 1) := by decide +kernel
theorem dX10_copy_171 : decode cX10_copy 171 = .ok (.imul, 1) := by decide +kernel
theorem dX10_copy_172 : decode cX10_copy 172 = .ok (.iload 4, 2) := by decide +kernel
theorem dX10_copy_174 : decode cX10_copy 174 = .ok (.iadd, 1) := by decide +kernel
theorem dX10_copy_175 : decode cX10_copy 175 = .ok (.iload 6, 2) := by decide +kernel
theorem dX10_copy_177 : decode cX10_copy 177 = .ok (.iadd, 1) := by decide +kernel
theorem dX10_copy_178 : decode cX10_copy 178 = .ok (.aload_n 0, 1) := by decide +kernel
theorem dX10_copy_179 : decode cX10_copy 179 = .ok (.getfield 101, 3) := by decide +kernel
theorem dX10_copy_182 : decode cX10_copy 182 = .ok (.iload 6, 2) := by decide +kernel
theorem dX10_copy_184 : decode cX10_copy 184 = .ok (.iaload, 1) := by decide +kernel
theorem dX10_copy_185 : decode cX10_copy 185 = .ok (.iastore, 1) := by decide +kernel
theorem dX10_copy_186 : decode cX10_copy 186 = .ok (.iinc 6 1, 3) := by decide +kernel
theorem dX10_copy_189 : decode cX10_copy 189 = .ok (.goto (-32), 3) := by decide +kernel
theorem dX10_copy_192 : decode cX10_copy 192 = .ok (.iconst 1, 1) := by decide +kernel
theorem dX10_copy_193 : decode cX10_copy 193 = .ok (.ireturn, 1) := by decide +kernel
theorem dX10_write_0 : decode cX10_write 0 = .ok (.iload_n 1, 1) := by decide +kernel
theorem dX10_write_1 : decode cX10_write 1 = .ok (.invokestatic 167, 3) := by decide +kernel
theorem dX10_write_4 : decode cX10_write 4 = .ok (.ifCond .ne 6, 3) := by decide +kernel
theorem dX10_write_7 : decode cX10_write 7 = .ok (.bipush (-2), 2) := by decide +kernel
theorem dX10_write_9 : decode cX10_write 9 = .ok (.ireturn, 1) := by decide +kernel
theorem dX10_write_10 : decode cX10_write 10 = .ok (.aload_n 0, 1) := by decide +kernel
theorem dX10_write_11 : decode cX10_write 11 = .ok (.getfield 88, 3) := by decide +kernel
theorem dX10_write_14 : decode cX10_write 14 = .ok (.iload_n 1, 1) := by decide +kernel
theorem dX10_write_15 : decode cX10_write 15 = .ok (.baload, 1) := by decide +kernel
theorem dX10_write_16 : decode cX10_write 16 = .ok (.ifCond .ne 9, 3) := by decide +kernel
theorem dX10_write_19 : decode cX10_write 19 = .ok (.aload_n 0, 1) := by decide +kernel
theorem dX10_write_20 : decode cX10_write 20 = .ok (.iconst 1, 1) := by decide +kernel
theorem dX10_write_21 : decode cX10_write 21 = .ok (.invokevirtual 170, 3) := by decide +kernel
theorem dX10_write_24 : decode cX10_write 24 = .ok (.ireturn, 1) := by decide +kernel
theorem dX10_write_25 : decode cX10_write 25 = .ok (.aload_n 0, 1) := by decide +kernel
theorem dX10_write_26 : decode cX10_write 26 = .ok (.invokevirtual 222, 3) := by decide +kernel
theorem dX10_write_29 : decode cX10_write 29 = .ok (.iconst 0, 1) := by decide +kernel
theorem dX10_write_30 : decode cX10_write 30 = .ok (.istore_n 2, 1) := by decide +kernel
theorem dX10_write_31 : decode cX10_write 31 = .ok (.iload_n 2, 1) := by decide +kernel
theorem dX10_write_32 : decode cX10_write 32 = .ok (.aload_n 0, 1) := by decide +kernel
theorem dX10_write_33 : decode cX10_write 33 = .ok (.getfield 95, 3) := by decide +kernel
theorem dX10_write_36 : decode cX10_write 36 = .ok (.iload_n 1, 1) := by decide +kernel
theorem dX10_write_37 : decode cX10_write 37 = .ok (.iaload, 1) := by decide +kernel
theorem dX10_write_38 : decode cX10_write 38 = .ok (.if_icmp .ge 27, 3) := by decide +kernel
theorem dX10_write_41 : decode cX10_write 41 = .ok (.iload_n 2, 1) := by decide +kernel
theorem dX10_write_42 : decode cX10_write 42 = .ok (.bipush 10, 2) := by decide +kernel
theorem dX10_write_44 : decode cX10_write 44 = .ok (.if_icmp .ge 21, 3) := by decide +kernel
theorem dX10_write_47 : decode cX10_write 47 = .ok (.aload_n 0, 1) := by decide +kernel
theorem dX10_write_48 : decode cX10_write 48 = .ok (.iload_n 1, 1) := by decide +kernel
theorem dX10_write_49 : decode cX10_write 49 = .ok (.iload_n 2, 1) := by decide +kernel
theorem dX10_write_50 : decode cX10_write 50 = .ok (.aload_n 0, 1) := by decide +kernel
theorem dX10_write_51 : decode cX10_write 51 = .ok (.getfield 70, 3) := by decide +kernel
theorem dX10_write_54 : decode cX10_write 54 = .ok (.iload_n 2, 1) := by decide +kernel
theorem dX10_write_55 : decode cX10_write 55 = .ok (.iaload, 1) := by decide +kernel
theorem dX10_write_56 : decode cX10_write 56 = .ok (.invokevirtual 324, 3) := by decide +kernel
theorem dX10_write_59 : decode cX10_write 59 = .ok (.iinc 2 1, 3) := by decide +kernel
theorem dX10_write_62 : decode cX10_write 62 = .ok (.goto (-31), 3) := by decide +kernel
theorem dX10_write_65 : decode cX10_write 65 = .ok (.iload_n 2, 1) := by decide +kernel
theorem dX10_write_66 : decode cX10_write 66 = .ok (.ireturn, 1) := by decide +kernel
theorem dX10_sumOf_0 : decode cX10_sumOf 0 = .ok (.aload_n 0, 1) := by decide +kernel
theorem dX10_sumOf_1 : decode cX10_sumOf 1 = .ok (.invokevirtual 146, 3) := by decide +kernel
theorem dX10_sumOf_4 : decode cX10_sumOf 4 = .ok (.iload_n 1, 1) := by decide +kernel
theorem dX10_sumOf_5 : decode cX10_sumOf 5 = .ok (.ifCond .ne 10, 3) := by decide +kernel
theorem dX10_sumOf_8 : decode cX10_sumOf 8 = .ok (.aload_n 0, 1) := by decide +kernel
theorem dX10_sumOf_9 : decode cX10_sumOf 9 = .ok (.getfield 125, 3) := by decide +kernel
theorem dX10_sumOf_12 : decode cX10_sumOf 12 = .ok (.goto 27, 3) := by decide +kernel
theorem dX10_sumOf_15 : decode cX10_sumOf 15 = .ok (.iload_n 1, 1) := by decide +kernel
theorem dX10_sumOf_16 : decode cX10_sumOf 16 = .ok (.iconst 1, 1) := by decide +kernel
theorem dX10_sumOf_17 : decode cX10_sumOf 17 = .ok (.if_icmp .ne 10, 3) := by decide +kernel
theorem dX10_sumOf_20 : decode cX10_sumOf 20 = .ok (.aload_n 0, 1) := by decide +kernel
theorem dX10_sumOf_21 : decode cX10_sumOf 21 = .ok (.getfield 132, 3) := by decide +kernel
theorem dX10_sumOf_24 : decode cX10_sumOf 24 = .ok (.goto 15, 3) := by decide +kernel
theorem dX10_sumOf_27 : decode cX10_sumOf 27 = .ok (.aload_n 0, 1) := by decide +kernel
theorem dX10_sumOf_28 : decode cX10_sumOf 28 = .ok (.iconst 1, 1) := by decide +kernel
theorem dX10_sumOf_29 : decode cX10_sumOf 29 = .ok (.aload_n 0, 1) := by decide +kernel
theorem dX10_sumOf_30 : decode cX10_sumOf 30 = .ok (.getfield 125, 3) := by decide +kernel
theorem dX10_sumOf_33 : decode cX10_sumOf 33 = .ok (.ishl, 1) := by decide +kernel
theorem dX10_sumOf_34 : decode cX10_sumOf 34 = .ok (.iconst 1, 1) := by decide +kernel
theorem dX10_sumOf_35 : decode cX10_sumOf 35 = .ok (.isub, 1) := by decide +kernel
theorem dX10_sumOf_36 : decode cX10_sumOf 36 = .ok (.invokevirtual 264, 3) := by decide +kernel
theorem dX10_sumOf_39 : decode cX10_sumOf 39 = .ok (.ireturn, 1) := by decide +kernel
theorem dX10_count_0 : decode cX10_count 0 = .ok (.iload_n 1, 1) := by decide +kernel
theorem dX10_count_1 : decode cX10_count 1 = .ok (.tableswitch 86 0 8 #[51, 51, 57, 57, 66, 71, 51, 76, 81], 51) := by decide +kernel
theorem dX10_count_52 : decode cX10_count 52 = .ok (.aload_n 0, 1) := by decide +kernel
theorem dX10_count_53 : decode cX10_count 53 = .ok (.iload_n 1, 1) := by decide +kernel
theorem dX10_count_54 : decode cX10_count 54 = .ok (.invokevirtual 329, 3) := by decide +kernel
theorem dX10_count_57 : decode cX10_count 57 = .ok (.ireturn, 1) := by decide +kernel
theorem dX10_count_58 : decode cX10_count 58 = .ok (.aload_n 0, 1) := by decide +kernel
theorem dX10_count_59 : decode cX10_count 59 = .ok (.getfield 7, 3) := by decide +kernel
theorem dX10_count_62 : decode cX10_count 62 = .ok (.iload_n 1, 1) := by decide +kernel
theorem dX10_count_63 : decode cX10_count 63 = .ok (.iconst 2, 1) := by decide +kernel
theorem dX10_count_64 : decode cX10_count 64 = .ok (.isub, 1) := by decide +kernel
theorem dX10_count_65 : decode cX10_count 65 = .ok (.iaload, 1) := by decide +kernel
theorem dX10_count_66 : decode cX10_count 66 = .ok (.ireturn, 1) := by decide +kernel
theorem dX10_count_67 : decode cX10_count 67 = .ok (.aload_n 0, 1) := by decide +kernel
theorem dX10_count_68 : decode cX10_count 68 = .ok (.getfield 161, 3) := by decide +kernel
theorem dX10_count_71 : decode cX10_count 71 = .ok (.ireturn, 1) := by decide +kernel
theorem dX10_count_72 : decode cX10_count 72 = .ok (.aload_n 0, 1) := by decide +kernel
theorem dX10_count_73 : decode cX10_count 73 = .ok (.getfield 164, 3) := by decide +kernel
theorem dX10_count_76 : decode cX10_count 76 = .ok (.ireturn, 1) := by decide +kernel
theorem dX10_count_77 : decode cX10_count 77 = .ok (.aload_n 0, 1) := by decide +kernel
theorem dX10_count_78 : decode cX10_count 78 = .ok (.getfield 291, 3) := by decide +kernel
theorem dX10_count_81 : decode cX10_count 81 = .ok (.ireturn, 1) := by decide +kernel
theorem dX10_count_82 : decode cX10_count 82 = .ok (.aload_n 0, 1) := by decide +kernel
theorem dX10_count_83 : decode cX10_count 83 = .ok (.getfield 318, 3) := by decide +kernel
theorem dX10_count_86 : decode cX10_count 86 = .ok (.ireturn, 1) := by decide +kernel
theorem dX10_count_87 : decode cX10_count 87 = .ok (.bipush (-2), 2) := by decide +kernel
theorem dX10_count_89 : decode cX10_count 89 = .ok (.ireturn, 1) := by decide +kernel
theorem dX10_nightsDigest_0 : decode cX10_nightsDigest 0 = .ok (.lload_n 1, 1) := by decide +kernel
theorem dX10_nightsDigest_1 : decode cX10_nightsDigest 1 = .ok (.lstore 5, 2) := by decide +kernel
theorem dX10_nightsDigest_3 : decode cX10_nightsDigest 3 = .ok (.iconst 0, 1) := by decide +kernel
theorem dX10_nightsDigest_4 : decode cX10_nightsDigest 4 = .ok (.istore 7, 2) := by decide +kernel
theorem dX10_nightsDigest_6 : decode cX10_nightsDigest 6 = .ok (.iload 7, 2) := by decide +kernel
theorem dX10_nightsDigest_8 : decode cX10_nightsDigest 8 = .ok (.iconst 3, 1) := by decide +kernel
theorem dX10_nightsDigest_9 : decode cX10_nightsDigest 9 = .ok (.if_icmp .ge 28, 3) := by decide +kernel
theorem dX10_nightsDigest_12 : decode cX10_nightsDigest 12 = .ok (.ldc2_w 332, 3) := by decide +kernel
theorem dX10_nightsDigest_15 : decode cX10_nightsDigest 15 = .ok (.lload 5, 2) := by decide +kernel
theorem dX10_nightsDigest_17 : decode cX10_nightsDigest 17 = .ok (.lmul, 1) := by decide +kernel
theorem dX10_nightsDigest_18 : decode cX10_nightsDigest 18 = .ok (.aload_n 0, 1) := by decide +kernel
theorem dX10_nightsDigest_19 : decode cX10_nightsDigest 19 = .ok (.iload_n 3, 1) := by decide +kernel
theorem dX10_nightsDigest_20 : decode cX10_nightsDigest 20 = .ok (.iload 4, 2) := by decide +kernel
theorem dX10_nightsDigest_22 : decode cX10_nightsDigest 22 = .ok (.iload 7, 2) := by decide +kernel
theorem dX10_nightsDigest_24 : decode cX10_nightsDigest 24 = .ok (.invokevirtual 225, 3) := by decide +kernel
theorem dX10_nightsDigest_27 : decode cX10_nightsDigest 27 = .ok (.i2l, 1) := by decide +kernel
theorem dX10_nightsDigest_28 : decode cX10_nightsDigest 28 = .ok (.ladd, 1) := by decide +kernel
theorem dX10_nightsDigest_29 : decode cX10_nightsDigest 29 = .ok (.lstore 5, 2) := by decide +kernel
theorem dX10_nightsDigest_31 : decode cX10_nightsDigest 31 = .ok (.iinc 7 1, 3) := by decide +kernel
theorem dX10_nightsDigest_34 : decode cX10_nightsDigest 34 = .ok (.goto (-28), 3) := by decide +kernel
theorem dX10_nightsDigest_37 : decode cX10_nightsDigest 37 = .ok (.ldc2_w 332, 3) := by decide +kernel
theorem dX10_nightsDigest_40 : decode cX10_nightsDigest 40 = .ok (.lload 5, 2) := by decide +kernel
theorem dX10_nightsDigest_42 : decode cX10_nightsDigest 42 = .ok (.lmul, 1) := by decide +kernel
theorem dX10_nightsDigest_43 : decode cX10_nightsDigest 43 = .ok (.aload_n 0, 1) := by decide +kernel
theorem dX10_nightsDigest_44 : decode cX10_nightsDigest 44 = .ok (.iload_n 3, 1) := by decide +kernel
theorem dX10_nightsDigest_45 : decode cX10_nightsDigest 45 = .ok (.iload 4, 2) := by decide +kernel
theorem dX10_nightsDigest_47 : decode cX10_nightsDigest 47 = .ok (.invokevirtual 288, 3) := by decide +kernel
theorem dX10_nightsDigest_50 : decode cX10_nightsDigest 50 = .ok (.i2l, 1) := by decide +kernel
theorem dX10_nightsDigest_51 : decode cX10_nightsDigest 51 = .ok (.ladd, 1) := by decide +kernel
theorem dX10_nightsDigest_52 : decode cX10_nightsDigest 52 = .ok (.lreturn, 1) := by decide +kernel
theorem dX10_memberDigest_0 : decode cX10_memberDigest 0 = .ok (.lload_n 1, 1) := by decide +kernel
theorem dX10_memberDigest_1 : decode cX10_memberDigest 1 = .ok (.lstore 4, 2) := by decide +kernel
theorem dX10_memberDigest_3 : decode cX10_memberDigest 3 = .ok (.iconst 0, 1) := by decide +kernel
theorem dX10_memberDigest_4 : decode cX10_memberDigest 4 = .ok (.istore 6, 2) := by decide +kernel
theorem dX10_memberDigest_6 : decode cX10_memberDigest 6 = .ok (.iload 6, 2) := by decide +kernel
theorem dX10_memberDigest_8 : decode cX10_memberDigest 8 = .ok (.iconst 5, 1) := by decide +kernel
theorem dX10_memberDigest_9 : decode cX10_memberDigest 9 = .ok (.if_icmp .ge 26, 3) := by decide +kernel
theorem dX10_memberDigest_12 : decode cX10_memberDigest 12 = .ok (.ldc2_w 332, 3) := by decide +kernel
theorem dX10_memberDigest_15 : decode cX10_memberDigest 15 = .ok (.lload 4, 2) := by decide +kernel
theorem dX10_memberDigest_17 : decode cX10_memberDigest 17 = .ok (.lmul, 1) := by decide +kernel
theorem dX10_memberDigest_18 : decode cX10_memberDigest 18 = .ok (.aload_n 0, 1) := by decide +kernel
theorem dX10_memberDigest_19 : decode cX10_memberDigest 19 = .ok (.iload_n 3, 1) := by decide +kernel
theorem dX10_memberDigest_20 : decode cX10_memberDigest 20 = .ok (.iload 6, 2) := by decide +kernel
theorem dX10_memberDigest_22 : decode cX10_memberDigest 22 = .ok (.invokevirtual 152, 3) := by decide +kernel
theorem dX10_memberDigest_25 : decode cX10_memberDigest 25 = .ok (.i2l, 1) := by decide +kernel
theorem dX10_memberDigest_26 : decode cX10_memberDigest 26 = .ok (.ladd, 1) := by decide +kernel
theorem dX10_memberDigest_27 : decode cX10_memberDigest 27 = .ok (.lstore 4, 2) := by decide +kernel
theorem dX10_memberDigest_29 : decode cX10_memberDigest 29 = .ok (.iinc 6 1, 3) := by decide +kernel
theorem dX10_memberDigest_32 : decode cX10_memberDigest 32 = .ok (.goto (-26), 3) := by decide +kernel
theorem dX10_memberDigest_35 : decode cX10_memberDigest 35 = .ok (.aload_n 0, 1) := by decide +kernel
theorem dX10_memberDigest_36 : decode cX10_memberDigest 36 = .ok (.lload 4, 2) := by decide +kernel
theorem dX10_memberDigest_38 : decode cX10_memberDigest 38 = .ok (.iconst 0, 1) := by decide +kernel
theorem dX10_memberDigest_39 : decode cX10_memberDigest 39 = .ok (.iload_n 3, 1) := by decide +kernel
theorem dX10_memberDigest_40 : decode cX10_memberDigest 40 = .ok (.invokevirtual 334, 3) := by decide +kernel
theorem dX10_memberDigest_43 : decode cX10_memberDigest 43 = .ok (.lstore 4, 2) := by decide +kernel
theorem dX10_memberDigest_45 : decode cX10_memberDigest 45 = .ok (.aload_n 0, 1) := by decide +kernel
theorem dX10_memberDigest_46 : decode cX10_memberDigest 46 = .ok (.lload 4, 2) := by decide +kernel
theorem dX10_memberDigest_48 : decode cX10_memberDigest 48 = .ok (.iconst 4, 1) := by decide +kernel
theorem dX10_memberDigest_49 : decode cX10_memberDigest 49 = .ok (.iload_n 3, 1) := by decide +kernel
theorem dX10_memberDigest_50 : decode cX10_memberDigest 50 = .ok (.invokevirtual 334, 3) := by decide +kernel
theorem dX10_memberDigest_53 : decode cX10_memberDigest 53 = .ok (.lstore 4, 2) := by decide +kernel
theorem dX10_memberDigest_55 : decode cX10_memberDigest 55 = .ok (.aload_n 0, 1) := by decide +kernel
theorem dX10_memberDigest_56 : decode cX10_memberDigest 56 = .ok (.lload 4, 2) := by decide +kernel
theorem dX10_memberDigest_58 : decode cX10_memberDigest 58 = .ok (.bipush 9, 2) := by decide +kernel
theorem dX10_memberDigest_60 : decode cX10_memberDigest 60 = .ok (.iload_n 3, 1) := by decide +kernel
theorem dX10_memberDigest_61 : decode cX10_memberDigest 61 = .ok (.invokevirtual 334, 3) := by decide +kernel
theorem dX10_memberDigest_64 : decode cX10_memberDigest 64 = .ok (.lstore 4, 2) := by decide +kernel
theorem dX10_memberDigest_66 : decode cX10_memberDigest 66 = .ok (.ldc2_w 332, 3) := by decide +kernel
theorem dX10_memberDigest_69 : decode cX10_memberDigest 69 = .ok (.lload 4, 2) := by decide +kernel
theorem dX10_memberDigest_71 : decode cX10_memberDigest 71 = .ok (.lmul, 1) := by decide +kernel
theorem dX10_memberDigest_72 : decode cX10_memberDigest 72 = .ok (.aload_n 0, 1) := by decide +kernel
theorem dX10_memberDigest_73 : decode cX10_memberDigest 73 = .ok (.iload_n 3, 1) := by decide +kernel
theorem dX10_memberDigest_74 : decode cX10_memberDigest 74 = .ok (.iconst 0, 1) := by decide +kernel
theorem dX10_memberDigest_75 : decode cX10_memberDigest 75 = .ok (.invokevirtual 275, 3) := by decide +kernel
theorem dX10_memberDigest_78 : decode cX10_memberDigest 78 = .ok (.ladd, 1) := by decide +kernel
theorem dX10_memberDigest_79 : decode cX10_memberDigest 79 = .ok (.lstore 4, 2) := by decide +kernel
theorem dX10_memberDigest_81 : decode cX10_memberDigest 81 = .ok (.ldc2_w 332, 3) := by decide +kernel
theorem dX10_memberDigest_84 : decode cX10_memberDigest 84 = .ok (.lload 4, 2) := by decide +kernel
theorem dX10_memberDigest_86 : decode cX10_memberDigest 86 = .ok (.lmul, 1) := by decide +kernel
theorem dX10_memberDigest_87 : decode cX10_memberDigest 87 = .ok (.aload_n 0, 1) := by decide +kernel
theorem dX10_memberDigest_88 : decode cX10_memberDigest 88 = .ok (.iload_n 3, 1) := by decide +kernel
theorem dX10_memberDigest_89 : decode cX10_memberDigest 89 = .ok (.iconst 1, 1) := by decide +kernel
theorem dX10_memberDigest_90 : decode cX10_memberDigest 90 = .ok (.invokevirtual 275, 3) := by decide +kernel
theorem dX10_memberDigest_93 : decode cX10_memberDigest 93 = .ok (.ladd, 1) := by decide +kernel
theorem dX10_memberDigest_94 : decode cX10_memberDigest 94 = .ok (.lstore 4, 2) := by decide +kernel
theorem dX10_memberDigest_96 : decode cX10_memberDigest 96 = .ok (.ldc2_w 332, 3) := by decide +kernel
theorem dX10_memberDigest_99 : decode cX10_memberDigest 99 = .ok (.lload 4, 2) := by decide +kernel
theorem dX10_memberDigest_101 : decode cX10_memberDigest 101 = .ok (.lmul, 1) := by decide +kernel
theorem dX10_memberDigest_102 : decode cX10_memberDigest 102 = .ok (.aload_n 0, 1) := by decide +kernel
theorem dX10_memberDigest_103 : decode cX10_memberDigest 103 = .ok (.iload_n 3, 1) := by decide +kernel
theorem dX10_memberDigest_104 : decode cX10_memberDigest 104 = .ok (.invokevirtual 304, 3) := by decide +kernel
theorem dX10_memberDigest_107 : decode cX10_memberDigest 107 = .ok (.i2l, 1) := by decide +kernel
theorem dX10_memberDigest_108 : decode cX10_memberDigest 108 = .ok (.ladd, 1) := by decide +kernel
theorem dX10_memberDigest_109 : decode cX10_memberDigest 109 = .ok (.lstore 4, 2) := by decide +kernel
theorem dX10_memberDigest_111 : decode cX10_memberDigest 111 = .ok (.ldc2_w 332, 3) := by decide +kernel
theorem dX10_memberDigest_114 : decode cX10_memberDigest 114 = .ok (.lload 4, 2) := by decide +kernel
theorem dX10_memberDigest_116 : decode cX10_memberDigest 116 = .ok (.lmul, 1) := by decide +kernel
theorem dX10_memberDigest_117 : decode cX10_memberDigest 117 = .ok (.aload_n 0, 1) := by decide +kernel
theorem dX10_memberDigest_118 : decode cX10_memberDigest 118 = .ok (.iload_n 3, 1) := by decide +kernel
theorem dX10_memberDigest_119 : decode cX10_memberDigest 119 = .ok (.invokevirtual 307, 3) := by decide +kernel
theorem dX10_memberDigest_122 : decode cX10_memberDigest 122 = .ok (.i2l, 1) := by decide +kernel
theorem dX10_memberDigest_123 : decode cX10_memberDigest 123 = .ok (.ladd, 1) := by decide +kernel
theorem dX10_memberDigest_124 : decode cX10_memberDigest 124 = .ok (.lreturn, 1) := by decide +kernel
theorem dX10_nightDigest_0 : decode cX10_nightDigest 0 = .ok (.lload_n 1, 1) := by decide +kernel
theorem dX10_nightDigest_1 : decode cX10_nightDigest 1 = .ok (.lstore 4, 2) := by decide +kernel
theorem dX10_nightDigest_3 : decode cX10_nightDigest 3 = .ok (.iconst 0, 1) := by decide +kernel
theorem dX10_nightDigest_4 : decode cX10_nightDigest 4 = .ok (.istore 6, 2) := by decide +kernel
theorem dX10_nightDigest_6 : decode cX10_nightDigest 6 = .ok (.iload 6, 2) := by decide +kernel
theorem dX10_nightDigest_8 : decode cX10_nightDigest 8 = .ok (.iconst 3, 1) := by decide +kernel
theorem dX10_nightDigest_9 : decode cX10_nightDigest 9 = .ok (.if_icmp .ge 26, 3) := by decide +kernel
theorem dX10_nightDigest_12 : decode cX10_nightDigest 12 = .ok (.ldc2_w 332, 3) := by decide +kernel
theorem dX10_nightDigest_15 : decode cX10_nightDigest 15 = .ok (.lload 4, 2) := by decide +kernel
theorem dX10_nightDigest_17 : decode cX10_nightDigest 17 = .ok (.lmul, 1) := by decide +kernel
theorem dX10_nightDigest_18 : decode cX10_nightDigest 18 = .ok (.aload_n 0, 1) := by decide +kernel
theorem dX10_nightDigest_19 : decode cX10_nightDigest 19 = .ok (.iload_n 3, 1) := by decide +kernel
theorem dX10_nightDigest_20 : decode cX10_nightDigest 20 = .ok (.iload 6, 2) := by decide +kernel
theorem dX10_nightDigest_22 : decode cX10_nightDigest 22 = .ok (.invokevirtual 158, 3) := by decide +kernel
theorem dX10_nightDigest_25 : decode cX10_nightDigest 25 = .ok (.i2l, 1) := by decide +kernel
theorem dX10_nightDigest_26 : decode cX10_nightDigest 26 = .ok (.ladd, 1) := by decide +kernel
theorem dX10_nightDigest_27 : decode cX10_nightDigest 27 = .ok (.lstore 4, 2) := by decide +kernel
theorem dX10_nightDigest_29 : decode cX10_nightDigest 29 = .ok (.iinc 6 1, 3) := by decide +kernel
theorem dX10_nightDigest_32 : decode cX10_nightDigest 32 = .ok (.goto (-26), 3) := by decide +kernel
theorem dX10_nightDigest_35 : decode cX10_nightDigest 35 = .ok (.iconst 0, 1) := by decide +kernel
theorem dX10_nightDigest_36 : decode cX10_nightDigest 36 = .ok (.istore 6, 2) := by decide +kernel
theorem dX10_nightDigest_38 : decode cX10_nightDigest 38 = .ok (.iload 6, 2) := by decide +kernel
theorem dX10_nightDigest_40 : decode cX10_nightDigest 40 = .ok (.iconst 4, 1) := by decide +kernel
theorem dX10_nightDigest_41 : decode cX10_nightDigest 41 = .ok (.if_icmp .ge 26, 3) := by decide +kernel
theorem dX10_nightDigest_44 : decode cX10_nightDigest 44 = .ok (.ldc2_w 332, 3) := by decide +kernel
theorem dX10_nightDigest_47 : decode cX10_nightDigest 47 = .ok (.lload 4, 2) := by decide +kernel
theorem dX10_nightDigest_49 : decode cX10_nightDigest 49 = .ok (.lmul, 1) := by decide +kernel
theorem dX10_nightDigest_50 : decode cX10_nightDigest 50 = .ok (.aload_n 0, 1) := by decide +kernel
theorem dX10_nightDigest_51 : decode cX10_nightDigest 51 = .ok (.iload_n 3, 1) := by decide +kernel
theorem dX10_nightDigest_52 : decode cX10_nightDigest 52 = .ok (.iload 6, 2) := by decide +kernel
theorem dX10_nightDigest_54 : decode cX10_nightDigest 54 = .ok (.invokevirtual 231, 3) := by decide +kernel
theorem dX10_nightDigest_57 : decode cX10_nightDigest 57 = .ok (.i2l, 1) := by decide +kernel
theorem dX10_nightDigest_58 : decode cX10_nightDigest 58 = .ok (.ladd, 1) := by decide +kernel
theorem dX10_nightDigest_59 : decode cX10_nightDigest 59 = .ok (.lstore 4, 2) := by decide +kernel
theorem dX10_nightDigest_61 : decode cX10_nightDigest 61 = .ok (.iinc 6 1, 3) := by decide +kernel
theorem dX10_nightDigest_64 : decode cX10_nightDigest 64 = .ok (.goto (-26), 3) := by decide +kernel
theorem dX10_nightDigest_67 : decode cX10_nightDigest 67 = .ok (.ldc2_w 332, 3) := by decide +kernel
theorem dX10_nightDigest_70 : decode cX10_nightDigest 70 = .ok (.lload 4, 2) := by decide +kernel
theorem dX10_nightDigest_72 : decode cX10_nightDigest 72 = .ok (.lmul, 1) := by decide +kernel
theorem dX10_nightDigest_73 : decode cX10_nightDigest 73 = .ok (.aload_n 0, 1) := by decide +kernel
theorem dX10_nightDigest_74 : decode cX10_nightDigest 74 = .ok (.iload_n 3, 1) := by decide +kernel
theorem dX10_nightDigest_75 : decode cX10_nightDigest 75 = .ok (.invokevirtual 237, 3) := by decide +kernel
theorem dX10_nightDigest_78 : decode cX10_nightDigest 78 = .ok (.i2l, 1) := by decide +kernel
theorem dX10_nightDigest_79 : decode cX10_nightDigest 79 = .ok (.ladd, 1) := by decide +kernel
theorem dX10_nightDigest_80 : decode cX10_nightDigest 80 = .ok (.lstore 4, 2) := by decide +kernel
theorem dX10_nightDigest_82 : decode cX10_nightDigest 82 = .ok (.aload_n 0, 1) := by decide +kernel
theorem dX10_nightDigest_83 : decode cX10_nightDigest 83 = .ok (.iload_n 3, 1) := by decide +kernel
theorem dX10_nightDigest_84 : decode cX10_nightDigest 84 = .ok (.invokevirtual 252, 3) := by decide +kernel
theorem dX10_nightDigest_87 : decode cX10_nightDigest 87 = .ok (.istore 6, 2) := by decide +kernel
theorem dX10_nightDigest_89 : decode cX10_nightDigest 89 = .ok (.ldc2_w 332, 3) := by decide +kernel
theorem dX10_nightDigest_92 : decode cX10_nightDigest 92 = .ok (.lload 4, 2) := by decide +kernel
theorem dX10_nightDigest_94 : decode cX10_nightDigest 94 = .ok (.lmul, 1) := by decide +kernel
theorem dX10_nightDigest_95 : decode cX10_nightDigest 95 = .ok (.iload 6, 2) := by decide +kernel
theorem dX10_nightDigest_97 : decode cX10_nightDigest 97 = .ok (.i2l, 1) := by decide +kernel
theorem dX10_nightDigest_98 : decode cX10_nightDigest 98 = .ok (.ladd, 1) := by decide +kernel
theorem dX10_nightDigest_99 : decode cX10_nightDigest 99 = .ok (.lstore 4, 2) := by decide +kernel
theorem dX10_nightDigest_101 : decode cX10_nightDigest 101 = .ok (.ldc2_w 332, 3) := by decide +kernel
theorem dX10_nightDigest_104 : decode cX10_nightDigest 104 = .ok (.lload 4, 2) := by decide +kernel
theorem dX10_nightDigest_106 : decode cX10_nightDigest 106 = .ok (.lmul, 1) := by decide +kernel
theorem dX10_nightDigest_107 : decode cX10_nightDigest 107 = .ok (.aload_n 0, 1) := by decide +kernel
theorem dX10_nightDigest_108 : decode cX10_nightDigest 108 = .ok (.iload 6, 2) := by decide +kernel
theorem dX10_nightDigest_110 : decode cX10_nightDigest 110 = .ok (.iconst 0, 1) := by decide +kernel
theorem dX10_nightDigest_111 : decode cX10_nightDigest 111 = .ok (.invokevirtual 255, 3) := by decide +kernel
theorem dX10_nightDigest_114 : decode cX10_nightDigest 114 = .ok (.i2l, 1) := by decide +kernel
theorem dX10_nightDigest_115 : decode cX10_nightDigest 115 = .ok (.ladd, 1) := by decide +kernel
theorem dX10_nightDigest_116 : decode cX10_nightDigest 116 = .ok (.lreturn, 1) := by decide +kernel
theorem dX10_digest_0 : decode cX10_digest 0 = .ok (.ldc2_w 338, 3) := by decide +kernel
theorem dX10_digest_3 : decode cX10_digest 3 = .ok (.lstore_n 1, 1) := by decide +kernel
theorem dX10_digest_4 : decode cX10_digest 4 = .ok (.iconst 0, 1) := by decide +kernel
theorem dX10_digest_5 : decode cX10_digest 5 = .ok (.istore_n 3, 1) := by decide +kernel
theorem dX10_digest_6 : decode cX10_digest 6 = .ok (.iload_n 3, 1) := by decide +kernel
theorem dX10_digest_7 : decode cX10_digest 7 = .ok (.bipush 8, 2) := by decide +kernel
theorem dX10_digest_9 : decode cX10_digest 9 = .ok (.if_icmp .ge 22, 3) := by decide +kernel
theorem dX10_digest_12 : decode cX10_digest 12 = .ok (.ldc2_w 332, 3) := by decide +kernel
theorem dX10_digest_15 : decode cX10_digest 15 = .ok (.lload_n 1, 1) := by decide +kernel
theorem dX10_digest_16 : decode cX10_digest 16 = .ok (.lmul, 1) := by decide +kernel
theorem dX10_digest_17 : decode cX10_digest 17 = .ok (.aload_n 0, 1) := by decide +kernel
theorem dX10_digest_18 : decode cX10_digest 18 = .ok (.iload_n 3, 1) := by decide +kernel
theorem dX10_digest_19 : decode cX10_digest 19 = .ok (.invokevirtual 340, 3) := by decide +kernel
theorem dX10_digest_22 : decode cX10_digest 22 = .ok (.i2l, 1) := by decide +kernel
theorem dX10_digest_23 : decode cX10_digest 23 = .ok (.ladd, 1) := by decide +kernel
theorem dX10_digest_24 : decode cX10_digest 24 = .ok (.lstore_n 1, 1) := by decide +kernel
theorem dX10_digest_25 : decode cX10_digest 25 = .ok (.iinc 3 1, 3) := by decide +kernel
theorem dX10_digest_28 : decode cX10_digest 28 = .ok (.goto (-22), 3) := by decide +kernel
theorem dX10_digest_31 : decode cX10_digest 31 = .ok (.ldc2_w 332, 3) := by decide +kernel
theorem dX10_digest_34 : decode cX10_digest 34 = .ok (.lload_n 1, 1) := by decide +kernel
theorem dX10_digest_35 : decode cX10_digest 35 = .ok (.lmul, 1) := by decide +kernel
theorem dX10_digest_36 : decode cX10_digest 36 = .ok (.aload_n 0, 1) := by decide +kernel
theorem dX10_digest_37 : decode cX10_digest 37 = .ok (.iconst 0, 1) := by decide +kernel
theorem dX10_digest_38 : decode cX10_digest 38 = .ok (.invokevirtual 142, 3) := by decide +kernel
theorem dX10_digest_41 : decode cX10_digest 41 = .ok (.i2l, 1) := by decide +kernel
theorem dX10_digest_42 : decode cX10_digest 42 = .ok (.ladd, 1) := by decide +kernel
theorem dX10_digest_43 : decode cX10_digest 43 = .ok (.lstore_n 1, 1) := by decide +kernel
theorem dX10_digest_44 : decode cX10_digest 44 = .ok (.ldc2_w 332, 3) := by decide +kernel
theorem dX10_digest_47 : decode cX10_digest 47 = .ok (.lload_n 1, 1) := by decide +kernel
theorem dX10_digest_48 : decode cX10_digest 48 = .ok (.lmul, 1) := by decide +kernel
theorem dX10_digest_49 : decode cX10_digest 49 = .ok (.aload_n 0, 1) := by decide +kernel
theorem dX10_digest_50 : decode cX10_digest 50 = .ok (.iconst 1, 1) := by decide +kernel
theorem dX10_digest_51 : decode cX10_digest 51 = .ok (.invokevirtual 142, 3) := by decide +kernel
theorem dX10_digest_54 : decode cX10_digest 54 = .ok (.i2l, 1) := by decide +kernel
theorem dX10_digest_55 : decode cX10_digest 55 = .ok (.ladd, 1) := by decide +kernel
theorem dX10_digest_56 : decode cX10_digest 56 = .ok (.lstore_n 1, 1) := by decide +kernel
theorem dX10_digest_57 : decode cX10_digest 57 = .ok (.iconst 0, 1) := by decide +kernel
theorem dX10_digest_58 : decode cX10_digest 58 = .ok (.istore_n 3, 1) := by decide +kernel
theorem dX10_digest_59 : decode cX10_digest 59 = .ok (.iload_n 3, 1) := by decide +kernel
theorem dX10_digest_60 : decode cX10_digest 60 = .ok (.aload_n 0, 1) := by decide +kernel
theorem dX10_digest_61 : decode cX10_digest 61 = .ok (.getfield 125, 3) := by decide +kernel
theorem dX10_digest_64 : decode cX10_digest 64 = .ok (.if_icmp .ge 16, 3) := by decide +kernel
theorem dX10_digest_67 : decode cX10_digest 67 = .ok (.aload_n 0, 1) := by decide +kernel
theorem dX10_digest_68 : decode cX10_digest 68 = .ok (.lload_n 1, 1) := by decide +kernel
theorem dX10_digest_69 : decode cX10_digest 69 = .ok (.iload_n 3, 1) := by decide +kernel
theorem dX10_digest_70 : decode cX10_digest 70 = .ok (.invokevirtual 343, 3) := by decide +kernel
theorem dX10_digest_73 : decode cX10_digest 73 = .ok (.lstore_n 1, 1) := by decide +kernel
theorem dX10_digest_74 : decode cX10_digest 74 = .ok (.iinc 3 1, 3) := by decide +kernel
theorem dX10_digest_77 : decode cX10_digest 77 = .ok (.goto (-18), 3) := by decide +kernel
theorem dX10_digest_80 : decode cX10_digest 80 = .ok (.iconst 0, 1) := by decide +kernel
theorem dX10_digest_81 : decode cX10_digest 81 = .ok (.istore_n 3, 1) := by decide +kernel
theorem dX10_digest_82 : decode cX10_digest 82 = .ok (.iload_n 3, 1) := by decide +kernel
theorem dX10_digest_83 : decode cX10_digest 83 = .ok (.bipush 10, 2) := by decide +kernel
theorem dX10_digest_85 : decode cX10_digest 85 = .ok (.if_icmp .ge 16, 3) := by decide +kernel
theorem dX10_digest_88 : decode cX10_digest 88 = .ok (.aload_n 0, 1) := by decide +kernel
theorem dX10_digest_89 : decode cX10_digest 89 = .ok (.lload_n 1, 1) := by decide +kernel
theorem dX10_digest_90 : decode cX10_digest 90 = .ok (.iload_n 3, 1) := by decide +kernel
theorem dX10_digest_91 : decode cX10_digest 91 = .ok (.invokevirtual 347, 3) := by decide +kernel
theorem dX10_digest_94 : decode cX10_digest 94 = .ok (.lstore_n 1, 1) := by decide +kernel
theorem dX10_digest_95 : decode cX10_digest 95 = .ok (.iinc 3 1, 3) := by decide +kernel
theorem dX10_digest_98 : decode cX10_digest 98 = .ok (.goto (-16), 3) := by decide +kernel
theorem dX10_digest_101 : decode cX10_digest 101 = .ok (.ldc2_w 332, 3) := by decide +kernel
theorem dX10_digest_104 : decode cX10_digest 104 = .ok (.lload_n 1, 1) := by decide +kernel
theorem dX10_digest_105 : decode cX10_digest 105 = .ok (.lmul, 1) := by decide +kernel
theorem dX10_digest_106 : decode cX10_digest 106 = .ok (.aload_n 0, 1) := by decide +kernel
theorem dX10_digest_107 : decode cX10_digest 107 = .ok (.invokevirtual 240, 3) := by decide +kernel
theorem dX10_digest_110 : decode cX10_digest 110 = .ok (.i2l, 1) := by decide +kernel
theorem dX10_digest_111 : decode cX10_digest 111 = .ok (.ladd, 1) := by decide +kernel
theorem dX10_digest_112 : decode cX10_digest 112 = .ok (.lstore_n 1, 1) := by decide +kernel
theorem dX10_digest_113 : decode cX10_digest 113 = .ok (.ldc2_w 332, 3) := by decide +kernel
theorem dX10_digest_116 : decode cX10_digest 116 = .ok (.lload_n 1, 1) := by decide +kernel
theorem dX10_digest_117 : decode cX10_digest 117 = .ok (.lmul, 1) := by decide +kernel
theorem dX10_digest_118 : decode cX10_digest 118 = .ok (.aload_n 0, 1) := by decide +kernel
theorem dX10_digest_119 : decode cX10_digest 119 = .ok (.invokevirtual 246, 3) := by decide +kernel
theorem dX10_digest_122 : decode cX10_digest 122 = .ok (.i2l, 1) := by decide +kernel
theorem dX10_digest_123 : decode cX10_digest 123 = .ok (.ladd, 1) := by decide +kernel
theorem dX10_digest_124 : decode cX10_digest 124 = .ok (.lstore_n 1, 1) := by decide +kernel
theorem dX10_digest_125 : decode cX10_digest 125 = .ok (.iconst 0, 1) := by decide +kernel
theorem dX10_digest_126 : decode cX10_digest 126 = .ok (.istore_n 3, 1) := by decide +kernel
theorem dX10_digest_127 : decode cX10_digest 127 = .ok (.iload_n 3, 1) := by decide +kernel
theorem dX10_digest_128 : decode cX10_digest 128 = .ok (.iconst 3, 1) := by decide +kernel
theorem dX10_digest_129 : decode cX10_digest 129 = .ok (.if_icmp .ge 22, 3) := by decide +kernel
theorem dX10_digest_132 : decode cX10_digest 132 = .ok (.ldc2_w 332, 3) := by decide +kernel
theorem dX10_digest_135 : decode cX10_digest 135 = .ok (.lload_n 1, 1) := by decide +kernel
theorem dX10_digest_136 : decode cX10_digest 136 = .ok (.lmul, 1) := by decide +kernel
theorem dX10_digest_137 : decode cX10_digest 137 = .ok (.aload_n 0, 1) := by decide +kernel
theorem dX10_digest_138 : decode cX10_digest 138 = .ok (.iload_n 3, 1) := by decide +kernel
theorem dX10_digest_139 : decode cX10_digest 139 = .ok (.invokevirtual 261, 3) := by decide +kernel
theorem dX10_digest_142 : decode cX10_digest 142 = .ok (.i2l, 1) := by decide +kernel
theorem dX10_digest_143 : decode cX10_digest 143 = .ok (.ladd, 1) := by decide +kernel
theorem dX10_digest_144 : decode cX10_digest 144 = .ok (.lstore_n 1, 1) := by decide +kernel
theorem dX10_digest_145 : decode cX10_digest 145 = .ok (.iinc 3 1, 3) := by decide +kernel
theorem dX10_digest_148 : decode cX10_digest 148 = .ok (.goto (-21), 3) := by decide +kernel
theorem dX10_digest_151 : decode cX10_digest 151 = .ok (.ldc2_w 332, 3) := by decide +kernel
theorem dX10_digest_154 : decode cX10_digest 154 = .ok (.lload_n 1, 1) := by decide +kernel
theorem dX10_digest_155 : decode cX10_digest 155 = .ok (.lmul, 1) := by decide +kernel
theorem dX10_digest_156 : decode cX10_digest 156 = .ok (.aload_n 0, 1) := by decide +kernel
theorem dX10_digest_157 : decode cX10_digest 157 = .ok (.invokevirtual 285, 3) := by decide +kernel
theorem dX10_digest_160 : decode cX10_digest 160 = .ok (.i2l, 1) := by decide +kernel
theorem dX10_digest_161 : decode cX10_digest 161 = .ok (.ladd, 1) := by decide +kernel
theorem dX10_digest_162 : decode cX10_digest 162 = .ok (.lstore_n 1, 1) := by decide +kernel
theorem dX10_digest_163 : decode cX10_digest 163 = .ok (.ldc2_w 332, 3) := by decide +kernel
theorem dX10_digest_166 : decode cX10_digest 166 = .ok (.lload_n 1, 1) := by decide +kernel
theorem dX10_digest_167 : decode cX10_digest 167 = .ok (.lmul, 1) := by decide +kernel
theorem dX10_digest_168 : decode cX10_digest 168 = .ok (.aload_n 0, 1) := by decide +kernel
theorem dX10_digest_169 : decode cX10_digest 169 = .ok (.invokevirtual 298, 3) := by decide +kernel
theorem dX10_digest_172 : decode cX10_digest 172 = .ok (.i2l, 1) := by decide +kernel
theorem dX10_digest_173 : decode cX10_digest 173 = .ok (.ladd, 1) := by decide +kernel
theorem dX10_digest_174 : decode cX10_digest 174 = .ok (.lstore_n 1, 1) := by decide +kernel
theorem dX10_digest_175 : decode cX10_digest 175 = .ok (.ldc2_w 332, 3) := by decide +kernel
theorem dX10_digest_178 : decode cX10_digest 178 = .ok (.lload_n 1, 1) := by decide +kernel
theorem dX10_digest_179 : decode cX10_digest 179 = .ok (.lmul, 1) := by decide +kernel
theorem dX10_digest_180 : decode cX10_digest 180 = .ok (.aload_n 0, 1) := by decide +kernel
theorem dX10_digest_181 : decode cX10_digest 181 = .ok (.iconst 5, 1) := by decide +kernel
theorem dX10_digest_182 : decode cX10_digest 182 = .ok (.iconst 5, 1) := by decide +kernel
theorem dX10_digest_183 : decode cX10_digest 183 = .ok (.iconst 1, 1) := by decide +kernel
theorem dX10_digest_184 : decode cX10_digest 184 = .ok (.bipush 7, 2) := by decide +kernel
theorem dX10_digest_186 : decode cX10_digest 186 = .ok (.iconst 0, 1) := by decide +kernel
theorem dX10_digest_187 : decode cX10_digest 187 = .ok (.invokevirtual 310, 3) := by decide +kernel
theorem dX10_digest_190 : decode cX10_digest 190 = .ok (.ladd, 1) := by decide +kernel
theorem dX10_digest_191 : decode cX10_digest 191 = .ok (.lstore_n 1, 1) := by decide +kernel
theorem dX10_digest_192 : decode cX10_digest 192 = .ok (.ldc2_w 332, 3) := by decide +kernel
theorem dX10_digest_195 : decode cX10_digest 195 = .ok (.lload_n 1, 1) := by decide +kernel
theorem dX10_digest_196 : decode cX10_digest 196 = .ok (.lmul, 1) := by decide +kernel
theorem dX10_digest_197 : decode cX10_digest 197 = .ok (.aload_n 0, 1) := by decide +kernel
theorem dX10_digest_198 : decode cX10_digest 198 = .ok (.iconst 5, 1) := by decide +kernel
theorem dX10_digest_199 : decode cX10_digest 199 = .ok (.iconst 5, 1) := by decide +kernel
theorem dX10_digest_200 : decode cX10_digest 200 = .ok (.iconst 1, 1) := by decide +kernel
theorem dX10_digest_201 : decode cX10_digest 201 = .ok (.bipush 7, 2) := by decide +kernel
theorem dX10_digest_203 : decode cX10_digest 203 = .ok (.iconst 1, 1) := by decide +kernel
theorem dX10_digest_204 : decode cX10_digest 204 = .ok (.invokevirtual 310, 3) := by decide +kernel
theorem dX10_digest_207 : decode cX10_digest 207 = .ok (.ladd, 1) := by decide +kernel
theorem dX10_digest_208 : decode cX10_digest 208 = .ok (.lstore_n 1, 1) := by decide +kernel
theorem dX10_digest_209 : decode cX10_digest 209 = .ok (.ldc2_w 332, 3) := by decide +kernel
theorem dX10_digest_212 : decode cX10_digest 212 = .ok (.lload_n 1, 1) := by decide +kernel
theorem dX10_digest_213 : decode cX10_digest 213 = .ok (.lmul, 1) := by decide +kernel
theorem dX10_digest_214 : decode cX10_digest 214 = .ok (.aload_n 0, 1) := by decide +kernel
theorem dX10_digest_215 : decode cX10_digest 215 = .ok (.bipush 7, 2) := by decide +kernel
theorem dX10_digest_217 : decode cX10_digest 217 = .ok (.iconst 0, 1) := by decide +kernel
theorem dX10_digest_218 : decode cX10_digest 218 = .ok (.invokevirtual 315, 3) := by decide +kernel
theorem dX10_digest_221 : decode cX10_digest 221 = .ok (.i2l, 1) := by decide +kernel
theorem dX10_digest_222 : decode cX10_digest 222 = .ok (.ladd, 1) := by decide +kernel
theorem dX10_digest_223 : decode cX10_digest 223 = .ok (.lstore_n 1, 1) := by decide +kernel
theorem dX10_digest_224 : decode cX10_digest 224 = .ok (.ldc2_w 332, 3) := by decide +kernel
theorem dX10_digest_227 : decode cX10_digest 227 = .ok (.lload_n 1, 1) := by decide +kernel
theorem dX10_digest_228 : decode cX10_digest 228 = .ok (.lmul, 1) := by decide +kernel
theorem dX10_digest_229 : decode cX10_digest 229 = .ok (.aload_n 0, 1) := by decide +kernel
theorem dX10_digest_230 : decode cX10_digest 230 = .ok (.bipush 7, 2) := by decide +kernel
theorem dX10_digest_232 : decode cX10_digest 232 = .ok (.iconst 1, 1) := by decide +kernel
theorem dX10_digest_233 : decode cX10_digest 233 = .ok (.invokevirtual 315, 3) := by decide +kernel
theorem dX10_digest_236 : decode cX10_digest 236 = .ok (.i2l, 1) := by decide +kernel
theorem dX10_digest_237 : decode cX10_digest 237 = .ok (.ladd, 1) := by decide +kernel
theorem dX10_digest_238 : decode cX10_digest 238 = .ok (.lreturn, 1) := by decide +kernel
theorem dJ6_bitCount_0f7a4_0 : decode cJ6_bitCount_0f7a4 0 = .ok (.iload_n 0, 1) := by decide +kernel
theorem dJ6_bitCount_0f7a4_1 : decode cJ6_bitCount_0f7a4 1 = .ok (.iload_n 0, 1) := by decide +kernel
theorem dJ6_bitCount_0f7a4_2 : decode cJ6_bitCount_0f7a4 2 = .ok (.iconst 1, 1) := by decide +kernel
theorem dJ6_bitCount_0f7a4_3 : decode cJ6_bitCount_0f7a4 3 = .ok (.iushr, 1) := by decide +kernel
theorem dJ6_bitCount_0f7a4_4 : decode cJ6_bitCount_0f7a4 4 = .ok (.ldc_w 265, 3) := by decide +kernel
theorem dJ6_bitCount_0f7a4_7 : decode cJ6_bitCount_0f7a4 7 = .ok (.iand, 1) := by decide +kernel
theorem dJ6_bitCount_0f7a4_8 : decode cJ6_bitCount_0f7a4 8 = .ok (.isub, 1) := by decide +kernel
theorem dJ6_bitCount_0f7a4_9 : decode cJ6_bitCount_0f7a4 9 = .ok (.istore_n 0, 1) := by decide +kernel
theorem dJ6_bitCount_0f7a4_10 : decode cJ6_bitCount_0f7a4 10 = .ok (.iload_n 0, 1) := by decide +kernel
theorem dJ6_bitCount_0f7a4_11 : decode cJ6_bitCount_0f7a4 11 = .ok (.ldc_w 266, 3) := by decide +kernel
theorem dJ6_bitCount_0f7a4_14 : decode cJ6_bitCount_0f7a4 14 = .ok (.iand, 1) := by decide +kernel
theorem dJ6_bitCount_0f7a4_15 : decode cJ6_bitCount_0f7a4 15 = .ok (.iload_n 0, 1) := by decide +kernel
theorem dJ6_bitCount_0f7a4_16 : decode cJ6_bitCount_0f7a4 16 = .ok (.iconst 2, 1) := by decide +kernel
theorem dJ6_bitCount_0f7a4_17 : decode cJ6_bitCount_0f7a4 17 = .ok (.iushr, 1) := by decide +kernel
theorem dJ6_bitCount_0f7a4_18 : decode cJ6_bitCount_0f7a4 18 = .ok (.ldc_w 266, 3) := by decide +kernel
theorem dJ6_bitCount_0f7a4_21 : decode cJ6_bitCount_0f7a4 21 = .ok (.iand, 1) := by decide +kernel
theorem dJ6_bitCount_0f7a4_22 : decode cJ6_bitCount_0f7a4 22 = .ok (.iadd, 1) := by decide +kernel
theorem dJ6_bitCount_0f7a4_23 : decode cJ6_bitCount_0f7a4 23 = .ok (.istore_n 0, 1) := by decide +kernel
theorem dJ6_bitCount_0f7a4_24 : decode cJ6_bitCount_0f7a4 24 = .ok (.iload_n 0, 1) := by decide +kernel
theorem dJ6_bitCount_0f7a4_25 : decode cJ6_bitCount_0f7a4 25 = .ok (.iload_n 0, 1) := by decide +kernel
theorem dJ6_bitCount_0f7a4_26 : decode cJ6_bitCount_0f7a4 26 = .ok (.iconst 4, 1) := by decide +kernel
theorem dJ6_bitCount_0f7a4_27 : decode cJ6_bitCount_0f7a4 27 = .ok (.iushr, 1) := by decide +kernel
theorem dJ6_bitCount_0f7a4_28 : decode cJ6_bitCount_0f7a4 28 = .ok (.iadd, 1) := by decide +kernel
theorem dJ6_bitCount_0f7a4_29 : decode cJ6_bitCount_0f7a4 29 = .ok (.ldc_w 267, 3) := by decide +kernel
theorem dJ6_bitCount_0f7a4_32 : decode cJ6_bitCount_0f7a4 32 = .ok (.iand, 1) := by decide +kernel
theorem dJ6_bitCount_0f7a4_33 : decode cJ6_bitCount_0f7a4 33 = .ok (.istore_n 0, 1) := by decide +kernel
theorem dJ6_bitCount_0f7a4_34 : decode cJ6_bitCount_0f7a4 34 = .ok (.iload_n 0, 1) := by decide +kernel
theorem dJ6_bitCount_0f7a4_35 : decode cJ6_bitCount_0f7a4 35 = .ok (.iload_n 0, 1) := by decide +kernel
theorem dJ6_bitCount_0f7a4_36 : decode cJ6_bitCount_0f7a4 36 = .ok (.bipush 8, 2) := by decide +kernel
theorem dJ6_bitCount_0f7a4_38 : decode cJ6_bitCount_0f7a4 38 = .ok (.iushr, 1) := by decide +kernel
theorem dJ6_bitCount_0f7a4_39 : decode cJ6_bitCount_0f7a4 39 = .ok (.iadd, 1) := by decide +kernel
theorem dJ6_bitCount_0f7a4_40 : decode cJ6_bitCount_0f7a4 40 = .ok (.istore_n 0, 1) := by decide +kernel
theorem dJ6_bitCount_0f7a4_41 : decode cJ6_bitCount_0f7a4 41 = .ok (.iload_n 0, 1) := by decide +kernel
theorem dJ6_bitCount_0f7a4_42 : decode cJ6_bitCount_0f7a4 42 = .ok (.iload_n 0, 1) := by decide +kernel
theorem dJ6_bitCount_0f7a4_43 : decode cJ6_bitCount_0f7a4 43 = .ok (.bipush 16, 2) := by decide +kernel
theorem dJ6_bitCount_0f7a4_45 : decode cJ6_bitCount_0f7a4 45 = .ok (.iushr, 1) := by decide +kernel
theorem dJ6_bitCount_0f7a4_46 : decode cJ6_bitCount_0f7a4 46 = .ok (.iadd, 1) := by decide +kernel
theorem dJ6_bitCount_0f7a4_47 : decode cJ6_bitCount_0f7a4 47 = .ok (.istore_n 0, 1) := by decide +kernel
theorem dJ6_bitCount_0f7a4_48 : decode cJ6_bitCount_0f7a4 48 = .ok (.iload_n 0, 1) := by decide +kernel
theorem dJ6_bitCount_0f7a4_49 : decode cJ6_bitCount_0f7a4 49 = .ok (.bipush 63, 2) := by decide +kernel
theorem dJ6_bitCount_0f7a4_51 : decode cJ6_bitCount_0f7a4 51 = .ok (.iand, 1) := by decide +kernel
theorem dJ6_bitCount_0f7a4_52 : decode cJ6_bitCount_0f7a4 52 = .ok (.ireturn, 1) := by decide +kernel
theorem dJ9_abs_0f7a4_0 : decode cJ9_abs_0f7a4 0 = .ok (.iload_n 0, 1) := by decide +kernel
theorem dJ9_abs_0f7a4_1 : decode cJ9_abs_0f7a4 1 = .ok (.ifCond .ge 8, 3) := by decide +kernel
theorem dJ9_abs_0f7a4_4 : decode cJ9_abs_0f7a4 4 = .ok (.iload_n 0, 1) := by decide +kernel
theorem dJ9_abs_0f7a4_5 : decode cJ9_abs_0f7a4 5 = .ok (.ineg, 1) := by decide +kernel
theorem dJ9_abs_0f7a4_6 : decode cJ9_abs_0f7a4 6 = .ok (.goto 4, 3) := by decide +kernel
theorem dJ9_abs_0f7a4_9 : decode cJ9_abs_0f7a4 9 = .ok (.iload_n 0, 1) := by decide +kernel
theorem dJ9_abs_0f7a4_10 : decode cJ9_abs_0f7a4 10 = .ok (.ireturn, 1) := by decide +kernel
theorem dJ9_max_7cf53_0 : decode cJ9_max_7cf53 0 = .ok (.iload_n 0, 1) := by decide +kernel
theorem dJ9_max_7cf53_1 : decode cJ9_max_7cf53 1 = .ok (.iload_n 1, 1) := by decide +kernel
theorem dJ9_max_7cf53_2 : decode cJ9_max_7cf53 2 = .ok (.if_icmp .lt 7, 3) := by decide +kernel
theorem dJ9_max_7cf53_5 : decode cJ9_max_7cf53 5 = .ok (.iload_n 0, 1) := by decide +kernel
theorem dJ9_max_7cf53_6 : decode cJ9_max_7cf53 6 = .ok (.goto 4, 3) := by decide +kernel
theorem dJ9_max_7cf53_9 : decode cJ9_max_7cf53 9 = .ok (.iload_n 1, 1) := by decide +kernel
theorem dJ9_max_7cf53_10 : decode cJ9_max_7cf53 10 = .ok (.ireturn, 1) := by decide +kernel
theorem dJ9_min_7cf53_0 : decode cJ9_min_7cf53 0 = .ok (.iload_n 0, 1) := by decide +kernel
theorem dJ9_min_7cf53_1 : decode cJ9_min_7cf53 1 = .ok (.iload_n 1, 1) := by decide +kernel
theorem dJ9_min_7cf53_2 : decode cJ9_min_7cf53 2 = .ok (.if_icmp .gt 7, 3) := by decide +kernel
theorem dJ9_min_7cf53_5 : decode cJ9_min_7cf53 5 = .ok (.iload_n 0, 1) := by decide +kernel
theorem dJ9_min_7cf53_6 : decode cJ9_min_7cf53 6 = .ok (.goto 4, 3) := by decide +kernel
end
section
theorem dJ9_min_7cf53_9 : decode cJ9_min_7cf53 9 = .ok (.iload_n 1, 1) := by decide +kernel
theorem dJ9_min_7cf53_10 : decode cJ9_min_7cf53 10 = .ok (.ireturn, 1) := by decide +kernel
theorem dL_law_0 : decode cL_law 0 = .ok (.new 7, 3) := by decide +kernel
theorem dL_law_3 : decode cL_law 3 = .ok (.dup, 1) := by decide +kernel
theorem dL_law_4 : decode cL_law 4 = .ok (.invokespecial 9, 3) := by decide +kernel
theorem dL_law_7 : decode cL_law 7 = .ok (.astore_n 1, 1) := by decide +kernel
theorem dL_law_8 : decode cL_law 8 = .ok (.new 10, 3) := by decide +kernel
theorem dL_law_11 : decode cL_law 11 = .ok (.dup, 1) := by decide +kernel
theorem dL_law_12 : decode cL_law 12 = .ok (.invokespecial 12, 3) := by decide +kernel
theorem dL_law_15 : decode cL_law 15 = .ok (.astore_n 2, 1) := by decide +kernel
theorem dL_law_16 : decode cL_law 16 = .ok (.iconst 0, 1) := by decide +kernel
theorem dL_law_17 : decode cL_law 17 = .ok (.istore_n 3, 1) := by decide +kernel
theorem dL_law_18 : decode cL_law 18 = .ok (.iload_n 3, 1) := by decide +kernel
theorem dL_law_19 : decode cL_law 19 = .ok (.aload_n 0, 1) := by decide +kernel
theorem dL_law_20 : decode cL_law 20 = .ok (.arraylength, 1) := by decide +kernel
theorem dL_law_21 : decode cL_law 21 = .ok (.bipush 6, 2) := by decide +kernel
theorem dL_law_23 : decode cL_law 23 = .ok (.isub, 1) := by decide +kernel
theorem dL_law_24 : decode cL_law 24 = .ok (.if_icmp .gt 1235, 3) := by decide +kernel
theorem dL_law_27 : decode cL_law 27 = .ok (.aload_n 0, 1) := by decide +kernel
theorem dL_law_28 : decode cL_law 28 = .ok (.iload_n 3, 1) := by decide +kernel
theorem dL_law_29 : decode cL_law 29 = .ok (.iaload, 1) := by decide +kernel
theorem dL_law_30 : decode cL_law 30 = .ok (.bipush 63, 2) := by decide +kernel
theorem dL_law_32 : decode cL_law 32 = .ok (.iand, 1) := by decide +kernel
theorem dL_law_33 : decode cL_law 33 = .ok (.tableswitch 1220 0 35 #[159, 192, 215, 238, 261, 294, 327, 360, 403, 426, 449, 472, 515, 548, 571, 584, 597, 630, 653, 687, 700, 733, 766, 779, 792, 815, 838, 902, 935, 978, 1001, 1054, 1097, 1160, 1183, 1206], 159) := by decide +kernel
theorem dL_law_192 : decode cL_law 192 = .ok (.aload_n 1, 1) := by decide +kernel
theorem dL_law_193 : decode cL_law 193 = .ok (.aload_n 0, 1) := by decide +kernel
theorem dL_law_194 : decode cL_law 194 = .ok (.iload_n 3, 1) := by decide +kernel
theorem dL_law_195 : decode cL_law 195 = .ok (.iconst 1, 1) := by decide +kernel
theorem dL_law_196 : decode cL_law 196 = .ok (.iadd, 1) := by decide +kernel
theorem dL_law_197 : decode cL_law 197 = .ok (.iaload, 1) := by decide +kernel
theorem dL_law_198 : decode cL_law 198 = .ok (.aload_n 0, 1) := by decide +kernel
theorem dL_law_199 : decode cL_law 199 = .ok (.iload_n 3, 1) := by decide +kernel
theorem dL_law_200 : decode cL_law 200 = .ok (.iconst 2, 1) := by decide +kernel
theorem dL_law_201 : decode cL_law 201 = .ok (.iadd, 1) := by decide +kernel
theorem dL_law_202 : decode cL_law 202 = .ok (.iaload, 1) := by decide +kernel
theorem dL_law_203 : decode cL_law 203 = .ok (.invokevirtual 13, 3) := by decide +kernel
theorem dL_law_206 : decode cL_law 206 = .ok (.aload_n 2, 1) := by decide +kernel
theorem dL_law_207 : decode cL_law 207 = .ok (.aload_n 0, 1) := by decide +kernel
theorem dL_law_208 : decode cL_law 208 = .ok (.iload_n 3, 1) := by decide +kernel
theorem dL_law_209 : decode cL_law 209 = .ok (.iconst 1, 1) := by decide +kernel
theorem dL_law_210 : decode cL_law 210 = .ok (.iadd, 1) := by decide +kernel
theorem dL_law_211 : decode cL_law 211 = .ok (.iaload, 1) := by decide +kernel
theorem dL_law_212 : decode cL_law 212 = .ok (.aload_n 0, 1) := by decide +kernel
theorem dL_law_213 : decode cL_law 213 = .ok (.iload_n 3, 1) := by decide +kernel
theorem dL_law_214 : decode cL_law 214 = .ok (.iconst 2, 1) := by decide +kernel
theorem dL_law_215 : decode cL_law 215 = .ok (.iadd, 1) := by decide +kernel
theorem dL_law_216 : decode cL_law 216 = .ok (.iaload, 1) := by decide +kernel
theorem dL_law_217 : decode cL_law 217 = .ok (.invokevirtual 17, 3) := by decide +kernel
theorem dL_law_220 : decode cL_law 220 = .ok (.if_icmp .eq 1033, 3) := by decide +kernel
theorem dL_law_223 : decode cL_law 223 = .ok (.iconst 0, 1) := by decide +kernel
theorem dL_law_224 : decode cL_law 224 = .ok (.ireturn, 1) := by decide +kernel
theorem dL_law_225 : decode cL_law 225 = .ok (.aload_n 1, 1) := by decide +kernel
theorem dL_law_226 : decode cL_law 226 = .ok (.aload_n 0, 1) := by decide +kernel
theorem dL_law_227 : decode cL_law 227 = .ok (.iload_n 3, 1) := by decide +kernel
theorem dL_law_228 : decode cL_law 228 = .ok (.iconst 1, 1) := by decide +kernel
theorem dL_law_229 : decode cL_law 229 = .ok (.iadd, 1) := by decide +kernel
theorem dL_law_230 : decode cL_law 230 = .ok (.iaload, 1) := by decide +kernel
theorem dL_law_231 : decode cL_law 231 = .ok (.invokevirtual 18, 3) := by decide +kernel
theorem dL_law_234 : decode cL_law 234 = .ok (.aload_n 2, 1) := by decide +kernel
theorem dL_law_235 : decode cL_law 235 = .ok (.aload_n 0, 1) := by decide +kernel
theorem dL_law_236 : decode cL_law 236 = .ok (.iload_n 3, 1) := by decide +kernel
theorem dL_law_237 : decode cL_law 237 = .ok (.iconst 1, 1) := by decide +kernel
theorem dL_law_238 : decode cL_law 238 = .ok (.iadd, 1) := by decide +kernel
theorem dL_law_239 : decode cL_law 239 = .ok (.iaload, 1) := by decide +kernel
theorem dL_law_240 : decode cL_law 240 = .ok (.invokevirtual 22, 3) := by decide +kernel
theorem dL_law_243 : decode cL_law 243 = .ok (.if_icmp .eq 1010, 3) := by decide +kernel
theorem dL_law_246 : decode cL_law 246 = .ok (.iconst 0, 1) := by decide +kernel
theorem dL_law_247 : decode cL_law 247 = .ok (.ireturn, 1) := by decide +kernel
theorem dL_law_248 : decode cL_law 248 = .ok (.aload_n 1, 1) := by decide +kernel
theorem dL_law_249 : decode cL_law 249 = .ok (.aload_n 0, 1) := by decide +kernel
theorem dL_law_250 : decode cL_law 250 = .ok (.iload_n 3, 1) := by decide +kernel
theorem dL_law_251 : decode cL_law 251 = .ok (.iconst 1, 1) := by decide +kernel
theorem dL_law_252 : decode cL_law 252 = .ok (.iadd, 1) := by decide +kernel
theorem dL_law_253 : decode cL_law 253 = .ok (.iaload, 1) := by decide +kernel
theorem dL_law_254 : decode cL_law 254 = .ok (.invokevirtual 23, 3) := by decide +kernel
theorem dL_law_257 : decode cL_law 257 = .ok (.aload_n 2, 1) := by decide +kernel
theorem dL_law_258 : decode cL_law 258 = .ok (.aload_n 0, 1) := by decide +kernel
theorem dL_law_259 : decode cL_law 259 = .ok (.iload_n 3, 1) := by decide +kernel
theorem dL_law_260 : decode cL_law 260 = .ok (.iconst 1, 1) := by decide +kernel
theorem dL_law_261 : decode cL_law 261 = .ok (.iadd, 1) := by decide +kernel
theorem dL_law_262 : decode cL_law 262 = .ok (.iaload, 1) := by decide +kernel
theorem dL_law_263 : decode cL_law 263 = .ok (.invokevirtual 26, 3) := by decide +kernel
theorem dL_law_266 : decode cL_law 266 = .ok (.if_icmp .eq 987, 3) := by decide +kernel
theorem dL_law_269 : decode cL_law 269 = .ok (.iconst 0, 1) := by decide +kernel
theorem dL_law_270 : decode cL_law 270 = .ok (.ireturn, 1) := by decide +kernel
theorem dL_law_271 : decode cL_law 271 = .ok (.aload_n 1, 1) := by decide +kernel
theorem dL_law_272 : decode cL_law 272 = .ok (.aload_n 0, 1) := by decide +kernel
theorem dL_law_273 : decode cL_law 273 = .ok (.iload_n 3, 1) := by decide +kernel
theorem dL_law_274 : decode cL_law 274 = .ok (.iconst 1, 1) := by decide +kernel
theorem dL_law_275 : decode cL_law 275 = .ok (.iadd, 1) := by decide +kernel
theorem dL_law_276 : decode cL_law 276 = .ok (.iaload, 1) := by decide +kernel
theorem dL_law_277 : decode cL_law 277 = .ok (.invokevirtual 27, 3) := by decide +kernel
theorem dL_law_280 : decode cL_law 280 = .ok (.aload_n 2, 1) := by decide +kernel
theorem dL_law_281 : decode cL_law 281 = .ok (.aload_n 0, 1) := by decide +kernel
theorem dL_law_282 : decode cL_law 282 = .ok (.iload_n 3, 1) := by decide +kernel
theorem dL_law_283 : decode cL_law 283 = .ok (.iconst 1, 1) := by decide +kernel
theorem dL_law_284 : decode cL_law 284 = .ok (.iadd, 1) := by decide +kernel
theorem dL_law_285 : decode cL_law 285 = .ok (.iaload, 1) := by decide +kernel
theorem dL_law_286 : decode cL_law 286 = .ok (.invokevirtual 30, 3) := by decide +kernel
theorem dL_law_289 : decode cL_law 289 = .ok (.if_icmp .eq 964, 3) := by decide +kernel
theorem dL_law_292 : decode cL_law 292 = .ok (.iconst 0, 1) := by decide +kernel
theorem dL_law_293 : decode cL_law 293 = .ok (.ireturn, 1) := by decide +kernel
theorem dL_law_294 : decode cL_law 294 = .ok (.aload_n 1, 1) := by decide +kernel
theorem dL_law_295 : decode cL_law 295 = .ok (.aload_n 0, 1) := by decide +kernel
theorem dL_law_296 : decode cL_law 296 = .ok (.iload_n 3, 1) := by decide +kernel
theorem dL_law_297 : decode cL_law 297 = .ok (.iconst 1, 1) := by decide +kernel
theorem dL_law_298 : decode cL_law 298 = .ok (.iadd, 1) := by decide +kernel
theorem dL_law_299 : decode cL_law 299 = .ok (.iaload, 1) := by decide +kernel
theorem dL_law_300 : decode cL_law 300 = .ok (.aload_n 0, 1) := by decide +kernel
theorem dL_law_301 : decode cL_law 301 = .ok (.iload_n 3, 1) := by decide +kernel
theorem dL_law_302 : decode cL_law 302 = .ok (.iconst 2, 1) := by decide +kernel
theorem dL_law_303 : decode cL_law 303 = .ok (.iadd, 1) := by decide +kernel
theorem dL_law_304 : decode cL_law 304 = .ok (.iaload, 1) := by decide +kernel
theorem dL_law_305 : decode cL_law 305 = .ok (.invokevirtual 31, 3) := by decide +kernel
theorem dL_law_308 : decode cL_law 308 = .ok (.aload_n 2, 1) := by decide +kernel
theorem dL_law_309 : decode cL_law 309 = .ok (.aload_n 0, 1) := by decide +kernel
theorem dL_law_310 : decode cL_law 310 = .ok (.iload_n 3, 1) := by decide +kernel
theorem dL_law_311 : decode cL_law 311 = .ok (.iconst 1, 1) := by decide +kernel
theorem dL_law_312 : decode cL_law 312 = .ok (.iadd, 1) := by decide +kernel
theorem dL_law_313 : decode cL_law 313 = .ok (.iaload, 1) := by decide +kernel
theorem dL_law_314 : decode cL_law 314 = .ok (.aload_n 0, 1) := by decide +kernel
theorem dL_law_315 : decode cL_law 315 = .ok (.iload_n 3, 1) := by decide +kernel
theorem dL_law_316 : decode cL_law 316 = .ok (.iconst 2, 1) := by decide +kernel
theorem dL_law_317 : decode cL_law 317 = .ok (.iadd, 1) := by decide +kernel
theorem dL_law_318 : decode cL_law 318 = .ok (.iaload, 1) := by decide +kernel
theorem dL_law_319 : decode cL_law 319 = .ok (.invokevirtual 34, 3) := by decide +kernel
theorem dL_law_322 : decode cL_law 322 = .ok (.if_icmp .eq 931, 3) := by decide +kernel
theorem dL_law_325 : decode cL_law 325 = .ok (.iconst 0, 1) := by decide +kernel
theorem dL_law_326 : decode cL_law 326 = .ok (.ireturn, 1) := by decide +kernel
theorem dL_law_327 : decode cL_law 327 = .ok (.aload_n 1, 1) := by decide +kernel
theorem dL_law_328 : decode cL_law 328 = .ok (.aload_n 0, 1) := by decide +kernel
theorem dL_law_329 : decode cL_law 329 = .ok (.iload_n 3, 1) := by decide +kernel
theorem dL_law_330 : decode cL_law 330 = .ok (.iconst 1, 1) := by decide +kernel
theorem dL_law_331 : decode cL_law 331 = .ok (.iadd, 1) := by decide +kernel
theorem dL_law_332 : decode cL_law 332 = .ok (.iaload, 1) := by decide +kernel
theorem dL_law_333 : decode cL_law 333 = .ok (.aload_n 0, 1) := by decide +kernel
theorem dL_law_334 : decode cL_law 334 = .ok (.iload_n 3, 1) := by decide +kernel
theorem dL_law_335 : decode cL_law 335 = .ok (.iconst 2, 1) := by decide +kernel
theorem dL_law_336 : decode cL_law 336 = .ok (.iadd, 1) := by decide +kernel
theorem dL_law_337 : decode cL_law 337 = .ok (.iaload, 1) := by decide +kernel
theorem dL_law_338 : decode cL_law 338 = .ok (.invokevirtual 35, 3) := by decide +kernel
theorem dL_law_341 : decode cL_law 341 = .ok (.aload_n 2, 1) := by decide +kernel
theorem dL_law_342 : decode cL_law 342 = .ok (.aload_n 0, 1) := by decide +kernel
theorem dL_law_343 : decode cL_law 343 = .ok (.iload_n 3, 1) := by decide +kernel
theorem dL_law_344 : decode cL_law 344 = .ok (.iconst 1, 1) := by decide +kernel
theorem dL_law_345 : decode cL_law 345 = .ok (.iadd, 1) := by decide +kernel
theorem dL_law_346 : decode cL_law 346 = .ok (.iaload, 1) := by decide +kernel
theorem dL_law_347 : decode cL_law 347 = .ok (.aload_n 0, 1) := by decide +kernel
theorem dL_law_348 : decode cL_law 348 = .ok (.iload_n 3, 1) := by decide +kernel
theorem dL_law_349 : decode cL_law 349 = .ok (.iconst 2, 1) := by decide +kernel
theorem dL_law_350 : decode cL_law 350 = .ok (.iadd, 1) := by decide +kernel
theorem dL_law_351 : decode cL_law 351 = .ok (.iaload, 1) := by decide +kernel
theorem dL_law_352 : decode cL_law 352 = .ok (.invokevirtual 38, 3) := by decide +kernel
theorem dL_law_355 : decode cL_law 355 = .ok (.if_icmp .eq 898, 3) := by decide +kernel
theorem dL_law_358 : decode cL_law 358 = .ok (.iconst 0, 1) := by decide +kernel
theorem dL_law_359 : decode cL_law 359 = .ok (.ireturn, 1) := by decide +kernel
theorem dL_law_360 : decode cL_law 360 = .ok (.aload_n 1, 1) := by decide +kernel
theorem dL_law_361 : decode cL_law 361 = .ok (.aload_n 0, 1) := by decide +kernel
theorem dL_law_362 : decode cL_law 362 = .ok (.iload_n 3, 1) := by decide +kernel
theorem dL_law_363 : decode cL_law 363 = .ok (.iconst 1, 1) := by decide +kernel
theorem dL_law_364 : decode cL_law 364 = .ok (.iadd, 1) := by decide +kernel
theorem dL_law_365 : decode cL_law 365 = .ok (.iaload, 1) := by decide +kernel
theorem dL_law_366 : decode cL_law 366 = .ok (.aload_n 0, 1) := by decide +kernel
theorem dL_law_367 : decode cL_law 367 = .ok (.iload_n 3, 1) := by decide +kernel
theorem dL_law_368 : decode cL_law 368 = .ok (.iconst 2, 1) := by decide +kernel
theorem dL_law_369 : decode cL_law 369 = .ok (.iadd, 1) := by decide +kernel
theorem dL_law_370 : decode cL_law 370 = .ok (.iaload, 1) := by decide +kernel
theorem dL_law_371 : decode cL_law 371 = .ok (.invokevirtual 39, 3) := by decide +kernel
theorem dL_law_374 : decode cL_law 374 = .ok (.aload_n 2, 1) := by decide +kernel
theorem dL_law_375 : decode cL_law 375 = .ok (.aload_n 0, 1) := by decide +kernel
theorem dL_law_376 : decode cL_law 376 = .ok (.iload_n 3, 1) := by decide +kernel
theorem dL_law_377 : decode cL_law 377 = .ok (.iconst 1, 1) := by decide +kernel
theorem dL_law_378 : decode cL_law 378 = .ok (.iadd, 1) := by decide +kernel
theorem dL_law_379 : decode cL_law 379 = .ok (.iaload, 1) := by decide +kernel
theorem dL_law_380 : decode cL_law 380 = .ok (.aload_n 0, 1) := by decide +kernel
theorem dL_law_381 : decode cL_law 381 = .ok (.iload_n 3, 1) := by decide +kernel
theorem dL_law_382 : decode cL_law 382 = .ok (.iconst 2, 1) := by decide +kernel
theorem dL_law_383 : decode cL_law 383 = .ok (.iadd, 1) := by decide +kernel
theorem dL_law_384 : decode cL_law 384 = .ok (.iaload, 1) := by decide +kernel
theorem dL_law_385 : decode cL_law 385 = .ok (.invokevirtual 42, 3) := by decide +kernel
theorem dL_law_388 : decode cL_law 388 = .ok (.if_icmp .eq 865, 3) := by decide +kernel
theorem dL_law_391 : decode cL_law 391 = .ok (.iconst 0, 1) := by decide +kernel
theorem dL_law_392 : decode cL_law 392 = .ok (.ireturn, 1) := by decide +kernel
theorem dL_law_393 : decode cL_law 393 = .ok (.aload_n 1, 1) := by decide +kernel
theorem dL_law_394 : decode cL_law 394 = .ok (.aload_n 0, 1) := by decide +kernel
theorem dL_law_395 : decode cL_law 395 = .ok (.iload_n 3, 1) := by decide +kernel
theorem dL_law_396 : decode cL_law 396 = .ok (.iconst 1, 1) := by decide +kernel
theorem dL_law_397 : decode cL_law 397 = .ok (.iadd, 1) := by decide +kernel
theorem dL_law_398 : decode cL_law 398 = .ok (.iaload, 1) := by decide +kernel
theorem dL_law_399 : decode cL_law 399 = .ok (.aload_n 0, 1) := by decide +kernel
theorem dL_law_400 : decode cL_law 400 = .ok (.iload_n 3, 1) := by decide +kernel
theorem dL_law_401 : decode cL_law 401 = .ok (.iconst 2, 1) := by decide +kernel
theorem dL_law_402 : decode cL_law 402 = .ok (.iadd, 1) := by decide +kernel
theorem dL_law_403 : decode cL_law 403 = .ok (.iaload, 1) := by decide +kernel
theorem dL_law_404 : decode cL_law 404 = .ok (.aload_n 0, 1) := by decide +kernel
theorem dL_law_405 : decode cL_law 405 = .ok (.iload_n 3, 1) := by decide +kernel
theorem dL_law_406 : decode cL_law 406 = .ok (.iconst 3, 1) := by decide +kernel
theorem dL_law_407 : decode cL_law 407 = .ok (.iadd, 1) := by decide +kernel
theorem dL_law_408 : decode cL_law 408 = .ok (.iaload, 1) := by decide +kernel
theorem dL_law_409 : decode cL_law 409 = .ok (.invokevirtual 43, 3) := by decide +kernel
theorem dL_law_412 : decode cL_law 412 = .ok (.aload_n 2, 1) := by decide +kernel
theorem dL_law_413 : decode cL_law 413 = .ok (.aload_n 0, 1) := by decide +kernel
theorem dL_law_414 : decode cL_law 414 = .ok (.iload_n 3, 1) := by decide +kernel
theorem dL_law_415 : decode cL_law 415 = .ok (.iconst 1, 1) := by decide +kernel
theorem dL_law_416 : decode cL_law 416 = .ok (.iadd, 1) := by decide +kernel
theorem dL_law_417 : decode cL_law 417 = .ok (.iaload, 1) := by decide +kernel
theorem dL_law_418 : decode cL_law 418 = .ok (.aload_n 0, 1) := by decide +kernel
theorem dL_law_419 : decode cL_law 419 = .ok (.iload_n 3, 1) := by decide +kernel
theorem dL_law_420 : decode cL_law 420 = .ok (.iconst 2, 1) := by decide +kernel
theorem dL_law_421 : decode cL_law 421 = .ok (.iadd, 1) := by decide +kernel
theorem dL_law_422 : decode cL_law 422 = .ok (.iaload, 1) := by decide +kernel
theorem dL_law_423 : decode cL_law 423 = .ok (.aload_n 0, 1) := by decide +kernel
theorem dL_law_424 : decode cL_law 424 = .ok (.iload_n 3, 1) := by decide +kernel
theorem dL_law_425 : decode cL_law 425 = .ok (.iconst 3, 1) := by decide +kernel
theorem dL_law_426 : decode cL_law 426 = .ok (.iadd, 1) := by decide +kernel
theorem dL_law_427 : decode cL_law 427 = .ok (.iaload, 1) := by decide +kernel
theorem dL_law_428 : decode cL_law 428 = .ok (.invokevirtual 47, 3) := by decide +kernel
theorem dL_law_431 : decode cL_law 431 = .ok (.if_icmp .eq 822, 3) := by decide +kernel
theorem dL_law_434 : decode cL_law 434 = .ok (.iconst 0, 1) := by decide +kernel
theorem dL_law_435 : decode cL_law 435 = .ok (.ireturn, 1) := by decide +kernel
theorem dL_law_436 : decode cL_law 436 = .ok (.aload_n 1, 1) := by decide +kernel
theorem dL_law_437 : decode cL_law 437 = .ok (.aload_n 0, 1) := by decide +kernel
theorem dL_law_438 : decode cL_law 438 = .ok (.iload_n 3, 1) := by decide +kernel
theorem dL_law_439 : decode cL_law 439 = .ok (.iconst 1, 1) := by decide +kernel
theorem dL_law_440 : decode cL_law 440 = .ok (.iadd, 1) := by decide +kernel
theorem dL_law_441 : decode cL_law 441 = .ok (.iaload, 1) := by decide +kernel
theorem dL_law_442 : decode cL_law 442 = .ok (.invokevirtual 48, 3) := by decide +kernel
theorem dL_law_445 : decode cL_law 445 = .ok (.aload_n 2, 1) := by decide +kernel
theorem dL_law_446 : decode cL_law 446 = .ok (.aload_n 0, 1) := by decide +kernel
theorem dL_law_447 : decode cL_law 447 = .ok (.iload_n 3, 1) := by decide +kernel
theorem dL_law_448 : decode cL_law 448 = .ok (.iconst 1, 1) := by decide +kernel
theorem dL_law_449 : decode cL_law 449 = .ok (.iadd, 1) := by decide +kernel
theorem dL_law_450 : decode cL_law 450 = .ok (.iaload, 1) := by decide +kernel
theorem dL_law_451 : decode cL_law 451 = .ok (.invokevirtual 51, 3) := by decide +kernel
theorem dL_law_454 : decode cL_law 454 = .ok (.if_icmp .eq 799, 3) := by decide +kernel
theorem dL_law_457 : decode cL_law 457 = .ok (.iconst 0, 1) := by decide +kernel
theorem dL_law_458 : decode cL_law 458 = .ok (.ireturn, 1) := by decide +kernel
theorem dL_law_459 : decode cL_law 459 = .ok (.aload_n 1, 1) := by decide +kernel
theorem dL_law_460 : decode cL_law 460 = .ok (.aload_n 0, 1) := by decide +kernel
theorem dL_law_461 : decode cL_law 461 = .ok (.iload_n 3, 1) := by decide +kernel
theorem dL_law_462 : decode cL_law 462 = .ok (.iconst 1, 1) := by decide +kernel
theorem dL_law_463 : decode cL_law 463 = .ok (.iadd, 1) := by decide +kernel
theorem dL_law_464 : decode cL_law 464 = .ok (.iaload, 1) := by decide +kernel
theorem dL_law_465 : decode cL_law 465 = .ok (.invokevirtual 52, 3) := by decide +kernel
theorem dL_law_468 : decode cL_law 468 = .ok (.aload_n 2, 1) := by decide +kernel
theorem dL_law_469 : decode cL_law 469 = .ok (.aload_n 0, 1) := by decide +kernel
theorem dL_law_470 : decode cL_law 470 = .ok (.iload_n 3, 1) := by decide +kernel
theorem dL_law_471 : decode cL_law 471 = .ok (.iconst 1, 1) := by decide +kernel
theorem dL_law_472 : decode cL_law 472 = .ok (.iadd, 1) := by decide +kernel
theorem dL_law_473 : decode cL_law 473 = .ok (.iaload, 1) := by decide +kernel
theorem dL_law_474 : decode cL_law 474 = .ok (.invokevirtual 55, 3) := by decide +kernel
theorem dL_law_477 : decode cL_law 477 = .ok (.if_icmp .eq 776, 3) := by decide +kernel
theorem dL_law_480 : decode cL_law 480 = .ok (.iconst 0, 1) := by decide +kernel
theorem dL_law_481 : decode cL_law 481 = .ok (.ireturn, 1) := by decide +kernel
theorem dL_law_482 : decode cL_law 482 = .ok (.aload_n 1, 1) := by decide +kernel
theorem dL_law_483 : decode cL_law 483 = .ok (.aload_n 0, 1) := by decide +kernel
theorem dL_law_484 : decode cL_law 484 = .ok (.iload_n 3, 1) := by decide +kernel
theorem dL_law_485 : decode cL_law 485 = .ok (.iconst 1, 1) := by decide +kernel
theorem dL_law_486 : decode cL_law 486 = .ok (.iadd, 1) := by decide +kernel
theorem dL_law_487 : decode cL_law 487 = .ok (.iaload, 1) := by decide +kernel
theorem dL_law_488 : decode cL_law 488 = .ok (.invokevirtual 56, 3) := by decide +kernel
theorem dL_law_491 : decode cL_law 491 = .ok (.aload_n 2, 1) := by decide +kernel
theorem dL_law_492 : decode cL_law 492 = .ok (.aload_n 0, 1) := by decide +kernel
theorem dL_law_493 : decode cL_law 493 = .ok (.iload_n 3, 1) := by decide +kernel
theorem dL_law_494 : decode cL_law 494 = .ok (.iconst 1, 1) := by decide +kernel
theorem dL_law_495 : decode cL_law 495 = .ok (.iadd, 1) := by decide +kernel
theorem dL_law_496 : decode cL_law 496 = .ok (.iaload, 1) := by decide +kernel
theorem dL_law_497 : decode cL_law 497 = .ok (.invokevirtual 59, 3) := by decide +kernel
theorem dL_law_500 : decode cL_law 500 = .ok (.if_icmp .eq 753, 3) := by decide +kernel
theorem dL_law_503 : decode cL_law 503 = .ok (.iconst 0, 1) := by decide +kernel
theorem dL_law_504 : decode cL_law 504 = .ok (.ireturn, 1) := by decide +kernel
theorem dL_law_505 : decode cL_law 505 = .ok (.aload_n 1, 1) := by decide +kernel
theorem dL_law_506 : decode cL_law 506 = .ok (.aload_n 0, 1) := by decide +kernel
theorem dL_law_507 : decode cL_law 507 = .ok (.iload_n 3, 1) := by decide +kernel
theorem dL_law_508 : decode cL_law 508 = .ok (.iconst 1, 1) := by decide +kernel
theorem dL_law_509 : decode cL_law 509 = .ok (.iadd, 1) := by decide +kernel
theorem dL_law_510 : decode cL_law 510 = .ok (.iaload, 1) := by decide +kernel
theorem dL_law_511 : decode cL_law 511 = .ok (.aload_n 0, 1) := by decide +kernel
theorem dL_law_512 : decode cL_law 512 = .ok (.iload_n 3, 1) := by decide +kernel
theorem dL_law_513 : decode cL_law 513 = .ok (.iconst 2, 1) := by decide +kernel
theorem dL_law_514 : decode cL_law 514 = .ok (.iadd, 1) := by decide +kernel
theorem dL_law_515 : decode cL_law 515 = .ok (.iaload, 1) := by decide +kernel
theorem dL_law_516 : decode cL_law 516 = .ok (.aload_n 0, 1) := by decide +kernel
theorem dL_law_517 : decode cL_law 517 = .ok (.iload_n 3, 1) := by decide +kernel
theorem dL_law_518 : decode cL_law 518 = .ok (.iconst 3, 1) := by decide +kernel
theorem dL_law_519 : decode cL_law 519 = .ok (.iadd, 1) := by decide +kernel
theorem dL_law_520 : decode cL_law 520 = .ok (.iaload, 1) := by decide +kernel
theorem dL_law_521 : decode cL_law 521 = .ok (.invokevirtual 60, 3) := by decide +kernel
theorem dL_law_524 : decode cL_law 524 = .ok (.aload_n 2, 1) := by decide +kernel
theorem dL_law_525 : decode cL_law 525 = .ok (.aload_n 0, 1) := by decide +kernel
theorem dL_law_526 : decode cL_law 526 = .ok (.iload_n 3, 1) := by decide +kernel
theorem dL_law_527 : decode cL_law 527 = .ok (.iconst 1, 1) := by decide +kernel
theorem dL_law_528 : decode cL_law 528 = .ok (.iadd, 1) := by decide +kernel
theorem dL_law_529 : decode cL_law 529 = .ok (.iaload, 1) := by decide +kernel
theorem dL_law_530 : decode cL_law 530 = .ok (.aload_n 0, 1) := by decide +kernel
theorem dL_law_531 : decode cL_law 531 = .ok (.iload_n 3, 1) := by decide +kernel
theorem dL_law_532 : decode cL_law 532 = .ok (.iconst 2, 1) := by decide +kernel
theorem dL_law_533 : decode cL_law 533 = .ok (.iadd, 1) := by decide +kernel
theorem dL_law_534 : decode cL_law 534 = .ok (.iaload, 1) := by decide +kernel
theorem dL_law_535 : decode cL_law 535 = .ok (.aload_n 0, 1) := by decide +kernel
theorem dL_law_536 : decode cL_law 536 = .ok (.iload_n 3, 1) := by decide +kernel
theorem dL_law_537 : decode cL_law 537 = .ok (.iconst 3, 1) := by decide +kernel
theorem dL_law_538 : decode cL_law 538 = .ok (.iadd, 1) := by decide +kernel
theorem dL_law_539 : decode cL_law 539 = .ok (.iaload, 1) := by decide +kernel
theorem dL_law_540 : decode cL_law 540 = .ok (.invokevirtual 63, 3) := by decide +kernel
theorem dL_law_543 : decode cL_law 543 = .ok (.if_icmp .eq 710, 3) := by decide +kernel
theorem dL_law_546 : decode cL_law 546 = .ok (.iconst 0, 1) := by decide +kernel
theorem dL_law_547 : decode cL_law 547 = .ok (.ireturn, 1) := by decide +kernel
theorem dL_law_548 : decode cL_law 548 = .ok (.aload_n 1, 1) := by decide +kernel
theorem dL_law_549 : decode cL_law 549 = .ok (.aload_n 0, 1) := by decide +kernel
theorem dL_law_550 : decode cL_law 550 = .ok (.iload_n 3, 1) := by decide +kernel
theorem dL_law_551 : decode cL_law 551 = .ok (.iconst 1, 1) := by decide +kernel
theorem dL_law_552 : decode cL_law 552 = .ok (.iadd, 1) := by decide +kernel
theorem dL_law_553 : decode cL_law 553 = .ok (.iaload, 1) := by decide +kernel
theorem dL_law_554 : decode cL_law 554 = .ok (.aload_n 0, 1) := by decide +kernel
theorem dL_law_555 : decode cL_law 555 = .ok (.iload_n 3, 1) := by decide +kernel
theorem dL_law_556 : decode cL_law 556 = .ok (.iconst 2, 1) := by decide +kernel
theorem dL_law_557 : decode cL_law 557 = .ok (.iadd, 1) := by decide +kernel
theorem dL_law_558 : decode cL_law 558 = .ok (.iaload, 1) := by decide +kernel
theorem dL_law_559 : decode cL_law 559 = .ok (.invokevirtual 64, 3) := by decide +kernel
theorem dL_law_562 : decode cL_law 562 = .ok (.aload_n 2, 1) := by decide +kernel
theorem dL_law_563 : decode cL_law 563 = .ok (.aload_n 0, 1) := by decide +kernel
theorem dL_law_564 : decode cL_law 564 = .ok (.iload_n 3, 1) := by decide +kernel
theorem dL_law_565 : decode cL_law 565 = .ok (.iconst 1, 1) := by decide +kernel
theorem dL_law_566 : decode cL_law 566 = .ok (.iadd, 1) := by decide +kernel
theorem dL_law_567 : decode cL_law 567 = .ok (.iaload, 1) := by decide +kernel
theorem dL_law_568 : decode cL_law 568 = .ok (.aload_n 0, 1) := by decide +kernel
theorem dL_law_569 : decode cL_law 569 = .ok (.iload_n 3, 1) := by decide +kernel
theorem dL_law_570 : decode cL_law 570 = .ok (.iconst 2, 1) := by decide +kernel
theorem dL_law_571 : decode cL_law 571 = .ok (.iadd, 1) := by decide +kernel
theorem dL_law_572 : decode cL_law 572 = .ok (.iaload, 1) := by decide +kernel
theorem dL_law_573 : decode cL_law 573 = .ok (.invokevirtual 67, 3) := by decide +kernel
theorem dL_law_576 : decode cL_law 576 = .ok (.if_icmp .eq 677, 3) := by decide +kernel
theorem dL_law_579 : decode cL_law 579 = .ok (.iconst 0, 1) := by decide +kernel
theorem dL_law_580 : decode cL_law 580 = .ok (.ireturn, 1) := by decide +kernel
theorem dL_law_581 : decode cL_law 581 = .ok (.aload_n 1, 1) := by decide +kernel
theorem dL_law_582 : decode cL_law 582 = .ok (.aload_n 0, 1) := by decide +kernel
theorem dL_law_583 : decode cL_law 583 = .ok (.iload_n 3, 1) := by decide +kernel
theorem dL_law_584 : decode cL_law 584 = .ok (.iconst 1, 1) := by decide +kernel
theorem dL_law_585 : decode cL_law 585 = .ok (.iadd, 1) := by decide +kernel
theorem dL_law_586 : decode cL_law 586 = .ok (.iaload, 1) := by decide +kernel
theorem dL_law_587 : decode cL_law 587 = .ok (.invokevirtual 68, 3) := by decide +kernel
theorem dL_law_590 : decode cL_law 590 = .ok (.aload_n 2, 1) := by decide +kernel
theorem dL_law_591 : decode cL_law 591 = .ok (.aload_n 0, 1) := by decide +kernel
theorem dL_law_592 : decode cL_law 592 = .ok (.iload_n 3, 1) := by decide +kernel
theorem dL_law_593 : decode cL_law 593 = .ok (.iconst 1, 1) := by decide +kernel
theorem dL_law_594 : decode cL_law 594 = .ok (.iadd, 1) := by decide +kernel
theorem dL_law_595 : decode cL_law 595 = .ok (.iaload, 1) := by decide +kernel
theorem dL_law_596 : decode cL_law 596 = .ok (.invokevirtual 71, 3) := by decide +kernel
theorem dL_law_599 : decode cL_law 599 = .ok (.if_icmp .eq 654, 3) := by decide +kernel
theorem dL_law_602 : decode cL_law 602 = .ok (.iconst 0, 1) := by decide +kernel
theorem dL_law_603 : decode cL_law 603 = .ok (.ireturn, 1) := by decide +kernel
theorem dL_law_604 : decode cL_law 604 = .ok (.aload_n 1, 1) := by decide +kernel
theorem dL_law_605 : decode cL_law 605 = .ok (.invokevirtual 72, 3) := by decide +kernel
theorem dL_law_608 : decode cL_law 608 = .ok (.aload_n 2, 1) := by decide +kernel
theorem dL_law_609 : decode cL_law 609 = .ok (.invokevirtual 76, 3) := by decide +kernel
theorem dL_law_612 : decode cL_law 612 = .ok (.if_icmp .eq 641, 3) := by decide +kernel
theorem dL_law_615 : decode cL_law 615 = .ok (.iconst 0, 1) := by decide +kernel
theorem dL_law_616 : decode cL_law 616 = .ok (.ireturn, 1) := by decide +kernel
theorem dL_law_617 : decode cL_law 617 = .ok (.aload_n 1, 1) := by decide +kernel
theorem dL_law_618 : decode cL_law 618 = .ok (.invokevirtual 77, 3) := by decide +kernel
theorem dL_law_621 : decode cL_law 621 = .ok (.aload_n 2, 1) := by decide +kernel
theorem dL_law_622 : decode cL_law 622 = .ok (.invokevirtual 80, 3) := by decide +kernel
theorem dL_law_625 : decode cL_law 625 = .ok (.if_icmp .eq 628, 3) := by decide +kernel
theorem dL_law_628 : decode cL_law 628 = .ok (.iconst 0, 1) := by decide +kernel
theorem dL_law_629 : decode cL_law 629 = .ok (.ireturn, 1) := by decide +kernel
theorem dL_law_630 : decode cL_law 630 = .ok (.aload_n 1, 1) := by decide +kernel
theorem dL_law_631 : decode cL_law 631 = .ok (.aload_n 0, 1) := by decide +kernel
theorem dL_law_632 : decode cL_law 632 = .ok (.iload_n 3, 1) := by decide +kernel
theorem dL_law_633 : decode cL_law 633 = .ok (.iconst 1, 1) := by decide +kernel
theorem dL_law_634 : decode cL_law 634 = .ok (.iadd, 1) := by decide +kernel
theorem dL_law_635 : decode cL_law 635 = .ok (.iaload, 1) := by decide +kernel
theorem dL_law_636 : decode cL_law 636 = .ok (.aload_n 0, 1) := by decide +kernel
theorem dL_law_637 : decode cL_law 637 = .ok (.iload_n 3, 1) := by decide +kernel
theorem dL_law_638 : decode cL_law 638 = .ok (.iconst 2, 1) := by decide +kernel
theorem dL_law_639 : decode cL_law 639 = .ok (.iadd, 1) := by decide +kernel
theorem dL_law_640 : decode cL_law 640 = .ok (.iaload, 1) := by decide +kernel
theorem dL_law_641 : decode cL_law 641 = .ok (.invokevirtual 81, 3) := by decide +kernel
theorem dL_law_644 : decode cL_law 644 = .ok (.aload_n 2, 1) := by decide +kernel
theorem dL_law_645 : decode cL_law 645 = .ok (.aload_n 0, 1) := by decide +kernel
theorem dL_law_646 : decode cL_law 646 = .ok (.iload_n 3, 1) := by decide +kernel
theorem dL_law_647 : decode cL_law 647 = .ok (.iconst 1, 1) := by decide +kernel
theorem dL_law_648 : decode cL_law 648 = .ok (.iadd, 1) := by decide +kernel
theorem dL_law_649 : decode cL_law 649 = .ok (.iaload, 1) := by decide +kernel
theorem dL_law_650 : decode cL_law 650 = .ok (.aload_n 0, 1) := by decide +kernel
theorem dL_law_651 : decode cL_law 651 = .ok (.iload_n 3, 1) := by decide +kernel
theorem dL_law_652 : decode cL_law 652 = .ok (.iconst 2, 1) := by decide +kernel
theorem dL_law_653 : decode cL_law 653 = .ok (.iadd, 1) := by decide +kernel
theorem dL_law_654 : decode cL_law 654 = .ok (.iaload, 1) := by decide +kernel
theorem dL_law_655 : decode cL_law 655 = .ok (.invokevirtual 84, 3) := by decide +kernel
theorem dL_law_658 : decode cL_law 658 = .ok (.if_icmp .eq 595, 3) := by decide +kernel
theorem dL_law_661 : decode cL_law 661 = .ok (.iconst 0, 1) := by decide +kernel
theorem dL_law_662 : decode cL_law 662 = .ok (.ireturn, 1) := by decide +kernel
theorem dL_law_663 : decode cL_law 663 = .ok (.aload_n 1, 1) := by decide +kernel
theorem dL_law_664 : decode cL_law 664 = .ok (.aload_n 0, 1) := by decide +kernel
theorem dL_law_665 : decode cL_law 665 = .ok (.iload_n 3, 1) := by decide +kernel
theorem dL_law_666 : decode cL_law 666 = .ok (.iconst 1, 1) := by decide +kernel
theorem dL_law_667 : decode cL_law 667 = .ok (.iadd, 1) := by decide +kernel
theorem dL_law_668 : decode cL_law 668 = .ok (.iaload, 1) := by decide +kernel
theorem dL_law_669 : decode cL_law 669 = .ok (.invokevirtual 85, 3) := by decide +kernel
theorem dL_law_672 : decode cL_law 672 = .ok (.aload_n 2, 1) := by decide +kernel
theorem dL_law_673 : decode cL_law 673 = .ok (.aload_n 0, 1) := by decide +kernel
theorem dL_law_674 : decode cL_law 674 = .ok (.iload_n 3, 1) := by decide +kernel
theorem dL_law_675 : decode cL_law 675 = .ok (.iconst 1, 1) := by decide +kernel
theorem dL_law_676 : decode cL_law 676 = .ok (.iadd, 1) := by decide +kernel
theorem dL_law_677 : decode cL_law 677 = .ok (.iaload, 1) := by decide +kernel
theorem dL_law_678 : decode cL_law 678 = .ok (.invokevirtual 88, 3) := by decide +kernel
theorem dL_law_681 : decode cL_law 681 = .ok (.if_icmp .eq 572, 3) := by decide +kernel
theorem dL_law_684 : decode cL_law 684 = .ok (.iconst 0, 1) := by decide +kernel
theorem dL_law_685 : decode cL_law 685 = .ok (.ireturn, 1) := by decide +kernel
theorem dL_law_686 : decode cL_law 686 = .ok (.aload_n 1, 1) := by decide +kernel
theorem dL_law_687 : decode cL_law 687 = .ok (.aload_n 0, 1) := by decide +kernel
theorem dL_law_688 : decode cL_law 688 = .ok (.iload_n 3, 1) := by decide +kernel
theorem dL_law_689 : decode cL_law 689 = .ok (.iconst 1, 1) := by decide +kernel
theorem dL_law_690 : decode cL_law 690 = .ok (.iadd, 1) := by decide +kernel
theorem dL_law_691 : decode cL_law 691 = .ok (.iaload, 1) := by decide +kernel
theorem dL_law_692 : decode cL_law 692 = .ok (.aload_n 0, 1) := by decide +kernel
theorem dL_law_693 : decode cL_law 693 = .ok (.iload_n 3, 1) := by decide +kernel
theorem dL_law_694 : decode cL_law 694 = .ok (.iconst 2, 1) := by decide +kernel
theorem dL_law_695 : decode cL_law 695 = .ok (.iadd, 1) := by decide +kernel
theorem dL_law_696 : decode cL_law 696 = .ok (.iaload, 1) := by decide +kernel
theorem dL_law_697 : decode cL_law 697 = .ok (.invokevirtual 89, 3) := by decide +kernel
theorem dL_law_700 : decode cL_law 700 = .ok (.aload_n 2, 1) := by decide +kernel
theorem dL_law_701 : decode cL_law 701 = .ok (.aload_n 0, 1) := by decide +kernel
theorem dL_law_702 : decode cL_law 702 = .ok (.iload_n 3, 1) := by decide +kernel
theorem dL_law_703 : decode cL_law 703 = .ok (.iconst 1, 1) := by decide +kernel
theorem dL_law_704 : decode cL_law 704 = .ok (.iadd, 1) := by decide +kernel
theorem dL_law_705 : decode cL_law 705 = .ok (.iaload, 1) := by decide +kernel
theorem dL_law_706 : decode cL_law 706 = .ok (.aload_n 0, 1) := by decide +kernel
theorem dL_law_707 : decode cL_law 707 = .ok (.iload_n 3, 1) := by decide +kernel
theorem dL_law_708 : decode cL_law 708 = .ok (.iconst 2, 1) := by decide +kernel
theorem dL_law_709 : decode cL_law 709 = .ok (.iadd, 1) := by decide +kernel
theorem dL_law_710 : decode cL_law 710 = .ok (.iaload, 1) := by decide +kernel
theorem dL_law_711 : decode cL_law 711 = .ok (.invokevirtual 93, 3) := by decide +kernel
theorem dL_law_714 : decode cL_law 714 = .ok (.lcmp, 1) := by decide +kernel
theorem dL_law_715 : decode cL_law 715 = .ok (.ifCond .eq 538, 3) := by decide +kernel
theorem dL_law_718 : decode cL_law 718 = .ok (.iconst 0, 1) := by decide +kernel
theorem dL_law_719 : decode cL_law 719 = .ok (.ireturn, 1) := by decide +kernel
theorem dL_law_720 : decode cL_law 720 = .ok (.aload_n 1, 1) := by decide +kernel
theorem dL_law_721 : decode cL_law 721 = .ok (.invokevirtual 94, 3) := by decide +kernel
theorem dL_law_724 : decode cL_law 724 = .ok (.aload_n 2, 1) := by decide +kernel
theorem dL_law_725 : decode cL_law 725 = .ok (.invokevirtual 97, 3) := by decide +kernel
theorem dL_law_728 : decode cL_law 728 = .ok (.if_icmp .eq 525, 3) := by decide +kernel
theorem dL_law_731 : decode cL_law 731 = .ok (.iconst 0, 1) := by decide +kernel
theorem dL_law_732 : decode cL_law 732 = .ok (.ireturn, 1) := by decide +kernel
theorem dL_law_733 : decode cL_law 733 = .ok (.aload_n 1, 1) := by decide +kernel
theorem dL_law_734 : decode cL_law 734 = .ok (.aload_n 0, 1) := by decide +kernel
theorem dL_law_735 : decode cL_law 735 = .ok (.iload_n 3, 1) := by decide +kernel
theorem dL_law_736 : decode cL_law 736 = .ok (.iconst 1, 1) := by decide +kernel
theorem dL_law_737 : decode cL_law 737 = .ok (.iadd, 1) := by decide +kernel
theorem dL_law_738 : decode cL_law 738 = .ok (.iaload, 1) := by decide +kernel
theorem dL_law_739 : decode cL_law 739 = .ok (.aload_n 0, 1) := by decide +kernel
theorem dL_law_740 : decode cL_law 740 = .ok (.iload_n 3, 1) := by decide +kernel
theorem dL_law_741 : decode cL_law 741 = .ok (.iconst 2, 1) := by decide +kernel
theorem dL_law_742 : decode cL_law 742 = .ok (.iadd, 1) := by decide +kernel
theorem dL_law_743 : decode cL_law 743 = .ok (.iaload, 1) := by decide +kernel
theorem dL_law_744 : decode cL_law 744 = .ok (.invokevirtual 98, 3) := by decide +kernel
theorem dL_law_747 : decode cL_law 747 = .ok (.aload_n 2, 1) := by decide +kernel
theorem dL_law_748 : decode cL_law 748 = .ok (.aload_n 0, 1) := by decide +kernel
theorem dL_law_749 : decode cL_law 749 = .ok (.iload_n 3, 1) := by decide +kernel
theorem dL_law_750 : decode cL_law 750 = .ok (.iconst 1, 1) := by decide +kernel
theorem dL_law_751 : decode cL_law 751 = .ok (.iadd, 1) := by decide +kernel
theorem dL_law_752 : decode cL_law 752 = .ok (.iaload, 1) := by decide +kernel
theorem dL_law_753 : decode cL_law 753 = .ok (.aload_n 0, 1) := by decide +kernel
theorem dL_law_754 : decode cL_law 754 = .ok (.iload_n 3, 1) := by decide +kernel
theorem dL_law_755 : decode cL_law 755 = .ok (.iconst 2, 1) := by decide +kernel
theorem dL_law_756 : decode cL_law 756 = .ok (.iadd, 1) := by decide +kernel
theorem dL_law_757 : decode cL_law 757 = .ok (.iaload, 1) := by decide +kernel
theorem dL_law_758 : decode cL_law 758 = .ok (.invokevirtual 101, 3) := by decide +kernel
theorem dL_law_761 : decode cL_law 761 = .ok (.if_icmp .eq 492, 3) := by decide +kernel
theorem dL_law_764 : decode cL_law 764 = .ok (.iconst 0, 1) := by decide +kernel
theorem dL_law_765 : decode cL_law 765 = .ok (.ireturn, 1) := by decide +kernel
theorem dL_law_766 : decode cL_law 766 = .ok (.aload_n 1, 1) := by decide +kernel
theorem dL_law_767 : decode cL_law 767 = .ok (.aload_n 0, 1) := by decide +kernel
theorem dL_law_768 : decode cL_law 768 = .ok (.iload_n 3, 1) := by decide +kernel
theorem dL_law_769 : decode cL_law 769 = .ok (.iconst 1, 1) := by decide +kernel
theorem dL_law_770 : decode cL_law 770 = .ok (.iadd, 1) := by decide +kernel
theorem dL_law_771 : decode cL_law 771 = .ok (.iaload, 1) := by decide +kernel
theorem dL_law_772 : decode cL_law 772 = .ok (.aload_n 0, 1) := by decide +kernel
theorem dL_law_773 : decode cL_law 773 = .ok (.iload_n 3, 1) := by decide +kernel
theorem dL_law_774 : decode cL_law 774 = .ok (.iconst 2, 1) := by decide +kernel
theorem dL_law_775 : decode cL_law 775 = .ok (.iadd, 1) := by decide +kernel
theorem dL_law_776 : decode cL_law 776 = .ok (.iaload, 1) := by decide +kernel
theorem dL_law_777 : decode cL_law 777 = .ok (.invokevirtual 102, 3) := by decide +kernel
theorem dL_law_780 : decode cL_law 780 = .ok (.aload_n 2, 1) := by decide +kernel
theorem dL_law_781 : decode cL_law 781 = .ok (.aload_n 0, 1) := by decide +kernel
theorem dL_law_782 : decode cL_law 782 = .ok (.iload_n 3, 1) := by decide +kernel
theorem dL_law_783 : decode cL_law 783 = .ok (.iconst 1, 1) := by decide +kernel
theorem dL_law_784 : decode cL_law 784 = .ok (.iadd, 1) := by decide +kernel
theorem dL_law_785 : decode cL_law 785 = .ok (.iaload, 1) := by decide +kernel
theorem dL_law_786 : decode cL_law 786 = .ok (.aload_n 0, 1) := by decide +kernel
theorem dL_law_787 : decode cL_law 787 = .ok (.iload_n 3, 1) := by decide +kernel
theorem dL_law_788 : decode cL_law 788 = .ok (.iconst 2, 1) := by decide +kernel
theorem dL_law_789 : decode cL_law 789 = .ok (.iadd, 1) := by decide +kernel
theorem dL_law_790 : decode cL_law 790 = .ok (.iaload, 1) := by decide +kernel
theorem dL_law_791 : decode cL_law 791 = .ok (.invokevirtual 105, 3) := by decide +kernel
theorem dL_law_794 : decode cL_law 794 = .ok (.if_icmp .eq 459, 3) := by decide +kernel
theorem dL_law_797 : decode cL_law 797 = .ok (.iconst 0, 1) := by decide +kernel
theorem dL_law_798 : decode cL_law 798 = .ok (.ireturn, 1) := by decide +kernel
theorem dL_law_799 : decode cL_law 799 = .ok (.aload_n 1, 1) := by decide +kernel
theorem dL_law_800 : decode cL_law 800 = .ok (.invokevirtual 106, 3) := by decide +kernel
theorem dL_law_803 : decode cL_law 803 = .ok (.aload_n 2, 1) := by decide +kernel
theorem dL_law_804 : decode cL_law 804 = .ok (.invokevirtual 109, 3) := by decide +kernel
theorem dL_law_807 : decode cL_law 807 = .ok (.if_icmp .eq 446, 3) := by decide +kernel
theorem dL_law_810 : decode cL_law 810 = .ok (.iconst 0, 1) := by decide +kernel
theorem dL_law_811 : decode cL_law 811 = .ok (.ireturn, 1) := by decide +kernel
theorem dL_law_812 : decode cL_law 812 = .ok (.aload_n 1, 1) := by decide +kernel
theorem dL_law_813 : decode cL_law 813 = .ok (.invokevirtual 110, 3) := by decide +kernel
theorem dL_law_816 : decode cL_law 816 = .ok (.aload_n 2, 1) := by decide +kernel
theorem dL_law_817 : decode cL_law 817 = .ok (.invokevirtual 113, 3) := by decide +kernel
theorem dL_law_820 : decode cL_law 820 = .ok (.if_icmp .eq 433, 3) := by decide +kernel
theorem dL_law_823 : decode cL_law 823 = .ok (.iconst 0, 1) := by decide +kernel
theorem dL_law_824 : decode cL_law 824 = .ok (.ireturn, 1) := by decide +kernel
theorem dL_law_825 : decode cL_law 825 = .ok (.aload_n 1, 1) := by decide +kernel
theorem dL_law_826 : decode cL_law 826 = .ok (.aload_n 0, 1) := by decide +kernel
theorem dL_law_827 : decode cL_law 827 = .ok (.iload_n 3, 1) := by decide +kernel
theorem dL_law_828 : decode cL_law 828 = .ok (.iconst 1, 1) := by decide +kernel
theorem dL_law_829 : decode cL_law 829 = .ok (.iadd, 1) := by decide +kernel
theorem dL_law_830 : decode cL_law 830 = .ok (.iaload, 1) := by decide +kernel
theorem dL_law_831 : decode cL_law 831 = .ok (.invokevirtual 114, 3) := by decide +kernel
theorem dL_law_834 : decode cL_law 834 = .ok (.aload_n 2, 1) := by decide +kernel
theorem dL_law_835 : decode cL_law 835 = .ok (.aload_n 0, 1) := by decide +kernel
theorem dL_law_836 : decode cL_law 836 = .ok (.iload_n 3, 1) := by decide +kernel
theorem dL_law_837 : decode cL_law 837 = .ok (.iconst 1, 1) := by decide +kernel
theorem dL_law_838 : decode cL_law 838 = .ok (.iadd, 1) := by decide +kernel
theorem dL_law_839 : decode cL_law 839 = .ok (.iaload, 1) := by decide +kernel
theorem dL_law_840 : decode cL_law 840 = .ok (.invokevirtual 117, 3) := by decide +kernel
theorem dL_law_843 : decode cL_law 843 = .ok (.if_icmp .eq 410, 3) := by decide +kernel
theorem dL_law_846 : decode cL_law 846 = .ok (.iconst 0, 1) := by decide +kernel
theorem dL_law_847 : decode cL_law 847 = .ok (.ireturn, 1) := by decide +kernel
theorem dL_law_848 : decode cL_law 848 = .ok (.aload_n 1, 1) := by decide +kernel
theorem dL_law_849 : decode cL_law 849 = .ok (.aload_n 0, 1) := by decide +kernel
theorem dL_law_850 : decode cL_law 850 = .ok (.iload_n 3, 1) := by decide +kernel
theorem dL_law_851 : decode cL_law 851 = .ok (.iconst 1, 1) := by decide +kernel
theorem dL_law_852 : decode cL_law 852 = .ok (.iadd, 1) := by decide +kernel
theorem dL_law_853 : decode cL_law 853 = .ok (.iaload, 1) := by decide +kernel
theorem dL_law_854 : decode cL_law 854 = .ok (.invokevirtual 118, 3) := by decide +kernel
theorem dL_law_857 : decode cL_law 857 = .ok (.aload_n 2, 1) := by decide +kernel
theorem dL_law_858 : decode cL_law 858 = .ok (.aload_n 0, 1) := by decide +kernel
theorem dL_law_859 : decode cL_law 859 = .ok (.iload_n 3, 1) := by decide +kernel
theorem dL_law_860 : decode cL_law 860 = .ok (.iconst 1, 1) := by decide +kernel
theorem dL_law_861 : decode cL_law 861 = .ok (.iadd, 1) := by decide +kernel
theorem dL_law_862 : decode cL_law 862 = .ok (.iaload, 1) := by decide +kernel
theorem dL_law_863 : decode cL_law 863 = .ok (.invokevirtual 121, 3) := by decide +kernel
theorem dL_law_866 : decode cL_law 866 = .ok (.if_icmp .eq 387, 3) := by decide +kernel
theorem dL_law_869 : decode cL_law 869 = .ok (.iconst 0, 1) := by decide +kernel
theorem dL_law_870 : decode cL_law 870 = .ok (.ireturn, 1) := by decide +kernel
theorem dL_law_871 : decode cL_law 871 = .ok (.aload_n 1, 1) := by decide +kernel
theorem dL_law_872 : decode cL_law 872 = .ok (.aload_n 0, 1) := by decide +kernel
theorem dL_law_873 : decode cL_law 873 = .ok (.iload_n 3, 1) := by decide +kernel
theorem dL_law_874 : decode cL_law 874 = .ok (.iconst 1, 1) := by decide +kernel
theorem dL_law_875 : decode cL_law 875 = .ok (.iadd, 1) := by decide +kernel
theorem dL_law_876 : decode cL_law 876 = .ok (.iaload, 1) := by decide +kernel
theorem dL_law_877 : decode cL_law 877 = .ok (.aload_n 0, 1) := by decide +kernel
theorem dL_law_878 : decode cL_law 878 = .ok (.iload_n 3, 1) := by decide +kernel
theorem dL_law_879 : decode cL_law 879 = .ok (.iconst 2, 1) := by decide +kernel
theorem dL_law_880 : decode cL_law 880 = .ok (.iadd, 1) := by decide +kernel
theorem dL_law_881 : decode cL_law 881 = .ok (.iaload, 1) := by decide +kernel
theorem dL_law_882 : decode cL_law 882 = .ok (.aload_n 0, 1) := by decide +kernel
theorem dL_law_883 : decode cL_law 883 = .ok (.iload_n 3, 1) := by decide +kernel
theorem dL_law_884 : decode cL_law 884 = .ok (.iconst 3, 1) := by decide +kernel
theorem dL_law_885 : decode cL_law 885 = .ok (.iadd, 1) := by decide +kernel
theorem dL_law_886 : decode cL_law 886 = .ok (.iaload, 1) := by decide +kernel
theorem dL_law_887 : decode cL_law 887 = .ok (.aload_n 0, 1) := by decide +kernel
theorem dL_law_888 : decode cL_law 888 = .ok (.iload_n 3, 1) := by decide +kernel
theorem dL_law_889 : decode cL_law 889 = .ok (.iconst 4, 1) := by decide +kernel
theorem dL_law_890 : decode cL_law 890 = .ok (.iadd, 1) := by decide +kernel
theorem dL_law_891 : decode cL_law 891 = .ok (.iaload, 1) := by decide +kernel
theorem dL_law_892 : decode cL_law 892 = .ok (.aload_n 0, 1) := by decide +kernel
theorem dL_law_893 : decode cL_law 893 = .ok (.iload_n 3, 1) := by decide +kernel
theorem dL_law_894 : decode cL_law 894 = .ok (.iconst 5, 1) := by decide +kernel
theorem dL_law_895 : decode cL_law 895 = .ok (.iadd, 1) := by decide +kernel
theorem dL_law_896 : decode cL_law 896 = .ok (.iaload, 1) := by decide +kernel
theorem dL_law_897 : decode cL_law 897 = .ok (.invokevirtual 122, 3) := by decide +kernel
theorem dL_law_900 : decode cL_law 900 = .ok (.aload_n 2, 1) := by decide +kernel
theorem dL_law_901 : decode cL_law 901 = .ok (.aload_n 0, 1) := by decide +kernel
theorem dL_law_902 : decode cL_law 902 = .ok (.iload_n 3, 1) := by decide +kernel
theorem dL_law_903 : decode cL_law 903 = .ok (.iconst 1, 1) := by decide +kernel
theorem dL_law_904 : decode cL_law 904 = .ok (.iadd, 1) := by decide +kernel
theorem dL_law_905 : decode cL_law 905 = .ok (.iaload, 1) := by decide +kernel
theorem dL_law_906 : decode cL_law 906 = .ok (.aload_n 0, 1) := by decide +kernel
theorem dL_law_907 : decode cL_law 907 = .ok (.iload_n 3, 1) := by decide +kernel
theorem dL_law_908 : decode cL_law 908 = .ok (.iconst 2, 1) := by decide +kernel
theorem dL_law_909 : decode cL_law 909 = .ok (.iadd, 1) := by decide +kernel
theorem dL_law_910 : decode cL_law 910 = .ok (.iaload, 1) := by decide +kernel
theorem dL_law_911 : decode cL_law 911 = .ok (.aload_n 0, 1) := by decide +kernel
theorem dL_law_912 : decode cL_law 912 = .ok (.iload_n 3, 1) := by decide +kernel
theorem dL_law_913 : decode cL_law 913 = .ok (.iconst 3, 1) := by decide +kernel
theorem dL_law_914 : decode cL_law 914 = .ok (.iadd, 1) := by decide +kernel
theorem dL_law_915 : decode cL_law 915 = .ok (.iaload, 1) := by decide +kernel
theorem dL_law_916 : decode cL_law 916 = .ok (.aload_n 0, 1) := by decide +kernel
theorem dL_law_917 : decode cL_law 917 = .ok (.iload_n 3, 1) := by decide +kernel
theorem dL_law_918 : decode cL_law 918 = .ok (.iconst 4, 1) := by decide +kernel
theorem dL_law_919 : decode cL_law 919 = .ok (.iadd, 1) := by decide +kernel
theorem dL_law_920 : decode cL_law 920 = .ok (.iaload, 1) := by decide +kernel
theorem dL_law_921 : decode cL_law 921 = .ok (.aload_n 0, 1) := by decide +kernel
theorem dL_law_922 : decode cL_law 922 = .ok (.iload_n 3, 1) := by decide +kernel
theorem dL_law_923 : decode cL_law 923 = .ok (.iconst 5, 1) := by decide +kernel
theorem dL_law_924 : decode cL_law 924 = .ok (.iadd, 1) := by decide +kernel
theorem dL_law_925 : decode cL_law 925 = .ok (.iaload, 1) := by decide +kernel
theorem dL_law_926 : decode cL_law 926 = .ok (.invokevirtual 126, 3) := by decide +kernel
theorem dL_law_929 : decode cL_law 929 = .ok (.lcmp, 1) := by decide +kernel
theorem dL_law_930 : decode cL_law 930 = .ok (.ifCond .eq 323, 3) := by decide +kernel
theorem dL_law_933 : decode cL_law 933 = .ok (.iconst 0, 1) := by decide +kernel
theorem dL_law_934 : decode cL_law 934 = .ok (.ireturn, 1) := by decide +kernel
theorem dL_law_935 : decode cL_law 935 = .ok (.aload_n 1, 1) := by decide +kernel
theorem dL_law_936 : decode cL_law 936 = .ok (.aload_n 0, 1) := by decide +kernel
theorem dL_law_937 : decode cL_law 937 = .ok (.iload_n 3, 1) := by decide +kernel
theorem dL_law_938 : decode cL_law 938 = .ok (.iconst 1, 1) := by decide +kernel
theorem dL_law_939 : decode cL_law 939 = .ok (.iadd, 1) := by decide +kernel
theorem dL_law_940 : decode cL_law 940 = .ok (.iaload, 1) := by decide +kernel
theorem dL_law_941 : decode cL_law 941 = .ok (.aload_n 0, 1) := by decide +kernel
theorem dL_law_942 : decode cL_law 942 = .ok (.iload_n 3, 1) := by decide +kernel
theorem dL_law_943 : decode cL_law 943 = .ok (.iconst 2, 1) := by decide +kernel
theorem dL_law_944 : decode cL_law 944 = .ok (.iadd, 1) := by decide +kernel
theorem dL_law_945 : decode cL_law 945 = .ok (.iaload, 1) := by decide +kernel
theorem dL_law_946 : decode cL_law 946 = .ok (.invokevirtual 127, 3) := by decide +kernel
theorem dL_law_949 : decode cL_law 949 = .ok (.aload_n 2, 1) := by decide +kernel
theorem dL_law_950 : decode cL_law 950 = .ok (.aload_n 0, 1) := by decide +kernel
theorem dL_law_951 : decode cL_law 951 = .ok (.iload_n 3, 1) := by decide +kernel
theorem dL_law_952 : decode cL_law 952 = .ok (.iconst 1, 1) := by decide +kernel
theorem dL_law_953 : decode cL_law 953 = .ok (.iadd, 1) := by decide +kernel
theorem dL_law_954 : decode cL_law 954 = .ok (.iaload, 1) := by decide +kernel
theorem dL_law_955 : decode cL_law 955 = .ok (.aload_n 0, 1) := by decide +kernel
theorem dL_law_956 : decode cL_law 956 = .ok (.iload_n 3, 1) := by decide +kernel
theorem dL_law_957 : decode cL_law 957 = .ok (.iconst 2, 1) := by decide +kernel
theorem dL_law_958 : decode cL_law 958 = .ok (.iadd, 1) := by decide +kernel
theorem dL_law_959 : decode cL_law 959 = .ok (.iaload, 1) := by decide +kernel
theorem dL_law_960 : decode cL_law 960 = .ok (.invokevirtual 130, 3) := by decide +kernel
theorem dL_law_963 : decode cL_law 963 = .ok (.if_icmp .eq 290, 3) := by decide +kernel
theorem dL_law_966 : decode cL_law 966 = .ok (.iconst 0, 1) := by decide +kernel
theorem dL_law_967 : decode cL_law 967 = .ok (.ireturn, 1) := by decide +kernel
theorem dL_law_968 : decode cL_law 968 = .ok (.aload_n 1, 1) := by decide +kernel
theorem dL_law_969 : decode cL_law 969 = .ok (.aload_n 0, 1) := by decide +kernel
theorem dL_law_970 : decode cL_law 970 = .ok (.iload_n 3, 1) := by decide +kernel
theorem dL_law_971 : decode cL_law 971 = .ok (.iconst 1, 1) := by decide +kernel
theorem dL_law_972 : decode cL_law 972 = .ok (.iadd, 1) := by decide +kernel
theorem dL_law_973 : decode cL_law 973 = .ok (.iaload, 1) := by decide +kernel
theorem dL_law_974 : decode cL_law 974 = .ok (.aload_n 0, 1) := by decide +kernel
theorem dL_law_975 : decode cL_law 975 = .ok (.iload_n 3, 1) := by decide +kernel
theorem dL_law_976 : decode cL_law 976 = .ok (.iconst 2, 1) := by decide +kernel
theorem dL_law_977 : decode cL_law 977 = .ok (.iadd, 1) := by decide +kernel
theorem dL_law_978 : decode cL_law 978 = .ok (.iaload, 1) := by decide +kernel
theorem dL_law_979 : decode cL_law 979 = .ok (.aload_n 0, 1) := by decide +kernel
theorem dL_law_980 : decode cL_law 980 = .ok (.iload_n 3, 1) := by decide +kernel
theorem dL_law_981 : decode cL_law 981 = .ok (.iconst 3, 1) := by decide +kernel
theorem dL_law_982 : decode cL_law 982 = .ok (.iadd, 1) := by decide +kernel
theorem dL_law_983 : decode cL_law 983 = .ok (.iaload, 1) := by decide +kernel
theorem dL_law_984 : decode cL_law 984 = .ok (.invokevirtual 131, 3) := by decide +kernel
theorem dL_law_987 : decode cL_law 987 = .ok (.aload_n 2, 1) := by decide +kernel
theorem dL_law_988 : decode cL_law 988 = .ok (.aload_n 0, 1) := by decide +kernel
theorem dL_law_989 : decode cL_law 989 = .ok (.iload_n 3, 1) := by decide +kernel
theorem dL_law_990 : decode cL_law 990 = .ok (.iconst 1, 1) := by decide +kernel
theorem dL_law_991 : decode cL_law 991 = .ok (.iadd, 1) := by decide +kernel
theorem dL_law_992 : decode cL_law 992 = .ok (.iaload, 1) := by decide +kernel
theorem dL_law_993 : decode cL_law 993 = .ok (.aload_n 0, 1) := by decide +kernel
theorem dL_law_994 : decode cL_law 994 = .ok (.iload_n 3, 1) := by decide +kernel
theorem dL_law_995 : decode cL_law 995 = .ok (.iconst 2, 1) := by decide +kernel
theorem dL_law_996 : decode cL_law 996 = .ok (.iadd, 1) := by decide +kernel
theorem dL_law_997 : decode cL_law 997 = .ok (.iaload, 1) := by decide +kernel
theorem dL_law_998 : decode cL_law 998 = .ok (.aload_n 0, 1) := by decide +kernel
theorem dL_law_999 : decode cL_law 999 = .ok (.iload_n 3, 1) := by decide +kernel
theorem dL_law_1000 : decode cL_law 1000 = .ok (.iconst 3, 1) := by decide +kernel
theorem dL_law_1001 : decode cL_law 1001 = .ok (.iadd, 1) := by decide +kernel
theorem dL_law_1002 : decode cL_law 1002 = .ok (.iaload, 1) := by decide +kernel
theorem dL_law_1003 : decode cL_law 1003 = .ok (.invokevirtual 134, 3) := by decide +kernel
theorem dL_law_1006 : decode cL_law 1006 = .ok (.if_icmp .eq 247, 3) := by decide +kernel
theorem dL_law_1009 : decode cL_law 1009 = .ok (.iconst 0, 1) := by decide +kernel
theorem dL_law_1010 : decode cL_law 1010 = .ok (.ireturn, 1) := by decide +kernel
theorem dL_law_1011 : decode cL_law 1011 = .ok (.aload_n 1, 1) := by decide +kernel
theorem dL_law_1012 : decode cL_law 1012 = .ok (.aload_n 0, 1) := by decide +kernel
theorem dL_law_1013 : decode cL_law 1013 = .ok (.iload_n 3, 1) := by decide +kernel
theorem dL_law_1014 : decode cL_law 1014 = .ok (.iconst 1, 1) := by decide +kernel
theorem dL_law_1015 : decode cL_law 1015 = .ok (.iadd, 1) := by decide +kernel
theorem dL_law_1016 : decode cL_law 1016 = .ok (.iaload, 1) := by decide +kernel
theorem dL_law_1017 : decode cL_law 1017 = .ok (.invokevirtual 135, 3) := by decide +kernel
theorem dL_law_1020 : decode cL_law 1020 = .ok (.aload_n 2, 1) := by decide +kernel
theorem dL_law_1021 : decode cL_law 1021 = .ok (.aload_n 0, 1) := by decide +kernel
theorem dL_law_1022 : decode cL_law 1022 = .ok (.iload_n 3, 1) := by decide +kernel
theorem dL_law_1023 : decode cL_law 1023 = .ok (.iconst 1, 1) := by decide +kernel
theorem dL_law_1024 : decode cL_law 1024 = .ok (.iadd, 1) := by decide +kernel
theorem dL_law_1025 : decode cL_law 1025 = .ok (.iaload, 1) := by decide +kernel
theorem dL_law_1026 : decode cL_law 1026 = .ok (.invokevirtual 138, 3) := by decide +kernel
theorem dL_law_1029 : decode cL_law 1029 = .ok (.if_icmp .eq 224, 3) := by decide +kernel
theorem dL_law_1032 : decode cL_law 1032 = .ok (.iconst 0, 1) := by decide +kernel
theorem dL_law_1033 : decode cL_law 1033 = .ok (.ireturn, 1) := by decide +kernel
theorem dL_law_1034 : decode cL_law 1034 = .ok (.aload_n 1, 1) := by decide +kernel
theorem dL_law_1035 : decode cL_law 1035 = .ok (.aload_n 0, 1) := by decide +kernel
theorem dL_law_1036 : decode cL_law 1036 = .ok (.iload_n 3, 1) := by decide +kernel
theorem dL_law_1037 : decode cL_law 1037 = .ok (.iconst 1, 1) := by decide +kernel
theorem dL_law_1038 : decode cL_law 1038 = .ok (.iadd, 1) := by decide +kernel
theorem dL_law_1039 : decode cL_law 1039 = .ok (.iaload, 1) := by decide +kernel
theorem dL_law_1040 : decode cL_law 1040 = .ok (.aload_n 0, 1) := by decide +kernel
theorem dL_law_1041 : decode cL_law 1041 = .ok (.iload_n 3, 1) := by decide +kernel
theorem dL_law_1042 : decode cL_law 1042 = .ok (.iconst 2, 1) := by decide +kernel
theorem dL_law_1043 : decode cL_law 1043 = .ok (.iadd, 1) := by decide +kernel
theorem dL_law_1044 : decode cL_law 1044 = .ok (.iaload, 1) := by decide +kernel
theorem dL_law_1045 : decode cL_law 1045 = .ok (.aload_n 0, 1) := by decide +kernel
theorem dL_law_1046 : decode cL_law 1046 = .ok (.iload_n 3, 1) := by decide +kernel
theorem dL_law_1047 : decode cL_law 1047 = .ok (.iconst 3, 1) := by decide +kernel
theorem dL_law_1048 : decode cL_law 1048 = .ok (.iadd, 1) := by decide +kernel
theorem dL_law_1049 : decode cL_law 1049 = .ok (.iaload, 1) := by decide +kernel
theorem dL_law_1050 : decode cL_law 1050 = .ok (.aload_n 0, 1) := by decide +kernel
theorem dL_law_1051 : decode cL_law 1051 = .ok (.iload_n 3, 1) := by decide +kernel
theorem dL_law_1052 : decode cL_law 1052 = .ok (.iconst 4, 1) := by decide +kernel
theorem dL_law_1053 : decode cL_law 1053 = .ok (.iadd, 1) := by decide +kernel
theorem dL_law_1054 : decode cL_law 1054 = .ok (.iaload, 1) := by decide +kernel
theorem dL_law_1055 : decode cL_law 1055 = .ok (.invokevirtual 139, 3) := by decide +kernel
theorem dL_law_1058 : decode cL_law 1058 = .ok (.aload_n 2, 1) := by decide +kernel
theorem dL_law_1059 : decode cL_law 1059 = .ok (.aload_n 0, 1) := by decide +kernel
theorem dL_law_1060 : decode cL_law 1060 = .ok (.iload_n 3, 1) := by decide +kernel
theorem dL_law_1061 : decode cL_law 1061 = .ok (.iconst 1, 1) := by decide +kernel
theorem dL_law_1062 : decode cL_law 1062 = .ok (.iadd, 1) := by decide +kernel
theorem dL_law_1063 : decode cL_law 1063 = .ok (.iaload, 1) := by decide +kernel
theorem dL_law_1064 : decode cL_law 1064 = .ok (.aload_n 0, 1) := by decide +kernel
theorem dL_law_1065 : decode cL_law 1065 = .ok (.iload_n 3, 1) := by decide +kernel
theorem dL_law_1066 : decode cL_law 1066 = .ok (.iconst 2, 1) := by decide +kernel
theorem dL_law_1067 : decode cL_law 1067 = .ok (.iadd, 1) := by decide +kernel
theorem dL_law_1068 : decode cL_law 1068 = .ok (.iaload, 1) := by decide +kernel
theorem dL_law_1069 : decode cL_law 1069 = .ok (.aload_n 0, 1) := by decide +kernel
theorem dL_law_1070 : decode cL_law 1070 = .ok (.iload_n 3, 1) := by decide +kernel
theorem dL_law_1071 : decode cL_law 1071 = .ok (.iconst 3, 1) := by decide +kernel
theorem dL_law_1072 : decode cL_law 1072 = .ok (.iadd, 1) := by decide +kernel
theorem dL_law_1073 : decode cL_law 1073 = .ok (.iaload, 1) := by decide +kernel
theorem dL_law_1074 : decode cL_law 1074 = .ok (.aload_n 0, 1) := by decide +kernel
theorem dL_law_1075 : decode cL_law 1075 = .ok (.iload_n 3, 1) := by decide +kernel
theorem dL_law_1076 : decode cL_law 1076 = .ok (.iconst 4, 1) := by decide +kernel
theorem dL_law_1077 : decode cL_law 1077 = .ok (.iadd, 1) := by decide +kernel
theorem dL_law_1078 : decode cL_law 1078 = .ok (.iaload, 1) := by decide +kernel
theorem dL_law_1079 : decode cL_law 1079 = .ok (.invokevirtual 143, 3) := by decide +kernel
theorem dL_law_1082 : decode cL_law 1082 = .ok (.if_icmp .eq 171, 3) := by decide +kernel
theorem dL_law_1085 : decode cL_law 1085 = .ok (.iconst 0, 1) := by decide +kernel
theorem dL_law_1086 : decode cL_law 1086 = .ok (.ireturn, 1) := by decide +kernel
theorem dL_law_1087 : decode cL_law 1087 = .ok (.aload_n 1, 1) := by decide +kernel
theorem dL_law_1088 : decode cL_law 1088 = .ok (.aload_n 0, 1) := by decide +kernel
theorem dL_law_1089 : decode cL_law 1089 = .ok (.iload_n 3, 1) := by decide +kernel
theorem dL_law_1090 : decode cL_law 1090 = .ok (.iconst 1, 1) := by decide +kernel
theorem dL_law_1091 : decode cL_law 1091 = .ok (.iadd, 1) := by decide +kernel
theorem dL_law_1092 : decode cL_law 1092 = .ok (.iaload, 1) := by decide +kernel
theorem dL_law_1093 : decode cL_law 1093 = .ok (.aload_n 0, 1) := by decide +kernel
theorem dL_law_1094 : decode cL_law 1094 = .ok (.iload_n 3, 1) := by decide +kernel
theorem dL_law_1095 : decode cL_law 1095 = .ok (.iconst 2, 1) := by decide +kernel
theorem dL_law_1096 : decode cL_law 1096 = .ok (.iadd, 1) := by decide +kernel
theorem dL_law_1097 : decode cL_law 1097 = .ok (.iaload, 1) := by decide +kernel
theorem dL_law_1098 : decode cL_law 1098 = .ok (.aload_n 0, 1) := by decide +kernel
theorem dL_law_1099 : decode cL_law 1099 = .ok (.iload_n 3, 1) := by decide +kernel
theorem dL_law_1100 : decode cL_law 1100 = .ok (.iconst 3, 1) := by decide +kernel
theorem dL_law_1101 : decode cL_law 1101 = .ok (.iadd, 1) := by decide +kernel
theorem dL_law_1102 : decode cL_law 1102 = .ok (.iaload, 1) := by decide +kernel
theorem dL_law_1103 : decode cL_law 1103 = .ok (.invokevirtual 144, 3) := by decide +kernel
theorem dL_law_1106 : decode cL_law 1106 = .ok (.aload_n 2, 1) := by decide +kernel
theorem dL_law_1107 : decode cL_law 1107 = .ok (.aload_n 0, 1) := by decide +kernel
theorem dL_law_1108 : decode cL_law 1108 = .ok (.iload_n 3, 1) := by decide +kernel
theorem dL_law_1109 : decode cL_law 1109 = .ok (.iconst 1, 1) := by decide +kernel
theorem dL_law_1110 : decode cL_law 1110 = .ok (.iadd, 1) := by decide +kernel
theorem dL_law_1111 : decode cL_law 1111 = .ok (.iaload, 1) := by decide +kernel
theorem dL_law_1112 : decode cL_law 1112 = .ok (.aload_n 0, 1) := by decide +kernel
theorem dL_law_1113 : decode cL_law 1113 = .ok (.iload_n 3, 1) := by decide +kernel
theorem dL_law_1114 : decode cL_law 1114 = .ok (.iconst 2, 1) := by decide +kernel
theorem dL_law_1115 : decode cL_law 1115 = .ok (.iadd, 1) := by decide +kernel
theorem dL_law_1116 : decode cL_law 1116 = .ok (.iaload, 1) := by decide +kernel
theorem dL_law_1117 : decode cL_law 1117 = .ok (.aload_n 0, 1) := by decide +kernel
theorem dL_law_1118 : decode cL_law 1118 = .ok (.iload_n 3, 1) := by decide +kernel
theorem dL_law_1119 : decode cL_law 1119 = .ok (.iconst 3, 1) := by decide +kernel
theorem dL_law_1120 : decode cL_law 1120 = .ok (.iadd, 1) := by decide +kernel
theorem dL_law_1121 : decode cL_law 1121 = .ok (.iaload, 1) := by decide +kernel
theorem dL_law_1122 : decode cL_law 1122 = .ok (.invokevirtual 147, 3) := by decide +kernel
theorem dL_law_1125 : decode cL_law 1125 = .ok (.if_icmp .eq 128, 3) := by decide +kernel
theorem dL_law_1128 : decode cL_law 1128 = .ok (.iconst 0, 1) := by decide +kernel
theorem dL_law_1129 : decode cL_law 1129 = .ok (.ireturn, 1) := by decide +kernel
theorem dL_law_1130 : decode cL_law 1130 = .ok (.aload_n 1, 1) := by decide +kernel
theorem dL_law_1131 : decode cL_law 1131 = .ok (.aload_n 0, 1) := by decide +kernel
theorem dL_law_1132 : decode cL_law 1132 = .ok (.iload_n 3, 1) := by decide +kernel
theorem dL_law_1133 : decode cL_law 1133 = .ok (.iconst 1, 1) := by decide +kernel
theorem dL_law_1134 : decode cL_law 1134 = .ok (.iadd, 1) := by decide +kernel
theorem dL_law_1135 : decode cL_law 1135 = .ok (.iaload, 1) := by decide +kernel
theorem dL_law_1136 : decode cL_law 1136 = .ok (.aload_n 0, 1) := by decide +kernel
theorem dL_law_1137 : decode cL_law 1137 = .ok (.iload_n 3, 1) := by decide +kernel
theorem dL_law_1138 : decode cL_law 1138 = .ok (.iconst 2, 1) := by decide +kernel
theorem dL_law_1139 : decode cL_law 1139 = .ok (.iadd, 1) := by decide +kernel
theorem dL_law_1140 : decode cL_law 1140 = .ok (.iaload, 1) := by decide +kernel
theorem dL_law_1141 : decode cL_law 1141 = .ok (.aload_n 0, 1) := by decide +kernel
theorem dL_law_1142 : decode cL_law 1142 = .ok (.iload_n 3, 1) := by decide +kernel
theorem dL_law_1143 : decode cL_law 1143 = .ok (.iconst 3, 1) := by decide +kernel
theorem dL_law_1144 : decode cL_law 1144 = .ok (.iadd, 1) := by decide +kernel
theorem dL_law_1145 : decode cL_law 1145 = .ok (.iaload, 1) := by decide +kernel
theorem dL_law_1146 : decode cL_law 1146 = .ok (.aload_n 0, 1) := by decide +kernel
theorem dL_law_1147 : decode cL_law 1147 = .ok (.iload_n 3, 1) := by decide +kernel
theorem dL_law_1148 : decode cL_law 1148 = .ok (.iconst 4, 1) := by decide +kernel
theorem dL_law_1149 : decode cL_law 1149 = .ok (.iadd, 1) := by decide +kernel
theorem dL_law_1150 : decode cL_law 1150 = .ok (.iaload, 1) := by decide +kernel
theorem dL_law_1151 : decode cL_law 1151 = .ok (.aload_n 0, 1) := by decide +kernel
theorem dL_law_1152 : decode cL_law 1152 = .ok (.iload_n 3, 1) := by decide +kernel
theorem dL_law_1153 : decode cL_law 1153 = .ok (.iconst 5, 1) := by decide +kernel
theorem dL_law_1154 : decode cL_law 1154 = .ok (.iadd, 1) := by decide +kernel
theorem dL_law_1155 : decode cL_law 1155 = .ok (.iaload, 1) := by decide +kernel
theorem dL_law_1156 : decode cL_law 1156 = .ok (.invokevirtual 148, 3) := by decide +kernel
theorem dL_law_1159 : decode cL_law 1159 = .ok (.aload_n 2, 1) := by decide +kernel
theorem dL_law_1160 : decode cL_law 1160 = .ok (.aload_n 0, 1) := by decide +kernel
theorem dL_law_1161 : decode cL_law 1161 = .ok (.iload_n 3, 1) := by decide +kernel
theorem dL_law_1162 : decode cL_law 1162 = .ok (.iconst 1, 1) := by decide +kernel
theorem dL_law_1163 : decode cL_law 1163 = .ok (.iadd, 1) := by decide +kernel
theorem dL_law_1164 : decode cL_law 1164 = .ok (.iaload, 1) := by decide +kernel
theorem dL_law_1165 : decode cL_law 1165 = .ok (.aload_n 0, 1) := by decide +kernel
theorem dL_law_1166 : decode cL_law 1166 = .ok (.iload_n 3, 1) := by decide +kernel
theorem dL_law_1167 : decode cL_law 1167 = .ok (.iconst 2, 1) := by decide +kernel
theorem dL_law_1168 : decode cL_law 1168 = .ok (.iadd, 1) := by decide +kernel
theorem dL_law_1169 : decode cL_law 1169 = .ok (.iaload, 1) := by decide +kernel
theorem dL_law_1170 : decode cL_law 1170 = .ok (.aload_n 0, 1) := by decide +kernel
theorem dL_law_1171 : decode cL_law 1171 = .ok (.iload_n 3, 1) := by decide +kernel
theorem dL_law_1172 : decode cL_law 1172 = .ok (.iconst 3, 1) := by decide +kernel
theorem dL_law_1173 : decode cL_law 1173 = .ok (.iadd, 1) := by decide +kernel
theorem dL_law_1174 : decode cL_law 1174 = .ok (.iaload, 1) := by decide +kernel
theorem dL_law_1175 : decode cL_law 1175 = .ok (.aload_n 0, 1) := by decide +kernel
theorem dL_law_1176 : decode cL_law 1176 = .ok (.iload_n 3, 1) := by decide +kernel
theorem dL_law_1177 : decode cL_law 1177 = .ok (.iconst 4, 1) := by decide +kernel
theorem dL_law_1178 : decode cL_law 1178 = .ok (.iadd, 1) := by decide +kernel
theorem dL_law_1179 : decode cL_law 1179 = .ok (.iaload, 1) := by decide +kernel
theorem dL_law_1180 : decode cL_law 1180 = .ok (.aload_n 0, 1) := by decide +kernel
theorem dL_law_1181 : decode cL_law 1181 = .ok (.iload_n 3, 1) := by decide +kernel
theorem dL_law_1182 : decode cL_law 1182 = .ok (.iconst 5, 1) := by decide +kernel
theorem dL_law_1183 : decode cL_law 1183 = .ok (.iadd, 1) := by decide +kernel
theorem dL_law_1184 : decode cL_law 1184 = .ok (.iaload, 1) := by decide +kernel
theorem dL_law_1185 : decode cL_law 1185 = .ok (.invokevirtual 152, 3) := by decide +kernel
theorem dL_law_1188 : decode cL_law 1188 = .ok (.if_icmp .eq 65, 3) := by decide +kernel
theorem dL_law_1191 : decode cL_law 1191 = .ok (.iconst 0, 1) := by decide +kernel
theorem dL_law_1192 : decode cL_law 1192 = .ok (.ireturn, 1) := by decide +kernel
theorem dL_law_1193 : decode cL_law 1193 = .ok (.aload_n 1, 1) := by decide +kernel
theorem dL_law_1194 : decode cL_law 1194 = .ok (.aload_n 0, 1) := by decide +kernel
theorem dL_law_1195 : decode cL_law 1195 = .ok (.iload_n 3, 1) := by decide +kernel
theorem dL_law_1196 : decode cL_law 1196 = .ok (.iconst 1, 1) := by decide +kernel
theorem dL_law_1197 : decode cL_law 1197 = .ok (.iadd, 1) := by decide +kernel
theorem dL_law_1198 : decode cL_law 1198 = .ok (.iaload, 1) := by decide +kernel
theorem dL_law_1199 : decode cL_law 1199 = .ok (.invokevirtual 153, 3) := by decide +kernel
theorem dL_law_1202 : decode cL_law 1202 = .ok (.aload_n 2, 1) := by decide +kernel
theorem dL_law_1203 : decode cL_law 1203 = .ok (.aload_n 0, 1) := by decide +kernel
theorem dL_law_1204 : decode cL_law 1204 = .ok (.iload_n 3, 1) := by decide +kernel
theorem dL_law_1205 : decode cL_law 1205 = .ok (.iconst 1, 1) := by decide +kernel
theorem dL_law_1206 : decode cL_law 1206 = .ok (.iadd, 1) := by decide +kernel
theorem dL_law_1207 : decode cL_law 1207 = .ok (.iaload, 1) := by decide +kernel
theorem dL_law_1208 : decode cL_law 1208 = .ok (.invokevirtual 156, 3) := by decide +kernel
theorem dL_law_1211 : decode cL_law 1211 = .ok (.if_icmp .eq 42, 3) := by decide +kernel
theorem dL_law_1214 : decode cL_law 1214 = .ok (.iconst 0, 1) := by decide +kernel
theorem dL_law_1215 : decode cL_law 1215 = .ok (.ireturn, 1) := by decide +kernel
theorem dL_law_1216 : decode cL_law 1216 = .ok (.aload_n 1, 1) := by decide +kernel
theorem dL_law_1217 : decode cL_law 1217 = .ok (.aload_n 0, 1) := by decide +kernel
theorem dL_law_1218 : decode cL_law 1218 = .ok (.iload_n 3, 1) := by decide +kernel
theorem dL_law_1219 : decode cL_law 1219 = .ok (.iconst 1, 1) := by decide +kernel
theorem dL_law_1220 : decode cL_law 1220 = .ok (.iadd, 1) := by decide +kernel
theorem dL_law_1221 : decode cL_law 1221 = .ok (.iaload, 1) := by decide +kernel
theorem dL_law_1222 : decode cL_law 1222 = .ok (.invokevirtual 157, 3) := by decide +kernel
theorem dL_law_1225 : decode cL_law 1225 = .ok (.aload_n 2, 1) := by decide +kernel
theorem dL_law_1226 : decode cL_law 1226 = .ok (.aload_n 0, 1) := by decide +kernel
theorem dL_law_1227 : decode cL_law 1227 = .ok (.iload_n 3, 1) := by decide +kernel
theorem dL_law_1228 : decode cL_law 1228 = .ok (.iconst 1, 1) := by decide +kernel
theorem dL_law_1229 : decode cL_law 1229 = .ok (.iadd, 1) := by decide +kernel
theorem dL_law_1230 : decode cL_law 1230 = .ok (.iaload, 1) := by decide +kernel
theorem dL_law_1231 : decode cL_law 1231 = .ok (.invokevirtual 160, 3) := by decide +kernel
theorem dL_law_1234 : decode cL_law 1234 = .ok (.if_icmp .eq 19, 3) := by decide +kernel
theorem dL_law_1237 : decode cL_law 1237 = .ok (.iconst 0, 1) := by decide +kernel
theorem dL_law_1238 : decode cL_law 1238 = .ok (.ireturn, 1) := by decide +kernel
theorem dL_law_1239 : decode cL_law 1239 = .ok (.aload_n 1, 1) := by decide +kernel
theorem dL_law_1240 : decode cL_law 1240 = .ok (.invokevirtual 161, 3) := by decide +kernel
theorem dL_law_1243 : decode cL_law 1243 = .ok (.aload_n 2, 1) := by decide +kernel
theorem dL_law_1244 : decode cL_law 1244 = .ok (.invokevirtual 165, 3) := by decide +kernel
theorem dL_law_1247 : decode cL_law 1247 = .ok (.lcmp, 1) := by decide +kernel
theorem dL_law_1248 : decode cL_law 1248 = .ok (.ifCond .eq 5, 3) := by decide +kernel
theorem dL_law_1251 : decode cL_law 1251 = .ok (.iconst 0, 1) := by decide +kernel
theorem dL_law_1252 : decode cL_law 1252 = .ok (.ireturn, 1) := by decide +kernel
theorem dL_law_1253 : decode cL_law 1253 = .ok (.iinc 3 6, 3) := by decide +kernel
theorem dL_law_1256 : decode cL_law 1256 = .ok (.goto (-1238), 3) := by decide +kernel
theorem dL_law_1259 : decode cL_law 1259 = .ok (.iconst 1, 1) := by decide +kernel
theorem dL_law_1260 : decode cL_law 1260 = .ok (.ireturn, 1) := by decide +kernel
end
section
/-! ===== the core: a method's contract MM_ over a whole world of int components, a point of its body GG_, a rule an instruction ===== -/
/-- a state of a world: component i, place j (a field of ints is the place 0 of its component) -/
abbrev St_ : Type := Nat → Nat → Int32
def su_ (σ : St_) (i j : Nat) (v : Int32) : St_ := fun k => if k = i then upd (σ k) j v else σ k
def sf_ (σ : St_) (i : Nat) (f : Nat → Int32) : St_ := fun k => if k = i then f else σ k
/-- a method: name, bytes, locals, answer's type; frames and words of locals that its calls may take -/
abbrev MI_ : Type := MethodName × ByteArray × Nat × Option FieldType × Nat × Nat
/-- launch, class numbers, array classes, world, the cells of the static tables -/
abbrev Zt_ : Type := Launch × va_G × List (ClassId × FieldType) × (St_ → va_W) × (Nat → Nat)
def cls_ : List vw_C := [(RX0, TX0, 13), (RX1, TX1, 4), (RX2, TX2, 2), (RX3, TX3, 5), (RX4, TX4, 6), (RX5, TX5, 2), (RX6, TX6, 3), (RX7, TX7, 3), (RX8, TX8, 2), (RX9, TX9, 14), (RX10, TX10, 44)]
def tg_ : List Cond := lw_tbl.filter goodWord
theorem tg_m {w : Cond} (i : Nat) (h : lw_tbl[i]? = some w) (hg : goodWord w = true) : w ∈ tg_ := List.mem_filter.mpr ⟨List.mem_of_getElem? h, hg⟩
theorem tg_good {w : Cond} (h : w ∈ tg_) : (w.onTables && w.keeps) = true ∨ ∃ ty, w = .arrayClass ty := good_of_word (List.mem_filter.mp h).2
def ws_ (y : MI_) : List Cond := Cond.code y.1 y.2.1 y.2.2.1 y.2.2.2.1 :: tg_
def rm_ (y : MI_) : Room := { frames := y.2.2.2.2.1, cells := 0, slots := 0, locals := y.2.2.2.2.2 }
def nst_ : List Cond := [.methodLinkNest "LinenHouse$Chamber" 64 yX9_within "LinenHouse", .methodLinkNest "LinenHouse$Chamber" 109 yX9_rather "LinenHouse", .methodLinkNest "LinenHouse$Chamber" 113 yX9_warmth "LinenHouse", .methodLinkNest "LinenHouse$Roll" 53 yX9_within "LinenHouse", .methodLinkNest "LinenHouse$Roll" 60 yX9_rather "LinenHouse", .fieldLinkNest "LinenHouse$Shares" 41 "LinenHouse" "FACTORIAL" "[I" "LinenHouse"]
def tW_ (j : Nat) : Int32 := ([0, 1, 2, 0, 2, 1, 1, 0, 2, 1, 2, 0, 2, 0, 1, 2, 1, 0] : List Int32).getD j 0
def tP_ (j : Nat) : Int32 := ([0, 1, 2, 0, 2, 1, 1, 0, 2, 2, 0, 1, 1, 2, 0, 2, 1, 0] : List Int32).getD j 0
def tD_ (j : Nat) : Int32 := ([0, 4, 9] : List Int32).getD j 0
def tF_ (j : Nat) : Int32 := ([1, 1, 2, 6, 24, 120, 720, 5040, 40320] : List Int32).getD j 0
/-- a static table: the field holds the cell t, which holds N ints -/
def Tb_ (nm : String) (t N : Nat) (f : Nat → Int32) (A : Nat → Prop) (U : State) (H : Heap) : Prop := va_Z "LinenHouse" nm "[I" (.ref t) A U H ∧ va_T .int t N (fun j => .int (f j)) A U H
/-- what every method here takes as given of tables and statics -/
def Ev_ (z : Zt_) (A : Nat → Prop) (U : State) (H : Heap) : Prop := va_K z.2.1 cls_ z.2.2.1 U ∧ (∀ w ∈ nst_, va_Nw w U) ∧ Tb_ "WANTED" (z.2.2.2.2 0) 18 tW_ A U H ∧ Tb_ "PLACE" (z.2.2.2.2 1) 18 tP_ A U H ∧ Tb_ "DIGESTED_NIGHTS" (z.2.2.2.2 2) 3 tD_ A U H ∧ Tb_ "FACTORIAL" (z.2.2.2.2 3) 9 tF_ A U H
theorem Tb_.moved {nm : String} {t N : Nat} {f : Nat → Int32} {A : Nat → Prop} {u U : State} {H : Heap} (hvm : u.vm.Alike U.vm) (h : Tb_ nm t N f A u H) : Tb_ nm t N f A U H := ⟨va_Z.moved hvm h.1, va_T.moved hvm h.2⟩
theorem Tb_.kept {nm : String} {t N : Nat} {f : Nat → Int32} {A : Nat → Prop} {U : State} {H H1 : Heap} (h : Tb_ nm t N f A U H) (hq : ∀ a : Nat, a < H.size → ¬ A a → H1[a]? = H[a]?) : Tb_ nm t N f A U H1 := ⟨h.1.kept hq, h.2.kept hq⟩
theorem Tb_.narrow {nm : String} {t N : Nat} {f : Nat → Int32} {A B : Nat → Prop} {U : State} {H : Heap} (h : Tb_ nm t N f A U H) (hAB : ∀ q, B q → A q) : Tb_ nm t N f B U H := ⟨h.1.narrow hAB, h.2.narrow hAB⟩
theorem nst_same {u U : State} (h : u.vm = U.vm) (hN : ∀ w ∈ nst_, va_Nw w u) : ∀ w ∈ nst_, va_Nw w U := by
  have ho : ∀ w ∈ nst_, w.onTables = true := by decide +kernel
  exact fun w hw => va_Nw.same (ho w hw) h (hN w hw)
theorem nst_warm {s U : State} (hW : s.WarmedH U.vm) (hN : ∀ w ∈ nst_, va_Nw w s) : ∀ w ∈ nst_, va_Nw w U := by
  intro w hw
  have h := hN w hw
  simp only [nst_, List.mem_cons, List.not_mem_nil, or_false] at hw
  rcases hw with rfl | rfl | rfl | rfl | rfl | rfl <;> first | exact va_Nw.warmM hW h | exact va_Nw.warmF hW h
theorem Ev_.calling {z : Zt_} {A : Nat → Prop} {U : State} {g : JFrame} {mk : MethodId} {a : Array Value} (h : Ev_ z A U U.heap) : Ev_ z A (U.calling g mk a) (U.calling g mk a).heap := by
  have hv : U.vm.Alike (U.calling g mk a).vm := Vm.Alike.refl U.vm
  exact ⟨va_K.moved hv h.1, nst_same (u := U) (U := U.calling g mk a) rfl h.2.1, h.2.2.1.moved hv, h.2.2.2.1.moved hv, h.2.2.2.2.1.moved hv, h.2.2.2.2.2.moved hv⟩
theorem Ev_.on {z : Zt_} {A B : Nat → Prop} {s U : State} {H : Heap} {locs : List Loc} (h : Ev_ z A s s.heap) (hS : va_S A s.heap H locs) (hAB : ∀ q, B q → A q) (hU : U.heap = H) (hW : s.WarmedH U.vm) : Ev_ z B U U.heap := by
  have hv := hW.alike
  have hq : ∀ a : Nat, a < s.heap.size → ¬ A a → U.heap[a]? = s.heap[a]? := by rw [hU]; exact hS.2.1
  exact ⟨va_K.moved hv h.1, nst_warm hW h.2.1, ((h.2.2.1.kept hq).narrow hAB).moved hv, ((h.2.2.2.1.kept hq).narrow hAB).moved hv, ((h.2.2.2.2.1.kept hq).narrow hAB).moved hv, ((h.2.2.2.2.2.kept hq).narrow hAB).moved hv⟩
/-- the cells of a world, whatever its state, and what is made -/
def Aw_ (z : Zt_) (sz : Nat) : Nat → Prop := fun a => (∃ (σ : St_) (k : Nat) (e : va_E), (z.2.2.2.1 σ)[k]? = some (a, e)) ∨ sz ≤ a
def Wok_ (z : Zt_) : Prop := ∀ σ, va_D (fun _ => True) (z.2.2.2.1 σ)
def Qx_ (z : Zt_) (Post : Option Value → St_ → Prop) (A : Nat → Prop) : Array Value → State → Outcome → State → Prop := fun _ st oc t => (∃ (v : Option Value) (σ : St_), oc = .returned v ∧ Post v σ ∧ va_P z.2.1 cls_ (z.2.2.2.1 σ) t.heap) ∧ va_F A st t
def Pc_ (z : Zt_) (as : List Value) (σ : St_) (sz : Nat) : Array Value → State → Prop := va_Pc as (fun U => U.heap.size = sz ∧ va_P z.2.1 cls_ (z.2.2.2.1 σ) U.heap ∧ Ev_ z (Aw_ z sz) U U.heap)
/-- the method, called at as in a world that stands at σ, returns, with an answer and a world that Post takes -/
def MM_ (z : Zt_) (y : MI_) (as : List Value) (σ : St_) (Post : Option Value → St_ → Prop) : Prop := Wok_ z → ∀ sz : Nat, Met z.1 y.1 (ws_ y) (rm_ y) (Pc_ z as σ sz) (Qx_ z Post (Aw_ z sz)) 0 0 (Aw_ z sz)
theorem MM_.mono {z : Zt_} {y : MI_} {as : List Value} {σ : St_} {P P' : Option Value → St_ → Prop} (h : MM_ z y as σ P) (hP : ∀ v σ', P v σ' → P' v σ') : MM_ z y as σ P' := by
  intro hz sz
  refine MetFree.mono (h hz sz) (fun _ _ h => h) (fun _ _ _ _ _ h => h) ?_
  rintro a s o s' - ⟨⟨⟨v, σ', h1, h2, h3⟩, h4⟩, h5⟩
  exact ⟨⟨⟨v, σ', h1, hP v σ' h2, h3⟩, h4⟩, h5⟩
abbrev MMi_ (z : Zt_) (y : MI_) (as : List Value) (σ : St_) (P : Int32 → St_ → Prop) : Prop := MM_ z y as σ (fun v σ' => ∃ r : Int32, v = some (.int r) ∧ P r σ')
abbrev MMl_ (z : Zt_) (y : MI_) (as : List Value) (σ : St_) (P : Int64 → St_ → Prop) : Prop := MM_ z y as σ (fun v σ' => ∃ r : Int64, v = some (.long r) ∧ P r σ')
abbrev MMv_ (z : Zt_) (y : MI_) (as : List Value) (σ : St_) (P : St_ → Prop) : Prop := MM_ z y as σ (fun v σ' => v = none ∧ P σ')
theorem MMi_mono {z : Zt_} {y : MI_} {as : List Value} {σ : St_} {P P' : Int32 → St_ → Prop} (h : MMi_ z y as σ P) (hP : ∀ r σ', P r σ' → P' r σ') : MMi_ z y as σ P' := MM_.mono h (fun _ σ' ⟨r, e, q⟩ => ⟨r, e, hP r σ' q⟩)
theorem MMl_mono {z : Zt_} {y : MI_} {as : List Value} {σ : St_} {P P' : Int64 → St_ → Prop} (h : MMl_ z y as σ P) (hP : ∀ r σ', P r σ' → P' r σ') : MMl_ z y as σ P' := MM_.mono h (fun _ σ' ⟨r, e, q⟩ => ⟨r, e, hP r σ' q⟩)
theorem MMv_mono {z : Zt_} {y : MI_} {as : List Value} {σ : St_} {P P' : St_ → Prop} (h : MMv_ z y as σ P) (hP : ∀ σ', P σ' → P' σ') : MMv_ z y as σ P' := MM_.mono h (fun _ σ' ⟨e, q⟩ => ⟨e, hP σ' q⟩)
/-- what holds all through a method's body -/
def Cx_ (z : Zt_) (y : MI_) (p : Program) (s : State) (m : MethodId) (args : Array Value) (meth : Method) (c : Code) (A : Nat → Prop) : Prop :=
  p.tables.exec = Jvm.exec ∧ c.code = y.2.1 ∧ c.maxLocals = y.2.2.1 ∧ meth.sig.returnType = y.2.2.2.1 ∧ meth.locks = false ∧ s.vm.findClass y.1.cls = some m.cls ∧ (∀ w ∈ ws_ y, w.before args s = true) ∧ Ev_ z A s s.heap ∧ (∀ σ, va_D A (z.2.2.2.1 σ)) ∧ ∀ q : Nat, s.heap.size ≤ q → A q
/-- a point of a method's body: from it the method comes to its end, with Post -/
def GG_ (z : Zt_) (y : MI_) (Post : Option Value → St_ → Prop) (pc : Nat) (L : List (Nat × Value)) (st : List Value) (σ : St_) : Prop :=
  ∀ (p : Program) (e : Env) (s : State) (m : MethodId) (args : Array Value) (below : List Frame) (meth : Method) (c : Code) (A : Nat → Prop), Cx_ z y p s m args meth c A →
  ∀ (ls : Array Slot) (H : Heap) (locs : List Loc), lv_has ls y.2.2.1 L → va_P z.2.1 cls_ (z.2.2.2.1 σ) H → va_S A s.heap H locs → W p z.1 e (rm_ y) s m args below meth c H locs 0 0 (MQ below (Qx_ z Post A) args s 0 0 A) (F0 m pc ls st)
theorem MM_.of {z : Zt_} {y : MI_} {as : List Value} {σ : St_} {Post : Option Value → St_ → Prop} (hy : plainName y.1.cls = true) (hn : (lg_sl as).length ≤ y.2.2.1) {L : List (Nat × Value)} (hL : lv_args 0 as = L) (k : GG_ z y Post 0 L [] σ) : MM_ z y as σ Post := by
  intro hz sz
  refine Met.ofW (cc := y.2.1) (maxL := y.2.2.1) (ret := y.2.2.2.1) hy rfl ?_
  intro p e s m args below meth c s₁ B hml hv
  obtain ⟨rfl, hsz, hP, hE⟩ := hv
  subst hsz
  have hl := lv_entry as (n := y.2.2.1) hn
  rw [lg_entry_eq]
  generalize (lg_sl as ++ List.replicate (y.2.2.1 - (lg_sl as).length) Slot.unset).toArray = ls at hl ⊢
  rw [hL] at hl
  refine k p e s m as.toArray below meth c (Aw_ z s.heap.size) ⟨B.exec, B.bytes, hml, B.returns, B.notSynchronized, findClass_of_methodNamed B.named, atoms_spec (ws := ws_ y) B.pre, hE, fun σ => ⟨(hz σ).1, fun k q hk => Or.inl ⟨σ, k, q.2, hk⟩⟩, fun q h => Or.inr h⟩ ls s.heap [] hl hP va_S.rf
section GR
variable {z : Zt_} {y : MI_} {Post : Option Value → St_ → Prop} {pc : Nat} {L : List (Nat × Value)} {st : List Value} {σ : St_}
theorem GG_.sub {L' : List (Nat × Value)} (ks : List Nat) (h : lv_pick L ks = L') (k : GG_ z y Post pc L' st σ) : GG_ z y Post pc L st σ :=
  fun p e s m args below meth c A C ls H locs hl hP hS => k p e s m args below meth c A C ls H locs (lv_sub hl ks h) hP hS
/-- locals by what they hold, in any order -/
theorem GG_.loc {L' : List (Nat × Value)} (h : ∀ q ∈ L', q ∈ L) (k : GG_ z y Post pc L' st σ) : GG_ z y Post pc L st σ :=
  fun p e s m args below meth c A C ls H locs hl hP hS => k p e s m args below meth c A C ls H locs ⟨hl.1, hl.2.1, fun q hq => hl.2.2 q (h q hq)⟩ hP hS
theorem g_iconst {n : Int} {v : Int32} (hd : decode y.2.1 pc = .ok (.iconst n, 1)) (hv : Int32.ofInt n = v) (k : GG_ z y Post (pc + 1) L (.int v :: st) σ) : GG_ z y Post pc L (st) σ :=
  fun p e s m args below meth c A C ls H locs hl hP hS => lv_iconst C.1 C.2.1 hd hv (k p e s m args below meth c A C ls H locs hl hP hS)
theorem g_bipush {n : Int} {v : Int32} (hd : decode y.2.1 pc = .ok (.bipush n, 2)) (hv : (Int8.ofInt n).toInt32 = v) (k : GG_ z y Post (pc + 2) L (.int v :: st) σ) : GG_ z y Post pc L (st) σ :=
  fun p e s m args below meth c A C ls H locs hl hP hS => lv_bipush C.1 C.2.1 hd hv (k p e s m args below meth c A C ls H locs hl hP hS)
theorem g_sipush {n : Int} {v : Int32} (hd : decode y.2.1 pc = .ok (.sipush n, 3)) (hv : (Int16.ofInt n).toInt32 = v) (k : GG_ z y Post (pc + 3) L (.int v :: st) σ) : GG_ z y Post pc L (st) σ :=
  fun p e s m args below meth c A C ls H locs hl hP hS => lv_sipush C.1 C.2.1 hd hv (k p e s m args below meth c A C ls H locs hl hP hS)
theorem g_lconst {n : Fin 2} {v : Int64} (hd : decode y.2.1 pc = .ok (.lconst n, 1)) (hv : Int64.ofNat (n : Nat) = v) (k : GG_ z y Post (pc + 1) L (.long v :: st) σ) : GG_ z y Post pc L (st) σ :=
  fun p e s m args below meth c A C ls H locs hl hP hS => lv_lconst C.1 C.2.1 hd hv (k p e s m args below meth c A C ls H locs hl hP hS)
theorem g_iload_n {j : Fin 4} {i : Nat} {x : Int32} (hd : decode y.2.1 pc = .ok (.iload_n j, 1)) (kl : Nat) (hk : L[kl]? = some (i, .int x)) (hi : (j : Nat) = i) (k : GG_ z y Post (pc + 1) L (.int x :: st) σ) : GG_ z y Post pc L (st) σ :=
  fun p e s m args below meth c A C ls H locs hl hP hS => lv_iload_n C.1 C.2.1 hd hi (lv_at hl kl hk) (k p e s m args below meth c A C ls H locs hl hP hS)
theorem g_iload {i : Nat} {x : Int32} (hd : decode y.2.1 pc = .ok (.iload i, 2)) (kl : Nat) (hk : L[kl]? = some (i, .int x)) (k : GG_ z y Post (pc + 2) L (.int x :: st) σ) : GG_ z y Post pc L (st) σ :=
  fun p e s m args below meth c A C ls H locs hl hP hS => lv_iload C.1 C.2.1 hd (lv_at hl kl hk) (k p e s m args below meth c A C ls H locs hl hP hS)
theorem g_lload_n {j : Fin 4} {i : Nat} {x : Int64} (hd : decode y.2.1 pc = .ok (.lload_n j, 1)) (kl : Nat) (hk : L[kl]? = some (i, .long x)) (hi : (j : Nat) = i) (k : GG_ z y Post (pc + 1) L (.long x :: st) σ) : GG_ z y Post pc L (st) σ :=
  fun p e s m args below meth c A C ls H locs hl hP hS => lv_lload_n C.1 C.2.1 hd hi (lv_at hl kl hk) (k p e s m args below meth c A C ls H locs hl hP hS)
theorem g_lload {i : Nat} {x : Int64} (hd : decode y.2.1 pc = .ok (.lload i, 2)) (kl : Nat) (hk : L[kl]? = some (i, .long x)) (k : GG_ z y Post (pc + 2) L (.long x :: st) σ) : GG_ z y Post pc L (st) σ :=
  fun p e s m args below meth c A C ls H locs hl hP hS => lv_lload C.1 C.2.1 hd (lv_at hl kl hk) (k p e s m args below meth c A C ls H locs hl hP hS)
theorem g_aload_n {j : Fin 4} {i : Nat} {x : Nat} (hd : decode y.2.1 pc = .ok (.aload_n j, 1)) (kl : Nat) (hk : L[kl]? = some (i, .ref x)) (hi : (j : Nat) = i) (k : GG_ z y Post (pc + 1) L (.ref x :: st) σ) : GG_ z y Post pc L (st) σ :=
  fun p e s m args below meth c A C ls H locs hl hP hS => lv_aload_n C.1 C.2.1 hd hi (lv_at hl kl hk) (k p e s m args below meth c A C ls H locs hl hP hS)
theorem g_aload {i : Nat} {x : Nat} (hd : decode y.2.1 pc = .ok (.aload i, 2)) (kl : Nat) (hk : L[kl]? = some (i, .ref x)) (k : GG_ z y Post (pc + 2) L (.ref x :: st) σ) : GG_ z y Post pc L (st) σ :=
  fun p e s m args below meth c A C ls H locs hl hP hS => lv_aload C.1 C.2.1 hd (lv_at hl kl hk) (k p e s m args below meth c A C ls H locs hl hP hS)
theorem g_istore_n {j : Fin 4} {i : Nat} {x : Int32} {L' : List (Nat × Value)} (hd : decode y.2.1 pc = .ok (.istore_n j, 1)) (hi : (j : Nat) = i) (hn : i < y.2.2.1) (hL : (i, Value.int x) :: L.filter (fun q => !(q.1 == i) && !(q.1 + 1 == i && q.2.category == 2)) = L') (k : GG_ z y Post (pc + 1) L' st σ) : GG_ z y Post pc L (.int x :: st) σ :=
  fun p e s m args below meth c A C ls H locs hl hP hS => lv_istore_n C.1 C.2.1 hd hi hl hn hL (fun ls hl => k p e s m args below meth c A C ls H locs hl hP hS)
theorem g_istore {i : Nat} {x : Int32} {L' : List (Nat × Value)} (hd : decode y.2.1 pc = .ok (.istore i, 2)) (hn : i < y.2.2.1) (hL : (i, Value.int x) :: L.filter (fun q => !(q.1 == i) && !(q.1 + 1 == i && q.2.category == 2)) = L') (k : GG_ z y Post (pc + 2) L' st σ) : GG_ z y Post pc L (.int x :: st) σ :=
  fun p e s m args below meth c A C ls H locs hl hP hS => lv_istore C.1 C.2.1 hd hl hn hL (fun ls hl => k p e s m args below meth c A C ls H locs hl hP hS)
theorem g_lstore_n {j : Fin 4} {i : Nat} {x : Int64} {L' : List (Nat × Value)} (hd : decode y.2.1 pc = .ok (.lstore_n j, 1)) (hi : (j : Nat) = i) (hn : i + 1 < y.2.2.1) (hL : (i, Value.long x) :: L.filter (fun q => !(q.1 == i) && (!(q.1 == i + 1) && !(q.1 + 1 == i && q.2.category == 2))) = L') (k : GG_ z y Post (pc + 1) L' st σ) : GG_ z y Post pc L (.long x :: st) σ :=
  fun p e s m args below meth c A C ls H locs hl hP hS => lv_lstore_n C.1 C.2.1 hd hi hl hn hL (fun ls hl => k p e s m args below meth c A C ls H locs hl hP hS)
theorem g_lstore {i : Nat} {x : Int64} {L' : List (Nat × Value)} (hd : decode y.2.1 pc = .ok (.lstore i, 2)) (hn : i + 1 < y.2.2.1) (hL : (i, Value.long x) :: L.filter (fun q => !(q.1 == i) && (!(q.1 == i + 1) && !(q.1 + 1 == i && q.2.category == 2))) = L') (k : GG_ z y Post (pc + 2) L' st σ) : GG_ z y Post pc L (.long x :: st) σ :=
  fun p e s m args below meth c A C ls H locs hl hP hS => lv_lstore C.1 C.2.1 hd hl hn hL (fun ls hl => k p e s m args below meth c A C ls H locs hl hP hS)
theorem g_astore_n {j : Fin 4} {i : Nat} {x : Nat} {L' : List (Nat × Value)} (hd : decode y.2.1 pc = .ok (.astore_n j, 1)) (hi : (j : Nat) = i) (hn : i < y.2.2.1) (hL : (i, Value.ref x) :: L.filter (fun q => !(q.1 == i) && !(q.1 + 1 == i && q.2.category == 2)) = L') (k : GG_ z y Post (pc + 1) L' st σ) : GG_ z y Post pc L (.ref x :: st) σ :=
  fun p e s m args below meth c A C ls H locs hl hP hS => lv_astore_n C.1 C.2.1 hd hi hl hn hL (fun ls hl => k p e s m args below meth c A C ls H locs hl hP hS)
theorem g_astore {i : Nat} {x : Nat} {L' : List (Nat × Value)} (hd : decode y.2.1 pc = .ok (.astore i, 2)) (hn : i < y.2.2.1) (hL : (i, Value.ref x) :: L.filter (fun q => !(q.1 == i) && !(q.1 + 1 == i && q.2.category == 2)) = L') (k : GG_ z y Post (pc + 2) L' st σ) : GG_ z y Post pc L (.ref x :: st) σ :=
  fun p e s m args below meth c A C ls H locs hl hP hS => lv_astore C.1 C.2.1 hd hl hn hL (fun ls hl => k p e s m args below meth c A C ls H locs hl hP hS)
theorem g_iinc {i : Nat} {n : Int} {x v : Int32} {L' : List (Nat × Value)} (hd : decode y.2.1 pc = .ok (.iinc i n, 3)) (kl : Nat) (hk : L[kl]? = some (i, .int x)) (hv : x + Int32.ofInt n = v) (hn : i < y.2.2.1) (hL : (i, Value.int v) :: L.filter (fun q => !(q.1 == i) && !(q.1 + 1 == i && q.2.category == 2)) = L') (k : GG_ z y Post (pc + 3) L' st σ) : GG_ z y Post pc L st σ :=
  fun p e s m args below meth c A C ls H locs hl hP hS => lv_iinc C.1 C.2.1 hd hl hk hv hn hL (fun ls hl => k p e s m args below meth c A C ls H locs hl hP hS)
theorem g_iadd {a b : Int32} (hd : decode y.2.1 pc = .ok (.iadd, 1)) (k : GG_ z y Post (pc + 1) L (.int (a + b) :: st) σ) : GG_ z y Post pc L (.int b :: .int a :: st) σ :=
  fun p e s m args below meth c A C ls H locs hl hP hS => lv_iadd C.1 C.2.1 hd (k p e s m args below meth c A C ls H locs hl hP hS)
theorem g_isub {a b : Int32} (hd : decode y.2.1 pc = .ok (.isub, 1)) (k : GG_ z y Post (pc + 1) L (.int (a - b) :: st) σ) : GG_ z y Post pc L (.int b :: .int a :: st) σ :=
  fun p e s m args below meth c A C ls H locs hl hP hS => lv_isub C.1 C.2.1 hd (k p e s m args below meth c A C ls H locs hl hP hS)
theorem g_imul {a b : Int32} (hd : decode y.2.1 pc = .ok (.imul, 1)) (k : GG_ z y Post (pc + 1) L (.int (a * b) :: st) σ) : GG_ z y Post pc L (.int b :: .int a :: st) σ :=
  fun p e s m args below meth c A C ls H locs hl hP hS => lv_imul C.1 C.2.1 hd (k p e s m args below meth c A C ls H locs hl hP hS)
theorem g_iand {a b : Int32} (hd : decode y.2.1 pc = .ok (.iand, 1)) (k : GG_ z y Post (pc + 1) L (.int (a &&& b) :: st) σ) : GG_ z y Post pc L (.int b :: .int a :: st) σ :=
  fun p e s m args below meth c A C ls H locs hl hP hS => lv_iand C.1 C.2.1 hd (k p e s m args below meth c A C ls H locs hl hP hS)
theorem g_ior {a b : Int32} (hd : decode y.2.1 pc = .ok (.ior, 1)) (k : GG_ z y Post (pc + 1) L (.int (a ||| b) :: st) σ) : GG_ z y Post pc L (.int b :: .int a :: st) σ :=
  fun p e s m args below meth c A C ls H locs hl hP hS => lv_ior C.1 C.2.1 hd (k p e s m args below meth c A C ls H locs hl hP hS)
theorem g_ixor {a b : Int32} (hd : decode y.2.1 pc = .ok (.ixor, 1)) (k : GG_ z y Post (pc + 1) L (.int (a ^^^ b) :: st) σ) : GG_ z y Post pc L (.int b :: .int a :: st) σ :=
  fun p e s m args below meth c A C ls H locs hl hP hS => lv_ixor C.1 C.2.1 hd (k p e s m args below meth c A C ls H locs hl hP hS)
theorem g_ishl {a b : Int32} (hd : decode y.2.1 pc = .ok (.ishl, 1)) (k : GG_ z y Post (pc + 1) L (.int (a <<< (b &&& 31)) :: st) σ) : GG_ z y Post pc L (.int b :: .int a :: st) σ :=
  fun p e s m args below meth c A C ls H locs hl hP hS => lv_ishl C.1 C.2.1 hd (k p e s m args below meth c A C ls H locs hl hP hS)
theorem g_ishr {a b : Int32} (hd : decode y.2.1 pc = .ok (.ishr, 1)) (k : GG_ z y Post (pc + 1) L (.int (a >>> (b &&& 31)) :: st) σ) : GG_ z y Post pc L (.int b :: .int a :: st) σ :=
  fun p e s m args below meth c A C ls H locs hl hP hS => lv_ishr C.1 C.2.1 hd (k p e s m args below meth c A C ls H locs hl hP hS)
theorem g_idiv {a b : Int32} (hd : decode y.2.1 pc = .ok (.idiv, 1)) (h0 : ¬ b = 0) (k : GG_ z y Post (pc + 1) L (.int (a / b) :: st) σ) : GG_ z y Post pc L (.int b :: .int a :: st) σ :=
  fun p e s m args below meth c A C ls H locs hl hP hS => lv_idiv C.1 C.2.1 hd h0 (k p e s m args below meth c A C ls H locs hl hP hS)
theorem g_irem {a b : Int32} (hd : decode y.2.1 pc = .ok (.irem, 1)) (h0 : ¬ b = 0) (k : GG_ z y Post (pc + 1) L (.int (a - a / b * b) :: st) σ) : GG_ z y Post pc L (.int b :: .int a :: st) σ :=
  fun p e s m args below meth c A C ls H locs hl hP hS => lv_irem C.1 C.2.1 hd h0 (k p e s m args below meth c A C ls H locs hl hP hS)
theorem g_ineg {a : Int32} (hd : decode y.2.1 pc = .ok (.ineg, 1)) (k : GG_ z y Post (pc + 1) L (.int (0 - a) :: st) σ) : GG_ z y Post pc L (.int a :: st) σ :=
  fun p e s m args below meth c A C ls H locs hl hP hS => lv_ineg C.1 C.2.1 hd (k p e s m args below meth c A C ls H locs hl hP hS)
theorem g_iushr {a b : Int32} (hd : decode y.2.1 pc = .ok (.iushr, 1)) (k : GG_ z y Post (pc + 1) L (.int ((a.toUInt32 >>> (b.toUInt32 &&& Int32.toUInt32 31)).toInt32) :: st) σ) : GG_ z y Post pc L (.int b :: .int a :: st) σ :=
  fun p e s m args below meth c A C ls H locs hl hP hS => lv_iushr C.1 C.2.1 hd rfl (k p e s m args below meth c A C ls H locs hl hP hS)
theorem g_ladd {a b : Int64} (hd : decode y.2.1 pc = .ok (.ladd, 1)) (k : GG_ z y Post (pc + 1) L (.long (a + b) :: st) σ) : GG_ z y Post pc L (.long b :: .long a :: st) σ :=
  fun p e s m args below meth c A C ls H locs hl hP hS => lv_ladd C.1 C.2.1 hd (k p e s m args below meth c A C ls H locs hl hP hS)
theorem g_lsub {a b : Int64} (hd : decode y.2.1 pc = .ok (.lsub, 1)) (k : GG_ z y Post (pc + 1) L (.long (a - b) :: st) σ) : GG_ z y Post pc L (.long b :: .long a :: st) σ :=
  fun p e s m args below meth c A C ls H locs hl hP hS => lv_lsub C.1 C.2.1 hd (k p e s m args below meth c A C ls H locs hl hP hS)
theorem g_lmul {a b : Int64} (hd : decode y.2.1 pc = .ok (.lmul, 1)) (k : GG_ z y Post (pc + 1) L (.long (a * b) :: st) σ) : GG_ z y Post pc L (.long b :: .long a :: st) σ :=
  fun p e s m args below meth c A C ls H locs hl hP hS => lv_lmul C.1 C.2.1 hd (k p e s m args below meth c A C ls H locs hl hP hS)
theorem g_ldiv {a b : Int64} (hd : decode y.2.1 pc = .ok (.ldiv, 1)) (h0 : ¬ b = 0) (k : GG_ z y Post (pc + 1) L (.long (a / b) :: st) σ) : GG_ z y Post pc L (.long b :: .long a :: st) σ :=
  fun p e s m args below meth c A C ls H locs hl hP hS => lv_ldiv C.1 C.2.1 hd h0 (k p e s m args below meth c A C ls H locs hl hP hS)
theorem g_lrem {a b : Int64} (hd : decode y.2.1 pc = .ok (.lrem, 1)) (h0 : ¬ b = 0) (k : GG_ z y Post (pc + 1) L (.long (a - a / b * b) :: st) σ) : GG_ z y Post pc L (.long b :: .long a :: st) σ :=
  fun p e s m args below meth c A C ls H locs hl hP hS => lv_lrem C.1 C.2.1 hd h0 (k p e s m args below meth c A C ls H locs hl hP hS)
theorem g_lshl {a : Int64} {b : Int32} (hd : decode y.2.1 pc = .ok (.lshl, 1)) (k : GG_ z y Post (pc + 1) L (.long (a <<< (b.toInt64 &&& 63)) :: st) σ) : GG_ z y Post pc L (.int b :: .long a :: st) σ :=
  fun p e s m args below meth c A C ls H locs hl hP hS => lv_lshl C.1 C.2.1 hd rfl (k p e s m args below meth c A C ls H locs hl hP hS)
theorem g_i2l {a : Int32} (hd : decode y.2.1 pc = .ok (.i2l, 1)) (k : GG_ z y Post (pc + 1) L (.long a.toInt64 :: st) σ) : GG_ z y Post pc L (.int a :: st) σ :=
  fun p e s m args below meth c A C ls H locs hl hP hS => lv_i2l C.1 C.2.1 hd rfl (k p e s m args below meth c A C ls H locs hl hP hS)
theorem g_i2b {a : Int32} (hd : decode y.2.1 pc = .ok (.i2b, 1)) (k : GG_ z y Post (pc + 1) L (.int a.toInt8.toInt32 :: st) σ) : GG_ z y Post pc L (.int a :: st) σ :=
  fun p e s m args below meth c A C ls H locs hl hP hS => lv_i2b C.1 C.2.1 hd rfl (k p e s m args below meth c A C ls H locs hl hP hS)
theorem g_i2s {a : Int32} (hd : decode y.2.1 pc = .ok (.i2s, 1)) (k : GG_ z y Post (pc + 1) L (.int a.toInt16.toInt32 :: st) σ) : GG_ z y Post pc L (.int a :: st) σ :=
  fun p e s m args below meth c A C ls H locs hl hP hS => lv_i2s C.1 C.2.1 hd rfl (k p e s m args below meth c A C ls H locs hl hP hS)
theorem g_lcmp {a b : Int64} (hd : decode y.2.1 pc = .ok (.lcmp, 1)) (k : GG_ z y Post (pc + 1) L (.int (lg_cmp a b) :: st) σ) : GG_ z y Post pc L (.long b :: .long a :: st) σ :=
  fun p e s m args below meth c A C ls H locs hl hP hS => W.lcmp C.1 C.2.1 hd (k p e s m args below meth c A C ls H locs hl hP hS)
theorem g_dup {v : Value} (hd : decode y.2.1 pc = .ok (.dup, 1)) (hv : v.category = 1) (k : GG_ z y Post (pc + 1) L (v :: v :: st) σ) : GG_ z y Post pc L (v :: st) σ :=
  fun p e s m args below meth c A C ls H locs hl hP hS => lv_dup C.1 C.2.1 hd hv (k p e s m args below meth c A C ls H locs hl hP hS)
theorem g_dup_x1 {v w : Value} (hd : decode y.2.1 pc = .ok (.dup_x1, 1)) (hv : v.category = 1) (hw : w.category = 1) (k : GG_ z y Post (pc + 1) L (v :: w :: v :: st) σ) : GG_ z y Post pc L (v :: w :: st) σ :=
  fun p e s m args below meth c A C ls H locs hl hP hS => lv_dup_x1 C.1 C.2.1 hd hv hw (k p e s m args below meth c A C ls H locs hl hP hS)
theorem g_dup2 {v w : Value} (hd : decode y.2.1 pc = .ok (.dup2, 1)) (hv : v.category = 1) (hw : w.category = 1) (k : GG_ z y Post (pc + 1) L (v :: w :: v :: w :: st) σ) : GG_ z y Post pc L (v :: w :: st) σ :=
  fun p e s m args below meth c A C ls H locs hl hP hS => lv_dup2_11 C.1 C.2.1 hd hv hw (k p e s m args below meth c A C ls H locs hl hP hS)
theorem g_if_eq {a : Int32} {off : Int} (tgt : Nat) (hd : decode y.2.1 pc = .ok (.ifCond .eq off, 3)) (ht : (pc : Int) + off = (tgt : Int)) (kt : a = 0 → GG_ z y Post tgt L st σ) (kf : ¬ (a = 0) → GG_ z y Post (pc + 3) L st σ) : GG_ z y Post pc L (.int a :: st) σ :=
  fun p e s m args below meth c A C ls H locs hl hP hS => lv_if_eq C.1 C.2.1 hd ht (fun q => kt q p e s m args below meth c A C ls H locs hl hP hS) (fun q => kf q p e s m args below meth c A C ls H locs hl hP hS)
theorem g_icmp_eq {a b : Int32} {off : Int} (tgt : Nat) (hd : decode y.2.1 pc = .ok (.if_icmp .eq off, 3)) (ht : (pc : Int) + off = (tgt : Int)) (kt : a = b → GG_ z y Post tgt L st σ) (kf : ¬ (a = b) → GG_ z y Post (pc + 3) L st σ) : GG_ z y Post pc L (.int b :: .int a :: st) σ :=
  fun p e s m args below meth c A C ls H locs hl hP hS => lv_icmp_eq C.1 C.2.1 hd ht (fun q => kt q p e s m args below meth c A C ls H locs hl hP hS) (fun q => kf q p e s m args below meth c A C ls H locs hl hP hS)
theorem g_if_ne {a : Int32} {off : Int} (tgt : Nat) (hd : decode y.2.1 pc = .ok (.ifCond .ne off, 3)) (ht : (pc : Int) + off = (tgt : Int)) (kt : ¬ a = 0 → GG_ z y Post tgt L st σ) (kf : a = 0 → GG_ z y Post (pc + 3) L st σ) : GG_ z y Post pc L (.int a :: st) σ :=
  fun p e s m args below meth c A C ls H locs hl hP hS => lv_if_ne C.1 C.2.1 hd ht (fun q => kt q p e s m args below meth c A C ls H locs hl hP hS) (fun q => kf q p e s m args below meth c A C ls H locs hl hP hS)
theorem g_icmp_ne {a b : Int32} {off : Int} (tgt : Nat) (hd : decode y.2.1 pc = .ok (.if_icmp .ne off, 3)) (ht : (pc : Int) + off = (tgt : Int)) (kt : ¬ a = b → GG_ z y Post tgt L st σ) (kf : a = b → GG_ z y Post (pc + 3) L st σ) : GG_ z y Post pc L (.int b :: .int a :: st) σ :=
  fun p e s m args below meth c A C ls H locs hl hP hS => lv_icmp_ne C.1 C.2.1 hd ht (fun q => kt q p e s m args below meth c A C ls H locs hl hP hS) (fun q => kf q p e s m args below meth c A C ls H locs hl hP hS)
theorem g_if_lt {a : Int32} {off : Int} (tgt : Nat) (hd : decode y.2.1 pc = .ok (.ifCond .lt off, 3)) (ht : (pc : Int) + off = (tgt : Int)) (kt : a < 0 → GG_ z y Post tgt L st σ) (kf : ¬ (a < 0) → GG_ z y Post (pc + 3) L st σ) : GG_ z y Post pc L (.int a :: st) σ :=
  fun p e s m args below meth c A C ls H locs hl hP hS => lv_if_lt C.1 C.2.1 hd ht (fun q => kt q p e s m args below meth c A C ls H locs hl hP hS) (fun q => kf q p e s m args below meth c A C ls H locs hl hP hS)
theorem g_icmp_lt {a b : Int32} {off : Int} (tgt : Nat) (hd : decode y.2.1 pc = .ok (.if_icmp .lt off, 3)) (ht : (pc : Int) + off = (tgt : Int)) (kt : a < b → GG_ z y Post tgt L st σ) (kf : ¬ (a < b) → GG_ z y Post (pc + 3) L st σ) : GG_ z y Post pc L (.int b :: .int a :: st) σ :=
  fun p e s m args below meth c A C ls H locs hl hP hS => lv_icmp_lt C.1 C.2.1 hd ht (fun q => kt q p e s m args below meth c A C ls H locs hl hP hS) (fun q => kf q p e s m args below meth c A C ls H locs hl hP hS)
theorem g_if_ge {a : Int32} {off : Int} (tgt : Nat) (hd : decode y.2.1 pc = .ok (.ifCond .ge off, 3)) (ht : (pc : Int) + off = (tgt : Int)) (kt : 0 ≤ a → GG_ z y Post tgt L st σ) (kf : ¬ (0 ≤ a) → GG_ z y Post (pc + 3) L st σ) : GG_ z y Post pc L (.int a :: st) σ :=
  fun p e s m args below meth c A C ls H locs hl hP hS => lv_if_ge C.1 C.2.1 hd ht (fun q => kt q p e s m args below meth c A C ls H locs hl hP hS) (fun q => kf q p e s m args below meth c A C ls H locs hl hP hS)
theorem g_icmp_ge {a b : Int32} {off : Int} (tgt : Nat) (hd : decode y.2.1 pc = .ok (.if_icmp .ge off, 3)) (ht : (pc : Int) + off = (tgt : Int)) (kt : b ≤ a → GG_ z y Post tgt L st σ) (kf : ¬ (b ≤ a) → GG_ z y Post (pc + 3) L st σ) : GG_ z y Post pc L (.int b :: .int a :: st) σ :=
  fun p e s m args below meth c A C ls H locs hl hP hS => lv_icmp_ge C.1 C.2.1 hd ht (fun q => kt q p e s m args below meth c A C ls H locs hl hP hS) (fun q => kf q p e s m args below meth c A C ls H locs hl hP hS)
theorem g_if_gt {a : Int32} {off : Int} (tgt : Nat) (hd : decode y.2.1 pc = .ok (.ifCond .gt off, 3)) (ht : (pc : Int) + off = (tgt : Int)) (kt : 0 < a → GG_ z y Post tgt L st σ) (kf : ¬ (0 < a) → GG_ z y Post (pc + 3) L st σ) : GG_ z y Post pc L (.int a :: st) σ :=
  fun p e s m args below meth c A C ls H locs hl hP hS => lv_if_gt C.1 C.2.1 hd ht (fun q => kt q p e s m args below meth c A C ls H locs hl hP hS) (fun q => kf q p e s m args below meth c A C ls H locs hl hP hS)
theorem g_icmp_gt {a b : Int32} {off : Int} (tgt : Nat) (hd : decode y.2.1 pc = .ok (.if_icmp .gt off, 3)) (ht : (pc : Int) + off = (tgt : Int)) (kt : b < a → GG_ z y Post tgt L st σ) (kf : ¬ (b < a) → GG_ z y Post (pc + 3) L st σ) : GG_ z y Post pc L (.int b :: .int a :: st) σ :=
  fun p e s m args below meth c A C ls H locs hl hP hS => lv_icmp_gt C.1 C.2.1 hd ht (fun q => kt q p e s m args below meth c A C ls H locs hl hP hS) (fun q => kf q p e s m args below meth c A C ls H locs hl hP hS)
theorem g_if_le {a : Int32} {off : Int} (tgt : Nat) (hd : decode y.2.1 pc = .ok (.ifCond .le off, 3)) (ht : (pc : Int) + off = (tgt : Int)) (kt : a ≤ 0 → GG_ z y Post tgt L st σ) (kf : ¬ (a ≤ 0) → GG_ z y Post (pc + 3) L st σ) : GG_ z y Post pc L (.int a :: st) σ :=
  fun p e s m args below meth c A C ls H locs hl hP hS => lv_if_le C.1 C.2.1 hd ht (fun q => kt q p e s m args below meth c A C ls H locs hl hP hS) (fun q => kf q p e s m args below meth c A C ls H locs hl hP hS)
theorem g_icmp_le {a b : Int32} {off : Int} (tgt : Nat) (hd : decode y.2.1 pc = .ok (.if_icmp .le off, 3)) (ht : (pc : Int) + off = (tgt : Int)) (kt : a ≤ b → GG_ z y Post tgt L st σ) (kf : ¬ (a ≤ b) → GG_ z y Post (pc + 3) L st σ) : GG_ z y Post pc L (.int b :: .int a :: st) σ :=
  fun p e s m args below meth c A C ls H locs hl hP hS => lv_icmp_le C.1 C.2.1 hd ht (fun q => kt q p e s m args below meth c A C ls H locs hl hP hS) (fun q => kf q p e s m args below meth c A C ls H locs hl hP hS)
theorem g_goto {off : Int} (tgt : Nat) (hd : decode y.2.1 pc = .ok (.goto off, 3)) (ht : (pc : Int) + off = (tgt : Int)) (k : GG_ z y Post tgt L st σ) : GG_ z y Post pc L st σ :=
  fun p e s m args below meth c A C ls H locs hl hP hS => lv_goto C.1 C.2.1 hd ht (k p e s m args below meth c A C ls H locs hl hP hS)
-- constants of the pool
theorem g_ldcw {own : String} {index : Nat} {v : Int32} (hw : Cond.constant own index v ∈ tg_) (ho : y.1.cls = own) (hd : decode y.2.1 pc = .ok (.ldc_w index, 3)) (k : GG_ z y Post (pc + 3) L (.int v :: st) σ) : GG_ z y Post pc L st σ :=
  fun p e s m args below meth c A C ls H locs hl hP hS => lv_ldcw C.1 C.2.1 (ho ▸ C.2.2.2.2.2.1) (C.2.2.2.2.2.2.1 _ (List.mem_cons_of_mem _ hw)) hd (k p e s m args below meth c A C ls H locs hl hP hS)
theorem g_ldc2 {own : String} {index : Nat} {v : Int64} (hw : Cond.constantLong own index v ∈ tg_) (ho : y.1.cls = own) (hd : decode y.2.1 pc = .ok (.ldc2_w index, 3)) (k : GG_ z y Post (pc + 3) L (.long v :: st) σ) : GG_ z y Post pc L st σ :=
  fun p e s m args below meth c A C ls H locs hl hP hS => lv_ldc2 C.1 C.2.1 (ho ▸ C.2.2.2.2.2.1) (C.2.2.2.2.2.2.1 _ (List.mem_cons_of_mem _ hw)) hd (k p e s m args below meth c A C ls H locs hl hP hS)
-- switches
theorem g_table {dflt lo hi : Int} {offs : Array Int} {len : Nat} {x : Int32} (hd : decode y.2.1 pc = .ok (.tableswitch dflt lo hi offs, len)) (kin : ∀ (off : Int) (tgt : Nat), ¬ x.toInt < lo → ¬ hi < x.toInt → offs[(x.toInt - lo).toNat]? = some off → (pc : Int) + off = (tgt : Int) → GG_ z y Post tgt L st σ) (tg : Nat → Nat) (htg : ∀ (j : Nat) (off : Int), offs[j]? = some off → (pc : Int) + off = (tg j : Int)) (hsz : hi - lo < offs.size) (dt : Nat) (hdt : (pc : Int) + dflt = (dt : Int)) (kout : x.toInt < lo ∨ hi < x.toInt → GG_ z y Post dt L st σ) : GG_ z y Post pc L (.int x :: st) σ := by
  intro p e s m args below meth c A C ls H locs hl hP hS
  by_cases h : x.toInt < lo ∨ hi < x.toInt
  · exact lv_tableOut C.1 C.2.1 hd h hdt (kout h p e s m args below meth c A C ls H locs hl hP hS)
  · have h1 : ¬ x.toInt < lo := fun q => h (Or.inl q)
    have h2 : ¬ hi < x.toInt := fun q => h (Or.inr q)
    have h3 : (x.toInt - lo).toNat < offs.size := by omega
    obtain ⟨off, ho⟩ : ∃ off, offs[(x.toInt - lo).toNat]? = some off := ⟨_, Array.getElem?_eq_getElem h3⟩
    exact lv_tableIn C.1 C.2.1 hd h1 h2 ho (htg _ off ho) (kin off _ h1 h2 ho (htg _ off ho) p e s m args below meth c A C ls H locs hl hP hS)
theorem g_lookup {dflt : Int} {ps : Array (Int × Int)} {len : Nat} {x : Int32} (hd : decode y.2.1 pc = .ok (.lookupswitch dflt ps, len)) (hp : (ps.toList.zip (ps.toList.drop 1)).all (fun (a, next) => a.1 < next.1) = true) {off : Int} (tgt : Nat) (ho : Op.lookupswitch.offset ps.toList dflt x.toInt = off) (ht : (pc : Int) + off = (tgt : Int)) (k : GG_ z y Post tgt L st σ) : GG_ z y Post pc L (.int x :: st) σ :=
  fun p e s m args below meth c A C ls H locs hl hP hS => lv_lookup C.1 C.2.1 hd hp ho ht (k p e s m args below meth c A C ls H locs hl hP hS)
-- fields, arrays
theorem g_get {own ref nm ds C : String} {T : u_T} {N ci index a : Nat} {fs : List Value} {v : Value} (q0 : Nat) (he : (z.2.2.2.1 σ)[q0]? = some (a, .inr (ci, fs))) (hc : cls_[ci]? = some (C, T, N)) (hin : ∀ w ∈ u_ws C T N, w ∈ tg_) (f : Nat) (hf : f < N) (b0 : Bool) (hT : T f = (ref, nm, ds, b0)) (hv : fs[f]? = some v) (hw : Cond.fieldLink own index ref nm ds ∈ tg_) (ho : y.1.cls = own) (hd : decode y.2.1 pc = .ok (.getfield index, 3)) (k : GG_ z y Post (pc + 3) L (v :: st) σ) : GG_ z y Post pc L (.ref a :: st) σ := by
  intro p e s m args below meth c A C ls H locs hl hP hS
  subst ho
  have hlink := C.2.2.2.2.2.2.1 _ (List.mem_cons_of_mem (Cond.code y.1 y.2.1 y.2.2.1 y.2.2.2.1) hw)
  exact va_get (ref := ref) C.1 C.2.1 C.2.2.2.2.2.2.1 (fun w h => List.mem_cons_of_mem _ (hin w h)) C.2.2.2.2.2.1 C.2.2.2.2.2.2.2.1.1 hP q0 he hc f hf (by rw [hT]; exact hlink) (by rw [hT]; exact fun _ h => h) hv hd (k p e s m args below meth c A C ls H locs hl hP hS)
theorem g_put {own ref nm ds C : String} {T : u_T} {N ci index a : Nat} {fs : List Value} {v : Value} {ty : FieldType} {σ' : St_} (q0 : Nat) (he : (z.2.2.2.1 σ)[q0]? = some (a, .inr (ci, fs))) (hc : cls_[ci]? = some (C, T, N)) (hin : ∀ w ∈ u_ws C T N, w ∈ tg_) (ty0 : Nat → FieldType) (hty : ∀ k, k < N → parseFieldDescriptor (T k).2.2.1 = some (ty0 k)) (hnm : ∀ a, a < N → ∀ b, b < N → a ≠ b → (T a).2.1 ≠ (T b).2.1) (f : Nat) (hf : f < N) (hT : T f = (ref, nm, ds, false)) (hd' : parseFieldDescriptor ds = some ty) (hn : narrow ty v = v) (hfit : fits ty v = true) (hfl : f < fs.length) (hσ : (z.2.2.2.1 σ).set q0 (a, .inr (ci, fs.set f v)) = z.2.2.2.1 σ') (hw : Cond.fieldLink own index ref nm ds ∈ tg_) (ho : y.1.cls = own) (hd : decode y.2.1 pc = .ok (.putfield index, 3)) (k : GG_ z y Post (pc + 3) L st σ') : GG_ z y Post pc L (v :: .ref a :: st) σ := by
  intro p e s m args below meth c A C ls H locs hl hP hS
  subst ho
  have hlink := C.2.2.2.2.2.2.1 _ (List.mem_cons_of_mem (Cond.code y.1 y.2.1 y.2.2.1 y.2.2.2.1) hw)
  refine va_put (ref := ref) (ty := ty) C.1 C.2.1 C.2.2.2.2.2.2.1 (fun w h => List.mem_cons_of_mem _ (hin w h)) ty0 hty hnm C.2.2.2.2.2.1 C.2.2.2.2.2.2.2.1.1 hP (C.2.2.2.2.2.2.2.2.1 σ) hS q0 he hc f hf (by rw [hT]; exact hlink) (by rw [hT]; exact fun _ h => h) (by rw [hT]) (by rw [hT]; exact hd') hn hfit hfl hd (fun H1 locs1 hP1 hD1 hS1 => ?_)
  rw [hσ] at hP1
  exact k p e s m args below meth c A C ls H1 locs1 hl hP1 hS1
theorem g_iald {cA : ClassId} {n a : Nat} {f : Nat → Int32} {i : Int32} (q0 t0 : Nat) (he : (z.2.2.2.1 σ)[q0]? = some (a, .inl (cA, n, .inl f))) (ht : z.2.2.1[t0]? = some (cA, .int)) (hin : vp_in i n) (hd : decode y.2.1 pc = .ok (.iaload, 1)) (k : GG_ z y Post (pc + 1) L (.int (f i.toNatClampNeg) :: st) σ) : GG_ z y Post pc L (.int i :: .ref a :: st) σ :=
  fun p e s m args below meth c A C ls H locs hl hP hS => va_iald C.1 C.2.1 C.2.2.2.2.2.2.2.1.1 hP q0 t0 he ht hin hd (k p e s m args below meth c A C ls H locs hl hP hS)
theorem g_zald {cA : ClassId} {n a : Nat} {f : Nat → Int32} {i : Int32} (q0 t0 : Nat) (he : (z.2.2.2.1 σ)[q0]? = some (a, .inl (cA, n, .inl f))) (ht : z.2.2.1[t0]? = some (cA, .boolean)) (hin : vp_in i n) (hd : decode y.2.1 pc = .ok (.baload, 1)) (k : GG_ z y Post (pc + 1) L (.int (f i.toNatClampNeg) :: st) σ) : GG_ z y Post pc L (.int i :: .ref a :: st) σ :=
  fun p e s m args below meth c A C ls H locs hl hP hS => va_zald C.1 C.2.1 C.2.2.2.2.2.2.2.1.1 hP q0 t0 he ht hin hd (k p e s m args below meth c A C ls H locs hl hP hS)
theorem g_aald {cA : ClassId} {C0 : String} {n a b : Nat} {f : Nat → Option Nat} {i : Int32} (q0 t0 : Nat) (he : (z.2.2.2.1 σ)[q0]? = some (a, .inl (cA, n, .inr (.inr (.inr (.inr f)))))) (ht : z.2.2.1[t0]? = some (cA, .object C0)) (hin : vp_in i n) (hf : f i.toNatClampNeg = some b) (hd : decode y.2.1 pc = .ok (.aaload, 1)) (k : GG_ z y Post (pc + 1) L (.ref b :: st) σ) : GG_ z y Post pc L (.int i :: .ref a :: st) σ :=
  fun p e s m args below meth c A C ls H locs hl hP hS => va_aldq C.1 C.2.1 C.2.2.2.2.2.2.2.1.1 hP q0 t0 he ht hin hd (by rw [hf]; exact k p e s m args below meth c A C ls H locs hl hP hS)
theorem g_iast {cA : ClassId} {n a : Nat} {f : Nat → Int32} {i x : Int32} {σ' : St_} (q0 t0 : Nat) (he : (z.2.2.2.1 σ)[q0]? = some (a, .inl (cA, n, .inl f))) (ht : z.2.2.1[t0]? = some (cA, .int)) (hin : vp_in i n) (hσ : (z.2.2.2.1 σ).set q0 (a, .inl (cA, n, .inl (upd f i.toNatClampNeg x))) = z.2.2.2.1 σ') (hd : decode y.2.1 pc = .ok (.iastore, 1)) (k : GG_ z y Post (pc + 1) L st σ') : GG_ z y Post pc L (.int x :: .int i :: .ref a :: st) σ :=
  fun p e s m args below meth c A C ls H locs hl hP hS => va_iast C.1 C.2.1 C.2.2.2.2.2.2.2.1.1 hP (C.2.2.2.2.2.2.2.2.1 σ) hS q0 t0 he ht hin hd (fun H1 locs1 hP1 hD1 hS1 => k p e s m args below meth c A C ls H1 locs1 hl (by rw [hσ] at hP1; exact hP1) hS1)
theorem g_zast {cA : ClassId} {n a : Nat} {f : Nat → Int32} {i x : Int32} {σ' : St_} (q0 t0 : Nat) (he : (z.2.2.2.1 σ)[q0]? = some (a, .inl (cA, n, .inl f))) (ht : z.2.2.1[t0]? = some (cA, .boolean)) (hin : vp_in i n) (hx : vp_nar .boolean x = x) (hσ : (z.2.2.2.1 σ).set q0 (a, .inl (cA, n, .inl (upd f i.toNatClampNeg x))) = z.2.2.2.1 σ') (hd : decode y.2.1 pc = .ok (.bastore, 1)) (k : GG_ z y Post (pc + 1) L st σ') : GG_ z y Post pc L (.int x :: .int i :: .ref a :: st) σ :=
  fun p e s m args below meth c A C ls H locs hl hP hS => va_zast C.1 C.2.1 C.2.2.2.2.2.2.2.1.1 hP (C.2.2.2.2.2.2.2.2.1 σ) hS q0 t0 he ht hin hd (fun H1 locs1 hP1 hD1 hS1 => k p e s m args below meth c A C ls H1 locs1 hl (by rw [hx, hσ] at hP1; exact hP1) hS1)
theorem g_alen {cA : ClassId} {n a : Nat} {x : vp_A} {ty : FieldType} {v : Int32} (q0 t0 : Nat) (he : (z.2.2.2.1 σ)[q0]? = some (a, .inl (cA, x))) (ht : z.2.2.1[t0]? = some (cA, ty)) (hv : Int32.ofNat x.1 = v) (hd : decode y.2.1 pc = .ok (.arraylength, 1)) (k : GG_ z y Post (pc + 1) L (.int v :: st) σ) : GG_ z y Post pc L (.ref a :: st) σ :=
  fun p e s m args below meth c A C ls H locs hl hP hS => va_alen C.1 C.2.1 C.2.2.2.2.2.2.2.1.1 hP q0 t0 he ht hv hd (k p e s m args below meth c A C ls H locs hl hP hS)
-- returns
theorem g_iret {r : Int32} (hr : y.2.2.2.1 = some .int) (hd : decode y.2.1 pc = .ok (.ireturn, 1)) (k : Post (some (.int r)) σ) : GG_ z y Post pc L [.int r] σ :=
  fun p e s m args below meth c A C ls H locs hl hP hS => W.iret C.1 C.2.1 (C.2.2.2.1.trans hr) (fun t ht hW => ⟨⟨_, σ, rfl, k, by rw [ht]; exact hP⟩, hS.F ht⟩) hS.2.2 hd C.2.2.2.2.1
theorem g_zret {r : Int32} (hr : y.2.2.2.1 = some .boolean) (hn : narrow .boolean (.int r) = .int r) (hd : decode y.2.1 pc = .ok (.ireturn, 1)) (k : Post (some (.int r)) σ) : GG_ z y Post pc L [.int r] σ :=
  fun p e s m args below meth c A C ls H locs hl hP hS => W.zret C.1 C.2.1 (C.2.2.2.1.trans hr) hn (fun t ht hW => ⟨⟨_, σ, rfl, k, by rw [ht]; exact hP⟩, hS.F ht⟩) hS.2.2 hd C.2.2.2.2.1
theorem g_lret {r : Int64} (hr : y.2.2.2.1 = some .long) (hd : decode y.2.1 pc = .ok (.lreturn, 1)) (k : Post (some (.long r)) σ) : GG_ z y Post pc L [.long r] σ :=
  fun p e s m args below meth c A C ls H locs hl hP hS => W.lret C.1 C.2.1 (C.2.2.2.1.trans hr) (fun t ht hW => ⟨⟨_, σ, rfl, k, by rw [ht]; exact hP⟩, hS.F ht⟩) hS.2.2 hd C.2.2.2.2.1
theorem g_vret (hr : y.2.2.2.1 = none) (hd : decode y.2.1 pc = .ok (.return_, 1)) (k : Post none σ) : GG_ z y Post pc L [] σ :=
  fun p e s m args below meth c A C ls H locs hl hP hS => W.vret C.1 C.2.1 (C.2.2.2.1.trans hr) (fun t ht hW => ⟨⟨_, σ, rfl, k, by rw [ht]; exact hP⟩, hS.F ht⟩) hS.2.2 hd C.2.2.2.2.1
-- calls
theorem pc_blind {as : List Value} {sz : Nat} : FrameBlind (Pc_ z as σ sz) := fun a U g mk q => by
  obtain ⟨h1, h2, h3, h4⟩ := q
  exact ⟨h1, h2, h3, h4.calling⟩
theorem pc_pre {A : Nat → Prop} {s U : State} {H : Heap} {locs : List Loc} {as : List Value} (hE : Ev_ z A s s.heap) (hD : ∀ σ, va_D A (z.2.2.2.1 σ)) (hA : ∀ q : Nat, s.heap.size ≤ q → A q) (hP : va_P z.2.1 cls_ (z.2.2.2.1 σ) H) (hS : va_S A s.heap H locs) (hU : U.heap = H) (hW : s.WarmedH U.vm) : Pc_ z as σ H.size as.toArray U := by
  refine ⟨rfl, by rw [hU], by rw [hU]; exact hP, hE.on hS (fun q h => ?_) hU hW⟩
  rcases h with ⟨σ', k, e, h⟩ | h
  · exact (hD σ').2 k _ h
  · exact hA q (Nat.le_trans hS.1 h)
theorem good_in {w : MI_} (hc : Cond.code w.1 w.2.1 w.2.2.1 w.2.2.2.1 ∈ tg_) : GoodIn (ws_ y) (ws_ w) := by
  intro x hx
  have h : x ∈ tg_ := by
    rcases List.mem_cons.mp hx with rfl | h
    · exact hc
    · exact h
  exact ⟨List.mem_cons_of_mem _ h, tg_good h⟩
theorem run_on {as rest : List Value} {Q : Option Value → St_ → Prop} {p : Program} {e : Env} {s : State} {m : MethodId} {args : Array Value} {below : List Frame} {meth : Method} {c : Code} {A : Nat → Prop} (C : Cx_ z y p s m args meth c A) {ls : Array Slot} {H : Heap} {locs : List Loc} (hl : lv_has ls y.2.2.1 L) (hS : va_S A s.heap H locs)
    (hr : va_Run p z.1 e (rm_ y) s m args below meth c H locs 0 0 0 0 (F0 m pc ls st) rest (Qx_ z Q (Aw_ z H.size) as.toArray) (Aw_ z H.size)) (hk : ∀ v σ', Q v σ' → GG_ z y Post (pc + 3) L (v.toList ++ rest) σ') : W p z.1 e (rm_ y) s m args below meth c H locs 0 0 (MQ below (Qx_ z Post A) args s 0 0 A) (F0 m pc ls st) := by
  have hAB : ∀ q, Aw_ z H.size q → A q := fun q h => by
    rcases h with ⟨σ', k, e, h⟩ | h
    · exact (C.2.2.2.2.2.2.2.2.1 σ').2 k _ h
    · exact C.2.2.2.2.2.2.2.2.2 q (Nat.le_trans hS.1 h)
  intro T hT X
  obtain ⟨v, st₀, t, T', L', h0, X', hL, e1, e2, ⟨⟨v', σ', hv, hp, hb⟩, hz, hq⟩, stp⟩ := hr T hT X
  cases hv
  rw [h0] at hz hq
  obtain ⟨t2, a1, b1⟩ := hk v σ' hp p e s m args below meth c A C ls T'.heap (locs ++ L') hl (by rw [e1]; exact hb)
    ⟨Nat.le_trans hS.1 (by rw [e1]; exact hz), fun q h1 h2 => by rw [e1, hq q (Nat.lt_of_lt_of_le h1 hS.1) (fun z => h2 (hAB q z))]; exact hS.2.1 q h1 h2, fun q hq => by
      rcases List.mem_append.mp hq with h | h
      · exact hS.2.2 q h
      · exact hAB _ (hL q h)⟩ T' rfl X'
  exact ⟨t2, stp t2 a1, b1⟩
theorem g_callV {w : MI_} {own C : String} {index ci b : Nat} {T : u_T} {N : Nat} {fs As rest : List Value} {Q : Option Value → St_ → Prop} (n q0 : Nat) (he : (z.2.2.2.1 σ)[q0]? = some (b, .inr (ci, fs))) (hc : cls_[ci]? = some (C, T, N)) (w1 : Cond.methodLink own index w.1 ∈ tg_) (w2 : Cond.instanceMethod w.1 ∈ tg_) (w3 : Cond.selects C w.1 w.1 ∈ tg_) (w4 : Cond.initialized w.1.cls ∈ tg_) (w5 : Cond.code w.1 w.2.1 w.2.2.1 w.2.2.2.1 ∈ tg_) (ho : y.1.cls = own)
    (hdd : w.1.cls ≠ "java/lang/invoke/MethodHandle" ∧ w.1.cls ≠ "java/lang/invoke/VarHandle" ∧ (parseMethodDescriptor w.1.desc).map (fun d => d.parameters.length) = some n) (hR : w.2.2.2.2.1 + 1 ≤ y.2.2.2.2.1 ∧ 8 + (w.2.2.1 + 11) + w.2.2.2.2.2 ≤ y.2.2.2.2.2) (hn : As.length = n) (hst : st = As.reverse ++ .ref b :: rest) (h8 : (rest.map fun v => v.category).sum ≤ 8) (hd : decode y.2.1 pc = .ok (.invokevirtual index, 3))
    (hM : MM_ z w (.ref b :: As) σ Q) (hk : ∀ v σ', Q v σ' → GG_ z y Post (pc + 3) L (v.toList ++ rest) σ') : GG_ z y Post pc L st σ := by
  intro p e s m args below meth c A Cc ls H locs hl hP hS
  subst ho
  subst hst
  have hts := Cc.2.2.2.2.2.2.1
  have ok : ∀ x ∈ tg_, x.before args s = true := fun x h => hts x (List.mem_cons_of_mem _ h)
  have hWk : Wok_ z := fun σ => (Cc.2.2.2.2.2.2.2.2.1 σ).weaken (fun _ _ _ _ => trivial)
  refine run_on (as := .ref b :: As) Cc hl hS (va_runV (As := As) (rest := rest) (b := b) (C := C) (n := n) ⟨Cc.1, Cc.2.1, Cc.2.2.1, Cc.2.2.2.2.2.1, hts⟩ (hM hWk H.size) ⟨callB_of n hts (good_in w5) rfl rfl rfl (ok _ w4) (ok _ w1) hdd hR, ok _ w2, ok _ w3⟩ ⟨pc_blind, va_recv Cc.2.2.2.2.2.2.2.1.1 hP hc he, fun U hU hW => pc_pre Cc.2.2.2.2.2.2.2.1 Cc.2.2.2.2.2.2.2.2.1 Cc.2.2.2.2.2.2.2.2.2 hP hS hU hW⟩ rfl hn hl.1 rfl (lv_room h8) hd ⟨Nat.le_refl _, Nat.le_refl _⟩) hk
theorem g_callS {w : MI_} {own : String} {index : Nat} {As rest : List Value} {Q : Option Value → St_ → Prop} (n : Nat) (w1 : Cond.methodLink own index w.1 ∈ tg_) (w2 : Cond.static w.1 ∈ tg_) (w4 : Cond.initialized w.1.cls ∈ tg_) (w5 : Cond.code w.1 w.2.1 w.2.2.1 w.2.2.2.1 ∈ tg_) (ho : y.1.cls = own)
    (hdd : w.1.cls ≠ "java/lang/invoke/MethodHandle" ∧ w.1.cls ≠ "java/lang/invoke/VarHandle" ∧ (parseMethodDescriptor w.1.desc).map (fun d => d.parameters.length) = some n) (hR : w.2.2.2.2.1 + 1 ≤ y.2.2.2.2.1 ∧ 8 + (w.2.2.1 + 11) + w.2.2.2.2.2 ≤ y.2.2.2.2.2) (hn : As.length = n) (hst : st = As.reverse ++ rest) (h8 : (rest.map fun v => v.category).sum ≤ 8) (hd : decode y.2.1 pc = .ok (.invokestatic index, 3))
    (hM : MM_ z w As σ Q) (hk : ∀ v σ', Q v σ' → GG_ z y Post (pc + 3) L (v.toList ++ rest) σ') : GG_ z y Post pc L st σ := by
  intro p e s m args below meth c A Cc ls H locs hl hP hS
  subst ho
  subst hst
  have hts := Cc.2.2.2.2.2.2.1
  have ok : ∀ x ∈ tg_, x.before args s = true := fun x h => hts x (List.mem_cons_of_mem _ h)
  have hWk : Wok_ z := fun σ => (Cc.2.2.2.2.2.2.2.2.1 σ).weaken (fun _ _ _ _ => trivial)
  refine run_on (as := As) Cc hl hS (va_runS (As := As) (rest := rest) (n := n) ⟨Cc.1, Cc.2.1, Cc.2.2.1, Cc.2.2.2.2.2.1, hts⟩ (hM hWk H.size) ⟨callB_of n hts (good_in w5) rfl rfl rfl (ok _ w4) (ok _ w1) hdd hR, ok _ w2⟩ ⟨pc_blind, fun U hU hW => pc_pre Cc.2.2.2.2.2.2.2.1 Cc.2.2.2.2.2.2.2.2.1 Cc.2.2.2.2.2.2.2.2.2 hP hS hU hW⟩ rfl hn hl.1 rfl (lv_room h8) hd ⟨Nat.le_refl _, Nat.le_refl _⟩) hk
theorem g_callSN {w : MI_} {own host : String} {index : Nat} {As rest : List Value} {Q : Option Value → St_ → Prop} (n : Nat) (w1 : Cond.methodLinkNest own index w.1 host ∈ nst_) (w2 : Cond.static w.1 ∈ tg_) (w4 : Cond.initialized w.1.cls ∈ tg_) (w5 : Cond.code w.1 w.2.1 w.2.2.1 w.2.2.2.1 ∈ tg_) (ho : y.1.cls = own)
    (hdd : w.1.cls ≠ "java/lang/invoke/MethodHandle" ∧ w.1.cls ≠ "java/lang/invoke/VarHandle" ∧ (parseMethodDescriptor w.1.desc).map (fun d => d.parameters.length) = some n) (hR : w.2.2.2.2.1 + 1 ≤ y.2.2.2.2.1 ∧ 8 + (w.2.2.1 + 11) + w.2.2.2.2.2 ≤ y.2.2.2.2.2) (hn : As.length = n) (hst : st = As.reverse ++ rest) (h8 : (rest.map fun v => v.category).sum ≤ 8) (hd : decode y.2.1 pc = .ok (.invokestatic index, 3))
    (hM : MM_ z w As σ Q) (hk : ∀ v σ', Q v σ' → GG_ z y Post (pc + 3) L (v.toList ++ rest) σ') : GG_ z y Post pc L st σ := by
  intro p e s m args below meth c A Cc ls H locs hl hP hS
  subst ho
  subst hst
  have hts := Cc.2.2.2.2.2.2.1
  have ok : ∀ x ∈ tg_, x.before args s = true := fun x h => hts x (List.mem_cons_of_mem _ h)
  have hWk : Wok_ z := fun σ => (Cc.2.2.2.2.2.2.2.2.1 σ).weaken (fun _ _ _ _ => trivial)
  refine run_on (as := As) Cc hl hS (va_runSN (As := As) (rest := rest) (n := n) ⟨Cc.1, Cc.2.1, Cc.2.2.1, Cc.2.2.2.2.2.1, hts⟩ (hM hWk H.size) ⟨va_cnB n hts (good_in w5) rfl rfl rfl (Cc.2.2.2.2.2.2.2.1.2.1 _ w1) (ok _ w4) hdd hR, ok _ w2, trivial⟩ ⟨pc_blind, fun U hU hW => pc_pre Cc.2.2.2.2.2.2.2.1 Cc.2.2.2.2.2.2.2.2.1 Cc.2.2.2.2.2.2.2.2.2 hP hS hU hW⟩ rfl hn hl.1 rfl (lv_room h8) hd ⟨Nat.le_refl _, Nat.le_refl _⟩) hk
-- static tables
theorem g_gets {own nm : String} {index t N : Nat} {f : Nat → Int32} (hT : ∀ A U H, Ev_ z A U H → Tb_ nm t N f A U H) (hw : Cond.fieldLink own index "LinenHouse" nm "[I" ∈ tg_) (ho : y.1.cls = own) (hd : decode y.2.1 pc = .ok (.getstatic index, 3)) (k : GG_ z y Post (pc + 3) L (.ref t :: st) σ) : GG_ z y Post pc L st σ := by
  intro p e s m args below meth c A C ls H locs hl hP hS
  subst ho
  exact va_gets C.1 C.2.1 (hT _ _ _ C.2.2.2.2.2.2.2.1).1 hS C.2.2.2.2.2.1 (C.2.2.2.2.2.2.1 _ (List.mem_cons_of_mem _ hw)) (fun _ h => h) hd (k p e s m args below meth c A C ls H locs hl hP hS)
theorem g_getsN {own nm : String} {index t N : Nat} {f : Nat → Int32} (hT : ∀ A U H, Ev_ z A U H → Tb_ nm t N f A U H) (hw : Cond.fieldLinkNest own index "LinenHouse" nm "[I" "LinenHouse" ∈ nst_) (ho : y.1.cls = own) (hd : decode y.2.1 pc = .ok (.getstatic index, 3)) (k : GG_ z y Post (pc + 3) L (.ref t :: st) σ) : GG_ z y Post pc L st σ := by
  intro p e s m args below meth c A C ls H locs hl hP hS
  subst ho
  exact va_getsN C.1 C.2.1 (hT _ _ _ C.2.2.2.2.2.2.2.1).1 hS C.2.2.2.2.2.1 (va_Nw.use rfl (C.2.2.2.2.2.2.2.1.2.1 _ hw)) (fun _ h => h) hd (k p e s m args below meth c A C ls H locs hl hP hS)
theorem g_tbl {nm : String} {t N : Nat} {f : Nat → Int32} {i : Int32} (hT : ∀ A U H, Ev_ z A U H → Tb_ nm t N f A U H) (hin : vp_in i N) (hd : decode y.2.1 pc = .ok (.iaload, 1)) (k : GG_ z y Post (pc + 1) L (.int (f i.toNatClampNeg) :: st) σ) : GG_ z y Post pc L (.int i :: .ref t :: st) σ :=
  fun p e s m args below meth c A C ls H locs hl hP hS => va_ti C.1 C.2.1 (hT _ _ _ C.2.2.2.2.2.2.2.1).2 hS hin rfl hd (k p e s m args below meth c A C ls H locs hl hP hS)
end GR
end
