set_option maxHeartbeats 4000000 in
set_option maxRecDepth 100000 in
theorem bX10_ajarOf_10 (u : Ux_) {P : Int64 → St_ → Prop}  (σ : St_) (x1 : Int32) (x2 : Int32) (x3 : Int32) (x4 : Int32) (x5 : Int32) (x6 : Int64) (x8 : Int32) (H : ((((iI_ 1) <<< ((x2 + (iI_ 1)) &&& 31)) ≤ x8 → MMl_ (zm_ u) mX10_lowest [.long x6, .long ((iL_ 1) <<< (Int32.toInt64 ((iI_ 4) * (x2 + (iI_ 1))) &&& 63)), .int x5] σ (fun r3 σ2 => P r3 σ2)) ∧ (¬ ((iI_ 1) <<< ((x2 + (iI_ 1)) &&& 31)) ≤ x8 → GG_ (zm_ u) mX10_ajarOf (Pl_ P) 26 [(0, .ref (uq_ u 0)), (1, .int x1), (2, .int x2), (3, .int x3), (4, .int x4), (5, .int x5), (6, .long x6), (8, .int x8), (9, .long (iL_ 1)), (11, .int (iI_ 0))] [] σ))) : GG_ (zm_ u) mX10_ajarOf (Pl_ P) 10 [(0, .ref (uq_ u 0)), (1, .int x1), (2, .int x2), (3, .int x3), (4, .int x4), (5, .int x5), (6, .long x6), (8, .int x8)] [] σ := by
  refine g_iload dX10_ajarOf_10 7 rfl ?_
  refine g_iconst (v := (iI_ 1)) dX10_ajarOf_12 (by decide) ?_
  refine g_iload_n dX10_ajarOf_13 2 rfl rfl ?_
  refine g_iconst (v := (iI_ 1)) dX10_ajarOf_14 (by decide) ?_
  refine g_iadd dX10_ajarOf_15 ?_
  refine g_ishl dX10_ajarOf_16 ?_
  refine g_icmp_ge 107 dX10_ajarOf_17 (by decide) (fun c1 => ?_) (fun c1 => ?_)
  · replace H := H.1 c1
    refine g_lload dX10_ajarOf_107 6 rfl ?_
    refine g_lconst (v := (iL_ 1)) dX10_ajarOf_109 (by decide) ?_
    refine g_iconst (v := (iI_ 4)) dX10_ajarOf_110 (by decide) ?_
    refine g_iload_n dX10_ajarOf_111 2 rfl rfl ?_
    refine g_iconst (v := (iI_ 1)) dX10_ajarOf_112 (by decide) ?_
    refine g_iadd dX10_ajarOf_113 ?_
    refine g_imul dX10_ajarOf_114 ?_
    refine g_lshl dX10_ajarOf_115 ?_
    refine g_iload dX10_ajarOf_116 5 rfl ?_
    refine k_X10_lowest w_1178 rfl ⟨Nat.le_of_ble_eq_true rfl, Nat.le_of_ble_eq_true rfl⟩ (Nat.le_of_ble_eq_true rfl) dX10_ajarOf_118 H (fun r3 σ2 H => ?_)
    exact g_lret rfl dX10_ajarOf_121 ⟨_, rfl, H⟩
  · replace H := H.2 c1
    refine g_lconst (v := (iL_ 1)) dX10_ajarOf_20 (by decide) ?_
    refine g_lstore (L' := [(9, .long (iL_ 1)), (0, .ref (uq_ u 0)), (1, .int x1), (2, .int x2), (3, .int x3), (4, .int x4), (5, .int x5), (6, .long x6), (8, .int x8)]) dX10_ajarOf_21 (by decide) rfl ?_
    refine g_iconst (v := (iI_ 0)) dX10_ajarOf_23 (by decide) ?_
    refine g_istore (L' := [(11, .int (iI_ 0)), (9, .long (iL_ 1)), (0, .ref (uq_ u 0)), (1, .int x1), (2, .int x2), (3, .int x3), (4, .int x4), (5, .int x5), (6, .long x6), (8, .int x8)]) dX10_ajarOf_24 (by decide) rfl ?_
    exact GG_.sub [2, 3, 4, 5, 6, 7, 8, 9, 1, 0] rfl H
set_option maxHeartbeats 4000000 in
set_option maxRecDepth 100000 in
theorem bX10_ajarOf_26 (u : Ux_) {P : Int64 → St_ → Prop}  (σ : St_) (x1 : Int32) (x2 : Int32) (x3 : Int32) (x4 : Int32) (x5 : Int32) (x6 : Int64) (x8 : Int32) (x9 : Int64) (x11 : Int32) (H : ((x2 < x11 → (((lg_cmp x9 (iL_ 0)) ≤ iI_ 0 → GG_ (zm_ u) mX10_ajarOf (Pl_ P) 10 [(0, .ref (uq_ u 0)), (1, .int x1), (2, .int x2), (3, .int x3), (4, .int x4), (5, .int x5), (6, .long x6), (8, .int (x8 + (iI_ 1)))] [] σ) ∧ (¬ (lg_cmp x9 (iL_ 0)) ≤ iI_ 0 → (∀ σ3, σ3 = su_ σ 23 0 x8 → MMv_ (zm_ u) mX10_runs [.ref (uq_ u 0)] σ3 (fun σ4 => MMi_ (zm_ u) mX10_houseNow [.ref (uq_ u 0), .int x4] σ4 (fun r6 σ5 => ((¬ r6 = x3 → GG_ (zm_ u) mX10_ajarOf (Pl_ P) 10 [(0, .ref (uq_ u 0)), (1, .int x1), (2, .int x2), (3, .int x3), (4, .int x4), (5, .int x5), (6, .long (x6 + (iL_ 0))), (8, .int (x8 + (iI_ 1)))] [] σ5) ∧ (r6 = x3 → GG_ (zm_ u) mX10_ajarOf (Pl_ P) 10 [(0, .ref (uq_ u 0)), (1, .int x1), (2, .int x2), (3, .int x3), (4, .int x4), (5, .int x5), (6, .long (x6 + x9)), (8, .int (x8 + (iI_ 1)))] [] σ5)))))))) ∧ (¬ x2 < x11 → MMi_ (zm_ u) mX10_isIn [.int x8, .int x11] σ (fun r9 σ8 => ((r9 = iI_ 0 → GG_ (zm_ u) mX10_ajarOf (Pl_ P) 26 [(0, .ref (uq_ u 0)), (1, .int x1), (2, .int x2), (3, .int x3), (4, .int x4), (5, .int x5), (6, .long x6), (8, .int x8), (9, .long (x9 * (Int32.toInt64 ((iI_ 16) - x1)))), (11, .int (x11 + (iI_ 1)))] [] σ8) ∧ (¬ r9 = iI_ 0 → GG_ (zm_ u) mX10_ajarOf (Pl_ P) 26 [(0, .ref (uq_ u 0)), (1, .int x1), (2, .int x2), (3, .int x3), (4, .int x4), (5, .int x5), (6, .long x6), (8, .int x8), (9, .long (x9 * (Int32.toInt64 x1))), (11, .int (x11 + (iI_ 1)))] [] σ8)))))) : GG_ (zm_ u) mX10_ajarOf (Pl_ P) 26 [(0, .ref (uq_ u 0)), (1, .int x1), (2, .int x2), (3, .int x3), (4, .int x4), (5, .int x5), (6, .long x6), (8, .int x8), (9, .long x9), (11, .int x11)] [] σ := by
  refine g_iload dX10_ajarOf_26 9 rfl ?_
  refine g_iload_n dX10_ajarOf_28 2 rfl rfl ?_
  refine g_icmp_gt 63 dX10_ajarOf_29 (by decide) (fun c1 => ?_) (fun c1 => ?_)
  · replace H := H.1 c1
    refine g_lload dX10_ajarOf_63 8 rfl ?_
    refine g_lconst (v := (iL_ 0)) dX10_ajarOf_65 (by decide) ?_
    refine g_lcmp dX10_ajarOf_66 ?_
    refine g_if_le 101 dX10_ajarOf_67 (by decide) (fun c2 => ?_) (fun c2 => ?_)
    · replace H := H.1 c2
      refine g_iinc (v := (x8 + (iI_ 1))) (L' := [(8, .int (x8 + (iI_ 1))), (0, .ref (uq_ u 0)), (1, .int x1), (2, .int x2), (3, .int x3), (4, .int x4), (5, .int x5), (6, .long x6), (9, .long x9), (11, .int x11)]) dX10_ajarOf_101 7 rfl rfl (by decide) rfl ?_
      refine g_goto 10 dX10_ajarOf_104 (by decide) ?_
      exact GG_.sub [1, 2, 3, 4, 5, 6, 7, 0] rfl H
    · replace H := H.2 c2
      refine g_aload_n dX10_ajarOf_70 0 rfl rfl ?_
      refine g_iload dX10_ajarOf_71 7 rfl ?_
      refine pm_LinenHouseModel_jarBits w_836 rfl dX10_ajarOf_73 ?_
      obtain ⟨σ3, e_σ3⟩ : ∃ q : St_, q = su_ σ 23 0 x8 := ⟨_, rfl⟩
      rw [← e_σ3]
      replace H := H σ3 e_σ3
      refine g_aload_n dX10_ajarOf_76 0 rfl rfl ?_
      refine k_X10_runs w_1067 rfl ⟨Nat.le_of_ble_eq_true rfl, Nat.le_of_ble_eq_true rfl⟩ (Nat.le_of_ble_eq_true rfl) dX10_ajarOf_77 H (fun σ4 H => ?_)
      refine g_lload dX10_ajarOf_80 6 rfl ?_
      refine g_aload_n dX10_ajarOf_82 0 rfl rfl ?_
      refine g_iload dX10_ajarOf_83 4 rfl ?_
      refine k_X10_houseNow w_1111 rfl ⟨Nat.le_of_ble_eq_true rfl, Nat.le_of_ble_eq_true rfl⟩ (Nat.le_of_ble_eq_true rfl) dX10_ajarOf_85 H (fun r6 σ5 H => ?_)
      refine g_iload_n dX10_ajarOf_88 3 rfl rfl ?_
      refine g_icmp_ne 97 dX10_ajarOf_89 (by decide) (fun c7 => ?_) (fun c7 => ?_)
      · replace H := H.1 c7
        refine g_lconst (v := (iL_ 0)) dX10_ajarOf_97 (by decide) ?_
        refine g_ladd dX10_ajarOf_98 ?_
        refine g_lstore (L' := [(6, .long (x6 + (iL_ 0))), (0, .ref (uq_ u 0)), (1, .int x1), (2, .int x2), (3, .int x3), (4, .int x4), (5, .int x5), (8, .int x8), (9, .long x9), (11, .int x11)]) dX10_ajarOf_99 (by decide) rfl ?_
        refine g_iinc (v := (x8 + (iI_ 1))) (L' := [(8, .int (x8 + (iI_ 1))), (6, .long (x6 + (iL_ 0))), (0, .ref (uq_ u 0)), (1, .int x1), (2, .int x2), (3, .int x3), (4, .int x4), (5, .int x5), (9, .long x9), (11, .int x11)]) dX10_ajarOf_101 7 rfl rfl (by decide) rfl ?_
        refine g_goto 10 dX10_ajarOf_104 (by decide) ?_
        exact GG_.sub [2, 3, 4, 5, 6, 7, 1, 0] rfl H
      · replace H := H.2 c7
        refine g_lload dX10_ajarOf_92 8 rfl ?_
        refine g_goto 98 dX10_ajarOf_94 (by decide) ?_
        refine g_ladd dX10_ajarOf_98 ?_
        refine g_lstore (L' := [(6, .long (x6 + x9)), (0, .ref (uq_ u 0)), (1, .int x1), (2, .int x2), (3, .int x3), (4, .int x4), (5, .int x5), (8, .int x8), (9, .long x9), (11, .int x11)]) dX10_ajarOf_99 (by decide) rfl ?_
        refine g_iinc (v := (x8 + (iI_ 1))) (L' := [(8, .int (x8 + (iI_ 1))), (6, .long (x6 + x9)), (0, .ref (uq_ u 0)), (1, .int x1), (2, .int x2), (3, .int x3), (4, .int x4), (5, .int x5), (9, .long x9), (11, .int x11)]) dX10_ajarOf_101 7 rfl rfl (by decide) rfl ?_
        refine g_goto 10 dX10_ajarOf_104 (by decide) ?_
        exact GG_.sub [2, 3, 4, 5, 6, 7, 1, 0] rfl H
  · replace H := H.2 c1
    refine g_lload dX10_ajarOf_32 8 rfl ?_
    refine g_iload dX10_ajarOf_34 7 rfl ?_
    refine g_iload dX10_ajarOf_36 9 rfl ?_
    refine k_X10_isIn w_989 rfl ⟨Nat.le_of_ble_eq_true rfl, Nat.le_of_ble_eq_true rfl⟩ (Nat.le_of_ble_eq_true rfl) dX10_ajarOf_38 H (fun r9 σ8 H => ?_)
    refine g_if_eq 49 dX10_ajarOf_41 (by decide) (fun c10 => ?_) (fun c10 => ?_)
    · replace H := H.1 c10
      refine g_bipush (v := (iI_ 16)) dX10_ajarOf_49 (by decide) ?_
      refine g_iload_n dX10_ajarOf_51 1 rfl rfl ?_
      refine g_isub dX10_ajarOf_52 ?_
      refine g_i2l dX10_ajarOf_53 ?_
      refine g_lmul dX10_ajarOf_54 ?_
      refine g_lstore (L' := [(9, .long (x9 * (Int32.toInt64 ((iI_ 16) - x1)))), (0, .ref (uq_ u 0)), (1, .int x1), (2, .int x2), (3, .int x3), (4, .int x4), (5, .int x5), (6, .long x6), (8, .int x8), (11, .int x11)]) dX10_ajarOf_55 (by decide) rfl ?_
      refine g_iinc (v := (x11 + (iI_ 1))) (L' := [(11, .int (x11 + (iI_ 1))), (9, .long (x9 * (Int32.toInt64 ((iI_ 16) - x1)))), (0, .ref (uq_ u 0)), (1, .int x1), (2, .int x2), (3, .int x3), (4, .int x4), (5, .int x5), (6, .long x6), (8, .int x8)]) dX10_ajarOf_57 9 rfl rfl (by decide) rfl ?_
      refine g_goto 26 dX10_ajarOf_60 (by decide) ?_
      exact GG_.sub [2, 3, 4, 5, 6, 7, 8, 9, 1, 0] rfl H
    · replace H := H.2 c10
      refine g_iload_n dX10_ajarOf_44 1 rfl rfl ?_
      refine g_i2l dX10_ajarOf_45 ?_
      refine g_goto 54 dX10_ajarOf_46 (by decide) ?_
      refine g_lmul dX10_ajarOf_54 ?_
      refine g_lstore (L' := [(9, .long (x9 * (Int32.toInt64 x1))), (0, .ref (uq_ u 0)), (1, .int x1), (2, .int x2), (3, .int x3), (4, .int x4), (5, .int x5), (6, .long x6), (8, .int x8), (11, .int x11)]) dX10_ajarOf_55 (by decide) rfl ?_
      refine g_iinc (v := (x11 + (iI_ 1))) (L' := [(11, .int (x11 + (iI_ 1))), (9, .long (x9 * (Int32.toInt64 x1))), (0, .ref (uq_ u 0)), (1, .int x1), (2, .int x2), (3, .int x3), (4, .int x4), (5, .int x5), (6, .long x6), (8, .int x8)]) dX10_ajarOf_57 9 rfl rfl (by decide) rfl ?_
      refine g_goto 26 dX10_ajarOf_60 (by decide) ?_
      exact GG_.sub [2, 3, 4, 5, 6, 7, 8, 9, 1, 0] rfl H
set_option maxHeartbeats 4000000 in
set_option maxRecDepth 100000 in
theorem eX10_ajarOf (u : Ux_) {P : Int64 → St_ → Prop}  (σ : St_) (x1 : Int32) (x2 : Int32) (x3 : Int32) (x4 : Int32) (x5 : Int32) (H : MMv_ (zm_ u) mX10_asTold [.ref (uq_ u 0)] σ (fun σ1 => GG_ (zm_ u) mX10_ajarOf (Pl_ P) 10 [(0, .ref (uq_ u 0)), (1, .int x1), (2, .int x2), (3, .int x3), (4, .int x4), (5, .int x5), (6, .long (iL_ 0)), (8, .int (iI_ 0))] [] σ1)) : MMl_ (zm_ u) mX10_ajarOf [.ref (uq_ u 0), .int x1, .int x2, .int x3, .int x4, .int x5] σ P := by
  refine MM_.of (L := [(0, .ref (uq_ u 0)), (1, .int x1), (2, .int x2), (3, .int x3), (4, .int x4), (5, .int x5)]) (by decide +kernel) (Nat.le_of_ble_eq_true rfl) rfl ?_
  refine g_aload_n dX10_ajarOf_0 0 rfl rfl ?_
  refine k_X10_asTold w_1063 rfl ⟨Nat.le_of_ble_eq_true rfl, Nat.le_of_ble_eq_true rfl⟩ (Nat.le_of_ble_eq_true rfl) dX10_ajarOf_1 H (fun σ1 H => ?_)
  refine g_lconst (v := (iL_ 0)) dX10_ajarOf_4 (by decide) ?_
  refine g_lstore (L' := [(6, .long (iL_ 0)), (0, .ref (uq_ u 0)), (1, .int x1), (2, .int x2), (3, .int x3), (4, .int x4), (5, .int x5)]) dX10_ajarOf_5 (by decide) rfl ?_
  refine g_iconst (v := (iI_ 0)) dX10_ajarOf_7 (by decide) ?_
  refine g_istore (L' := [(8, .int (iI_ 0)), (6, .long (iL_ 0)), (0, .ref (uq_ u 0)), (1, .int x1), (2, .int x2), (3, .int x3), (4, .int x4), (5, .int x5)]) dX10_ajarOf_8 (by decide) rfl ?_
  exact GG_.sub [2, 3, 4, 5, 6, 7, 1, 0] rfl H
set_option maxHeartbeats 4000000 in
set_option maxRecDepth 100000 in
theorem eX10_ajar (u : Ux_) {P : Int64 → St_ → Prop}  (σ : St_) (x1 : Int32) (x2 : Int32) (x3 : Int32) (x4 : Int32) (x5 : Int32) (H : MMi_ (zm_ u) mX10_in [.int x1, .int (iI_ 0), .int (iI_ 16)] σ (fun r2 σ1 => ((r2 = iI_ 0 → MMl_ (zm_ u) mX10_no [.int (iI_ (-2))] σ1 (fun r6 σ5 => P r6 σ5)) ∧ (¬ r2 = iI_ 0 → MMi_ (zm_ u) mX10_in [.int x2, .int (iI_ 0), .int (iI_ 9)] σ1 (fun r8 σ7 => ((r8 = iI_ 0 → MMl_ (zm_ u) mX10_no [.int (iI_ (-2))] σ7 (fun r12 σ11 => P r12 σ11)) ∧ (¬ r8 = iI_ 0 → MMi_ (zm_ u) mX10_in [.int x3, .int (iI_ 0), .int (iI_ 2)] σ7 (fun r14 σ13 => ((r14 = iI_ 0 → MMl_ (zm_ u) mX10_no [.int (iI_ (-2))] σ13 (fun r18 σ17 => P r18 σ17)) ∧ (¬ r14 = iI_ 0 → MMi_ (zm_ u) mX10_isNight [.int x4] σ13 (fun r21 σ20 => ((r21 = iI_ 0 → MMl_ (zm_ u) mX10_no [.int (iI_ (-2))] σ20 (fun r24 σ23 => P r24 σ23)) ∧ (¬ r21 = iI_ 0 → MMi_ (zm_ u) mX10_in [.int x5, .int (iI_ 0), .int (iI_ 1)] σ20 (fun r26 σ25 => ((r26 = iI_ 0 → MMl_ (zm_ u) mX10_no [.int (iI_ (-2))] σ25 (fun r29 σ28 => P r29 σ28)) ∧ (¬ r26 = iI_ 0 → MMl_ (zm_ u) mX10_ajarOf [.ref (uq_ u 0), .int x1, .int x2, .int x3, .int x4, .int x5] σ25 (fun r31 σ30 => P r31 σ30))))))))))))))))) : MMl_ (zm_ u) mX10_ajar [.ref (uq_ u 0), .int x1, .int x2, .int x3, .int x4, .int x5] σ P := by
  refine MM_.of (L := [(0, .ref (uq_ u 0)), (1, .int x1), (2, .int x2), (3, .int x3), (4, .int x4), (5, .int x5)]) (by decide +kernel) (Nat.le_of_ble_eq_true rfl) rfl ?_
  refine g_iload_n dX10_ajar_0 1 rfl rfl ?_
  refine g_iconst (v := (iI_ 0)) dX10_ajar_1 (by decide) ?_
  refine g_bipush (v := (iI_ 16)) dX10_ajar_2 (by decide) ?_
  refine k_X10_in w_954 rfl ⟨Nat.le_of_ble_eq_true rfl, Nat.le_of_ble_eq_true rfl⟩ (Nat.le_of_ble_eq_true rfl) dX10_ajar_4 H (fun r2 σ1 H => ?_)
  refine g_if_eq 33 dX10_ajar_7 (by decide) (fun c3 => ?_) (fun c3 => ?_)
  · replace H := H.1 c3
    refine g_iconst (v := (iI_ 0)) dX10_ajar_33 (by decide) ?_
    refine g_istore (L' := [(6, .int (iI_ 0)), (0, .ref (uq_ u 0)), (1, .int x1), (2, .int x2), (3, .int x3), (4, .int x4), (5, .int x5)]) dX10_ajar_34 (by decide) rfl ?_
    refine g_iload dX10_ajar_36 0 rfl ?_
    refine g_if_eq 73 dX10_ajar_38 (by decide) (fun c4 => ?_) (fun c4 => ?_)
    · skip
      refine g_bipush (v := (iI_ (-2))) dX10_ajar_73 (by decide) ?_
      refine k_X10_no w_1181 rfl ⟨Nat.le_of_ble_eq_true rfl, Nat.le_of_ble_eq_true rfl⟩ (Nat.le_of_ble_eq_true rfl) dX10_ajar_75 H (fun r6 σ5 H => ?_)
      exact g_lret rfl dX10_ajar_78 ⟨_, rfl, H⟩
    · first | exact absurd c4 (by decide) | exact absurd (by decide) c4
  · replace H := H.2 c3
    refine g_iload_n dX10_ajar_10 2 rfl rfl ?_
    refine g_iconst (v := (iI_ 0)) dX10_ajar_11 (by decide) ?_
    refine g_bipush (v := (iI_ 9)) dX10_ajar_12 (by decide) ?_
    refine k_X10_in w_954 rfl ⟨Nat.le_of_ble_eq_true rfl, Nat.le_of_ble_eq_true rfl⟩ (Nat.le_of_ble_eq_true rfl) dX10_ajar_14 H (fun r8 σ7 H => ?_)
    refine g_if_eq 33 dX10_ajar_17 (by decide) (fun c9 => ?_) (fun c9 => ?_)
    · replace H := H.1 c9
      refine g_iconst (v := (iI_ 0)) dX10_ajar_33 (by decide) ?_
      refine g_istore (L' := [(6, .int (iI_ 0)), (0, .ref (uq_ u 0)), (1, .int x1), (2, .int x2), (3, .int x3), (4, .int x4), (5, .int x5)]) dX10_ajar_34 (by decide) rfl ?_
      refine g_iload dX10_ajar_36 0 rfl ?_
      refine g_if_eq 73 dX10_ajar_38 (by decide) (fun c10 => ?_) (fun c10 => ?_)
      · skip
        refine g_bipush (v := (iI_ (-2))) dX10_ajar_73 (by decide) ?_
        refine k_X10_no w_1181 rfl ⟨Nat.le_of_ble_eq_true rfl, Nat.le_of_ble_eq_true rfl⟩ (Nat.le_of_ble_eq_true rfl) dX10_ajar_75 H (fun r12 σ11 H => ?_)
        exact g_lret rfl dX10_ajar_78 ⟨_, rfl, H⟩
      · first | exact absurd c10 (by decide) | exact absurd (by decide) c10
    · replace H := H.2 c9
      refine g_iload_n dX10_ajar_20 3 rfl rfl ?_
      refine g_iconst (v := (iI_ 0)) dX10_ajar_21 (by decide) ?_
      refine g_iconst (v := (iI_ 2)) dX10_ajar_22 (by decide) ?_
      refine k_X10_in w_954 rfl ⟨Nat.le_of_ble_eq_true rfl, Nat.le_of_ble_eq_true rfl⟩ (Nat.le_of_ble_eq_true rfl) dX10_ajar_23 H (fun r14 σ13 H => ?_)
      refine g_if_eq 33 dX10_ajar_26 (by decide) (fun c15 => ?_) (fun c15 => ?_)
      · replace H := H.1 c15
        refine g_iconst (v := (iI_ 0)) dX10_ajar_33 (by decide) ?_
        refine g_istore (L' := [(6, .int (iI_ 0)), (0, .ref (uq_ u 0)), (1, .int x1), (2, .int x2), (3, .int x3), (4, .int x4), (5, .int x5)]) dX10_ajar_34 (by decide) rfl ?_
        refine g_iload dX10_ajar_36 0 rfl ?_
        refine g_if_eq 73 dX10_ajar_38 (by decide) (fun c16 => ?_) (fun c16 => ?_)
        · skip
          refine g_bipush (v := (iI_ (-2))) dX10_ajar_73 (by decide) ?_
          refine k_X10_no w_1181 rfl ⟨Nat.le_of_ble_eq_true rfl, Nat.le_of_ble_eq_true rfl⟩ (Nat.le_of_ble_eq_true rfl) dX10_ajar_75 H (fun r18 σ17 H => ?_)
          exact g_lret rfl dX10_ajar_78 ⟨_, rfl, H⟩
        · first | exact absurd c16 (by decide) | exact absurd (by decide) c16
      · replace H := H.2 c15
        refine g_iconst (v := (iI_ 1)) dX10_ajar_29 (by decide) ?_
        refine g_goto 34 dX10_ajar_30 (by decide) ?_
        refine g_istore (L' := [(6, .int (iI_ 1)), (0, .ref (uq_ u 0)), (1, .int x1), (2, .int x2), (3, .int x3), (4, .int x4), (5, .int x5)]) dX10_ajar_34 (by decide) rfl ?_
        refine g_iload dX10_ajar_36 0 rfl ?_
        refine g_if_eq 73 dX10_ajar_38 (by decide) (fun c19 => ?_) (fun c19 => ?_)
        · first | exact absurd c19 (by decide) | exact absurd (by decide) c19
        · skip
          refine g_iload dX10_ajar_41 5 rfl ?_
          refine k_X10_isNight w_1016 rfl ⟨Nat.le_of_ble_eq_true rfl, Nat.le_of_ble_eq_true rfl⟩ (Nat.le_of_ble_eq_true rfl) dX10_ajar_43 H (fun r21 σ20 H => ?_)
          refine g_if_eq 73 dX10_ajar_46 (by decide) (fun c22 => ?_) (fun c22 => ?_)
          · replace H := H.1 c22
            refine g_bipush (v := (iI_ (-2))) dX10_ajar_73 (by decide) ?_
            refine k_X10_no w_1181 rfl ⟨Nat.le_of_ble_eq_true rfl, Nat.le_of_ble_eq_true rfl⟩ (Nat.le_of_ble_eq_true rfl) dX10_ajar_75 H (fun r24 σ23 H => ?_)
            exact g_lret rfl dX10_ajar_78 ⟨_, rfl, H⟩
          · replace H := H.2 c22
            refine g_iload dX10_ajar_49 6 rfl ?_
            refine g_iconst (v := (iI_ 0)) dX10_ajar_51 (by decide) ?_
            refine g_iconst (v := (iI_ 1)) dX10_ajar_52 (by decide) ?_
            refine k_X10_in w_954 rfl ⟨Nat.le_of_ble_eq_true rfl, Nat.le_of_ble_eq_true rfl⟩ (Nat.le_of_ble_eq_true rfl) dX10_ajar_53 H (fun r26 σ25 H => ?_)
            refine g_if_eq 73 dX10_ajar_56 (by decide) (fun c27 => ?_) (fun c27 => ?_)
            · replace H := H.1 c27
              refine g_bipush (v := (iI_ (-2))) dX10_ajar_73 (by decide) ?_
              refine k_X10_no w_1181 rfl ⟨Nat.le_of_ble_eq_true rfl, Nat.le_of_ble_eq_true rfl⟩ (Nat.le_of_ble_eq_true rfl) dX10_ajar_75 H (fun r29 σ28 H => ?_)
              exact g_lret rfl dX10_ajar_78 ⟨_, rfl, H⟩
            · replace H := H.2 c27
              refine g_aload_n dX10_ajar_59 1 rfl rfl ?_
              refine g_iload_n dX10_ajar_60 2 rfl rfl ?_
              refine g_iload_n dX10_ajar_61 3 rfl rfl ?_
              refine g_iload_n dX10_ajar_62 4 rfl rfl ?_
              refine g_iload dX10_ajar_63 5 rfl ?_
              refine g_iload dX10_ajar_65 6 rfl ?_
              refine k_X10_ajarOf w_1249 rfl ⟨Nat.le_of_ble_eq_true rfl, Nat.le_of_ble_eq_true rfl⟩ (Nat.le_of_ble_eq_true rfl) dX10_ajar_67 H (fun r31 σ30 H => ?_)
              refine g_goto 78 dX10_ajar_70 (by decide) ?_
              exact g_lret rfl dX10_ajar_78 ⟨_, rfl, H⟩
set_option maxHeartbeats 4000000 in
set_option maxRecDepth 100000 in
theorem bX10_eveningsOf_12 (u : Ux_) {P : Int32 → St_ → Prop}  (σ : St_) (x2 : Int32) (x3 : Int32) (x4 : Int32) (x5 : Int32) (H : (((iI_ 10) ≤ x5 → GG_ (zm_ u) mX10_eveningsOf (Pi_ P) 42 [(0, .ref (uq_ u 0)), (2, .int x2), (3, .int x3), (4, .int x4), (5, .int (iI_ 0))] [] σ) ∧ (¬ (iI_ 10) ≤ x5 → vp_in x5 10 ∧ vp_in x5 10 ∧ (∀ σ3, σ3 = su_ σ 37 (Int32.toNatClampNeg x5) (σ 31 (Int32.toNatClampNeg x5)) → GG_ (zm_ u) mX10_eveningsOf (Pi_ P) 12 [(0, .ref (uq_ u 0)), (2, .int x2), (3, .int x3), (4, .int x4), (5, .int (x5 + (iI_ 1)))] [] σ3)))) : GG_ (zm_ u) mX10_eveningsOf (Pi_ P) 12 [(0, .ref (uq_ u 0)), (2, .int x2), (3, .int x3), (4, .int x4), (5, .int x5)] [] σ := by
  refine g_iload dX10_eveningsOf_12 4 rfl ?_
  refine g_bipush (v := (iI_ 10)) dX10_eveningsOf_14 (by decide) ?_
  refine g_icmp_ge 39 dX10_eveningsOf_16 (by decide) (fun c1 => ?_) (fun c1 => ?_)
  · replace H := H.1 c1
    refine g_iconst (v := (iI_ 0)) dX10_eveningsOf_39 (by decide) ?_
    refine g_istore (L' := [(5, .int (iI_ 0)), (0, .ref (uq_ u 0)), (2, .int x2), (3, .int x3), (4, .int x4)]) dX10_eveningsOf_40 (by decide) rfl ?_
    exact GG_.sub [1, 2, 3, 4, 0] rfl H
  · replace H := H.2 c1
    refine g_aload_n dX10_eveningsOf_19 0 rfl rfl ?_
    refine gm_LinenHouseModel_carriedTold w_850 rfl dX10_eveningsOf_20 ?_
    refine g_iload dX10_eveningsOf_23 4 rfl ?_
    refine g_aload_n dX10_eveningsOf_25 0 rfl rfl ?_
    refine gm_LinenHouseModel_carried w_844 rfl dX10_eveningsOf_26 ?_
    refine g_iload dX10_eveningsOf_29 4 rfl ?_
    obtain ⟨h2, H⟩ := H
    refine am_31 h2 dX10_eveningsOf_31 ?_
    obtain ⟨h4, H⟩ := H
    refine sm_37 h4 dX10_eveningsOf_32 ?_
    obtain ⟨σ3, e_σ3⟩ : ∃ q : St_, q = su_ σ 37 (Int32.toNatClampNeg x5) (σ 31 (Int32.toNatClampNeg x5)) := ⟨_, rfl⟩
    rw [← e_σ3]
    replace H := H σ3 e_σ3
    refine g_iinc (v := (x5 + (iI_ 1))) (L' := [(5, .int (x5 + (iI_ 1))), (0, .ref (uq_ u 0)), (2, .int x2), (3, .int x3), (4, .int x4)]) dX10_eveningsOf_33 4 rfl rfl (by decide) rfl ?_
    refine g_goto 12 dX10_eveningsOf_36 (by decide) ?_
    exact GG_.sub [1, 2, 3, 4, 0] rfl H
set_option maxHeartbeats 4000000 in
set_option maxRecDepth 100000 in
theorem bX10_eveningsOf_42 (u : Ux_) {P : Int32 → St_ → Prop}  (σ : St_) (x2 : Int32) (x3 : Int32) (x4 : Int32) (x5 : Int32) (H : (((σ 2 0) ≤ x5 → MMv_ (zm_ u) mX10_runs [.ref (uq_ u 0)] σ (fun σ2 => GG_ (zm_ u) mX10_eveningsOf (Pi_ P) 87 [(0, .ref (uq_ u 0)), (2, .int x2), (4, .int x4), (5, .int (iI_ 0))] [] σ2)) ∧ (¬ (σ 2 0) ≤ x5 → MMv_ (zm_ u) mX10_takesOrder [.ref (uq_ u 0), .int x5, .int ((Int32.toUInt32 (((iI_ 1103515245) * x3) + (iI_ 12345)) >>> (Int32.toUInt32 (iI_ 16) &&& Int32.toUInt32 31)).toInt32 - (Int32.toUInt32 (((iI_ 1103515245) * x3) + (iI_ 12345)) >>> (Int32.toUInt32 (iI_ 16) &&& Int32.toUInt32 31)).toInt32 / (iI_ 6) * (iI_ 6))] σ (fun σ3 => GG_ (zm_ u) mX10_eveningsOf (Pi_ P) 42 [(0, .ref (uq_ u 0)), (2, .int x2), (3, .int (((iI_ 1103515245) * x3) + (iI_ 12345))), (4, .int x4), (5, .int (x5 + (iI_ 1)))] [] σ3)))) : GG_ (zm_ u) mX10_eveningsOf (Pi_ P) 42 [(0, .ref (uq_ u 0)), (2, .int x2), (3, .int x3), (4, .int x4), (5, .int x5)] [] σ := by
  refine g_iload dX10_eveningsOf_42 4 rfl ?_
  refine g_aload_n dX10_eveningsOf_44 0 rfl rfl ?_
  refine gm_LinenHouseModel_members w_815 rfl dX10_eveningsOf_45 ?_
  refine g_icmp_ge 80 dX10_eveningsOf_48 (by decide) (fun c1 => ?_) (fun c1 => ?_)
  · replace H := H.1 c1
    refine g_aload_n dX10_eveningsOf_80 0 rfl rfl ?_
    refine k_X10_runs w_1067 rfl ⟨Nat.le_of_ble_eq_true rfl, Nat.le_of_ble_eq_true rfl⟩ (Nat.le_of_ble_eq_true rfl) dX10_eveningsOf_81 H (fun σ2 H => ?_)
    refine g_iconst (v := (iI_ 0)) dX10_eveningsOf_84 (by decide) ?_
    refine g_istore (L' := [(5, .int (iI_ 0)), (0, .ref (uq_ u 0)), (2, .int x2), (3, .int x3), (4, .int x4)]) dX10_eveningsOf_85 (by decide) rfl ?_
    exact GG_.sub [1, 2, 4, 0] rfl H
  · replace H := H.2 c1
    refine g_ldcw (v := (iI_ 1103515245)) (by decide) w_1261 rfl dX10_eveningsOf_51 ?_
    refine g_iload_n dX10_eveningsOf_54 2 rfl rfl ?_
    refine g_imul dX10_eveningsOf_55 ?_
    refine g_sipush (v := (iI_ 12345)) dX10_eveningsOf_56 (by decide) ?_
    refine g_iadd dX10_eveningsOf_59 ?_
    refine g_istore_n (L' := [(3, .int (((iI_ 1103515245) * x3) + (iI_ 12345))), (0, .ref (uq_ u 0)), (2, .int x2), (4, .int x4), (5, .int x5)]) dX10_eveningsOf_60 rfl (by decide) rfl ?_
    refine g_aload_n dX10_eveningsOf_61 1 rfl rfl ?_
    refine g_iload dX10_eveningsOf_62 4 rfl ?_
    refine g_iload_n dX10_eveningsOf_64 0 rfl rfl ?_
    refine g_bipush (v := (iI_ 16)) dX10_eveningsOf_65 (by decide) ?_
    refine g_iushr dX10_eveningsOf_67 ?_
    refine g_bipush (v := (iI_ 6)) dX10_eveningsOf_68 (by decide) ?_
    refine g_irem dX10_eveningsOf_70 (by decide) ?_
    refine k_X10_takesOrder w_1233 rfl ⟨Nat.le_of_ble_eq_true rfl, Nat.le_of_ble_eq_true rfl⟩ (Nat.le_of_ble_eq_true rfl) dX10_eveningsOf_71 H (fun σ3 H => ?_)
    refine g_iinc (v := (x5 + (iI_ 1))) (L' := [(5, .int (x5 + (iI_ 1))), (3, .int (((iI_ 1103515245) * x3) + (iI_ 12345))), (0, .ref (uq_ u 0)), (2, .int x2), (4, .int x4)]) dX10_eveningsOf_74 4 rfl rfl (by decide) rfl ?_
    refine g_goto 42 dX10_eveningsOf_77 (by decide) ?_
    exact GG_.sub [2, 3, 1, 4, 0] rfl H
set_option maxHeartbeats 4000000 in
set_option maxRecDepth 100000 in
theorem bX10_eveningsOf_87 (u : Ux_) {P : Int32 → St_ → Prop}  (σ : St_) (x2 : Int32) (x4 : Int32) (x5 : Int32) (H : (((iI_ 10) ≤ x5 → ((¬ x2 = iI_ 0 → MMi_ (zm_ u) mX10_houseNow [.ref (uq_ u 0), .int (iI_ 9)] σ (fun r4 σ3 => P r4 σ3)) ∧ (x2 = iI_ 0 → P x4 σ))) ∧ (¬ (iI_ 10) ≤ x5 → vp_in x5 10 ∧ vp_in x5 10 ∧ (((σ 31 (Int32.toNatClampNeg x5)) = (σ 37 (Int32.toNatClampNeg x5)) → GG_ (zm_ u) mX10_eveningsOf (Pi_ P) 87 [(0, .ref (uq_ u 0)), (2, .int x2), (4, .int (x4 + (iI_ 0))), (5, .int (x5 + (iI_ 1)))] [] σ) ∧ (¬ (σ 31 (Int32.toNatClampNeg x5)) = (σ 37 (Int32.toNatClampNeg x5)) → GG_ (zm_ u) mX10_eveningsOf (Pi_ P) 87 [(0, .ref (uq_ u 0)), (2, .int x2), (4, .int (x4 + (iI_ 1))), (5, .int (x5 + (iI_ 1)))] [] σ))))) : GG_ (zm_ u) mX10_eveningsOf (Pi_ P) 87 [(0, .ref (uq_ u 0)), (2, .int x2), (4, .int x4), (5, .int x5)] [] σ := by
  refine g_iload dX10_eveningsOf_87 3 rfl ?_
  refine g_bipush (v := (iI_ 10)) dX10_eveningsOf_89 (by decide) ?_
  refine g_icmp_ge 127 dX10_eveningsOf_91 (by decide) (fun c1 => ?_) (fun c1 => ?_)
  · replace H := H.1 c1
    refine g_iload_n dX10_eveningsOf_127 1 rfl rfl ?_
    refine g_if_ne 136 dX10_eveningsOf_128 (by decide) (fun c2 => ?_) (fun c2 => ?_)
    · replace H := H.1 c2
      refine g_aload_n dX10_eveningsOf_136 0 rfl rfl ?_
      refine g_bipush (v := (iI_ 9)) dX10_eveningsOf_137 (by decide) ?_
      refine k_X10_houseNow w_1111 rfl ⟨Nat.le_of_ble_eq_true rfl, Nat.le_of_ble_eq_true rfl⟩ (Nat.le_of_ble_eq_true rfl) dX10_eveningsOf_139 H (fun r4 σ3 H => ?_)
      exact g_iret rfl dX10_eveningsOf_142 ⟨_, rfl, H⟩
    · replace H := H.2 c2
      refine g_iload dX10_eveningsOf_131 2 rfl ?_
      refine g_goto 142 dX10_eveningsOf_133 (by decide) ?_
      exact g_iret rfl dX10_eveningsOf_142 ⟨_, rfl, H⟩
  · replace H := H.2 c1
    refine g_iload dX10_eveningsOf_94 2 rfl ?_
    refine g_aload_n dX10_eveningsOf_96 0 rfl rfl ?_
    refine gm_LinenHouseModel_carried w_844 rfl dX10_eveningsOf_97 ?_
    refine g_iload dX10_eveningsOf_100 3 rfl ?_
    obtain ⟨h5, H⟩ := H
    refine am_31 h5 dX10_eveningsOf_102 ?_
    refine g_aload_n dX10_eveningsOf_103 0 rfl rfl ?_
    refine gm_LinenHouseModel_carriedTold w_850 rfl dX10_eveningsOf_104 ?_
    refine g_iload dX10_eveningsOf_107 3 rfl ?_
    obtain ⟨h6, H⟩ := H
    refine am_37 h6 dX10_eveningsOf_109 ?_
    refine g_icmp_eq 117 dX10_eveningsOf_110 (by decide) (fun c7 => ?_) (fun c7 => ?_)
    · replace H := H.1 c7
      refine g_iconst (v := (iI_ 0)) dX10_eveningsOf_117 (by decide) ?_
      refine g_iadd dX10_eveningsOf_118 ?_
      refine g_istore (L' := [(4, .int (x4 + (iI_ 0))), (0, .ref (uq_ u 0)), (2, .int x2), (5, .int x5)]) dX10_eveningsOf_119 (by decide) rfl ?_
      refine g_iinc (v := (x5 + (iI_ 1))) (L' := [(5, .int (x5 + (iI_ 1))), (4, .int (x4 + (iI_ 0))), (0, .ref (uq_ u 0)), (2, .int x2)]) dX10_eveningsOf_121 3 rfl rfl (by decide) rfl ?_
      refine g_goto 87 dX10_eveningsOf_124 (by decide) ?_
      exact GG_.sub [2, 3, 1, 0] rfl H
    · replace H := H.2 c7
      refine g_iconst (v := (iI_ 1)) dX10_eveningsOf_113 (by decide) ?_
      refine g_goto 118 dX10_eveningsOf_114 (by decide) ?_
      refine g_iadd dX10_eveningsOf_118 ?_
      refine g_istore (L' := [(4, .int (x4 + (iI_ 1))), (0, .ref (uq_ u 0)), (2, .int x2), (5, .int x5)]) dX10_eveningsOf_119 (by decide) rfl ?_
      refine g_iinc (v := (x5 + (iI_ 1))) (L' := [(5, .int (x5 + (iI_ 1))), (4, .int (x4 + (iI_ 1))), (0, .ref (uq_ u 0)), (2, .int x2)]) dX10_eveningsOf_121 3 rfl rfl (by decide) rfl ?_
      refine g_goto 87 dX10_eveningsOf_124 (by decide) ?_
      exact GG_.sub [2, 3, 1, 0] rfl H
set_option maxHeartbeats 4000000 in
set_option maxRecDepth 100000 in
theorem eX10_eveningsOf (u : Ux_) {P : Int32 → St_ → Prop}  (σ : St_) (x1 : Int32) (x2 : Int32) (H : MMv_ (zm_ u) mX10_runsTold [.ref (uq_ u 0)] σ (fun σ1 => GG_ (zm_ u) mX10_eveningsOf (Pi_ P) 12 [(0, .ref (uq_ u 0)), (2, .int x2), (3, .int x1), (4, .int (iI_ 0)), (5, .int (iI_ 0))] [] σ1)) : MMi_ (zm_ u) mX10_eveningsOf [.ref (uq_ u 0), .int x1, .int x2] σ P := by
  refine MM_.of (L := [(0, .ref (uq_ u 0)), (1, .int x1), (2, .int x2)]) (by decide +kernel) (Nat.le_of_ble_eq_true rfl) rfl ?_
  refine g_aload_n dX10_eveningsOf_0 0 rfl rfl ?_
  refine k_X10_runsTold w_1059 rfl ⟨Nat.le_of_ble_eq_true rfl, Nat.le_of_ble_eq_true rfl⟩ (Nat.le_of_ble_eq_true rfl) dX10_eveningsOf_1 H (fun σ1 H => ?_)
  refine g_iload_n dX10_eveningsOf_4 1 rfl rfl ?_
  refine g_istore_n (L' := [(3, .int x1), (0, .ref (uq_ u 0)), (1, .int x1), (2, .int x2)]) dX10_eveningsOf_5 rfl (by decide) rfl ?_
  refine g_iconst (v := (iI_ 0)) dX10_eveningsOf_6 (by decide) ?_
  refine g_istore (L' := [(4, .int (iI_ 0)), (3, .int x1), (0, .ref (uq_ u 0)), (1, .int x1), (2, .int x2)]) dX10_eveningsOf_7 (by decide) rfl ?_
  refine g_iconst (v := (iI_ 0)) dX10_eveningsOf_9 (by decide) ?_
  refine g_istore (L' := [(5, .int (iI_ 0)), (4, .int (iI_ 0)), (3, .int x1), (0, .ref (uq_ u 0)), (1, .int x1), (2, .int x2)]) dX10_eveningsOf_10 (by decide) rfl ?_
  exact GG_.sub [3, 5, 2, 1, 0] rfl H
set_option maxHeartbeats 4000000 in
set_option maxRecDepth 100000 in
theorem eX10_evenings (u : Ux_) {P : Int32 → St_ → Prop}  (σ : St_) (x1 : Int32) (x2 : Int32) (H : MMi_ (zm_ u) mX10_in [.int x2, .int (iI_ 0), .int (iI_ 1)] σ (fun r2 σ1 => ((r2 = iI_ 0 → P (iI_ (-2)) σ1) ∧ (¬ r2 = iI_ 0 → MMi_ (zm_ u) mX10_eveningsOf [.ref (uq_ u 0), .int x1, .int x2] σ1 (fun r5 σ4 => P r5 σ4))))) : MMi_ (zm_ u) mX10_evenings [.ref (uq_ u 0), .int x1, .int x2] σ P := by
  refine MM_.of (L := [(0, .ref (uq_ u 0)), (1, .int x1), (2, .int x2)]) (by decide +kernel) (Nat.le_of_ble_eq_true rfl) rfl ?_
  refine g_iload_n dX10_evenings_0 2 rfl rfl ?_
  refine g_iconst (v := (iI_ 0)) dX10_evenings_1 (by decide) ?_
  refine g_iconst (v := (iI_ 1)) dX10_evenings_2 (by decide) ?_
  refine k_X10_in w_954 rfl ⟨Nat.le_of_ble_eq_true rfl, Nat.le_of_ble_eq_true rfl⟩ (Nat.le_of_ble_eq_true rfl) dX10_evenings_3 H (fun r2 σ1 H => ?_)
  refine g_if_eq 18 dX10_evenings_6 (by decide) (fun c3 => ?_) (fun c3 => ?_)
  · replace H := H.1 c3
    refine g_bipush (v := (iI_ (-2))) dX10_evenings_18 (by decide) ?_
    exact g_iret rfl dX10_evenings_20 ⟨_, rfl, H⟩
  · replace H := H.2 c3
    refine g_aload_n dX10_evenings_9 0 rfl rfl ?_
    refine g_iload_n dX10_evenings_10 1 rfl rfl ?_
    refine g_iload_n dX10_evenings_11 2 rfl rfl ?_
    refine k_X10_eveningsOf w_1257 rfl ⟨Nat.le_of_ble_eq_true rfl, Nat.le_of_ble_eq_true rfl⟩ (Nat.le_of_ble_eq_true rfl) dX10_evenings_12 H (fun r5 σ4 H => ?_)
    refine g_goto 20 dX10_evenings_15 (by decide) ?_
    exact g_iret rfl dX10_evenings_20 ⟨_, rfl, H⟩
set_option maxHeartbeats 4000000 in
set_option maxRecDepth 100000 in
theorem eX10_meets (u : Ux_) {P : Int32 → St_ → Prop}  (σ : St_) (x1 : Int32) (H : (∀ σ1, σ1 = su_ σ 43 0 x1 → P ((iI_ (-10)) - x1) σ1)) : MMi_ (zm_ u) mX10_meets [.ref (uq_ u 0), .int x1] σ P := by
  refine MM_.of (L := [(0, .ref (uq_ u 0)), (1, .int x1)]) (by decide +kernel) (Nat.le_of_ble_eq_true rfl) rfl ?_
  refine g_aload_n dX10_meets_0 0 rfl rfl ?_
  refine g_iload_n dX10_meets_1 1 rfl rfl ?_
  refine pm_LinenHouseModel_finding w_856 rfl dX10_meets_2 ?_
  obtain ⟨σ1, e_σ1⟩ : ∃ q : St_, q = su_ σ 43 0 x1 := ⟨_, rfl⟩
  rw [← e_σ1]
  replace H := H σ1 e_σ1
  refine g_bipush (v := (iI_ (-10))) dX10_meets_5 (by decide) ?_
  refine g_iload_n dX10_meets_7 1 rfl rfl ?_
  refine g_isub dX10_meets_8 ?_
  exact g_iret rfl dX10_meets_9 ⟨_, rfl, H⟩
set_option maxHeartbeats 4000000 in
set_option maxRecDepth 100000 in
theorem eX10_isSheet (u : Ux_) {P : Int32 → St_ → Prop}  (σ : St_) (x0 : Int32) (H : MMi_ (zm_ u) mX10_in [.int x0, .int (iI_ 0), .int (iI_ 3)] σ (fun r2 σ1 => (r2 = iI_ 0 ∨ r2 = iI_ 1) ∧ P r2 σ1)) : MMi_ (zm_ u) mX10_isSheet [.int x0] σ P := by
  refine MM_.of (L := [(0, .int x0)]) (by decide +kernel) (Nat.le_of_ble_eq_true rfl) rfl ?_
  refine g_iload_n dX10_isSheet_0 0 rfl rfl ?_
  refine g_iconst (v := (iI_ 0)) dX10_isSheet_1 (by decide) ?_
  refine g_iconst (v := (iI_ 3)) dX10_isSheet_2 (by decide) ?_
  refine k_X10_in w_954 rfl ⟨Nat.le_of_ble_eq_true rfl, Nat.le_of_ble_eq_true rfl⟩ (Nat.le_of_ble_eq_true rfl) dX10_isSheet_3 H (fun r2 σ1 H => ?_)
  obtain ⟨hz, H⟩ := H
  exact g_zret rfl hz dX10_isSheet_6 ⟨_, rfl, H⟩
set_option maxHeartbeats 4000000 in
set_option maxRecDepth 100000 in
theorem bX10_sheet_59 (u : Ux_) {P : Int32 → St_ → Prop}  (σ : St_) (x1 : Int32) (x3 : Int32) (x4 : Int32) (H : (((iI_ 60) ≤ x4 → P x3 σ) ∧ (¬ (iI_ 60) ≤ x4 → vp_in (((iI_ 60) * x1) + x4) 240 ∧ (∀ σ2, σ2 = su_ σ 41 (Int32.toNatClampNeg (((iI_ 60) * x1) + x4)) (iI_ 0) → GG_ (zm_ u) mX10_sheet (Pi_ P) 59 [(0, .ref (uq_ u 0)), (1, .int x1), (3, .int x3), (4, .int (x4 + (iI_ 1)))] [] σ2)))) : GG_ (zm_ u) mX10_sheet (Pi_ P) 59 [(0, .ref (uq_ u 0)), (1, .int x1), (3, .int x3), (4, .int x4)] [] σ := by
  refine g_iload dX10_sheet_59 3 rfl ?_
  refine g_bipush (v := (iI_ 60)) dX10_sheet_61 (by decide) ?_
  refine g_icmp_ge 85 dX10_sheet_63 (by decide) (fun c1 => ?_) (fun c1 => ?_)
  · replace H := H.1 c1
    refine g_iload_n dX10_sheet_85 2 rfl rfl ?_
    exact g_iret rfl dX10_sheet_86 ⟨_, rfl, H⟩
  · replace H := H.2 c1
    refine g_aload_n dX10_sheet_66 0 rfl rfl ?_
    refine gm_LinenHouseModel_items w_854 rfl dX10_sheet_67 ?_
    refine g_bipush (v := (iI_ 60)) dX10_sheet_70 (by decide) ?_
    refine g_iload_n dX10_sheet_72 1 rfl rfl ?_
    refine g_imul dX10_sheet_73 ?_
    refine g_iload dX10_sheet_74 3 rfl ?_
    refine g_iadd dX10_sheet_76 ?_
    refine g_iconst (v := (iI_ 0)) dX10_sheet_77 (by decide) ?_
    obtain ⟨h3, H⟩ := H
    refine sm_41 h3 dX10_sheet_78 ?_
    obtain ⟨σ2, e_σ2⟩ : ∃ q : St_, q = su_ σ 41 (Int32.toNatClampNeg (((iI_ 60) * x1) + x4)) (iI_ 0) := ⟨_, rfl⟩
    rw [← e_σ2]
    replace H := H σ2 e_σ2
    refine g_iinc (v := (x4 + (iI_ 1))) (L' := [(4, .int (x4 + (iI_ 1))), (0, .ref (uq_ u 0)), (1, .int x1), (3, .int x3)]) dX10_sheet_79 3 rfl rfl (by decide) rfl ?_
    refine g_goto 59 dX10_sheet_82 (by decide) ?_
    exact GG_.sub [1, 2, 3, 0] rfl H
set_option maxHeartbeats 4000000 in
set_option maxRecDepth 100000 in
theorem eX10_sheet (u : Ux_) {P : Int32 → St_ → Prop}  (σ : St_) (x1 : Int32) (x2 : Int32) (x3 : Int32) (H : MMi_ (zm_ u) mX10_isSheet [.int x1] σ (fun r2 σ1 => ((r2 = iI_ 0 → P (iI_ (-2)) σ1) ∧ (¬ r2 = iI_ 0 → MMi_ (zm_ u) mX10_in [.int x2, .int (iI_ 0), .int (iI_ 2)] σ1 (fun r5 σ4 => ((r5 = iI_ 0 → P (iI_ (-2)) σ4) ∧ (¬ r5 = iI_ 0 → ((x3 ≤ (iI_ 60) → ((iI_ 0 ≤ x3 → vp_in x1 4 ∧ (∀ σ9, σ9 = su_ σ4 38 (Int32.toNatClampNeg x1) (iI_ 1) → vp_in x1 4 ∧ (∀ σ11, σ11 = su_ σ9 39 (Int32.toNatClampNeg x1) x2 → vp_in x1 4 ∧ (∀ σ13, σ13 = su_ σ11 40 (Int32.toNatClampNeg x1) x3 → GG_ (zm_ u) mX10_sheet (Pi_ P) 59 [(0, .ref (uq_ u 0)), (1, .int x1), (3, .int x3), (4, .int (iI_ 0))] [] σ13)))) ∧ (¬ iI_ 0 ≤ x3 → MMi_ (zm_ u) mX10_meets [.ref (uq_ u 0), .int (iI_ 5)] σ4 (fun r16 σ15 => P r16 σ15)))) ∧ (¬ x3 ≤ (iI_ 60) → P (iI_ (-2)) σ4))))))))) : MMi_ (zm_ u) mX10_sheet [.ref (uq_ u 0), .int x1, .int x2, .int x3] σ P := by
  refine MM_.of (L := [(0, .ref (uq_ u 0)), (1, .int x1), (2, .int x2), (3, .int x3)]) (by decide +kernel) (Nat.le_of_ble_eq_true rfl) rfl ?_
  refine g_iload_n dX10_sheet_0 1 rfl rfl ?_
  refine k_X10_isSheet w_1043 rfl ⟨Nat.le_of_ble_eq_true rfl, Nat.le_of_ble_eq_true rfl⟩ (Nat.le_of_ble_eq_true rfl) dX10_sheet_1 H (fun r2 σ1 H => ?_)
  refine g_if_eq 22 dX10_sheet_4 (by decide) (fun c3 => ?_) (fun c3 => ?_)
  · replace H := H.1 c3
    refine g_bipush (v := (iI_ (-2))) dX10_sheet_22 (by decide) ?_
    exact g_iret rfl dX10_sheet_24 ⟨_, rfl, H⟩
  · replace H := H.2 c3
    refine g_iload_n dX10_sheet_7 2 rfl rfl ?_
    refine g_iconst (v := (iI_ 0)) dX10_sheet_8 (by decide) ?_
    refine g_iconst (v := (iI_ 2)) dX10_sheet_9 (by decide) ?_
    refine k_X10_in w_954 rfl ⟨Nat.le_of_ble_eq_true rfl, Nat.le_of_ble_eq_true rfl⟩ (Nat.le_of_ble_eq_true rfl) dX10_sheet_10 H (fun r5 σ4 H => ?_)
    refine g_if_eq 22 dX10_sheet_13 (by decide) (fun c6 => ?_) (fun c6 => ?_)
    · replace H := H.1 c6
      refine g_bipush (v := (iI_ (-2))) dX10_sheet_22 (by decide) ?_
      exact g_iret rfl dX10_sheet_24 ⟨_, rfl, H⟩
    · replace H := H.2 c6
      refine g_iload_n dX10_sheet_16 3 rfl rfl ?_
      refine g_bipush (v := (iI_ 60)) dX10_sheet_17 (by decide) ?_
      refine g_icmp_le 25 dX10_sheet_19 (by decide) (fun c7 => ?_) (fun c7 => ?_)
      · replace H := H.1 c7
        refine g_iload_n dX10_sheet_25 3 rfl rfl ?_
        refine g_if_ge 35 dX10_sheet_26 (by decide) (fun c8 => ?_) (fun c8 => ?_)
        · replace H := H.1 c8
          refine g_aload_n dX10_sheet_35 0 rfl rfl ?_
          refine gm_LinenHouseModel_isThere w_851 rfl dX10_sheet_36 ?_
          refine g_iload_n dX10_sheet_39 1 rfl rfl ?_
          refine g_iconst (v := (iI_ 1)) dX10_sheet_40 (by decide) ?_
          obtain ⟨h10, H⟩ := H
          refine sm_38 h10 (by decide) dX10_sheet_41 ?_
          obtain ⟨σ9, e_σ9⟩ : ∃ q : St_, q = su_ σ4 38 (Int32.toNatClampNeg x1) (iI_ 1) := ⟨_, rfl⟩
          rw [← e_σ9]
          replace H := H σ9 e_σ9
          refine g_aload_n dX10_sheet_42 0 rfl rfl ?_
          refine gm_LinenHouseModel_forms w_852 rfl dX10_sheet_43 ?_
          refine g_iload_n dX10_sheet_46 1 rfl rfl ?_
          refine g_iload_n dX10_sheet_47 2 rfl rfl ?_
          obtain ⟨h12, H⟩ := H
          refine sm_39 h12 dX10_sheet_48 ?_
          obtain ⟨σ11, e_σ11⟩ : ∃ q : St_, q = su_ σ9 39 (Int32.toNatClampNeg x1) x2 := ⟨_, rfl⟩
          rw [← e_σ11]
          replace H := H σ11 e_σ11
          refine g_aload_n dX10_sheet_49 0 rfl rfl ?_
          refine gm_LinenHouseModel_sizes w_853 rfl dX10_sheet_50 ?_
          refine g_iload_n dX10_sheet_53 1 rfl rfl ?_
          refine g_iload_n dX10_sheet_54 3 rfl rfl ?_
          obtain ⟨h14, H⟩ := H
          refine sm_40 h14 dX10_sheet_55 ?_
          obtain ⟨σ13, e_σ13⟩ : ∃ q : St_, q = su_ σ11 40 (Int32.toNatClampNeg x1) x3 := ⟨_, rfl⟩
          rw [← e_σ13]
          replace H := H σ13 e_σ13
          refine g_iconst (v := (iI_ 0)) dX10_sheet_56 (by decide) ?_
          refine g_istore (L' := [(4, .int (iI_ 0)), (0, .ref (uq_ u 0)), (1, .int x1), (2, .int x2), (3, .int x3)]) dX10_sheet_57 (by decide) rfl ?_
          exact GG_.sub [1, 2, 4, 0] rfl H
        · replace H := H.2 c8
          refine g_aload_n dX10_sheet_29 0 rfl rfl ?_
          refine g_iconst (v := (iI_ 5)) dX10_sheet_30 (by decide) ?_
          refine k_X10_meets w_1046 rfl ⟨Nat.le_of_ble_eq_true rfl, Nat.le_of_ble_eq_true rfl⟩ (Nat.le_of_ble_eq_true rfl) dX10_sheet_31 H (fun r16 σ15 H => ?_)
          exact g_iret rfl dX10_sheet_34 ⟨_, rfl, H⟩
      · replace H := H.2 c7
        refine g_bipush (v := (iI_ (-2))) dX10_sheet_22 (by decide) ?_
        exact g_iret rfl dX10_sheet_24 ⟨_, rfl, H⟩
set_option maxHeartbeats 4000000 in
set_option maxRecDepth 100000 in
theorem eX10_lose (u : Ux_) {P : Int32 → St_ → Prop}  (σ : St_) (x1 : Int32) (H : MMi_ (zm_ u) mX10_isSheet [.int x1] σ (fun r2 σ1 => ((¬ r2 = iI_ 0 → vp_in x1 4 ∧ ((¬ (σ1 38 (Int32.toNatClampNeg x1)) = iI_ 0 → vp_in x1 4 ∧ (∀ σ6, σ6 = su_ σ1 38 (Int32.toNatClampNeg x1) (iI_ 0) → vp_in x1 4 ∧ P (σ6 40 (Int32.toNatClampNeg x1)) σ6)) ∧ ((σ1 38 (Int32.toNatClampNeg x1)) = iI_ 0 → MMi_ (zm_ u) mX10_meets [.ref (uq_ u 0), .int (iI_ 1)] σ1 (fun r10 σ9 => P r10 σ9)))) ∧ (r2 = iI_ 0 → P (iI_ (-2)) σ1)))) : MMi_ (zm_ u) mX10_lose [.ref (uq_ u 0), .int x1] σ P := by
  refine MM_.of (L := [(0, .ref (uq_ u 0)), (1, .int x1)]) (by decide +kernel) (Nat.le_of_ble_eq_true rfl) rfl ?_
  refine g_iload_n dX10_lose_0 1 rfl rfl ?_
  refine k_X10_isSheet w_1043 rfl ⟨Nat.le_of_ble_eq_true rfl, Nat.le_of_ble_eq_true rfl⟩ (Nat.le_of_ble_eq_true rfl) dX10_lose_1 H (fun r2 σ1 H => ?_)
  refine g_if_ne 10 dX10_lose_4 (by decide) (fun c3 => ?_) (fun c3 => ?_)
  · replace H := H.1 c3
    refine g_aload_n dX10_lose_10 0 rfl rfl ?_
    refine gm_LinenHouseModel_isThere w_851 rfl dX10_lose_11 ?_
    refine g_iload_n dX10_lose_14 1 rfl rfl ?_
    obtain ⟨h4, H⟩ := H
    refine am_38 h4 dX10_lose_15 ?_
    refine g_if_ne 25 dX10_lose_16 (by decide) (fun c5 => ?_) (fun c5 => ?_)
    · replace H := H.1 c5
      refine g_aload_n dX10_lose_25 0 rfl rfl ?_
      refine gm_LinenHouseModel_isThere w_851 rfl dX10_lose_26 ?_
      refine g_iload_n dX10_lose_29 1 rfl rfl ?_
      refine g_iconst (v := (iI_ 0)) dX10_lose_30 (by decide) ?_
      obtain ⟨h7, H⟩ := H
      refine sm_38 h7 (by decide) dX10_lose_31 ?_
      obtain ⟨σ6, e_σ6⟩ : ∃ q : St_, q = su_ σ1 38 (Int32.toNatClampNeg x1) (iI_ 0) := ⟨_, rfl⟩
      rw [← e_σ6]
      replace H := H σ6 e_σ6
      refine g_aload_n dX10_lose_32 0 rfl rfl ?_
      refine gm_LinenHouseModel_sizes w_853 rfl dX10_lose_33 ?_
      refine g_iload_n dX10_lose_36 1 rfl rfl ?_
      obtain ⟨h8, H⟩ := H
      refine am_40 h8 dX10_lose_37 ?_
      exact g_iret rfl dX10_lose_38 ⟨_, rfl, H⟩
    · replace H := H.2 c5
      refine g_aload_n dX10_lose_19 0 rfl rfl ?_
      refine g_iconst (v := (iI_ 1)) dX10_lose_20 (by decide) ?_
      refine k_X10_meets w_1046 rfl ⟨Nat.le_of_ble_eq_true rfl, Nat.le_of_ble_eq_true rfl⟩ (Nat.le_of_ble_eq_true rfl) dX10_lose_21 H (fun r10 σ9 H => ?_)
      exact g_iret rfl dX10_lose_24 ⟨_, rfl, H⟩
  · replace H := H.2 c3
    refine g_bipush (v := (iI_ (-2))) dX10_lose_7 (by decide) ?_
    exact g_iret rfl dX10_lose_9 ⟨_, rfl, H⟩
set_option maxHeartbeats 4000000 in
set_option maxRecDepth 100000 in
theorem eX10_lacks (u : Ux_) {P : Int32 → St_ → Prop}  (σ : St_) (x1 : Int32) (x2 : Int32) (x3 : Int32) (H : vp_in x1 4 ∧ ((¬ (σ 38 (Int32.toNatClampNeg x1)) = iI_ 0 → vp_in x1 4 ∧ (((σ 39 (Int32.toNatClampNeg x1)) = x2 → vp_in x1 4 ∧ MMi_ (zm_ u) mX10_in [.int x3, .int (iI_ 0), .int ((σ 40 (Int32.toNatClampNeg x1)) - (iI_ 1))] σ (fun r7 σ6 => ((r7 = iI_ 0 → P (iI_ 2) σ6) ∧ (¬ r7 = iI_ 0 → P (iI_ 0) σ6)))) ∧ (¬ (σ 39 (Int32.toNatClampNeg x1)) = x2 → P (iI_ 3) σ))) ∧ ((σ 38 (Int32.toNatClampNeg x1)) = iI_ 0 → P (iI_ 1) σ))) : MMi_ (zm_ u) mX10_lacks [.ref (uq_ u 0), .int x1, .int x2, .int x3] σ P := by
  refine MM_.of (L := [(0, .ref (uq_ u 0)), (1, .int x1), (2, .int x2), (3, .int x3)]) (by decide +kernel) (Nat.le_of_ble_eq_true rfl) rfl ?_
  refine g_aload_n dX10_lacks_0 0 rfl rfl ?_
  refine gm_LinenHouseModel_isThere w_851 rfl dX10_lacks_1 ?_
  refine g_iload_n dX10_lacks_4 1 rfl rfl ?_
  obtain ⟨h1, H⟩ := H
  refine am_38 h1 dX10_lacks_5 ?_
  refine g_if_ne 13 dX10_lacks_6 (by decide) (fun c2 => ?_) (fun c2 => ?_)
  · replace H := H.1 c2
    refine g_aload_n dX10_lacks_13 0 rfl rfl ?_
    refine gm_LinenHouseModel_forms w_852 rfl dX10_lacks_14 ?_
    refine g_iload_n dX10_lacks_17 1 rfl rfl ?_
    obtain ⟨h3, H⟩ := H
    refine am_39 h3 dX10_lacks_18 ?_
    refine g_iload_n dX10_lacks_19 2 rfl rfl ?_
    refine g_icmp_eq 27 dX10_lacks_20 (by decide) (fun c4 => ?_) (fun c4 => ?_)
    · replace H := H.1 c4
      refine g_iload_n dX10_lacks_27 3 rfl rfl ?_
      refine g_iconst (v := (iI_ 0)) dX10_lacks_28 (by decide) ?_
      refine g_aload_n dX10_lacks_29 0 rfl rfl ?_
      refine gm_LinenHouseModel_sizes w_853 rfl dX10_lacks_30 ?_
      refine g_iload_n dX10_lacks_33 1 rfl rfl ?_
      obtain ⟨h5, H⟩ := H
      refine am_40 h5 dX10_lacks_34 ?_
      refine g_iconst (v := (iI_ 1)) dX10_lacks_35 (by decide) ?_
      refine g_isub dX10_lacks_36 ?_
      refine k_X10_in w_954 rfl ⟨Nat.le_of_ble_eq_true rfl, Nat.le_of_ble_eq_true rfl⟩ (Nat.le_of_ble_eq_true rfl) dX10_lacks_37 H (fun r7 σ6 H => ?_)
      refine g_if_eq 47 dX10_lacks_40 (by decide) (fun c8 => ?_) (fun c8 => ?_)
      · replace H := H.1 c8
        refine g_iconst (v := (iI_ 2)) dX10_lacks_47 (by decide) ?_
        exact g_iret rfl dX10_lacks_48 ⟨_, rfl, H⟩
      · replace H := H.2 c8
        refine g_iconst (v := (iI_ 0)) dX10_lacks_43 (by decide) ?_
        refine g_goto 48 dX10_lacks_44 (by decide) ?_
        exact g_iret rfl dX10_lacks_48 ⟨_, rfl, H⟩
    · replace H := H.2 c4
      refine g_iconst (v := (iI_ 3)) dX10_lacks_23 (by decide) ?_
      refine g_goto 48 dX10_lacks_24 (by decide) ?_
      exact g_iret rfl dX10_lacks_48 ⟨_, rfl, H⟩
  · replace H := H.2 c2
    refine g_iconst (v := (iI_ 1)) dX10_lacks_9 (by decide) ?_
    refine g_goto 48 dX10_lacks_10 (by decide) ?_
    exact g_iret rfl dX10_lacks_48 ⟨_, rfl, H⟩
set_option maxHeartbeats 4000000 in
set_option maxRecDepth 100000 in
theorem eX10_keep (u : Ux_) {P : St_ → Prop}  (σ : St_) (x1 : Int32) (x2 : Int32) (x3 : Int32) (H : vp_in x1 4 ∧ ((¬ (σ 39 (Int32.toNatClampNeg x1)) = iI_ 0 → vp_in x1 4 ∧ ((¬ (σ 39 (Int32.toNatClampNeg x1)) = (iI_ 1) → vp_in (((iI_ 60) * x1) + x2) 240 ∧ (∀ σ5, σ5 = su_ σ 41 (Int32.toNatClampNeg (((iI_ 60) * x1) + x2)) x3 → P σ5)) ∧ ((σ 39 (Int32.toNatClampNeg x1)) = (iI_ 1) → vp_in (((iI_ 60) * x1) + x2) 240 ∧ (∀ σ7, σ7 = su_ σ 41 (Int32.toNatClampNeg (((iI_ 60) * x1) + x2)) (Int32.toInt16 x3).toInt32 → P σ7)))) ∧ ((σ 39 (Int32.toNatClampNeg x1)) = iI_ 0 → vp_in (((iI_ 60) * x1) + x2) 240 ∧ (∀ σ9, σ9 = su_ σ 41 (Int32.toNatClampNeg (((iI_ 60) * x1) + x2)) (Int32.toInt8 x3).toInt32 → P σ9)))) : MMv_ (zm_ u) mX10_keep [.ref (uq_ u 0), .int x1, .int x2, .int x3] σ P := by
  refine MM_.of (L := [(0, .ref (uq_ u 0)), (1, .int x1), (2, .int x2), (3, .int x3)]) (by decide +kernel) (Nat.le_of_ble_eq_true rfl) rfl ?_
  refine g_aload_n dX10_keep_0 0 rfl rfl ?_
  refine gm_LinenHouseModel_items w_854 rfl dX10_keep_1 ?_
  refine g_bipush (v := (iI_ 60)) dX10_keep_4 (by decide) ?_
  refine g_iload_n dX10_keep_6 1 rfl rfl ?_
  refine g_imul dX10_keep_7 ?_
  refine g_iload_n dX10_keep_8 2 rfl rfl ?_
  refine g_iadd dX10_keep_9 ?_
  refine g_aload_n dX10_keep_10 0 rfl rfl ?_
  refine gm_LinenHouseModel_forms w_852 rfl dX10_keep_11 ?_
  refine g_iload_n dX10_keep_14 1 rfl rfl ?_
  obtain ⟨h1, H⟩ := H
  refine am_39 h1 dX10_keep_15 ?_
  refine g_if_ne 24 dX10_keep_16 (by decide) (fun c2 => ?_) (fun c2 => ?_)
  · replace H := H.1 c2
    refine g_aload_n dX10_keep_24 0 rfl rfl ?_
    refine gm_LinenHouseModel_forms w_852 rfl dX10_keep_25 ?_
    refine g_iload_n dX10_keep_28 1 rfl rfl ?_
    obtain ⟨h3, H⟩ := H
    refine am_39 h3 dX10_keep_29 ?_
    refine g_iconst (v := (iI_ 1)) dX10_keep_30 (by decide) ?_
    refine g_icmp_ne 39 dX10_keep_31 (by decide) (fun c4 => ?_) (fun c4 => ?_)
    · replace H := H.1 c4
      refine g_iload_n dX10_keep_39 3 rfl rfl ?_
      obtain ⟨h6, H⟩ := H
      refine sm_41 h6 dX10_keep_40 ?_
      obtain ⟨σ5, e_σ5⟩ : ∃ q : St_, q = su_ σ 41 (Int32.toNatClampNeg (((iI_ 60) * x1) + x2)) x3 := ⟨_, rfl⟩
      rw [← e_σ5]
      replace H := H σ5 e_σ5
      exact g_vret rfl dX10_keep_41 ⟨rfl, H⟩
    · replace H := H.2 c4
      refine g_iload_n dX10_keep_34 3 rfl rfl ?_
      refine g_i2s dX10_keep_35 ?_
      refine g_goto 40 dX10_keep_36 (by decide) ?_
      obtain ⟨h8, H⟩ := H
      refine sm_41 h8 dX10_keep_40 ?_
      obtain ⟨σ7, e_σ7⟩ : ∃ q : St_, q = su_ σ 41 (Int32.toNatClampNeg (((iI_ 60) * x1) + x2)) (Int32.toInt16 x3).toInt32 := ⟨_, rfl⟩
      rw [← e_σ7]
      replace H := H σ7 e_σ7
      exact g_vret rfl dX10_keep_41 ⟨rfl, H⟩
  · replace H := H.2 c2
    refine g_iload_n dX10_keep_19 3 rfl rfl ?_
    refine g_i2b dX10_keep_20 ?_
    refine g_goto 40 dX10_keep_21 (by decide) ?_
    obtain ⟨h10, H⟩ := H
    refine sm_41 h10 dX10_keep_40 ?_
    obtain ⟨σ9, e_σ9⟩ : ∃ q : St_, q = su_ σ 41 (Int32.toNatClampNeg (((iI_ 60) * x1) + x2)) (Int32.toInt8 x3).toInt32 := ⟨_, rfl⟩
    rw [← e_σ9]
    replace H := H σ9 e_σ9
    exact g_vret rfl dX10_keep_41 ⟨rfl, H⟩
set_option maxHeartbeats 4000000 in
set_option maxRecDepth 100000 in
theorem eX10_put (u : Ux_) {P : Int32 → St_ → Prop}  (σ : St_) (x1 : Int32) (x2 : Int32) (x3 : Int32) (x4 : Int32) (H : MMi_ (zm_ u) mX10_isSheet [.int x1] σ (fun r2 σ1 => ((r2 = iI_ 0 → P (iI_ (-2)) σ1) ∧ (¬ r2 = iI_ 0 → MMi_ (zm_ u) mX10_in [.int x2, .int (iI_ 0), .int (iI_ 2)] σ1 (fun r5 σ4 => ((¬ r5 = iI_ 0 → MMi_ (zm_ u) mX10_lacks [.ref (uq_ u 0), .int x1, .int x2, .int x3] σ4 (fun r8 σ7 => ((r8 ≤ iI_ 0 → MMv_ (zm_ u) mX10_keep [.ref (uq_ u 0), .int x1, .int x3, .int x4] σ7 (fun σ10 => P (iI_ 1) σ10)) ∧ (¬ r8 ≤ iI_ 0 → MMi_ (zm_ u) mX10_meets [.ref (uq_ u 0), .int r8] σ7 (fun r12 σ11 => P r12 σ11))))) ∧ (r5 = iI_ 0 → P (iI_ (-2)) σ4))))))) : MMi_ (zm_ u) mX10_put [.ref (uq_ u 0), .int x1, .int x2, .int x3, .int x4] σ P := by
  refine MM_.of (L := [(0, .ref (uq_ u 0)), (1, .int x1), (2, .int x2), (3, .int x3), (4, .int x4)]) (by decide +kernel) (Nat.le_of_ble_eq_true rfl) rfl ?_
  refine g_iload_n dX10_put_0 1 rfl rfl ?_
  refine k_X10_isSheet w_1043 rfl ⟨Nat.le_of_ble_eq_true rfl, Nat.le_of_ble_eq_true rfl⟩ (Nat.le_of_ble_eq_true rfl) dX10_put_1 H (fun r2 σ1 H => ?_)
  refine g_if_eq 16 dX10_put_4 (by decide) (fun c3 => ?_) (fun c3 => ?_)
  · replace H := H.1 c3
    refine g_bipush (v := (iI_ (-2))) dX10_put_16 (by decide) ?_
    exact g_iret rfl dX10_put_18 ⟨_, rfl, H⟩
  · replace H := H.2 c3
    refine g_iload_n dX10_put_7 2 rfl rfl ?_
    refine g_iconst (v := (iI_ 0)) dX10_put_8 (by decide) ?_
    refine g_iconst (v := (iI_ 2)) dX10_put_9 (by decide) ?_
    refine k_X10_in w_954 rfl ⟨Nat.le_of_ble_eq_true rfl, Nat.le_of_ble_eq_true rfl⟩ (Nat.le_of_ble_eq_true rfl) dX10_put_10 H (fun r5 σ4 H => ?_)
    refine g_if_ne 19 dX10_put_13 (by decide) (fun c6 => ?_) (fun c6 => ?_)
    · replace H := H.1 c6
      refine g_aload_n dX10_put_19 0 rfl rfl ?_
      refine g_iload_n dX10_put_20 1 rfl rfl ?_
      refine g_iload_n dX10_put_21 2 rfl rfl ?_
      refine g_iload_n dX10_put_22 3 rfl rfl ?_
      refine k_X10_lacks w_1274 rfl ⟨Nat.le_of_ble_eq_true rfl, Nat.le_of_ble_eq_true rfl⟩ (Nat.le_of_ble_eq_true rfl) dX10_put_23 H (fun r8 σ7 H => ?_)
      refine g_istore (L' := [(5, .int r8), (0, .ref (uq_ u 0)), (1, .int x1), (2, .int x2), (3, .int x3), (4, .int x4)]) dX10_put_26 (by decide) rfl ?_
      refine g_iload dX10_put_28 0 rfl ?_
      refine g_if_le 40 dX10_put_30 (by decide) (fun c9 => ?_) (fun c9 => ?_)
      · replace H := H.1 c9
        refine g_aload_n dX10_put_40 1 rfl rfl ?_
        refine g_iload_n dX10_put_41 2 rfl rfl ?_
        refine g_iload_n dX10_put_42 4 rfl rfl ?_
        refine g_iload dX10_put_43 5 rfl ?_
        refine k_X10_keep w_1278 rfl ⟨Nat.le_of_ble_eq_true rfl, Nat.le_of_ble_eq_true rfl⟩ (Nat.le_of_ble_eq_true rfl) dX10_put_45 H (fun σ10 H => ?_)
        refine g_iconst (v := (iI_ 1)) dX10_put_48 (by decide) ?_
        exact g_iret rfl dX10_put_49 ⟨_, rfl, H⟩
      · replace H := H.2 c9
        refine g_aload_n dX10_put_33 1 rfl rfl ?_
        refine g_iload dX10_put_34 0 rfl ?_
        refine k_X10_meets w_1046 rfl ⟨Nat.le_of_ble_eq_true rfl, Nat.le_of_ble_eq_true rfl⟩ (Nat.le_of_ble_eq_true rfl) dX10_put_36 H (fun r12 σ11 H => ?_)
        exact g_iret rfl dX10_put_39 ⟨_, rfl, H⟩
    · replace H := H.2 c6
      refine g_bipush (v := (iI_ (-2))) dX10_put_16 (by decide) ?_
      exact g_iret rfl dX10_put_18 ⟨_, rfl, H⟩
set_option maxHeartbeats 4000000 in
set_option maxRecDepth 100000 in
theorem eX10_get (u : Ux_) {P : Int32 → St_ → Prop}  (σ : St_) (x1 : Int32) (x2 : Int32) (x3 : Int32) (H : MMi_ (zm_ u) mX10_isSheet [.int x1] σ (fun r2 σ1 => ((r2 = iI_ 0 → P (iI_ (-2147483648)) σ1) ∧ (¬ r2 = iI_ 0 → MMi_ (zm_ u) mX10_in [.int x2, .int (iI_ 0), .int (iI_ 2)] σ1 (fun r5 σ4 => ((¬ r5 = iI_ 0 → MMi_ (zm_ u) mX10_lacks [.ref (uq_ u 0), .int x1, .int x2, .int x3] σ4 (fun r8 σ7 => ((r8 ≤ iI_ 0 → vp_in (((iI_ 60) * x1) + x3) 240 ∧ P (σ7 41 (Int32.toNatClampNeg (((iI_ 60) * x1) + x3))) σ7) ∧ (¬ r8 ≤ iI_ 0 → (∀ σ11, σ11 = su_ σ7 43 0 r8 → P (iI_ (-2147483648)) σ11))))) ∧ (r5 = iI_ 0 → P (iI_ (-2147483648)) σ4))))))) : MMi_ (zm_ u) mX10_get [.ref (uq_ u 0), .int x1, .int x2, .int x3] σ P := by
  refine MM_.of (L := [(0, .ref (uq_ u 0)), (1, .int x1), (2, .int x2), (3, .int x3)]) (by decide +kernel) (Nat.le_of_ble_eq_true rfl) rfl ?_
  refine g_iload_n dX10_get_0 1 rfl rfl ?_
  refine k_X10_isSheet w_1043 rfl ⟨Nat.le_of_ble_eq_true rfl, Nat.le_of_ble_eq_true rfl⟩ (Nat.le_of_ble_eq_true rfl) dX10_get_1 H (fun r2 σ1 H => ?_)
  refine g_if_eq 16 dX10_get_4 (by decide) (fun c3 => ?_) (fun c3 => ?_)
  · replace H := H.1 c3
    refine g_ldcw (v := (iI_ (-2147483648))) (by decide) w_1286 rfl dX10_get_16 ?_
    exact g_iret rfl dX10_get_19 ⟨_, rfl, H⟩
  · replace H := H.2 c3
    refine g_iload_n dX10_get_7 2 rfl rfl ?_
    refine g_iconst (v := (iI_ 0)) dX10_get_8 (by decide) ?_
    refine g_iconst (v := (iI_ 2)) dX10_get_9 (by decide) ?_
    refine k_X10_in w_954 rfl ⟨Nat.le_of_ble_eq_true rfl, Nat.le_of_ble_eq_true rfl⟩ (Nat.le_of_ble_eq_true rfl) dX10_get_10 H (fun r5 σ4 H => ?_)
    refine g_if_ne 20 dX10_get_13 (by decide) (fun c6 => ?_) (fun c6 => ?_)
    · replace H := H.1 c6
      refine g_aload_n dX10_get_20 0 rfl rfl ?_
      refine g_iload_n dX10_get_21 1 rfl rfl ?_
      refine g_iload_n dX10_get_22 2 rfl rfl ?_
      refine g_iload_n dX10_get_23 3 rfl rfl ?_
      refine k_X10_lacks w_1274 rfl ⟨Nat.le_of_ble_eq_true rfl, Nat.le_of_ble_eq_true rfl⟩ (Nat.le_of_ble_eq_true rfl) dX10_get_24 H (fun r8 σ7 H => ?_)
      refine g_istore (L' := [(4, .int r8), (0, .ref (uq_ u 0)), (1, .int x1), (2, .int x2), (3, .int x3)]) dX10_get_27 (by decide) rfl ?_
      refine g_iload dX10_get_29 0 rfl ?_
      refine g_if_le 44 dX10_get_31 (by decide) (fun c9 => ?_) (fun c9 => ?_)
      · replace H := H.1 c9
        refine g_aload_n dX10_get_44 1 rfl rfl ?_
        refine gm_LinenHouseModel_items w_854 rfl dX10_get_45 ?_
        refine g_bipush (v := (iI_ 60)) dX10_get_48 (by decide) ?_
        refine g_iload_n dX10_get_50 2 rfl rfl ?_
        refine g_imul dX10_get_51 ?_
        refine g_iload_n dX10_get_52 4 rfl rfl ?_
        refine g_iadd dX10_get_53 ?_
        obtain ⟨h10, H⟩ := H
        refine am_41 h10 dX10_get_54 ?_
        exact g_iret rfl dX10_get_55 ⟨_, rfl, H⟩
      · replace H := H.2 c9
        refine g_aload_n dX10_get_34 1 rfl rfl ?_
        refine g_iload dX10_get_35 0 rfl ?_
        refine pm_LinenHouseModel_finding w_856 rfl dX10_get_37 ?_
        obtain ⟨σ11, e_σ11⟩ : ∃ q : St_, q = su_ σ7 43 0 r8 := ⟨_, rfl⟩
        rw [← e_σ11]
        replace H := H σ11 e_σ11
        refine g_ldcw (v := (iI_ (-2147483648))) (by decide) w_1286 rfl dX10_get_40 ?_
        exact g_iret rfl dX10_get_43 ⟨_, rfl, H⟩
    · replace H := H.2 c6
      refine g_ldcw (v := (iI_ (-2147483648))) (by decide) w_1286 rfl dX10_get_16 ?_
      exact g_iret rfl dX10_get_19 ⟨_, rfl, H⟩
set_option maxHeartbeats 4000000 in
set_option maxRecDepth 100000 in
theorem bX10_copy_120 (u : Ux_) {P : Int32 → St_ → Prop}  (σ : St_) (x1 : Int32) (x2 : Int32) (x3 : Int32) (x4 : Int32) (x5 : Int32) (x6 : Int32) (H : ((x5 ≤ x6 → GG_ (zm_ u) mX10_copy (Pi_ P) 157 [(0, .ref (uq_ u 0)), (3, .int x3), (4, .int x4), (5, .int x5), (6, .int (iI_ 0))] [] σ) ∧ (¬ x5 ≤ x6 → vp_in ((((iI_ 60) * x1) + x2) + x6) 240 ∧ vp_in x6 60 ∧ (∀ σ3, σ3 = su_ σ 42 (Int32.toNatClampNeg x6) (σ 41 (Int32.toNatClampNeg ((((iI_ 60) * x1) + x2) + x6))) → GG_ (zm_ u) mX10_copy (Pi_ P) 120 [(0, .ref (uq_ u 0)), (1, .int x1), (2, .int x2), (3, .int x3), (4, .int x4), (5, .int x5), (6, .int (x6 + (iI_ 1)))] [] σ3)))) : GG_ (zm_ u) mX10_copy (Pi_ P) 120 [(0, .ref (uq_ u 0)), (1, .int x1), (2, .int x2), (3, .int x3), (4, .int x4), (5, .int x5), (6, .int x6)] [] σ := by
  refine g_iload dX10_copy_120 6 rfl ?_
  refine g_iload dX10_copy_122 5 rfl ?_
  refine g_icmp_ge 154 dX10_copy_124 (by decide) (fun c1 => ?_) (fun c1 => ?_)
  · replace H := H.1 c1
    refine g_iconst (v := (iI_ 0)) dX10_copy_154 (by decide) ?_
    refine g_istore (L' := [(6, .int (iI_ 0)), (0, .ref (uq_ u 0)), (1, .int x1), (2, .int x2), (3, .int x3), (4, .int x4), (5, .int x5)]) dX10_copy_155 (by decide) rfl ?_
    exact GG_.sub [1, 4, 5, 6, 0] rfl H
  · replace H := H.2 c1
    refine g_aload_n dX10_copy_127 0 rfl rfl ?_
    refine gm_LinenHouseModel_moved w_855 rfl dX10_copy_128 ?_
    refine g_iload dX10_copy_131 6 rfl ?_
    refine g_aload_n dX10_copy_133 0 rfl rfl ?_
    refine gm_LinenHouseModel_items w_854 rfl dX10_copy_134 ?_
    refine g_bipush (v := (iI_ 60)) dX10_copy_137 (by decide) ?_
    refine g_iload_n dX10_copy_139 1 rfl rfl ?_
    refine g_imul dX10_copy_140 ?_
    refine g_iload_n dX10_copy_141 2 rfl rfl ?_
    refine g_iadd dX10_copy_142 ?_
    refine g_iload dX10_copy_143 6 rfl ?_
    refine g_iadd dX10_copy_145 ?_
    obtain ⟨h2, H⟩ := H
    refine am_41 h2 dX10_copy_146 ?_
    obtain ⟨h4, H⟩ := H
    refine sm_42 h4 dX10_copy_147 ?_
    obtain ⟨σ3, e_σ3⟩ : ∃ q : St_, q = su_ σ 42 (Int32.toNatClampNeg x6) (σ 41 (Int32.toNatClampNeg ((((iI_ 60) * x1) + x2) + x6))) := ⟨_, rfl⟩
    rw [← e_σ3]
    replace H := H σ3 e_σ3
    refine g_iinc (v := (x6 + (iI_ 1))) (L' := [(6, .int (x6 + (iI_ 1))), (0, .ref (uq_ u 0)), (1, .int x1), (2, .int x2), (3, .int x3), (4, .int x4), (5, .int x5)]) dX10_copy_148 6 rfl rfl (by decide) rfl ?_
    refine g_goto 120 dX10_copy_151 (by decide) ?_
    exact GG_.sub [1, 2, 3, 4, 5, 6, 0] rfl H
set_option maxHeartbeats 4000000 in
set_option maxRecDepth 100000 in
theorem bX10_copy_157 (u : Ux_) {P : Int32 → St_ → Prop}  (σ : St_) (x3 : Int32) (x4 : Int32) (x5 : Int32) (x6 : Int32) (H : ((x5 ≤ x6 → P (iI_ 1) σ) ∧ (¬ x5 ≤ x6 → vp_in x6 60 ∧ vp_in ((((iI_ 60) * x3) + x4) + x6) 240 ∧ (∀ σ3, σ3 = su_ σ 41 (Int32.toNatClampNeg ((((iI_ 60) * x3) + x4) + x6)) (σ 42 (Int32.toNatClampNeg x6)) → GG_ (zm_ u) mX10_copy (Pi_ P) 157 [(0, .ref (uq_ u 0)), (3, .int x3), (4, .int x4), (5, .int x5), (6, .int (x6 + (iI_ 1)))] [] σ3)))) : GG_ (zm_ u) mX10_copy (Pi_ P) 157 [(0, .ref (uq_ u 0)), (3, .int x3), (4, .int x4), (5, .int x5), (6, .int x6)] [] σ := by
  refine g_iload dX10_copy_157 4 rfl ?_
  refine g_iload dX10_copy_159 3 rfl ?_
  refine g_icmp_ge 192 dX10_copy_161 (by decide) (fun c1 => ?_) (fun c1 => ?_)
  · replace H := H.1 c1
    refine g_iconst (v := (iI_ 1)) dX10_copy_192 (by decide) ?_
    exact g_iret rfl dX10_copy_193 ⟨_, rfl, H⟩
  · replace H := H.2 c1
    refine g_aload_n dX10_copy_164 0 rfl rfl ?_
    refine gm_LinenHouseModel_items w_854 rfl dX10_copy_165 ?_
    refine g_bipush (v := (iI_ 60)) dX10_copy_168 (by decide) ?_
    refine g_iload_n dX10_copy_170 1 rfl rfl ?_
    refine g_imul dX10_copy_171 ?_
    refine g_iload dX10_copy_172 2 rfl ?_
    refine g_iadd dX10_copy_174 ?_
    refine g_iload dX10_copy_175 4 rfl ?_
    refine g_iadd dX10_copy_177 ?_
    refine g_aload_n dX10_copy_178 0 rfl rfl ?_
    refine gm_LinenHouseModel_moved w_855 rfl dX10_copy_179 ?_
    refine g_iload dX10_copy_182 4 rfl ?_
    obtain ⟨h2, H⟩ := H
    refine am_42 h2 dX10_copy_184 ?_
    obtain ⟨h4, H⟩ := H
    refine sm_41 h4 dX10_copy_185 ?_
    obtain ⟨σ3, e_σ3⟩ : ∃ q : St_, q = su_ σ 41 (Int32.toNatClampNeg ((((iI_ 60) * x3) + x4) + x6)) (σ 42 (Int32.toNatClampNeg x6)) := ⟨_, rfl⟩
    rw [← e_σ3]
    replace H := H σ3 e_σ3
    refine g_iinc (v := (x6 + (iI_ 1))) (L' := [(6, .int (x6 + (iI_ 1))), (0, .ref (uq_ u 0)), (3, .int x3), (4, .int x4), (5, .int x5)]) dX10_copy_186 4 rfl rfl (by decide) rfl ?_
    refine g_goto 157 dX10_copy_189 (by decide) ?_
    exact GG_.sub [1, 2, 3, 4, 0] rfl H
set_option maxHeartbeats 4000000 in
set_option maxRecDepth 100000 in
theorem eX10_copy (u : Ux_) {P : Int32 → St_ → Prop}  (σ : St_) (x1 : Int32) (x2 : Int32) (x3 : Int32) (x4 : Int32) (x5 : Int32) (H : MMi_ (zm_ u) mX10_isSheet [.int x1] σ (fun r2 σ1 => ((r2 = iI_ 0 → P (iI_ (-2)) σ1) ∧ (¬ r2 = iI_ 0 → MMi_ (zm_ u) mX10_isSheet [.int x3] σ1 (fun r5 σ4 => ((¬ r5 = iI_ 0 → vp_in x1 4 ∧ (((σ4 38 (Int32.toNatClampNeg x1)) = iI_ 0 → MMi_ (zm_ u) mX10_meets [.ref (uq_ u 0), .int (iI_ 1)] σ4 (fun r10 σ9 => P r10 σ9)) ∧ (¬ (σ4 38 (Int32.toNatClampNeg x1)) = iI_ 0 → vp_in x3 4 ∧ ((¬ (σ4 38 (Int32.toNatClampNeg x3)) = iI_ 0 → vp_in x1 4 ∧ vp_in x3 4 ∧ (((σ4 39 (Int32.toNatClampNeg x1)) = (σ4 39 (Int32.toNatClampNeg x3)) → ((x2 < iI_ 0 → MMi_ (zm_ u) mX10_meets [.ref (uq_ u 0), .int (iI_ 2)] σ4 (fun r18 σ17 => P r18 σ17)) ∧ (¬ x2 < iI_ 0 → ((x4 < iI_ 0 → MMi_ (zm_ u) mX10_meets [.ref (uq_ u 0), .int (iI_ 2)] σ4 (fun r21 σ20 => P r21 σ20)) ∧ (¬ x4 < iI_ 0 → ((x5 < iI_ 0 → MMi_ (zm_ u) mX10_meets [.ref (uq_ u 0), .int (iI_ 2)] σ4 (fun r24 σ23 => P r24 σ23)) ∧ (¬ x5 < iI_ 0 → vp_in x1 4 ∧ ((iI_ 0 < (lg_cmp ((Int32.toInt64 x2) + (Int32.toInt64 x5)) (Int32.toInt64 (σ4 40 (Int32.toNatClampNeg x1)))) → MMi_ (zm_ u) mX10_meets [.ref (uq_ u 0), .int (iI_ 2)] σ4 (fun r28 σ27 => P r28 σ27)) ∧ (¬ iI_ 0 < (lg_cmp ((Int32.toInt64 x2) + (Int32.toInt64 x5)) (Int32.toInt64 (σ4 40 (Int32.toNatClampNeg x1)))) → vp_in x3 4 ∧ (((lg_cmp ((Int32.toInt64 x4) + (Int32.toInt64 x5)) (Int32.toInt64 (σ4 40 (Int32.toNatClampNeg x3)))) ≤ iI_ 0 → GG_ (zm_ u) mX10_copy (Pi_ P) 120 [(0, .ref (uq_ u 0)), (1, .int x1), (2, .int x2), (3, .int x3), (4, .int x4), (5, .int x5), (6, .int (iI_ 0))] [] σ4) ∧ (¬ (lg_cmp ((Int32.toInt64 x4) + (Int32.toInt64 x5)) (Int32.toInt64 (σ4 40 (Int32.toNatClampNeg x3)))) ≤ iI_ 0 → MMi_ (zm_ u) mX10_meets [.ref (uq_ u 0), .int (iI_ 2)] σ4 (fun r32 σ31 => P r32 σ31)))))))))))) ∧ (¬ (σ4 39 (Int32.toNatClampNeg x1)) = (σ4 39 (Int32.toNatClampNeg x3)) → MMi_ (zm_ u) mX10_meets [.ref (uq_ u 0), .int (iI_ 4)] σ4 (fun r34 σ33 => P r34 σ33)))) ∧ ((σ4 38 (Int32.toNatClampNeg x3)) = iI_ 0 → MMi_ (zm_ u) mX10_meets [.ref (uq_ u 0), .int (iI_ 1)] σ4 (fun r36 σ35 => P r36 σ35)))))) ∧ (r5 = iI_ 0 → P (iI_ (-2)) σ4))))))) : MMi_ (zm_ u) mX10_copy [.ref (uq_ u 0), .int x1, .int x2, .int x3, .int x4, .int x5] σ P := by
  refine MM_.of (L := [(0, .ref (uq_ u 0)), (1, .int x1), (2, .int x2), (3, .int x3), (4, .int x4), (5, .int x5)]) (by decide +kernel) (Nat.le_of_ble_eq_true rfl) rfl ?_
  refine g_iload_n dX10_copy_0 1 rfl rfl ?_
  refine k_X10_isSheet w_1043 rfl ⟨Nat.le_of_ble_eq_true rfl, Nat.le_of_ble_eq_true rfl⟩ (Nat.le_of_ble_eq_true rfl) dX10_copy_1 H (fun r2 σ1 H => ?_)
  refine g_if_eq 14 dX10_copy_4 (by decide) (fun c3 => ?_) (fun c3 => ?_)
  · replace H := H.1 c3
    refine g_bipush (v := (iI_ (-2))) dX10_copy_14 (by decide) ?_
    exact g_iret rfl dX10_copy_16 ⟨_, rfl, H⟩
  · replace H := H.2 c3
    refine g_iload_n dX10_copy_7 3 rfl rfl ?_
    refine k_X10_isSheet w_1043 rfl ⟨Nat.le_of_ble_eq_true rfl, Nat.le_of_ble_eq_true rfl⟩ (Nat.le_of_ble_eq_true rfl) dX10_copy_8 H (fun r5 σ4 H => ?_)
    refine g_if_ne 17 dX10_copy_11 (by decide) (fun c6 => ?_) (fun c6 => ?_)
    · replace H := H.1 c6
      refine g_aload_n dX10_copy_17 0 rfl rfl ?_
      refine gm_LinenHouseModel_isThere w_851 rfl dX10_copy_18 ?_
      refine g_iload_n dX10_copy_21 1 rfl rfl ?_
      obtain ⟨h7, H⟩ := H
      refine am_38 h7 dX10_copy_22 ?_
      refine g_if_eq 35 dX10_copy_23 (by decide) (fun c8 => ?_) (fun c8 => ?_)
      · replace H := H.1 c8
        refine g_aload_n dX10_copy_35 0 rfl rfl ?_
        refine g_iconst (v := (iI_ 1)) dX10_copy_36 (by decide) ?_
        refine k_X10_meets w_1046 rfl ⟨Nat.le_of_ble_eq_true rfl, Nat.le_of_ble_eq_true rfl⟩ (Nat.le_of_ble_eq_true rfl) dX10_copy_37 H (fun r10 σ9 H => ?_)
        exact g_iret rfl dX10_copy_40 ⟨_, rfl, H⟩
      · replace H := H.2 c8
        refine g_aload_n dX10_copy_26 0 rfl rfl ?_
        refine gm_LinenHouseModel_isThere w_851 rfl dX10_copy_27 ?_
        refine g_iload_n dX10_copy_30 3 rfl rfl ?_
        obtain ⟨h11, H⟩ := H
        refine am_38 h11 dX10_copy_31 ?_
        refine g_if_ne 41 dX10_copy_32 (by decide) (fun c12 => ?_) (fun c12 => ?_)
        · replace H := H.1 c12
          refine g_aload_n dX10_copy_41 0 rfl rfl ?_
          refine gm_LinenHouseModel_forms w_852 rfl dX10_copy_42 ?_
          refine g_iload_n dX10_copy_45 1 rfl rfl ?_
          obtain ⟨h13, H⟩ := H
          refine am_39 h13 dX10_copy_46 ?_
          refine g_aload_n dX10_copy_47 0 rfl rfl ?_
          refine gm_LinenHouseModel_forms w_852 rfl dX10_copy_48 ?_
          refine g_iload_n dX10_copy_51 3 rfl rfl ?_
          obtain ⟨h14, H⟩ := H
          refine am_39 h14 dX10_copy_52 ?_
          refine g_icmp_eq 62 dX10_copy_53 (by decide) (fun c15 => ?_) (fun c15 => ?_)
          · replace H := H.1 c15
            refine g_iload_n dX10_copy_62 2 rfl rfl ?_
            refine g_if_lt 111 dX10_copy_63 (by decide) (fun c16 => ?_) (fun c16 => ?_)
            · replace H := H.1 c16
              refine g_aload_n dX10_copy_111 0 rfl rfl ?_
              refine g_iconst (v := (iI_ 2)) dX10_copy_112 (by decide) ?_
              refine k_X10_meets w_1046 rfl ⟨Nat.le_of_ble_eq_true rfl, Nat.le_of_ble_eq_true rfl⟩ (Nat.le_of_ble_eq_true rfl) dX10_copy_113 H (fun r18 σ17 H => ?_)
              exact g_iret rfl dX10_copy_116 ⟨_, rfl, H⟩
            · replace H := H.2 c16
              refine g_iload dX10_copy_66 4 rfl ?_
              refine g_if_lt 111 dX10_copy_68 (by decide) (fun c19 => ?_) (fun c19 => ?_)
              · replace H := H.1 c19
                refine g_aload_n dX10_copy_111 0 rfl rfl ?_
                refine g_iconst (v := (iI_ 2)) dX10_copy_112 (by decide) ?_
                refine k_X10_meets w_1046 rfl ⟨Nat.le_of_ble_eq_true rfl, Nat.le_of_ble_eq_true rfl⟩ (Nat.le_of_ble_eq_true rfl) dX10_copy_113 H (fun r21 σ20 H => ?_)
                exact g_iret rfl dX10_copy_116 ⟨_, rfl, H⟩
              · replace H := H.2 c19
                refine g_iload dX10_copy_71 5 rfl ?_
                refine g_if_lt 111 dX10_copy_73 (by decide) (fun c22 => ?_) (fun c22 => ?_)
                · replace H := H.1 c22
                  refine g_aload_n dX10_copy_111 0 rfl rfl ?_
                  refine g_iconst (v := (iI_ 2)) dX10_copy_112 (by decide) ?_
                  refine k_X10_meets w_1046 rfl ⟨Nat.le_of_ble_eq_true rfl, Nat.le_of_ble_eq_true rfl⟩ (Nat.le_of_ble_eq_true rfl) dX10_copy_113 H (fun r24 σ23 H => ?_)
                  exact g_iret rfl dX10_copy_116 ⟨_, rfl, H⟩
                · replace H := H.2 c22
                  refine g_iload_n dX10_copy_76 2 rfl rfl ?_
                  refine g_i2l dX10_copy_77 ?_
                  refine g_iload dX10_copy_78 5 rfl ?_
                  refine g_i2l dX10_copy_80 ?_
                  refine g_ladd dX10_copy_81 ?_
                  refine g_aload_n dX10_copy_82 0 rfl rfl ?_
                  refine gm_LinenHouseModel_sizes w_853 rfl dX10_copy_83 ?_
                  refine g_iload_n dX10_copy_86 1 rfl rfl ?_
                  obtain ⟨h25, H⟩ := H
                  refine am_40 h25 dX10_copy_87 ?_
                  refine g_i2l dX10_copy_88 ?_
                  refine g_lcmp dX10_copy_89 ?_
                  refine g_if_gt 111 dX10_copy_90 (by decide) (fun c26 => ?_) (fun c26 => ?_)
                  · replace H := H.1 c26
                    refine g_aload_n dX10_copy_111 0 rfl rfl ?_
                    refine g_iconst (v := (iI_ 2)) dX10_copy_112 (by decide) ?_
                    refine k_X10_meets w_1046 rfl ⟨Nat.le_of_ble_eq_true rfl, Nat.le_of_ble_eq_true rfl⟩ (Nat.le_of_ble_eq_true rfl) dX10_copy_113 H (fun r28 σ27 H => ?_)
                    exact g_iret rfl dX10_copy_116 ⟨_, rfl, H⟩
                  · replace H := H.2 c26
                    refine g_iload dX10_copy_93 4 rfl ?_
                    refine g_i2l dX10_copy_95 ?_
                    refine g_iload dX10_copy_96 5 rfl ?_
                    refine g_i2l dX10_copy_98 ?_
                    refine g_ladd dX10_copy_99 ?_
                    refine g_aload_n dX10_copy_100 0 rfl rfl ?_
                    refine gm_LinenHouseModel_sizes w_853 rfl dX10_copy_101 ?_
                    refine g_iload_n dX10_copy_104 3 rfl rfl ?_
                    obtain ⟨h29, H⟩ := H
                    refine am_40 h29 dX10_copy_105 ?_
                    refine g_i2l dX10_copy_106 ?_
                    refine g_lcmp dX10_copy_107 ?_
                    refine g_if_le 117 dX10_copy_108 (by decide) (fun c30 => ?_) (fun c30 => ?_)
                    · replace H := H.1 c30
                      refine g_iconst (v := (iI_ 0)) dX10_copy_117 (by decide) ?_
                      refine g_istore (L' := [(6, .int (iI_ 0)), (0, .ref (uq_ u 0)), (1, .int x1), (2, .int x2), (3, .int x3), (4, .int x4), (5, .int x5)]) dX10_copy_118 (by decide) rfl ?_
                      exact GG_.sub [1, 2, 3, 4, 5, 6, 0] rfl H
                    · replace H := H.2 c30
                      refine g_aload_n dX10_copy_111 0 rfl rfl ?_
                      refine g_iconst (v := (iI_ 2)) dX10_copy_112 (by decide) ?_
                      refine k_X10_meets w_1046 rfl ⟨Nat.le_of_ble_eq_true rfl, Nat.le_of_ble_eq_true rfl⟩ (Nat.le_of_ble_eq_true rfl) dX10_copy_113 H (fun r32 σ31 H => ?_)
                      exact g_iret rfl dX10_copy_116 ⟨_, rfl, H⟩
          · replace H := H.2 c15
            refine g_aload_n dX10_copy_56 0 rfl rfl ?_
            refine g_iconst (v := (iI_ 4)) dX10_copy_57 (by decide) ?_
            refine k_X10_meets w_1046 rfl ⟨Nat.le_of_ble_eq_true rfl, Nat.le_of_ble_eq_true rfl⟩ (Nat.le_of_ble_eq_true rfl) dX10_copy_58 H (fun r34 σ33 H => ?_)
            exact g_iret rfl dX10_copy_61 ⟨_, rfl, H⟩
        · replace H := H.2 c12
          refine g_aload_n dX10_copy_35 0 rfl rfl ?_
          refine g_iconst (v := (iI_ 1)) dX10_copy_36 (by decide) ?_
          refine k_X10_meets w_1046 rfl ⟨Nat.le_of_ble_eq_true rfl, Nat.le_of_ble_eq_true rfl⟩ (Nat.le_of_ble_eq_true rfl) dX10_copy_37 H (fun r36 σ35 H => ?_)
          exact g_iret rfl dX10_copy_40 ⟨_, rfl, H⟩
    · replace H := H.2 c6
      refine g_bipush (v := (iI_ (-2))) dX10_copy_14 (by decide) ?_
      exact g_iret rfl dX10_copy_16 ⟨_, rfl, H⟩
