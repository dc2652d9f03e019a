set_option maxHeartbeats 4000000 in
set_option maxRecDepth 100000 in
theorem bX9_digestPlans_27 (u : Ux_) {P : Int64 → St_ → Prop}  (σ : St_) (x3 : Int64) (x5 : Int32) (H : (((iI_ 3) ≤ x5 → MMi_ (zx_ u) mX9_ring [.ref (uq_ u 0)] σ (fun r3 σ2 => MMi_ (zx_ u) mX9_never [.ref (uq_ u 0)] σ2 (fun r5 σ4 => MMl_ (zx_ u) mX9_ajar [.ref (uq_ u 0), .int (iI_ 5), .int (iI_ 5), .int (iI_ 1), .int (iI_ 7), .int (iI_ 0)] σ4 (fun r7 σ6 => MMl_ (zx_ u) mX9_ajar [.ref (uq_ u 0), .int (iI_ 5), .int (iI_ 5), .int (iI_ 1), .int (iI_ 7), .int (iI_ 1)] σ6 (fun r9 σ8 => MMi_ (zx_ u) mX9_evenings [.ref (uq_ u 0), .int (iI_ 7), .int (iI_ 0)] σ8 (fun r11 σ10 => MMi_ (zx_ u) mX9_evenings [.ref (uq_ u 0), .int (iI_ 7), .int (iI_ 1)] σ10 (fun r13 σ12 => P (((iL_ 31) * (((iL_ 31) * (((iL_ 31) * (((iL_ 31) * (((iL_ 31) * (((iL_ 31) * x3) + (Int32.toInt64 r3))) + (Int32.toInt64 r5))) + r7)) + r9)) + (Int32.toInt64 r11))) + (Int32.toInt64 r13)) σ12))))))) ∧ (¬ (iI_ 3) ≤ x5 → MMi_ (zx_ u) mX9_agenda [.ref (uq_ u 0), .int x5] σ (fun r15 σ14 => GG_ (zx_ u) mX9_digestPlans (Pl_ P) 27 [(0, .ref (uq_ u 0)), (3, .long (((iL_ 31) * x3) + (Int32.toInt64 r15))), (5, .int (x5 + (iI_ 1)))] [] σ14)))) : GG_ (zx_ u) mX9_digestPlans (Pl_ P) 27 [(0, .ref (uq_ u 0)), (3, .long x3), (5, .int x5)] [] σ := by
  refine g_iload dX9_digestPlans_27 2 rfl ?_
  refine g_iconst (v := (iI_ 3)) dX9_digestPlans_29 (by decide) ?_
  refine g_icmp_ge 53 dX9_digestPlans_30 (by decide) (fun c1 => ?_) (fun c1 => ?_)
  · replace H := H.1 c1
    refine g_ldc2 (v := (iL_ 31)) (by decide) w_775 rfl dX9_digestPlans_53 ?_
    refine g_lload_n dX9_digestPlans_56 1 rfl rfl ?_
    refine g_lmul dX9_digestPlans_57 ?_
    refine g_aload_n dX9_digestPlans_58 0 rfl rfl ?_
    refine k_X9_ring w_803 rfl ⟨Nat.le_of_ble_eq_true rfl, Nat.le_of_ble_eq_true rfl⟩ (Nat.le_of_ble_eq_true rfl) dX9_digestPlans_59 H (fun r3 σ2 H => ?_)
    refine g_i2l dX9_digestPlans_62 ?_
    refine g_ladd dX9_digestPlans_63 ?_
    refine g_lstore_n (L' := [(3, .long (((iL_ 31) * x3) + (Int32.toInt64 r3))), (0, .ref (uq_ u 0)), (5, .int x5)]) dX9_digestPlans_64 rfl (by decide) rfl ?_
    refine g_ldc2 (v := (iL_ 31)) (by decide) w_775 rfl dX9_digestPlans_65 ?_
    refine g_lload_n dX9_digestPlans_68 0 rfl rfl ?_
    refine g_lmul dX9_digestPlans_69 ?_
    refine g_aload_n dX9_digestPlans_70 1 rfl rfl ?_
    refine k_X9_never w_804 rfl ⟨Nat.le_of_ble_eq_true rfl, Nat.le_of_ble_eq_true rfl⟩ (Nat.le_of_ble_eq_true rfl) dX9_digestPlans_71 H (fun r5 σ4 H => ?_)
    refine g_i2l dX9_digestPlans_74 ?_
    refine g_ladd dX9_digestPlans_75 ?_
    refine g_lstore_n (L' := [(3, .long (((iL_ 31) * (((iL_ 31) * x3) + (Int32.toInt64 r3))) + (Int32.toInt64 r5))), (0, .ref (uq_ u 0)), (5, .int x5)]) dX9_digestPlans_76 rfl (by decide) rfl ?_
    refine g_ldc2 (v := (iL_ 31)) (by decide) w_775 rfl dX9_digestPlans_77 ?_
    refine g_lload_n dX9_digestPlans_80 0 rfl rfl ?_
    refine g_lmul dX9_digestPlans_81 ?_
    refine g_aload_n dX9_digestPlans_82 1 rfl rfl ?_
    refine g_iconst (v := (iI_ 5)) dX9_digestPlans_83 (by decide) ?_
    refine g_iconst (v := (iI_ 5)) dX9_digestPlans_84 (by decide) ?_
    refine g_iconst (v := (iI_ 1)) dX9_digestPlans_85 (by decide) ?_
    refine g_bipush (v := (iI_ 7)) dX9_digestPlans_86 (by decide) ?_
    refine g_iconst (v := (iI_ 0)) dX9_digestPlans_88 (by decide) ?_
    refine k_X9_ajar w_805 rfl ⟨Nat.le_of_ble_eq_true rfl, Nat.le_of_ble_eq_true rfl⟩ (Nat.le_of_ble_eq_true rfl) dX9_digestPlans_89 H (fun r7 σ6 H => ?_)
    refine g_ladd dX9_digestPlans_92 ?_
    refine g_lstore_n (L' := [(3, .long (((iL_ 31) * (((iL_ 31) * (((iL_ 31) * x3) + (Int32.toInt64 r3))) + (Int32.toInt64 r5))) + r7)), (0, .ref (uq_ u 0)), (5, .int x5)]) dX9_digestPlans_93 rfl (by decide) rfl ?_
    refine g_ldc2 (v := (iL_ 31)) (by decide) w_775 rfl dX9_digestPlans_94 ?_
    refine g_lload_n dX9_digestPlans_97 0 rfl rfl ?_
    refine g_lmul dX9_digestPlans_98 ?_
    refine g_aload_n dX9_digestPlans_99 1 rfl rfl ?_
    refine g_iconst (v := (iI_ 5)) dX9_digestPlans_100 (by decide) ?_
    refine g_iconst (v := (iI_ 5)) dX9_digestPlans_101 (by decide) ?_
    refine g_iconst (v := (iI_ 1)) dX9_digestPlans_102 (by decide) ?_
    refine g_bipush (v := (iI_ 7)) dX9_digestPlans_103 (by decide) ?_
    refine g_iconst (v := (iI_ 1)) dX9_digestPlans_105 (by decide) ?_
    refine k_X9_ajar w_805 rfl ⟨Nat.le_of_ble_eq_true rfl, Nat.le_of_ble_eq_true rfl⟩ (Nat.le_of_ble_eq_true rfl) dX9_digestPlans_106 H (fun r9 σ8 H => ?_)
    refine g_ladd dX9_digestPlans_109 ?_
    refine g_lstore_n (L' := [(3, .long (((iL_ 31) * (((iL_ 31) * (((iL_ 31) * (((iL_ 31) * x3) + (Int32.toInt64 r3))) + (Int32.toInt64 r5))) + r7)) + r9)), (0, .ref (uq_ u 0)), (5, .int x5)]) dX9_digestPlans_110 rfl (by decide) rfl ?_
    refine g_ldc2 (v := (iL_ 31)) (by decide) w_775 rfl dX9_digestPlans_111 ?_
    refine g_lload_n dX9_digestPlans_114 0 rfl rfl ?_
    refine g_lmul dX9_digestPlans_115 ?_
    refine g_aload_n dX9_digestPlans_116 1 rfl rfl ?_
    refine g_bipush (v := (iI_ 7)) dX9_digestPlans_117 (by decide) ?_
    refine g_iconst (v := (iI_ 0)) dX9_digestPlans_119 (by decide) ?_
    refine k_X9_evenings w_806 rfl ⟨Nat.le_of_ble_eq_true rfl, Nat.le_of_ble_eq_true rfl⟩ (Nat.le_of_ble_eq_true rfl) dX9_digestPlans_120 H (fun r11 σ10 H => ?_)
    refine g_i2l dX9_digestPlans_123 ?_
    refine g_ladd dX9_digestPlans_124 ?_
    refine g_lstore_n (L' := [(3, .long (((iL_ 31) * (((iL_ 31) * (((iL_ 31) * (((iL_ 31) * (((iL_ 31) * x3) + (Int32.toInt64 r3))) + (Int32.toInt64 r5))) + r7)) + r9)) + (Int32.toInt64 r11))), (0, .ref (uq_ u 0)), (5, .int x5)]) dX9_digestPlans_125 rfl (by decide) rfl ?_
    refine g_ldc2 (v := (iL_ 31)) (by decide) w_775 rfl dX9_digestPlans_126 ?_
    refine g_lload_n dX9_digestPlans_129 0 rfl rfl ?_
    refine g_lmul dX9_digestPlans_130 ?_
    refine g_aload_n dX9_digestPlans_131 1 rfl rfl ?_
    refine g_bipush (v := (iI_ 7)) dX9_digestPlans_132 (by decide) ?_
    refine g_iconst (v := (iI_ 1)) dX9_digestPlans_134 (by decide) ?_
    refine k_X9_evenings w_806 rfl ⟨Nat.le_of_ble_eq_true rfl, Nat.le_of_ble_eq_true rfl⟩ (Nat.le_of_ble_eq_true rfl) dX9_digestPlans_135 H (fun r13 σ12 H => ?_)
    refine g_i2l dX9_digestPlans_138 ?_
    refine g_ladd dX9_digestPlans_139 ?_
    exact g_lret rfl dX9_digestPlans_140 ⟨_, rfl, H⟩
  · replace H := H.2 c1
    refine g_ldc2 (v := (iL_ 31)) (by decide) w_775 rfl dX9_digestPlans_33 ?_
    refine g_lload_n dX9_digestPlans_36 1 rfl rfl ?_
    refine g_lmul dX9_digestPlans_37 ?_
    refine g_aload_n dX9_digestPlans_38 0 rfl rfl ?_
    refine g_iload dX9_digestPlans_39 2 rfl ?_
    refine k_X9_agenda w_802 rfl ⟨Nat.le_of_ble_eq_true rfl, Nat.le_of_ble_eq_true rfl⟩ (Nat.le_of_ble_eq_true rfl) dX9_digestPlans_41 H (fun r15 σ14 H => ?_)
    refine g_i2l dX9_digestPlans_44 ?_
    refine g_ladd dX9_digestPlans_45 ?_
    refine g_lstore_n (L' := [(3, .long (((iL_ 31) * x3) + (Int32.toInt64 r15))), (0, .ref (uq_ u 0)), (5, .int x5)]) dX9_digestPlans_46 rfl (by decide) rfl ?_
    refine g_iinc (v := (x5 + (iI_ 1))) (L' := [(5, .int (x5 + (iI_ 1))), (3, .long (((iL_ 31) * x3) + (Int32.toInt64 r15))), (0, .ref (uq_ u 0))]) dX9_digestPlans_47 2 rfl rfl (by decide) rfl ?_
    refine g_goto 27 dX9_digestPlans_50 (by decide) ?_
    exact GG_.sub [2, 1, 0] rfl H
set_option maxHeartbeats 4000000 in
set_option maxRecDepth 100000 in
theorem eX9_digestPlans (u : Ux_) {P : Int64 → St_ → Prop}  (σ : St_) (x1 : Int64) (H : MMi_ (zx_ u) mX9_told [.ref (uq_ u 0)] σ (fun r2 σ1 => MMi_ (zx_ u) mX9_pleased [.ref (uq_ u 0)] σ1 (fun r4 σ3 => GG_ (zx_ u) mX9_digestPlans (Pl_ P) 27 [(0, .ref (uq_ u 0)), (3, .long (((iL_ 31) * (((iL_ 31) * x1) + (Int32.toInt64 r2))) + (Int32.toInt64 r4))), (5, .int (iI_ 0))] [] σ3))) : MMl_ (zx_ u) mX9_digestPlans [.ref (uq_ u 0), .long x1] σ P := by
  refine MM_.of (L := [(0, .ref (uq_ u 0)), (1, .long x1)]) (by decide +kernel) (Nat.le_of_ble_eq_true rfl) rfl ?_
  refine g_ldc2 (v := (iL_ 31)) (by decide) w_775 rfl dX9_digestPlans_0 ?_
  refine g_lload_n dX9_digestPlans_3 1 rfl rfl ?_
  refine g_lmul dX9_digestPlans_4 ?_
  refine g_aload_n dX9_digestPlans_5 0 rfl rfl ?_
  refine k_X9_told w_800 rfl ⟨Nat.le_of_ble_eq_true rfl, Nat.le_of_ble_eq_true rfl⟩ (Nat.le_of_ble_eq_true rfl) dX9_digestPlans_6 H (fun r2 σ1 H => ?_)
  refine g_i2l dX9_digestPlans_9 ?_
  refine g_ladd dX9_digestPlans_10 ?_
  refine g_lstore_n (L' := [(3, .long (((iL_ 31) * x1) + (Int32.toInt64 r2))), (0, .ref (uq_ u 0)), (1, .long x1)]) dX9_digestPlans_11 rfl (by decide) rfl ?_
  refine g_ldc2 (v := (iL_ 31)) (by decide) w_775 rfl dX9_digestPlans_12 ?_
  refine g_lload_n dX9_digestPlans_15 0 rfl rfl ?_
  refine g_lmul dX9_digestPlans_16 ?_
  refine g_aload_n dX9_digestPlans_17 1 rfl rfl ?_
  refine k_X9_pleased w_801 rfl ⟨Nat.le_of_ble_eq_true rfl, Nat.le_of_ble_eq_true rfl⟩ (Nat.le_of_ble_eq_true rfl) dX9_digestPlans_18 H (fun r4 σ3 H => ?_)
  refine g_i2l dX9_digestPlans_21 ?_
  refine g_ladd dX9_digestPlans_22 ?_
  refine g_lstore_n (L' := [(3, .long (((iL_ 31) * (((iL_ 31) * x1) + (Int32.toInt64 r2))) + (Int32.toInt64 r4))), (0, .ref (uq_ u 0)), (1, .long x1)]) dX9_digestPlans_23 rfl (by decide) rfl ?_
  refine g_iconst (v := (iI_ 0)) dX9_digestPlans_24 (by decide) ?_
  refine g_istore (L' := [(5, .int (iI_ 0)), (3, .long (((iL_ 31) * (((iL_ 31) * x1) + (Int32.toInt64 r2))) + (Int32.toInt64 r4))), (0, .ref (uq_ u 0)), (1, .long x1)]) dX9_digestPlans_25 (by decide) rfl ?_
  exact GG_.sub [2, 1, 0] rfl H
set_option maxHeartbeats 4000000 in
set_option maxRecDepth 100000 in
theorem eX9_within (u : Ux_) {P : Int32 → St_ → Prop}  (σ : St_) (x0 : Int32) (x1 : Int32) (H : ((x0 < iI_ 0 → P (iI_ 0) σ) ∧ (¬ x0 < iI_ 0 → ((x1 ≤ x0 → P (iI_ 0) σ) ∧ (¬ x1 ≤ x0 → P (iI_ 1) σ))))) : MMi_ (zx_ u) mX9_within [.int x0, .int x1] σ P := by
  refine MM_.of (L := [(0, .int x0), (1, .int x1)]) (by decide +kernel) (Nat.le_of_ble_eq_true rfl) rfl ?_
  refine g_iload_n dX9_within_0 0 rfl rfl ?_
  refine g_if_lt 13 dX9_within_1 (by decide) (fun c1 => ?_) (fun c1 => ?_)
  · replace H := H.1 c1
    refine g_iconst (v := (iI_ 0)) dX9_within_13 (by decide) ?_
    exact g_zret rfl (by decide) dX9_within_14 ⟨_, rfl, H⟩
  · replace H := H.2 c1
    refine g_iload_n dX9_within_4 0 rfl rfl ?_
    refine g_iload_n dX9_within_5 1 rfl rfl ?_
    refine g_icmp_ge 13 dX9_within_6 (by decide) (fun c2 => ?_) (fun c2 => ?_)
    · replace H := H.1 c2
      refine g_iconst (v := (iI_ 0)) dX9_within_13 (by decide) ?_
      exact g_zret rfl (by decide) dX9_within_14 ⟨_, rfl, H⟩
    · replace H := H.2 c2
      refine g_iconst (v := (iI_ 1)) dX9_within_9 (by decide) ?_
      refine g_goto 14 dX9_within_10 (by decide) ?_
      exact g_zret rfl (by decide) dX9_within_14 ⟨_, rfl, H⟩
set_option maxHeartbeats 4000000 in
set_option maxRecDepth 100000 in
theorem eX9_isNight (u : Ux_) {P : Int32 → St_ → Prop}  (σ : St_) (x0 : Int32) (H : MMi_ (zx_ u) mX9_within [.int x0, .int (iI_ 10)] σ (fun r2 σ1 => (r2 = iI_ 0 ∨ r2 = iI_ 1) ∧ P r2 σ1)) : MMi_ (zx_ u) mX9_isNight [.int x0] σ P := by
  refine MM_.of (L := [(0, .int x0)]) (by decide +kernel) (Nat.le_of_ble_eq_true rfl) rfl ?_
  refine g_iload_n dX9_isNight_0 0 rfl rfl ?_
  refine g_bipush (v := (iI_ 10)) dX9_isNight_1 (by decide) ?_
  refine k_X9_within w_370 rfl ⟨Nat.le_of_ble_eq_true rfl, Nat.le_of_ble_eq_true rfl⟩ (Nat.le_of_ble_eq_true rfl) dX9_isNight_3 H (fun r2 σ1 H => ?_)
  obtain ⟨hz, H⟩ := H
  exact g_zret rfl hz dX9_isNight_6 ⟨_, rfl, H⟩
set_option maxHeartbeats 4000000 in
set_option maxRecDepth 100000 in
theorem eX9_isMember (u : Ux_) {P : Int32 → St_ → Prop}  (σ : St_) (x1 : Int32) (H : MMi_ (zx_ u) mX9_within [.int x1, .int (σ 3 0)] σ (fun r2 σ1 => (r2 = iI_ 0 ∨ r2 = iI_ 1) ∧ P r2 σ1)) : MMi_ (zx_ u) mX9_isMember [.ref (uq_ u 0), .int x1] σ P := by
  refine MM_.of (L := [(0, .ref (uq_ u 0)), (1, .int x1)]) (by decide +kernel) (Nat.le_of_ble_eq_true rfl) rfl ?_
  refine g_iload_n dX9_isMember_0 1 rfl rfl ?_
  refine g_aload_n dX9_isMember_1 0 rfl rfl ?_
  refine gx_LinenHouse_roll w_324 rfl dX9_isMember_2 ?_
  refine gx_Roll_n w_105 rfl dX9_isMember_5 ?_
  refine k_X9_within w_370 rfl ⟨Nat.le_of_ble_eq_true rfl, Nat.le_of_ble_eq_true rfl⟩ (Nat.le_of_ble_eq_true rfl) dX9_isMember_8 H (fun r2 σ1 H => ?_)
  obtain ⟨hz, H⟩ := H
  exact g_zret rfl hz dX9_isMember_11 ⟨_, rfl, H⟩
set_option maxHeartbeats 4000000 in
set_option maxRecDepth 100000 in
theorem eX9_isFold (u : Ux_) {P : Int32 → St_ → Prop}  (σ : St_) (x0 : Int32) (x1 : Int32) (x2 : Int32) (H : MMi_ (zx_ u) mX9_isNight [.int x0] σ (fun r2 σ1 => ((r2 = iI_ 0 → P (iI_ 0) σ1) ∧ (¬ r2 = iI_ 0 → MMi_ (zx_ u) mX9_within [.int x1, .int (iI_ 8)] σ1 (fun r5 σ4 => ((r5 = iI_ 0 → P (iI_ 0) σ4) ∧ (¬ r5 = iI_ 0 → MMi_ (zx_ u) mX9_within [.int x2, .int (iI_ 6)] σ4 (fun r8 σ7 => ((r8 = iI_ 0 → P (iI_ 0) σ7) ∧ (¬ r8 = iI_ 0 → P (iI_ 1) σ7)))))))))) : MMi_ (zx_ u) mX9_isFold [.int x0, .int x1, .int x2] σ P := by
  refine MM_.of (L := [(0, .int x0), (1, .int x1), (2, .int x2)]) (by decide +kernel) (Nat.le_of_ble_eq_true rfl) rfl ?_
  refine g_iload_n dX9_isFold_0 0 rfl rfl ?_
  refine k_X9_isNight w_444 rfl ⟨Nat.le_of_ble_eq_true rfl, Nat.le_of_ble_eq_true rfl⟩ (Nat.le_of_ble_eq_true rfl) dX9_isFold_1 H (fun r2 σ1 H => ?_)
  refine g_if_eq 29 dX9_isFold_4 (by decide) (fun c3 => ?_) (fun c3 => ?_)
  · replace H := H.1 c3
    refine g_iconst (v := (iI_ 0)) dX9_isFold_29 (by decide) ?_
    exact g_zret rfl (by decide) dX9_isFold_30 ⟨_, rfl, H⟩
  · replace H := H.2 c3
    refine g_iload_n dX9_isFold_7 1 rfl rfl ?_
    refine g_bipush (v := (iI_ 8)) dX9_isFold_8 (by decide) ?_
    refine k_X9_within w_370 rfl ⟨Nat.le_of_ble_eq_true rfl, Nat.le_of_ble_eq_true rfl⟩ (Nat.le_of_ble_eq_true rfl) dX9_isFold_10 H (fun r5 σ4 H => ?_)
    refine g_if_eq 29 dX9_isFold_13 (by decide) (fun c6 => ?_) (fun c6 => ?_)
    · replace H := H.1 c6
      refine g_iconst (v := (iI_ 0)) dX9_isFold_29 (by decide) ?_
      exact g_zret rfl (by decide) dX9_isFold_30 ⟨_, rfl, H⟩
    · replace H := H.2 c6
      refine g_iload_n dX9_isFold_16 2 rfl rfl ?_
      refine g_bipush (v := (iI_ 6)) dX9_isFold_17 (by decide) ?_
      refine k_X9_within w_370 rfl ⟨Nat.le_of_ble_eq_true rfl, Nat.le_of_ble_eq_true rfl⟩ (Nat.le_of_ble_eq_true rfl) dX9_isFold_19 H (fun r8 σ7 H => ?_)
      refine g_if_eq 29 dX9_isFold_22 (by decide) (fun c9 => ?_) (fun c9 => ?_)
      · replace H := H.1 c9
        refine g_iconst (v := (iI_ 0)) dX9_isFold_29 (by decide) ?_
        exact g_zret rfl (by decide) dX9_isFold_30 ⟨_, rfl, H⟩
      · replace H := H.2 c9
        refine g_iconst (v := (iI_ 1)) dX9_isFold_25 (by decide) ?_
        refine g_goto 30 dX9_isFold_26 (by decide) ?_
        exact g_zret rfl (by decide) dX9_isFold_30 ⟨_, rfl, H⟩
set_option maxHeartbeats 4000000 in
set_option maxRecDepth 100000 in
theorem eX9_refusedLong (u : Ux_) {P : Int64 → St_ → Prop}  (σ : St_) (x0 : Int32) (H : P ((iL_ (-9223372036854775808)) - (Int32.toInt64 x0)) σ) : MMl_ (zx_ u) mX9_refusedLong [.int x0] σ P := by
  refine MM_.of (L := [(0, .int x0)]) (by decide +kernel) (Nat.le_of_ble_eq_true rfl) rfl ?_
  refine g_ldc2 (v := (iL_ (-9223372036854775808))) (by decide) w_612 rfl dX9_refusedLong_0 ?_
  refine g_iload_n dX9_refusedLong_3 0 rfl rfl ?_
  refine g_i2l dX9_refusedLong_4 ?_
  refine g_lsub dX9_refusedLong_5 ?_
  exact g_lret rfl dX9_refusedLong_6 ⟨_, rfl, H⟩
set_option maxHeartbeats 4000000 in
set_option maxRecDepth 100000 in
theorem eX9_found (u : Ux_) {P : Int32 → St_ → Prop}  (σ : St_) (x1 : Int32) (H : (∀ σ1, σ1 = su_ σ 38 0 x1 → P ((iI_ (-10)) - x1) σ1)) : MMi_ (zx_ u) mX9_found [.ref (uq_ u 0), .int x1] σ P := by
  refine MM_.of (L := [(0, .ref (uq_ u 0)), (1, .int x1)]) (by decide +kernel) (Nat.le_of_ble_eq_true rfl) rfl ?_
  refine g_aload_n dX9_found_0 0 rfl rfl ?_
  refine g_iload_n dX9_found_1 1 rfl rfl ?_
  refine px_LinenHouse_latestFinding w_336 rfl dX9_found_2 ?_
  obtain ⟨σ1, e_σ1⟩ : ∃ q : St_, q = su_ σ 38 0 x1 := ⟨_, rfl⟩
  rw [← e_σ1]
  replace H := H σ1 e_σ1
  refine g_bipush (v := (iI_ (-10))) dX9_found_5 (by decide) ?_
  refine g_iload_n dX9_found_7 1 rfl rfl ?_
  refine g_isub dX9_found_8 ?_
  exact g_iret rfl dX9_found_9 ⟨_, rfl, H⟩
set_option maxHeartbeats 4000000 in
set_option maxRecDepth 100000 in
theorem eX9_wanted (u : Ux_) {P : Int32 → St_ → Prop}  (σ : St_) (x0 : Int32) (x1 : Int32) (H : MMi_ (zx_ u) mX9_within [.int x0, .int (iI_ 6)] σ (fun r2 σ1 => ((r2 = iI_ 0 → P (iI_ (-1)) σ1) ∧ (¬ r2 = iI_ 0 → MMi_ (zx_ u) mX9_within [.int x1, .int (iI_ 3)] σ1 (fun r5 σ4 => ((r5 = iI_ 0 → P (iI_ (-1)) σ4) ∧ (¬ r5 = iI_ 0 → vp_in ((x0 * (iI_ 3)) + x1) 18 ∧ P (tW_ (Int32.toNatClampNeg ((x0 * (iI_ 3)) + x1))) σ4))))))) : MMi_ (zx_ u) mX9_wanted [.int x0, .int x1] σ P := by
  refine MM_.of (L := [(0, .int x0), (1, .int x1)]) (by decide +kernel) (Nat.le_of_ble_eq_true rfl) rfl ?_
  refine g_iload_n dX9_wanted_0 0 rfl rfl ?_
  refine g_bipush (v := (iI_ 6)) dX9_wanted_1 (by decide) ?_
  refine k_X9_within w_370 rfl ⟨Nat.le_of_ble_eq_true rfl, Nat.le_of_ble_eq_true rfl⟩ (Nat.le_of_ble_eq_true rfl) dX9_wanted_3 H (fun r2 σ1 H => ?_)
  refine g_if_eq 29 dX9_wanted_6 (by decide) (fun c3 => ?_) (fun c3 => ?_)
  · replace H := H.1 c3
    refine g_iconst (v := (iI_ (-1))) dX9_wanted_29 (by decide) ?_
    exact g_iret rfl dX9_wanted_30 ⟨_, rfl, H⟩
  · replace H := H.2 c3
    refine g_iload_n dX9_wanted_9 1 rfl rfl ?_
    refine g_iconst (v := (iI_ 3)) dX9_wanted_10 (by decide) ?_
    refine k_X9_within w_370 rfl ⟨Nat.le_of_ble_eq_true rfl, Nat.le_of_ble_eq_true rfl⟩ (Nat.le_of_ble_eq_true rfl) dX9_wanted_11 H (fun r5 σ4 H => ?_)
    refine g_if_eq 29 dX9_wanted_14 (by decide) (fun c6 => ?_) (fun c6 => ?_)
    · replace H := H.1 c6
      refine g_iconst (v := (iI_ (-1))) dX9_wanted_29 (by decide) ?_
      exact g_iret rfl dX9_wanted_30 ⟨_, rfl, H⟩
    · replace H := H.2 c6
      refine g_gets (tb_0 (u := u)) w_438 rfl dX9_wanted_17 ?_
      refine g_iload_n dX9_wanted_20 0 rfl rfl ?_
      refine g_iconst (v := (iI_ 3)) dX9_wanted_21 (by decide) ?_
      refine g_imul dX9_wanted_22 ?_
      refine g_iload_n dX9_wanted_23 1 rfl rfl ?_
      refine g_iadd dX9_wanted_24 ?_
      obtain ⟨h7, H⟩ := H
      refine g_tbl (tb_0 (u := u)) h7 dX9_wanted_25 ?_
      refine g_goto 30 dX9_wanted_26 (by decide) ?_
      exact g_iret rfl dX9_wanted_30 ⟨_, rfl, H⟩
set_option maxHeartbeats 4000000 in
set_option maxRecDepth 100000 in
theorem eX9_rather (u : Ux_) {P : Int32 → St_ → Prop}  (σ : St_) (x0 : Int32) (x1 : Int32) (x2 : Int32) (H : ((x0 < iI_ 0 → P (iI_ 0) σ) ∧ (¬ x0 < iI_ 0 → (((iI_ 6) ≤ x0 → P (iI_ 0) σ) ∧ (¬ (iI_ 6) ≤ x0 → ((x1 < iI_ 0 → P (iI_ 0) σ) ∧ (¬ x1 < iI_ 0 → (((iI_ 3) ≤ x1 → P (iI_ 0) σ) ∧ (¬ (iI_ 3) ≤ x1 → ((x2 < iI_ 0 → P (iI_ 0) σ) ∧ (¬ x2 < iI_ 0 → (((iI_ 3) ≤ x2 → P (iI_ 0) σ) ∧ (¬ (iI_ 3) ≤ x2 → vp_in ((x0 * (iI_ 3)) + x1) 18 ∧ vp_in ((x0 * (iI_ 3)) + x2) 18 ∧ (((tP_ (Int32.toNatClampNeg ((x0 * (iI_ 3)) + x2))) ≤ (tP_ (Int32.toNatClampNeg ((x0 * (iI_ 3)) + x1))) → P (iI_ 0) σ) ∧ (¬ (tP_ (Int32.toNatClampNeg ((x0 * (iI_ 3)) + x2))) ≤ (tP_ (Int32.toNatClampNeg ((x0 * (iI_ 3)) + x1))) → P (iI_ 1) σ))))))))))))))) : MMi_ (zx_ u) mX9_rather [.int x0, .int x1, .int x2] σ P := by
  refine MM_.of (L := [(0, .int x0), (1, .int x1), (2, .int x2)]) (by decide +kernel) (Nat.le_of_ble_eq_true rfl) rfl ?_
  refine g_iload_n dX9_rather_0 0 rfl rfl ?_
  refine g_if_lt 32 dX9_rather_1 (by decide) (fun c1 => ?_) (fun c1 => ?_)
  · replace H := H.1 c1
    refine g_iconst (v := (iI_ 0)) dX9_rather_32 (by decide) ?_
    refine g_istore_n (L' := [(3, .int (iI_ 0)), (0, .int x0), (1, .int x1), (2, .int x2)]) dX9_rather_33 rfl (by decide) rfl ?_
    refine g_iload_n dX9_rather_34 0 rfl rfl ?_
    refine g_if_eq 63 dX9_rather_35 (by decide) (fun c2 => ?_) (fun c2 => ?_)
    · skip
      refine g_iconst (v := (iI_ 0)) dX9_rather_63 (by decide) ?_
      exact g_zret rfl (by decide) dX9_rather_64 ⟨_, rfl, H⟩
    · first | exact absurd c2 (by decide) | exact absurd (by decide) c2
  · replace H := H.2 c1
    refine g_iload_n dX9_rather_4 0 rfl rfl ?_
    refine g_bipush (v := (iI_ 6)) dX9_rather_5 (by decide) ?_
    refine g_icmp_ge 32 dX9_rather_7 (by decide) (fun c3 => ?_) (fun c3 => ?_)
    · replace H := H.1 c3
      refine g_iconst (v := (iI_ 0)) dX9_rather_32 (by decide) ?_
      refine g_istore_n (L' := [(3, .int (iI_ 0)), (0, .int x0), (1, .int x1), (2, .int x2)]) dX9_rather_33 rfl (by decide) rfl ?_
      refine g_iload_n dX9_rather_34 0 rfl rfl ?_
      refine g_if_eq 63 dX9_rather_35 (by decide) (fun c4 => ?_) (fun c4 => ?_)
      · skip
        refine g_iconst (v := (iI_ 0)) dX9_rather_63 (by decide) ?_
        exact g_zret rfl (by decide) dX9_rather_64 ⟨_, rfl, H⟩
      · first | exact absurd c4 (by decide) | exact absurd (by decide) c4
    · replace H := H.2 c3
      refine g_iload_n dX9_rather_10 1 rfl rfl ?_
      refine g_if_lt 32 dX9_rather_11 (by decide) (fun c5 => ?_) (fun c5 => ?_)
      · replace H := H.1 c5
        refine g_iconst (v := (iI_ 0)) dX9_rather_32 (by decide) ?_
        refine g_istore_n (L' := [(3, .int (iI_ 0)), (0, .int x0), (1, .int x1), (2, .int x2)]) dX9_rather_33 rfl (by decide) rfl ?_
        refine g_iload_n dX9_rather_34 0 rfl rfl ?_
        refine g_if_eq 63 dX9_rather_35 (by decide) (fun c6 => ?_) (fun c6 => ?_)
        · skip
          refine g_iconst (v := (iI_ 0)) dX9_rather_63 (by decide) ?_
          exact g_zret rfl (by decide) dX9_rather_64 ⟨_, rfl, H⟩
        · first | exact absurd c6 (by decide) | exact absurd (by decide) c6
      · replace H := H.2 c5
        refine g_iload_n dX9_rather_14 1 rfl rfl ?_
        refine g_iconst (v := (iI_ 3)) dX9_rather_15 (by decide) ?_
        refine g_icmp_ge 32 dX9_rather_16 (by decide) (fun c7 => ?_) (fun c7 => ?_)
        · replace H := H.1 c7
          refine g_iconst (v := (iI_ 0)) dX9_rather_32 (by decide) ?_
          refine g_istore_n (L' := [(3, .int (iI_ 0)), (0, .int x0), (1, .int x1), (2, .int x2)]) dX9_rather_33 rfl (by decide) rfl ?_
          refine g_iload_n dX9_rather_34 0 rfl rfl ?_
          refine g_if_eq 63 dX9_rather_35 (by decide) (fun c8 => ?_) (fun c8 => ?_)
          · skip
            refine g_iconst (v := (iI_ 0)) dX9_rather_63 (by decide) ?_
            exact g_zret rfl (by decide) dX9_rather_64 ⟨_, rfl, H⟩
          · first | exact absurd c8 (by decide) | exact absurd (by decide) c8
        · replace H := H.2 c7
          refine g_iload_n dX9_rather_19 2 rfl rfl ?_
          refine g_if_lt 32 dX9_rather_20 (by decide) (fun c9 => ?_) (fun c9 => ?_)
          · replace H := H.1 c9
            refine g_iconst (v := (iI_ 0)) dX9_rather_32 (by decide) ?_
            refine g_istore_n (L' := [(3, .int (iI_ 0)), (0, .int x0), (1, .int x1), (2, .int x2)]) dX9_rather_33 rfl (by decide) rfl ?_
            refine g_iload_n dX9_rather_34 0 rfl rfl ?_
            refine g_if_eq 63 dX9_rather_35 (by decide) (fun c10 => ?_) (fun c10 => ?_)
            · skip
              refine g_iconst (v := (iI_ 0)) dX9_rather_63 (by decide) ?_
              exact g_zret rfl (by decide) dX9_rather_64 ⟨_, rfl, H⟩
            · first | exact absurd c10 (by decide) | exact absurd (by decide) c10
          · replace H := H.2 c9
            refine g_iload_n dX9_rather_23 2 rfl rfl ?_
            refine g_iconst (v := (iI_ 3)) dX9_rather_24 (by decide) ?_
            refine g_icmp_ge 32 dX9_rather_25 (by decide) (fun c11 => ?_) (fun c11 => ?_)
            · replace H := H.1 c11
              refine g_iconst (v := (iI_ 0)) dX9_rather_32 (by decide) ?_
              refine g_istore_n (L' := [(3, .int (iI_ 0)), (0, .int x0), (1, .int x1), (2, .int x2)]) dX9_rather_33 rfl (by decide) rfl ?_
              refine g_iload_n dX9_rather_34 0 rfl rfl ?_
              refine g_if_eq 63 dX9_rather_35 (by decide) (fun c12 => ?_) (fun c12 => ?_)
              · skip
                refine g_iconst (v := (iI_ 0)) dX9_rather_63 (by decide) ?_
                exact g_zret rfl (by decide) dX9_rather_64 ⟨_, rfl, H⟩
              · first | exact absurd c12 (by decide) | exact absurd (by decide) c12
            · replace H := H.2 c11
              refine g_iconst (v := (iI_ 1)) dX9_rather_28 (by decide) ?_
              refine g_goto 33 dX9_rather_29 (by decide) ?_
              refine g_istore_n (L' := [(3, .int (iI_ 1)), (0, .int x0), (1, .int x1), (2, .int x2)]) dX9_rather_33 rfl (by decide) rfl ?_
              refine g_iload_n dX9_rather_34 0 rfl rfl ?_
              refine g_if_eq 63 dX9_rather_35 (by decide) (fun c13 => ?_) (fun c13 => ?_)
              · first | exact absurd c13 (by decide) | exact absurd (by decide) c13
              · skip
                refine g_gets (tb_1 (u := u)) w_522 rfl dX9_rather_38 ?_
                refine g_iload_n dX9_rather_41 1 rfl rfl ?_
                refine g_iconst (v := (iI_ 3)) dX9_rather_42 (by decide) ?_
                refine g_imul dX9_rather_43 ?_
                refine g_iload_n dX9_rather_44 2 rfl rfl ?_
                refine g_iadd dX9_rather_45 ?_
                obtain ⟨h14, H⟩ := H
                refine g_tbl (tb_1 (u := u)) h14 dX9_rather_46 ?_
                refine g_gets (tb_1 (u := u)) w_522 rfl dX9_rather_47 ?_
                refine g_iload_n dX9_rather_50 1 rfl rfl ?_
                refine g_iconst (v := (iI_ 3)) dX9_rather_51 (by decide) ?_
                refine g_imul dX9_rather_52 ?_
                refine g_iload_n dX9_rather_53 3 rfl rfl ?_
                refine g_iadd dX9_rather_54 ?_
                obtain ⟨h15, H⟩ := H
                refine g_tbl (tb_1 (u := u)) h15 dX9_rather_55 ?_
                refine g_icmp_ge 63 dX9_rather_56 (by decide) (fun c16 => ?_) (fun c16 => ?_)
                · replace H := H.1 c16
                  refine g_iconst (v := (iI_ 0)) dX9_rather_63 (by decide) ?_
                  exact g_zret rfl (by decide) dX9_rather_64 ⟨_, rfl, H⟩
                · replace H := H.2 c16
                  refine g_iconst (v := (iI_ 1)) dX9_rather_59 (by decide) ?_
                  refine g_goto 64 dX9_rather_60 (by decide) ?_
                  exact g_zret rfl (by decide) dX9_rather_64 ⟨_, rfl, H⟩
set_option maxHeartbeats 4000000 in
set_option maxRecDepth 100000 in
theorem eX9_warmth (u : Ux_) {P : Int32 → St_ → Prop}  (σ : St_) (x0 : Int32) (x1 : Int32) (H : ((x1 = iI_ 0 → ((iI_ 0 ≤ (((iI_ 5) - x0) - (iI_ 0)) → P (((iI_ 5) - x0) - (iI_ 0)) σ) ∧ (¬ iI_ 0 ≤ (((iI_ 5) - x0) - (iI_ 0)) → P (iI_ 0) σ))) ∧ (¬ x1 = iI_ 0 → ((iI_ 0 ≤ (((iI_ 5) - x0) - (iI_ 3)) → P (((iI_ 5) - x0) - (iI_ 3)) σ) ∧ (¬ iI_ 0 ≤ (((iI_ 5) - x0) - (iI_ 3)) → P (iI_ 0) σ))))) : MMi_ (zx_ u) mX9_warmth [.int x0, .int x1] σ P := by
  refine MM_.of (L := [(0, .int x0), (1, .int x1)]) (by decide +kernel) (Nat.le_of_ble_eq_true rfl) rfl ?_
  refine g_iconst (v := (iI_ 5)) dX9_warmth_0 (by decide) ?_
  refine g_iload_n dX9_warmth_1 0 rfl rfl ?_
  refine g_isub dX9_warmth_2 ?_
  refine g_iload_n dX9_warmth_3 1 rfl rfl ?_
  refine g_if_eq 11 dX9_warmth_4 (by decide) (fun c1 => ?_) (fun c1 => ?_)
  · replace H := H.1 c1
    refine g_iconst (v := (iI_ 0)) dX9_warmth_11 (by decide) ?_
    refine g_isub dX9_warmth_12 ?_
    refine g_istore_n (L' := [(2, .int (((iI_ 5) - x0) - (iI_ 0))), (0, .int x0), (1, .int x1)]) dX9_warmth_13 rfl (by decide) rfl ?_
    refine g_iload_n dX9_warmth_14 0 rfl rfl ?_
    refine g_if_ge 22 dX9_warmth_15 (by decide) (fun c2 => ?_) (fun c2 => ?_)
    · replace H := H.1 c2
      refine g_iload_n dX9_warmth_22 0 rfl rfl ?_
      exact g_iret rfl dX9_warmth_23 ⟨_, rfl, H⟩
    · replace H := H.2 c2
      refine g_iconst (v := (iI_ 0)) dX9_warmth_18 (by decide) ?_
      refine g_goto 23 dX9_warmth_19 (by decide) ?_
      exact g_iret rfl dX9_warmth_23 ⟨_, rfl, H⟩
  · replace H := H.2 c1
    refine g_iconst (v := (iI_ 3)) dX9_warmth_7 (by decide) ?_
    refine g_goto 12 dX9_warmth_8 (by decide) ?_
    refine g_isub dX9_warmth_12 ?_
    refine g_istore_n (L' := [(2, .int (((iI_ 5) - x0) - (iI_ 3))), (0, .int x0), (1, .int x1)]) dX9_warmth_13 rfl (by decide) rfl ?_
    refine g_iload_n dX9_warmth_14 0 rfl rfl ?_
    refine g_if_ge 22 dX9_warmth_15 (by decide) (fun c3 => ?_) (fun c3 => ?_)
    · replace H := H.1 c3
      refine g_iload_n dX9_warmth_22 0 rfl rfl ?_
      exact g_iret rfl dX9_warmth_23 ⟨_, rfl, H⟩
    · replace H := H.2 c3
      refine g_iconst (v := (iI_ 0)) dX9_warmth_18 (by decide) ?_
      refine g_goto 23 dX9_warmth_19 (by decide) ?_
      exact g_iret rfl dX9_warmth_23 ⟨_, rfl, H⟩
set_option maxHeartbeats 4000000 in
set_option maxRecDepth 100000 in
theorem eX9_factorial (u : Ux_) {P : Int32 → St_ → Prop}  (σ : St_) (x0 : Int32) (H : ((x0 < iI_ 0 → P (iI_ 1) σ) ∧ (¬ x0 < iI_ 0 → (((iI_ 9) ≤ x0 → P (iI_ 1) σ) ∧ (¬ (iI_ 9) ≤ x0 → vp_in x0 9 ∧ P (tF_ (Int32.toNatClampNeg x0)) σ))))) : MMi_ (zx_ u) mX9_factorial [.int x0] σ P := by
  refine MM_.of (L := [(0, .int x0)]) (by decide +kernel) (Nat.le_of_ble_eq_true rfl) rfl ?_
  refine g_iload_n dX9_factorial_0 0 rfl rfl ?_
  refine g_if_lt 20 dX9_factorial_1 (by decide) (fun c1 => ?_) (fun c1 => ?_)
  · replace H := H.1 c1
    refine g_iconst (v := (iI_ 1)) dX9_factorial_20 (by decide) ?_
    exact g_iret rfl dX9_factorial_21 ⟨_, rfl, H⟩
  · replace H := H.2 c1
    refine g_iload_n dX9_factorial_4 0 rfl rfl ?_
    refine g_gets (tb_3 (u := u)) w_636 rfl dX9_factorial_5 ?_
    refine g_tlen (v := iI_ 9) (tb_3 (u := u)) (by decide) dX9_factorial_8 ?_
    refine g_icmp_ge 20 dX9_factorial_9 (by decide) (fun c2 => ?_) (fun c2 => ?_)
    · replace H := H.1 c2
      refine g_iconst (v := (iI_ 1)) dX9_factorial_20 (by decide) ?_
      exact g_iret rfl dX9_factorial_21 ⟨_, rfl, H⟩
    · replace H := H.2 c2
      refine g_gets (tb_3 (u := u)) w_636 rfl dX9_factorial_12 ?_
      refine g_iload_n dX9_factorial_15 0 rfl rfl ?_
      obtain ⟨h3, H⟩ := H
      refine g_tbl (tb_3 (u := u)) h3 dX9_factorial_16 ?_
      refine g_goto 21 dX9_factorial_17 (by decide) ?_
      exact g_iret rfl dX9_factorial_21 ⟨_, rfl, H⟩
set_option maxHeartbeats 4000000 in
set_option maxRecDepth 100000 in
theorem bX9_lowest_9 (u : Ux_) {P : Int64 → St_ → Prop}  (σ : St_) (x0 : Int64) (x2 : Int64) (x4 : Int32) (x5 : Int64) (x7 : Int64) (x9 : Int32) (H : (((iI_ 100) ≤ x9 → ((¬ x4 = iI_ 0 → ((¬ (lg_cmp x5 (iL_ 0)) = iI_ 0 → ¬ x5 = 0 ∧ P (x2 / x5) σ) ∧ ((lg_cmp x5 (iL_ 0)) = iI_ 0 → P x2 σ))) ∧ (x4 = iI_ 0 → ((¬ (lg_cmp x5 (iL_ 0)) = iI_ 0 → ¬ x5 = 0 ∧ P (x0 / x5) σ) ∧ ((lg_cmp x5 (iL_ 0)) = iI_ 0 → P x0 σ))))) ∧ (¬ (iI_ 100) ≤ x9 → (((lg_cmp x7 (iL_ 0)) = iI_ 0 → ((¬ x4 = iI_ 0 → ((¬ (lg_cmp x5 (iL_ 0)) = iI_ 0 → ¬ x5 = 0 ∧ P (x2 / x5) σ) ∧ ((lg_cmp x5 (iL_ 0)) = iI_ 0 → P x2 σ))) ∧ (x4 = iI_ 0 → ((¬ (lg_cmp x5 (iL_ 0)) = iI_ 0 → ¬ x5 = 0 ∧ P (x0 / x5) σ) ∧ ((lg_cmp x5 (iL_ 0)) = iI_ 0 → P x0 σ))))) ∧ (¬ (lg_cmp x7 (iL_ 0)) = iI_ 0 → ¬ x7 = 0 ∧ GG_ (zx_ u) mX9_lowest (Pl_ P) 9 [(0, .long x0), (2, .long x2), (4, .int x4), (5, .long x7), (7, .long (x5 - x5 / x7 * x7)), (9, .int (x9 + (iI_ 1)))] [] σ))))) : GG_ (zx_ u) mX9_lowest (Pl_ P) 9 [(0, .long x0), (2, .long x2), (4, .int x4), (5, .long x5), (7, .long x7), (9, .int x9)] [] σ := by
  refine g_iload dX9_lowest_9 5 rfl ?_
  refine g_bipush (v := (iI_ 100)) dX9_lowest_11 (by decide) ?_
  refine g_icmp_ge 44 dX9_lowest_13 (by decide) (fun c1 => ?_) (fun c1 => ?_)
  · replace H := H.1 c1
    refine g_iload dX9_lowest_44 2 rfl ?_
    refine g_if_ne 53 dX9_lowest_46 (by decide) (fun c2 => ?_) (fun c2 => ?_)
    · replace H := H.1 c2
      refine g_lload_n dX9_lowest_53 1 rfl rfl ?_
      refine g_lstore (L' := [(9, .long x2), (0, .long x0), (2, .long x2), (4, .int x4), (5, .long x5), (7, .long x7)]) dX9_lowest_54 (by decide) rfl ?_
      refine g_lload dX9_lowest_56 4 rfl ?_
      refine g_lconst (v := (iL_ 0)) dX9_lowest_58 (by decide) ?_
      refine g_lcmp dX9_lowest_59 ?_
      refine g_if_ne 68 dX9_lowest_60 (by decide) (fun c3 => ?_) (fun c3 => ?_)
      · replace H := H.1 c3
        refine g_lload dX9_lowest_68 0 rfl ?_
        refine g_lload dX9_lowest_70 4 rfl ?_
        obtain ⟨h4, H⟩ := H
        refine g_ldiv dX9_lowest_72 h4 ?_
        exact g_lret rfl dX9_lowest_73 ⟨_, rfl, H⟩
      · replace H := H.2 c3
        refine g_lload dX9_lowest_63 0 rfl ?_
        refine g_goto 73 dX9_lowest_65 (by decide) ?_
        exact g_lret rfl dX9_lowest_73 ⟨_, rfl, H⟩
    · replace H := H.2 c2
      refine g_lload_n dX9_lowest_49 0 rfl rfl ?_
      refine g_goto 54 dX9_lowest_50 (by decide) ?_
      refine g_lstore (L' := [(9, .long x0), (0, .long x0), (2, .long x2), (4, .int x4), (5, .long x5), (7, .long x7)]) dX9_lowest_54 (by decide) rfl ?_
      refine g_lload dX9_lowest_56 4 rfl ?_
      refine g_lconst (v := (iL_ 0)) dX9_lowest_58 (by decide) ?_
      refine g_lcmp dX9_lowest_59 ?_
      refine g_if_ne 68 dX9_lowest_60 (by decide) (fun c5 => ?_) (fun c5 => ?_)
      · replace H := H.1 c5
        refine g_lload dX9_lowest_68 0 rfl ?_
        refine g_lload dX9_lowest_70 4 rfl ?_
        obtain ⟨h6, H⟩ := H
        refine g_ldiv dX9_lowest_72 h6 ?_
        exact g_lret rfl dX9_lowest_73 ⟨_, rfl, H⟩
      · replace H := H.2 c5
        refine g_lload dX9_lowest_63 0 rfl ?_
        refine g_goto 73 dX9_lowest_65 (by decide) ?_
        exact g_lret rfl dX9_lowest_73 ⟨_, rfl, H⟩
  · replace H := H.2 c1
    refine g_lload dX9_lowest_16 4 rfl ?_
    refine g_lconst (v := (iL_ 0)) dX9_lowest_18 (by decide) ?_
    refine g_lcmp dX9_lowest_19 ?_
    refine g_if_eq 44 dX9_lowest_20 (by decide) (fun c7 => ?_) (fun c7 => ?_)
    · replace H := H.1 c7
      refine g_iload dX9_lowest_44 2 rfl ?_
      refine g_if_ne 53 dX9_lowest_46 (by decide) (fun c8 => ?_) (fun c8 => ?_)
      · replace H := H.1 c8
        refine g_lload_n dX9_lowest_53 1 rfl rfl ?_
        refine g_lstore (L' := [(9, .long x2), (0, .long x0), (2, .long x2), (4, .int x4), (5, .long x5), (7, .long x7)]) dX9_lowest_54 (by decide) rfl ?_
        refine g_lload dX9_lowest_56 4 rfl ?_
        refine g_lconst (v := (iL_ 0)) dX9_lowest_58 (by decide) ?_
        refine g_lcmp dX9_lowest_59 ?_
        refine g_if_ne 68 dX9_lowest_60 (by decide) (fun c9 => ?_) (fun c9 => ?_)
        · replace H := H.1 c9
          refine g_lload dX9_lowest_68 0 rfl ?_
          refine g_lload dX9_lowest_70 4 rfl ?_
          obtain ⟨h10, H⟩ := H
          refine g_ldiv dX9_lowest_72 h10 ?_
          exact g_lret rfl dX9_lowest_73 ⟨_, rfl, H⟩
        · replace H := H.2 c9
          refine g_lload dX9_lowest_63 0 rfl ?_
          refine g_goto 73 dX9_lowest_65 (by decide) ?_
          exact g_lret rfl dX9_lowest_73 ⟨_, rfl, H⟩
      · replace H := H.2 c8
        refine g_lload_n dX9_lowest_49 0 rfl rfl ?_
        refine g_goto 54 dX9_lowest_50 (by decide) ?_
        refine g_lstore (L' := [(9, .long x0), (0, .long x0), (2, .long x2), (4, .int x4), (5, .long x5), (7, .long x7)]) dX9_lowest_54 (by decide) rfl ?_
        refine g_lload dX9_lowest_56 4 rfl ?_
        refine g_lconst (v := (iL_ 0)) dX9_lowest_58 (by decide) ?_
        refine g_lcmp dX9_lowest_59 ?_
        refine g_if_ne 68 dX9_lowest_60 (by decide) (fun c11 => ?_) (fun c11 => ?_)
        · replace H := H.1 c11
          refine g_lload dX9_lowest_68 0 rfl ?_
          refine g_lload dX9_lowest_70 4 rfl ?_
          obtain ⟨h12, H⟩ := H
          refine g_ldiv dX9_lowest_72 h12 ?_
          exact g_lret rfl dX9_lowest_73 ⟨_, rfl, H⟩
        · replace H := H.2 c11
          refine g_lload dX9_lowest_63 0 rfl ?_
          refine g_goto 73 dX9_lowest_65 (by decide) ?_
          exact g_lret rfl dX9_lowest_73 ⟨_, rfl, H⟩
    · replace H := H.2 c7
      refine g_lload dX9_lowest_23 3 rfl ?_
      refine g_lload dX9_lowest_25 4 rfl ?_
      obtain ⟨h13, H⟩ := H
      refine g_lrem dX9_lowest_27 h13 ?_
      refine g_lstore (L' := [(10, .long (x5 - x5 / x7 * x7)), (0, .long x0), (2, .long x2), (4, .int x4), (5, .long x5), (7, .long x7), (9, .int x9)]) dX9_lowest_28 (by decide) rfl ?_
      refine g_lload dX9_lowest_30 5 rfl ?_
      refine g_lstore (L' := [(5, .long x7), (10, .long (x5 - x5 / x7 * x7)), (0, .long x0), (2, .long x2), (4, .int x4), (7, .long x7), (9, .int x9)]) dX9_lowest_32 (by decide) rfl ?_
      refine g_lload dX9_lowest_34 1 rfl ?_
      refine g_lstore (L' := [(7, .long (x5 - x5 / x7 * x7)), (5, .long x7), (10, .long (x5 - x5 / x7 * x7)), (0, .long x0), (2, .long x2), (4, .int x4), (9, .int x9)]) dX9_lowest_36 (by decide) rfl ?_
      refine g_iinc (v := (x9 + (iI_ 1))) (L' := [(9, .int (x9 + (iI_ 1))), (7, .long (x5 - x5 / x7 * x7)), (5, .long x7), (10, .long (x5 - x5 / x7 * x7)), (0, .long x0), (2, .long x2), (4, .int x4)]) dX9_lowest_38 6 rfl rfl (by decide) rfl ?_
      refine g_goto 9 dX9_lowest_41 (by decide) ?_
      exact GG_.sub [4, 5, 6, 2, 1, 0] rfl H
set_option maxHeartbeats 4000000 in
set_option maxRecDepth 100000 in
theorem eX9_lowest (u : Ux_) {P : Int64 → St_ → Prop}  (σ : St_) (x0 : Int64) (x2 : Int64) (x4 : Int32) (H : GG_ (zx_ u) mX9_lowest (Pl_ P) 9 [(0, .long x0), (2, .long x2), (4, .int x4), (5, .long x0), (7, .long x2), (9, .int (iI_ 0))] [] σ) : MMl_ (zx_ u) mX9_lowest [.long x0, .long x2, .int x4] σ P := by
  refine MM_.of (L := [(0, .long x0), (2, .long x2), (4, .int x4)]) (by decide +kernel) (Nat.le_of_ble_eq_true rfl) rfl ?_
  refine g_lload_n dX9_lowest_0 0 rfl rfl ?_
  refine g_lstore (L' := [(5, .long x0), (0, .long x0), (2, .long x2), (4, .int x4)]) dX9_lowest_1 (by decide) rfl ?_
  refine g_lload_n dX9_lowest_3 2 rfl rfl ?_
  refine g_lstore (L' := [(7, .long x2), (5, .long x0), (0, .long x0), (2, .long x2), (4, .int x4)]) dX9_lowest_4 (by decide) rfl ?_
  refine g_iconst (v := (iI_ 0)) dX9_lowest_6 (by decide) ?_
  refine g_istore (L' := [(9, .int (iI_ 0)), (7, .long x2), (5, .long x0), (0, .long x0), (2, .long x2), (4, .int x4)]) dX9_lowest_7 (by decide) rfl ?_
  exact GG_.sub [3, 4, 5, 2, 1, 0] rfl H
set_option maxHeartbeats 4000000 in
set_option maxRecDepth 100000 in
theorem eX9_takeAgain (u : Ux_) {P : St_ → Prop}  (σ : St_) (x1 : Int32) (H : ((¬ x1 = iI_ 0 → MMv_ (zx_ u) mX3_take [.ref (uq_ u 7), .ref (uq_ u (32 + (Int32.toNatClampNeg (iI_ 1))))] σ (fun σ2 => P σ2)) ∧ (x1 = iI_ 0 → MMv_ (zx_ u) mX4_take [.ref (uq_ u 2), .ref (uq_ u (32 + (Int32.toNatClampNeg (iI_ 0))))] σ (fun σ3 => P σ3)))) : MMv_ (zx_ u) mX9_takeAgain [.ref (uq_ u 0), .int x1] σ P := by
  refine MM_.of (L := [(0, .ref (uq_ u 0)), (1, .int x1)]) (by decide +kernel) (Nat.le_of_ble_eq_true rfl) rfl ?_
  refine g_iload_n dX9_takeAgain_0 1 rfl rfl ?_
  refine g_if_ne 20 dX9_takeAgain_1 (by decide) (fun c1 => ?_) (fun c1 => ?_)
  · replace H := H.1 c1
    refine g_aload_n dX9_takeAgain_20 0 rfl rfl ?_
    refine gx_LinenHouse_motions w_325 rfl dX9_takeAgain_21 ?_
    refine g_aload_n dX9_takeAgain_24 0 rfl rfl ?_
    refine gx_LinenHouse_texts w_323 rfl dX9_takeAgain_25 ?_
    refine g_iconst (v := (iI_ 1)) dX9_takeAgain_28 (by decide) ?_
    refine ax_texts (by unfold vp_in; decide) dX9_takeAgain_29 ?_
    refine k_X3_take w_403 rfl ⟨Nat.le_of_ble_eq_true rfl, Nat.le_of_ble_eq_true rfl⟩ (Nat.le_of_ble_eq_true rfl) dX9_takeAgain_30 H (fun σ2 H => ?_)
    exact g_vret rfl dX9_takeAgain_33 ⟨rfl, H⟩
  · replace H := H.2 c1
    refine g_aload_n dX9_takeAgain_4 0 rfl rfl ?_
    refine gx_LinenHouse_roll w_324 rfl dX9_takeAgain_5 ?_
    refine g_aload_n dX9_takeAgain_8 0 rfl rfl ?_
    refine gx_LinenHouse_texts w_323 rfl dX9_takeAgain_9 ?_
    refine g_iconst (v := (iI_ 0)) dX9_takeAgain_12 (by decide) ?_
    refine ax_texts (by unfold vp_in; decide) dX9_takeAgain_13 ?_
    refine k_X4_take w_381 rfl ⟨Nat.le_of_ble_eq_true rfl, Nat.le_of_ble_eq_true rfl⟩ (Nat.le_of_ble_eq_true rfl) dX9_takeAgain_14 H (fun σ3 H => ?_)
    refine g_goto 33 dX9_takeAgain_17 (by decide) ?_
    exact g_vret rfl dX9_takeAgain_33 ⟨rfl, H⟩
set_option maxHeartbeats 4000000 in
set_option maxRecDepth 100000 in
theorem eX9_itemRefusal (u : Ux_) {P : Int32 → St_ → Prop}  (σ : St_) (x1 : Int32) (x2 : Int32) (x3 : Int32) (H : MMi_ (zx_ u) mX9_within [.int x1, .int (iI_ 4)] σ (fun r2 σ1 => ((r2 = iI_ 0 → P (iI_ (-2)) σ1) ∧ (¬ r2 = iI_ 0 → MMi_ (zx_ u) mX9_within [.int x2, .int (iI_ 3)] σ1 (fun r5 σ4 => ((¬ r5 = iI_ 0 → vp_in x1 4 ∧ ((¬ (σ4 39 (Int32.toNatClampNeg x1)) = (iI_ (-1)) → vp_in x1 4 ∧ (((σ4 39 (Int32.toNatClampNeg x1)) = x2 → vp_in x1 4 ∧ MMi_ (zx_ u) mX9_within [.int x3, .int (σ4 40 (Int32.toNatClampNeg x1))] σ4 (fun r13 σ12 => ((r13 = iI_ 0 → MMi_ (zx_ u) mX9_found [.ref (uq_ u 0), .int (iI_ 2)] σ12 (fun r16 σ15 => P r16 σ15)) ∧ (¬ r13 = iI_ 0 → P (iI_ 0) σ12)))) ∧ (¬ (σ4 39 (Int32.toNatClampNeg x1)) = x2 → MMi_ (zx_ u) mX9_found [.ref (uq_ u 0), .int (iI_ 3)] σ4 (fun r18 σ17 => P r18 σ17)))) ∧ ((σ4 39 (Int32.toNatClampNeg x1)) = (iI_ (-1)) → MMi_ (zx_ u) mX9_found [.ref (uq_ u 0), .int (iI_ 1)] σ4 (fun r20 σ19 => P r20 σ19)))) ∧ (r5 = iI_ 0 → P (iI_ (-2)) σ4))))))) : MMi_ (zx_ u) mX9_itemRefusal [.ref (uq_ u 0), .int x1, .int x2, .int x3] σ P := by
  refine MM_.of (L := [(0, .ref (uq_ u 0)), (1, .int x1), (2, .int x2), (3, .int x3)]) (by decide +kernel) (Nat.le_of_ble_eq_true rfl) rfl ?_
  refine g_iload_n dX9_itemRefusal_0 1 rfl rfl ?_
  refine g_iconst (v := (iI_ 4)) dX9_itemRefusal_1 (by decide) ?_
  refine k_X9_within w_370 rfl ⟨Nat.le_of_ble_eq_true rfl, Nat.le_of_ble_eq_true rfl⟩ (Nat.le_of_ble_eq_true rfl) dX9_itemRefusal_2 H (fun r2 σ1 H => ?_)
  refine g_if_eq 16 dX9_itemRefusal_5 (by decide) (fun c3 => ?_) (fun c3 => ?_)
  · replace H := H.1 c3
    refine g_bipush (v := (iI_ (-2))) dX9_itemRefusal_16 (by decide) ?_
    exact g_iret rfl dX9_itemRefusal_18 ⟨_, rfl, H⟩
  · replace H := H.2 c3
    refine g_iload_n dX9_itemRefusal_8 2 rfl rfl ?_
    refine g_iconst (v := (iI_ 3)) dX9_itemRefusal_9 (by decide) ?_
    refine k_X9_within w_370 rfl ⟨Nat.le_of_ble_eq_true rfl, Nat.le_of_ble_eq_true rfl⟩ (Nat.le_of_ble_eq_true rfl) dX9_itemRefusal_10 H (fun r5 σ4 H => ?_)
    refine g_if_ne 19 dX9_itemRefusal_13 (by decide) (fun c6 => ?_) (fun c6 => ?_)
    · replace H := H.1 c6
      refine g_aload_n dX9_itemRefusal_19 0 rfl rfl ?_
      refine gx_LinenHouse_sheets w_331 rfl dX9_itemRefusal_20 ?_
      refine g_iload_n dX9_itemRefusal_23 1 rfl rfl ?_
      obtain ⟨h7, H⟩ := H
      refine ax_sheets h7 dX9_itemRefusal_24 ?_
      refine gx_Sheet_form (vp_lt h7) w_311 rfl dX9_itemRefusal_25 ?_
      refine g_iconst (v := (iI_ (-1))) dX9_itemRefusal_28 (by decide) ?_
      refine g_icmp_ne 38 dX9_itemRefusal_29 (by decide) (fun c8 => ?_) (fun c8 => ?_)
      · replace H := H.1 c8
        refine g_aload_n dX9_itemRefusal_38 0 rfl rfl ?_
        refine gx_LinenHouse_sheets w_331 rfl dX9_itemRefusal_39 ?_
        refine g_iload_n dX9_itemRefusal_42 1 rfl rfl ?_
        obtain ⟨h9, H⟩ := H
        refine ax_sheets h9 dX9_itemRefusal_43 ?_
        refine gx_Sheet_form (vp_lt h9) w_311 rfl dX9_itemRefusal_44 ?_
        refine g_iload_n dX9_itemRefusal_47 2 rfl rfl ?_
        refine g_icmp_eq 57 dX9_itemRefusal_48 (by decide) (fun c10 => ?_) (fun c10 => ?_)
        · replace H := H.1 c10
          refine g_iload_n dX9_itemRefusal_57 3 rfl rfl ?_
          refine g_aload_n dX9_itemRefusal_58 0 rfl rfl ?_
          refine gx_LinenHouse_sheets w_331 rfl dX9_itemRefusal_59 ?_
          refine g_iload_n dX9_itemRefusal_62 1 rfl rfl ?_
          obtain ⟨h11, H⟩ := H
          refine ax_sheets h11 dX9_itemRefusal_63 ?_
          refine gx_Sheet_size (vp_lt h11) w_313 rfl dX9_itemRefusal_64 ?_
          refine k_X9_within w_370 rfl ⟨Nat.le_of_ble_eq_true rfl, Nat.le_of_ble_eq_true rfl⟩ (Nat.le_of_ble_eq_true rfl) dX9_itemRefusal_67 H (fun r13 σ12 H => ?_)
          refine g_if_eq 77 dX9_itemRefusal_70 (by decide) (fun c14 => ?_) (fun c14 => ?_)
          · replace H := H.1 c14
            refine g_aload_n dX9_itemRefusal_77 0 rfl rfl ?_
            refine g_iconst (v := (iI_ 2)) dX9_itemRefusal_78 (by decide) ?_
            refine k_X9_found w_478 rfl ⟨Nat.le_of_ble_eq_true rfl, Nat.le_of_ble_eq_true rfl⟩ (Nat.le_of_ble_eq_true rfl) dX9_itemRefusal_79 H (fun r16 σ15 H => ?_)
            exact g_iret rfl dX9_itemRefusal_82 ⟨_, rfl, H⟩
          · replace H := H.2 c14
            refine g_iconst (v := (iI_ 0)) dX9_itemRefusal_73 (by decide) ?_
            refine g_goto 82 dX9_itemRefusal_74 (by decide) ?_
            exact g_iret rfl dX9_itemRefusal_82 ⟨_, rfl, H⟩
        · replace H := H.2 c10
          refine g_aload_n dX9_itemRefusal_51 0 rfl rfl ?_
          refine g_iconst (v := (iI_ 3)) dX9_itemRefusal_52 (by decide) ?_
          refine k_X9_found w_478 rfl ⟨Nat.le_of_ble_eq_true rfl, Nat.le_of_ble_eq_true rfl⟩ (Nat.le_of_ble_eq_true rfl) dX9_itemRefusal_53 H (fun r18 σ17 H => ?_)
          exact g_iret rfl dX9_itemRefusal_56 ⟨_, rfl, H⟩
      · replace H := H.2 c8
        refine g_aload_n dX9_itemRefusal_32 0 rfl rfl ?_
        refine g_iconst (v := (iI_ 1)) dX9_itemRefusal_33 (by decide) ?_
        refine k_X9_found w_478 rfl ⟨Nat.le_of_ble_eq_true rfl, Nat.le_of_ble_eq_true rfl⟩ (Nat.le_of_ble_eq_true rfl) dX9_itemRefusal_34 H (fun r20 σ19 H => ?_)
        exact g_iret rfl dX9_itemRefusal_37 ⟨_, rfl, H⟩
    · replace H := H.2 c6
      refine g_bipush (v := (iI_ (-2))) dX9_itemRefusal_16 (by decide) ?_
      exact g_iret rfl dX9_itemRefusal_18 ⟨_, rfl, H⟩
set_option maxHeartbeats 4000000 in
set_option maxRecDepth 100000 in
theorem eX9_carriedAsTold (u : Ux_) {P : Int32 → St_ → Prop}  (σ : St_) (x1 : Int32) (H : MMi_ (zx_ u) mX2_has [.ref (uq_ u 15), .int x1] σ (fun r2 σ1 => MMi_ (zx_ u) mX0_carried [.ref (uq_ u 20), .int x1, .ref (uq_ u 5), .int r2, .int (iI_ (-1))] σ1 (fun r4 σ3 => P r4 σ3))) : MMi_ (zx_ u) mX9_carriedAsTold [.ref (uq_ u 0), .int x1] σ P := by
  refine MM_.of (L := [(0, .ref (uq_ u 0)), (1, .int x1)]) (by decide +kernel) (Nat.le_of_ble_eq_true rfl) rfl ?_
  refine g_aload_n dX9_carriedAsTold_0 0 rfl rfl ?_
  refine gx_LinenHouse_chamber w_329 rfl dX9_carriedAsTold_1 ?_
  refine g_iload_n dX9_carriedAsTold_4 1 rfl rfl ?_
  refine g_aload_n dX9_carriedAsTold_5 0 rfl rfl ?_
  refine gx_LinenHouse_roll w_324 rfl dX9_carriedAsTold_6 ?_
  refine gx_Roll_order w_114 rfl dX9_carriedAsTold_9 ?_
  refine g_aload_n dX9_carriedAsTold_12 0 rfl rfl ?_
  refine gx_LinenHouse_jars w_327 rfl dX9_carriedAsTold_13 ?_
  refine g_iload_n dX9_carriedAsTold_16 1 rfl rfl ?_
  refine k_X2_has w_490 rfl ⟨Nat.le_of_ble_eq_true rfl, Nat.le_of_ble_eq_true rfl⟩ (Nat.le_of_ble_eq_true rfl) dX9_carriedAsTold_17 H (fun r2 σ1 H => ?_)
  refine g_iconst (v := (iI_ (-1))) dX9_carriedAsTold_20 (by decide) ?_
  refine k_X0_carried w_494 rfl ⟨Nat.le_of_ble_eq_true rfl, Nat.le_of_ble_eq_true rfl⟩ (Nat.le_of_ble_eq_true rfl) dX9_carriedAsTold_21 H (fun r4 σ3 H => ?_)
  exact g_iret rfl dX9_carriedAsTold_24 ⟨_, rfl, H⟩
set_option maxHeartbeats 4000000 in
set_option maxRecDepth 100000 in
theorem eX9_carriedAsTried (u : Ux_) {P : Int32 → St_ → Prop}  (σ : St_) (x1 : Int32) (H : MMi_ (zx_ u) mX2_has [.ref (uq_ u 15), .int x1] σ (fun r2 σ1 => MMi_ (zx_ u) mX0_carried [.ref (uq_ u 20), .int x1, .ref (uq_ u 28), .int r2, .int (iI_ (-1))] σ1 (fun r4 σ3 => P r4 σ3))) : MMi_ (zx_ u) mX9_carriedAsTried [.ref (uq_ u 0), .int x1] σ P := by
  refine MM_.of (L := [(0, .ref (uq_ u 0)), (1, .int x1)]) (by decide +kernel) (Nat.le_of_ble_eq_true rfl) rfl ?_
  refine g_aload_n dX9_carriedAsTried_0 0 rfl rfl ?_
  refine gx_LinenHouse_chamber w_329 rfl dX9_carriedAsTried_1 ?_
  refine g_iload_n dX9_carriedAsTried_4 1 rfl rfl ?_
  refine g_aload_n dX9_carriedAsTried_5 0 rfl rfl ?_
  refine gx_LinenHouse_tried w_332 rfl dX9_carriedAsTried_6 ?_
  refine g_aload_n dX9_carriedAsTried_9 0 rfl rfl ?_
  refine gx_LinenHouse_jars w_327 rfl dX9_carriedAsTried_10 ?_
  refine g_iload_n dX9_carriedAsTried_13 1 rfl rfl ?_
  refine k_X2_has w_490 rfl ⟨Nat.le_of_ble_eq_true rfl, Nat.le_of_ble_eq_true rfl⟩ (Nat.le_of_ble_eq_true rfl) dX9_carriedAsTried_14 H (fun r2 σ1 H => ?_)
  refine g_iconst (v := (iI_ (-1))) dX9_carriedAsTried_17 (by decide) ?_
  refine k_X0_carried w_494 rfl ⟨Nat.le_of_ble_eq_true rfl, Nat.le_of_ble_eq_true rfl⟩ (Nat.le_of_ble_eq_true rfl) dX9_carriedAsTried_18 H (fun r4 σ3 H => ?_)
  exact g_iret rfl dX9_carriedAsTried_21 ⟨_, rfl, H⟩
set_option maxHeartbeats 4000000 in
set_option maxRecDepth 100000 in
theorem eX9_lastPut (u : Ux_) {P : Int32 → St_ → Prop}  (σ : St_) (x1 : Int32) (H : P (if ((σ 9 0) - (iI_ 1)) < x1 then ((σ 9 0) - (iI_ 1)) else x1) σ) : MMi_ (zx_ u) mX9_lastPut [.ref (uq_ u 0), .int x1] σ P := by
  refine MM_.of (L := [(0, .ref (uq_ u 0)), (1, .int x1)]) (by decide +kernel) (Nat.le_of_ble_eq_true rfl) rfl ?_
  refine g_iload_n dX9_lastPut_0 1 rfl rfl ?_
  refine g_aload_n dX9_lastPut_1 0 rfl rfl ?_
  refine gx_LinenHouse_motions w_325 rfl dX9_lastPut_2 ?_
  refine gx_Motions_n w_139 rfl dX9_lastPut_5 ?_
  refine g_iconst (v := (iI_ 1)) dX9_lastPut_8 (by decide) ?_
  refine g_isub dX9_lastPut_9 ?_
  refine g_min w_556 rfl (Nat.le_of_ble_eq_true rfl) (Nat.le_of_ble_eq_true rfl) dX9_lastPut_10 ?_
  exact g_iret rfl dX9_lastPut_13 ⟨_, rfl, H⟩
set_option maxHeartbeats 4000000 in
set_option maxRecDepth 100000 in
theorem bX9_findLift_31 (u : Ux_) {P : Int32 → St_ → Prop}  (σ : St_) (x1 : Int32) (x2 : Int32) (x3 : Int32) (H : (((σ 3 0) ≤ x3 → GG_ (zx_ u) mX9_findLift (Pi_ P) 70 [(0, .ref (uq_ u 0)), (1, .int x1), (2, .int x2), (3, .int (iI_ 0))] [] σ) ∧ (¬ (σ 3 0) ≤ x3 → MMi_ (zx_ u) mX9_carriedRaising [.ref (uq_ u 0), .int x1, .int x3, .int x3] σ (fun r3 σ2 => ((r3 = x2 → GG_ (zx_ u) mX9_findLift (Pi_ P) 31 [(0, .ref (uq_ u 0)), (1, .int x1), (2, .int x2), (3, .int (x3 + (iI_ 1)))] [] σ2) ∧ (¬ r3 = x2 → (∀ σ5, σ5 = su_ σ2 36 (Int32.toNatClampNeg (iI_ 0)) x3 → P (iI_ 1) σ5))))))) : GG_ (zx_ u) mX9_findLift (Pi_ P) 31 [(0, .ref (uq_ u 0)), (1, .int x1), (2, .int x2), (3, .int x3)] [] σ := by
  refine g_iload_n dX9_findLift_31 3 rfl rfl ?_
  refine g_aload_n dX9_findLift_32 0 rfl rfl ?_
  refine gx_LinenHouse_roll w_324 rfl dX9_findLift_33 ?_
  refine gx_Roll_n w_105 rfl dX9_findLift_36 ?_
  refine g_icmp_ge 68 dX9_findLift_39 (by decide) (fun c1 => ?_) (fun c1 => ?_)
  · replace H := H.1 c1
    refine g_iconst (v := (iI_ 0)) dX9_findLift_68 (by decide) ?_
    refine g_istore_n (L' := [(3, .int (iI_ 0)), (0, .ref (uq_ u 0)), (1, .int x1), (2, .int x2)]) dX9_findLift_69 rfl (by decide) rfl ?_
    exact GG_.sub [1, 2, 3, 0] rfl H
  · replace H := H.2 c1
    refine g_aload_n dX9_findLift_42 0 rfl rfl ?_
    refine g_iload_n dX9_findLift_43 1 rfl rfl ?_
    refine g_iload_n dX9_findLift_44 3 rfl rfl ?_
    refine g_iload_n dX9_findLift_45 3 rfl rfl ?_
    refine k_X9_carriedRaising w_576 rfl ⟨Nat.le_of_ble_eq_true rfl, Nat.le_of_ble_eq_true rfl⟩ (Nat.le_of_ble_eq_true rfl) dX9_findLift_46 H (fun r3 σ2 H => ?_)
    refine g_iload_n dX9_findLift_49 2 rfl rfl ?_
    refine g_icmp_eq 62 dX9_findLift_50 (by decide) (fun c4 => ?_) (fun c4 => ?_)
    · replace H := H.1 c4
      refine g_iinc (v := (x3 + (iI_ 1))) (L' := [(3, .int (x3 + (iI_ 1))), (0, .ref (uq_ u 0)), (1, .int x1), (2, .int x2)]) dX9_findLift_62 3 rfl rfl (by decide) rfl ?_
      refine g_goto 31 dX9_findLift_65 (by decide) ?_
      exact GG_.sub [1, 2, 3, 0] rfl H
    · replace H := H.2 c4
      refine g_aload_n dX9_findLift_53 0 rfl rfl ?_
      refine gx_LinenHouse_raised w_334 rfl dX9_findLift_54 ?_
      refine g_iconst (v := (iI_ 0)) dX9_findLift_57 (by decide) ?_
      refine g_iload_n dX9_findLift_58 3 rfl rfl ?_
      refine sx_36 (by unfold vp_in; decide) dX9_findLift_59 ?_
      obtain ⟨σ5, e_σ5⟩ : ∃ q : St_, q = su_ σ2 36 (Int32.toNatClampNeg (iI_ 0)) x3 := ⟨_, rfl⟩
      rw [← e_σ5]
      replace H := H σ5 e_σ5
      refine g_iconst (v := (iI_ 1)) dX9_findLift_60 (by decide) ?_
      exact g_iret rfl dX9_findLift_61 ⟨_, rfl, H⟩
set_option maxHeartbeats 4000000 in
set_option maxRecDepth 100000 in
theorem bX9_findLift_70 (u : Ux_) {P : Int32 → St_ → Prop}  (σ : St_) (x1 : Int32) (x2 : Int32) (x3 : Int32) (H : (((σ 3 0) ≤ x3 → P (iI_ (-1)) σ) ∧ (¬ (σ 3 0) ≤ x3 → GG_ (zx_ u) mX9_findLift (Pi_ P) 86 [(0, .ref (uq_ u 0)), (1, .int x1), (2, .int x2), (3, .int x3), (4, .int (x3 + (iI_ 1)))] [] σ))) : GG_ (zx_ u) mX9_findLift (Pi_ P) 70 [(0, .ref (uq_ u 0)), (1, .int x1), (2, .int x2), (3, .int x3)] [] σ := by
  refine g_iload_n dX9_findLift_70 3 rfl rfl ?_
  refine g_aload_n dX9_findLift_71 0 rfl rfl ?_
  refine gx_LinenHouse_roll w_324 rfl dX9_findLift_72 ?_
  refine gx_Roll_n w_105 rfl dX9_findLift_75 ?_
  refine g_icmp_ge 139 dX9_findLift_78 (by decide) (fun c1 => ?_) (fun c1 => ?_)
  · replace H := H.1 c1
    refine g_iconst (v := (iI_ (-1))) dX9_findLift_139 (by decide) ?_
    exact g_iret rfl dX9_findLift_140 ⟨_, rfl, H⟩
  · replace H := H.2 c1
    refine g_iload_n dX9_findLift_81 3 rfl rfl ?_
    refine g_iconst (v := (iI_ 1)) dX9_findLift_82 (by decide) ?_
    refine g_iadd dX9_findLift_83 ?_
    refine g_istore (L' := [(4, .int (x3 + (iI_ 1))), (0, .ref (uq_ u 0)), (1, .int x1), (2, .int x2), (3, .int x3)]) dX9_findLift_84 (by decide) rfl ?_
    exact GG_.sub [1, 2, 3, 4, 0] rfl H
set_option maxHeartbeats 4000000 in
set_option maxRecDepth 100000 in
theorem bX9_findLift_86 (u : Ux_) {P : Int32 → St_ → Prop}  (σ : St_) (x1 : Int32) (x2 : Int32) (x3 : Int32) (x4 : Int32) (H : (((σ 3 0) ≤ x4 → GG_ (zx_ u) mX9_findLift (Pi_ P) 70 [(0, .ref (uq_ u 0)), (1, .int x1), (2, .int x2), (3, .int (x3 + (iI_ 1)))] [] σ) ∧ (¬ (σ 3 0) ≤ x4 → MMi_ (zx_ u) mX9_carriedRaising [.ref (uq_ u 0), .int x1, .int x3, .int x4] σ (fun r3 σ2 => ((r3 = x2 → GG_ (zx_ u) mX9_findLift (Pi_ P) 86 [(0, .ref (uq_ u 0)), (1, .int x1), (2, .int x2), (3, .int x3), (4, .int (x4 + (iI_ 1)))] [] σ2) ∧ (¬ r3 = x2 → (∀ σ5, σ5 = su_ σ2 36 (Int32.toNatClampNeg (iI_ 0)) x3 → (∀ σ6, σ6 = su_ σ5 36 (Int32.toNatClampNeg (iI_ 1)) x4 → P (iI_ 2) σ6)))))))) : GG_ (zx_ u) mX9_findLift (Pi_ P) 86 [(0, .ref (uq_ u 0)), (1, .int x1), (2, .int x2), (3, .int x3), (4, .int x4)] [] σ := by
  refine g_iload dX9_findLift_86 4 rfl ?_
  refine g_aload_n dX9_findLift_88 0 rfl rfl ?_
  refine gx_LinenHouse_roll w_324 rfl dX9_findLift_89 ?_
  refine gx_Roll_n w_105 rfl dX9_findLift_92 ?_
  refine g_icmp_ge 133 dX9_findLift_95 (by decide) (fun c1 => ?_) (fun c1 => ?_)
  · replace H := H.1 c1
    refine g_iinc (v := (x3 + (iI_ 1))) (L' := [(3, .int (x3 + (iI_ 1))), (0, .ref (uq_ u 0)), (1, .int x1), (2, .int x2), (4, .int x4)]) dX9_findLift_133 3 rfl rfl (by decide) rfl ?_
    refine g_goto 70 dX9_findLift_136 (by decide) ?_
    exact GG_.sub [1, 2, 3, 0] rfl H
  · replace H := H.2 c1
    refine g_aload_n dX9_findLift_98 0 rfl rfl ?_
    refine g_iload_n dX9_findLift_99 1 rfl rfl ?_
    refine g_iload_n dX9_findLift_100 3 rfl rfl ?_
    refine g_iload dX9_findLift_101 4 rfl ?_
    refine k_X9_carriedRaising w_576 rfl ⟨Nat.le_of_ble_eq_true rfl, Nat.le_of_ble_eq_true rfl⟩ (Nat.le_of_ble_eq_true rfl) dX9_findLift_103 H (fun r3 σ2 H => ?_)
    refine g_iload_n dX9_findLift_106 2 rfl rfl ?_
    refine g_icmp_eq 127 dX9_findLift_107 (by decide) (fun c4 => ?_) (fun c4 => ?_)
    · replace H := H.1 c4
      refine g_iinc (v := (x4 + (iI_ 1))) (L' := [(4, .int (x4 + (iI_ 1))), (0, .ref (uq_ u 0)), (1, .int x1), (2, .int x2), (3, .int x3)]) dX9_findLift_127 4 rfl rfl (by decide) rfl ?_
      refine g_goto 86 dX9_findLift_130 (by decide) ?_
      exact GG_.sub [1, 2, 3, 4, 0] rfl H
    · replace H := H.2 c4
      refine g_aload_n dX9_findLift_110 0 rfl rfl ?_
      refine gx_LinenHouse_raised w_334 rfl dX9_findLift_111 ?_
      refine g_iconst (v := (iI_ 0)) dX9_findLift_114 (by decide) ?_
      refine g_iload_n dX9_findLift_115 3 rfl rfl ?_
      refine sx_36 (by unfold vp_in; decide) dX9_findLift_116 ?_
      obtain ⟨σ5, e_σ5⟩ : ∃ q : St_, q = su_ σ2 36 (Int32.toNatClampNeg (iI_ 0)) x3 := ⟨_, rfl⟩
      rw [← e_σ5]
      replace H := H σ5 e_σ5
      refine g_aload_n dX9_findLift_117 0 rfl rfl ?_
      refine gx_LinenHouse_raised w_334 rfl dX9_findLift_118 ?_
      refine g_iconst (v := (iI_ 1)) dX9_findLift_121 (by decide) ?_
      refine g_iload dX9_findLift_122 4 rfl ?_
      refine sx_36 (by unfold vp_in; decide) dX9_findLift_124 ?_
      obtain ⟨σ6, e_σ6⟩ : ∃ q : St_, q = su_ σ5 36 (Int32.toNatClampNeg (iI_ 1)) x4 := ⟨_, rfl⟩
      rw [← e_σ6]
      replace H := H σ6 e_σ6
      refine g_iconst (v := (iI_ 2)) dX9_findLift_125 (by decide) ?_
      exact g_iret rfl dX9_findLift_126 ⟨_, rfl, H⟩
set_option maxHeartbeats 4000000 in
set_option maxRecDepth 100000 in
theorem eX9_findLift (u : Ux_) {P : Int32 → St_ → Prop}  (σ : St_) (x1 : Int32) (H : (∀ σ1, σ1 = su_ σ 36 (Int32.toNatClampNeg (iI_ 0)) (iI_ (-1)) → (∀ σ2, σ2 = su_ σ1 36 (Int32.toNatClampNeg (iI_ 1)) (iI_ (-1)) → MMi_ (zx_ u) mX9_carriedRaising [.ref (uq_ u 0), .int x1, .int (iI_ (-1)), .int (iI_ (-1))] σ2 (fun r4 σ3 => ((¬ r4 = (iI_ (-1)) → GG_ (zx_ u) mX9_findLift (Pi_ P) 31 [(0, .ref (uq_ u 0)), (1, .int x1), (2, .int r4), (3, .int (iI_ 0))] [] σ3) ∧ (r4 = (iI_ (-1)) → P (iI_ (-1)) σ3)))))) : MMi_ (zx_ u) mX9_findLift [.ref (uq_ u 0), .int x1] σ P := by
  refine MM_.of (L := [(0, .ref (uq_ u 0)), (1, .int x1)]) (by decide +kernel) (Nat.le_of_ble_eq_true rfl) rfl ?_
  refine g_aload_n dX9_findLift_0 0 rfl rfl ?_
  refine gx_LinenHouse_raised w_334 rfl dX9_findLift_1 ?_
  refine g_iconst (v := (iI_ 0)) dX9_findLift_4 (by decide) ?_
  refine g_iconst (v := (iI_ (-1))) dX9_findLift_5 (by decide) ?_
  refine sx_36 (by unfold vp_in; decide) dX9_findLift_6 ?_
  obtain ⟨σ1, e_σ1⟩ : ∃ q : St_, q = su_ σ 36 (Int32.toNatClampNeg (iI_ 0)) (iI_ (-1)) := ⟨_, rfl⟩
  rw [← e_σ1]
  replace H := H σ1 e_σ1
  refine g_aload_n dX9_findLift_7 0 rfl rfl ?_
  refine gx_LinenHouse_raised w_334 rfl dX9_findLift_8 ?_
  refine g_iconst (v := (iI_ 1)) dX9_findLift_11 (by decide) ?_
  refine g_iconst (v := (iI_ (-1))) dX9_findLift_12 (by decide) ?_
  refine sx_36 (by unfold vp_in; decide) dX9_findLift_13 ?_
  obtain ⟨σ2, e_σ2⟩ : ∃ q : St_, q = su_ σ1 36 (Int32.toNatClampNeg (iI_ 1)) (iI_ (-1)) := ⟨_, rfl⟩
  rw [← e_σ2]
  replace H := H σ2 e_σ2
  refine g_aload_n dX9_findLift_14 0 rfl rfl ?_
  refine g_iload_n dX9_findLift_15 1 rfl rfl ?_
  refine g_iconst (v := (iI_ (-1))) dX9_findLift_16 (by decide) ?_
  refine g_iconst (v := (iI_ (-1))) dX9_findLift_17 (by decide) ?_
  refine k_X9_carriedRaising w_576 rfl ⟨Nat.le_of_ble_eq_true rfl, Nat.le_of_ble_eq_true rfl⟩ (Nat.le_of_ble_eq_true rfl) dX9_findLift_18 H (fun r4 σ3 H => ?_)
  refine g_istore_n (L' := [(2, .int r4), (0, .ref (uq_ u 0)), (1, .int x1)]) dX9_findLift_21 rfl (by decide) rfl ?_
  refine g_iload_n dX9_findLift_22 0 rfl rfl ?_
  refine g_iconst (v := (iI_ (-1))) dX9_findLift_23 (by decide) ?_
  refine g_icmp_ne 29 dX9_findLift_24 (by decide) (fun c5 => ?_) (fun c5 => ?_)
  · replace H := H.1 c5
    refine g_iconst (v := (iI_ 0)) dX9_findLift_29 (by decide) ?_
    refine g_istore_n (L' := [(3, .int (iI_ 0)), (2, .int r4), (0, .ref (uq_ u 0)), (1, .int x1)]) dX9_findLift_30 rfl (by decide) rfl ?_
    exact GG_.sub [2, 3, 1, 0] rfl H
  · replace H := H.2 c5
    refine g_iconst (v := (iI_ (-1))) dX9_findLift_27 (by decide) ?_
    exact g_iret rfl dX9_findLift_28 ⟨_, rfl, H⟩
set_option maxHeartbeats 4000000 in
set_option maxRecDepth 100000 in
theorem eX9_carriedRaising (u : Ux_) {P : Int32 → St_ → Prop}  (σ : St_) (x1 : Int32) (x2 : Int32) (x3 : Int32) (H : MMi_ (zx_ u) mX0_isPut [.ref (uq_ u 20), .int x1] σ (fun r2 σ1 => ((¬ r2 = iI_ 0 → MMv_ (zx_ u) mX0_open [.ref (uq_ u 20), .int x1] σ1 (fun σ4 => MMv_ (zx_ u) mX0_lay [.ref (uq_ u 20), .int x1, .int (iI_ (-1))] σ4 (fun σ5 => MMv_ (zx_ u) mX0_raise [.ref (uq_ u 20), .int x2] σ5 (fun σ6 => MMv_ (zx_ u) mX0_raise [.ref (uq_ u 20), .int x3] σ6 (fun σ7 => MMi_ (zx_ u) mX2_has [.ref (uq_ u 15), .int x1] σ7 (fun r9 σ8 => MMv_ (zx_ u) mX0_lean [.ref (uq_ u 20), .ref (uq_ u 5), .int r9] σ8 (fun σ10 => MMi_ (zx_ u) mX0_tally [.ref (uq_ u 20)] σ10 (fun r12 σ11 => P r12 σ11)))))))) ∧ (r2 = iI_ 0 → P (iI_ (-1)) σ1)))) : MMi_ (zx_ u) mX9_carriedRaising [.ref (uq_ u 0), .int x1, .int x2, .int x3] σ P := by
  refine MM_.of (L := [(0, .ref (uq_ u 0)), (1, .int x1), (2, .int x2), (3, .int x3)]) (by decide +kernel) (Nat.le_of_ble_eq_true rfl) rfl ?_
  refine g_aload_n dX9_carriedRaising_0 0 rfl rfl ?_
  refine gx_LinenHouse_chamber w_329 rfl dX9_carriedRaising_1 ?_
  refine g_iload_n dX9_carriedRaising_4 1 rfl rfl ?_
  refine k_X0_isPut w_580 rfl ⟨Nat.le_of_ble_eq_true rfl, Nat.le_of_ble_eq_true rfl⟩ (Nat.le_of_ble_eq_true rfl) dX9_carriedRaising_5 H (fun r2 σ1 H => ?_)
  refine g_if_ne 13 dX9_carriedRaising_8 (by decide) (fun c3 => ?_) (fun c3 => ?_)
  · replace H := H.1 c3
    refine g_aload_n dX9_carriedRaising_13 0 rfl rfl ?_
    refine gx_LinenHouse_chamber w_329 rfl dX9_carriedRaising_14 ?_
    refine g_iload_n dX9_carriedRaising_17 1 rfl rfl ?_
    refine k_X0_open w_581 rfl ⟨Nat.le_of_ble_eq_true rfl, Nat.le_of_ble_eq_true rfl⟩ (Nat.le_of_ble_eq_true rfl) dX9_carriedRaising_18 H (fun σ4 H => ?_)
    refine g_aload_n dX9_carriedRaising_21 0 rfl rfl ?_
    refine gx_LinenHouse_chamber w_329 rfl dX9_carriedRaising_22 ?_
    refine g_iload_n dX9_carriedRaising_25 1 rfl rfl ?_
    refine g_iconst (v := (iI_ (-1))) dX9_carriedRaising_26 (by decide) ?_
    refine k_X0_lay w_539 rfl ⟨Nat.le_of_ble_eq_true rfl, Nat.le_of_ble_eq_true rfl⟩ (Nat.le_of_ble_eq_true rfl) dX9_carriedRaising_27 H (fun σ5 H => ?_)
    refine g_aload_n dX9_carriedRaising_30 0 rfl rfl ?_
    refine gx_LinenHouse_chamber w_329 rfl dX9_carriedRaising_31 ?_
    refine g_iload_n dX9_carriedRaising_34 2 rfl rfl ?_
    refine k_X0_raise w_582 rfl ⟨Nat.le_of_ble_eq_true rfl, Nat.le_of_ble_eq_true rfl⟩ (Nat.le_of_ble_eq_true rfl) dX9_carriedRaising_35 H (fun σ6 H => ?_)
    refine g_aload_n dX9_carriedRaising_38 0 rfl rfl ?_
    refine gx_LinenHouse_chamber w_329 rfl dX9_carriedRaising_39 ?_
    refine g_iload_n dX9_carriedRaising_42 3 rfl rfl ?_
    refine k_X0_raise w_582 rfl ⟨Nat.le_of_ble_eq_true rfl, Nat.le_of_ble_eq_true rfl⟩ (Nat.le_of_ble_eq_true rfl) dX9_carriedRaising_43 H (fun σ7 H => ?_)
    refine g_aload_n dX9_carriedRaising_46 0 rfl rfl ?_
    refine gx_LinenHouse_chamber w_329 rfl dX9_carriedRaising_47 ?_
    refine g_aload_n dX9_carriedRaising_50 0 rfl rfl ?_
    refine gx_LinenHouse_roll w_324 rfl dX9_carriedRaising_51 ?_
    refine gx_Roll_order w_114 rfl dX9_carriedRaising_54 ?_
    refine g_aload_n dX9_carriedRaising_57 0 rfl rfl ?_
    refine gx_LinenHouse_jars w_327 rfl dX9_carriedRaising_58 ?_
    refine g_iload_n dX9_carriedRaising_61 1 rfl rfl ?_
    refine k_X2_has w_490 rfl ⟨Nat.le_of_ble_eq_true rfl, Nat.le_of_ble_eq_true rfl⟩ (Nat.le_of_ble_eq_true rfl) dX9_carriedRaising_62 H (fun r9 σ8 H => ?_)
    refine k_X0_lean w_586 rfl ⟨Nat.le_of_ble_eq_true rfl, Nat.le_of_ble_eq_true rfl⟩ (Nat.le_of_ble_eq_true rfl) dX9_carriedRaising_65 H (fun σ10 H => ?_)
    refine g_aload_n dX9_carriedRaising_68 0 rfl rfl ?_
    refine gx_LinenHouse_chamber w_329 rfl dX9_carriedRaising_69 ?_
    refine k_X0_tally w_587 rfl ⟨Nat.le_of_ble_eq_true rfl, Nat.le_of_ble_eq_true rfl⟩ (Nat.le_of_ble_eq_true rfl) dX9_carriedRaising_72 H (fun r12 σ11 H => ?_)
    exact g_iret rfl dX9_carriedRaising_75 ⟨_, rfl, H⟩
  · replace H := H.2 c3
    refine g_iconst (v := (iI_ (-1))) dX9_carriedRaising_11 (by decide) ?_
    exact g_iret rfl dX9_carriedRaising_12 ⟨_, rfl, H⟩
