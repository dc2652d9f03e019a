set_option maxHeartbeats 4000000 in
set_option maxRecDepth 100000 in
theorem eX10_in (u : Ux_) {P : Int32 → St_ → Prop}  (σ : St_) (x0 : Int32) (x1 : Int32) (x2 : Int32) (H : ((x0 < x1 → P (iI_ 0) σ) ∧ (¬ x0 < x1 → ((x2 < x0 → P (iI_ 0) σ) ∧ (¬ x2 < x0 → P (iI_ 1) σ))))) : MMi_ (zm_ u) mX10_in [.int x0, .int x1, .int x2] σ P := by
  refine MM_.of (L := [(0, .int x0), (1, .int x1), (2, .int x2)]) (by decide +kernel) (Nat.le_of_ble_eq_true rfl) rfl ?_
  refine g_iload_n dX10_in_0 0 rfl rfl ?_
  refine g_iload_n dX10_in_1 1 rfl rfl ?_
  refine g_icmp_lt 14 dX10_in_2 (by decide) (fun c1 => ?_) (fun c1 => ?_)
  · replace H := H.1 c1
    refine g_iconst (v := (iI_ 0)) dX10_in_14 (by decide) ?_
    exact g_zret rfl (by decide) dX10_in_15 ⟨_, rfl, H⟩
  · replace H := H.2 c1
    refine g_iload_n dX10_in_5 0 rfl rfl ?_
    refine g_iload_n dX10_in_6 2 rfl rfl ?_
    refine g_icmp_gt 14 dX10_in_7 (by decide) (fun c2 => ?_) (fun c2 => ?_)
    · replace H := H.1 c2
      refine g_iconst (v := (iI_ 0)) dX10_in_14 (by decide) ?_
      exact g_zret rfl (by decide) dX10_in_15 ⟨_, rfl, H⟩
    · replace H := H.2 c2
      refine g_iconst (v := (iI_ 1)) dX10_in_10 (by decide) ?_
      refine g_goto 15 dX10_in_11 (by decide) ?_
      exact g_zret rfl (by decide) dX10_in_15 ⟨_, rfl, H⟩
set_option maxHeartbeats 4000000 in
set_option maxRecDepth 100000 in
theorem eX10_isIn (u : Ux_) {P : Int32 → St_ → Prop}  (σ : St_) (x0 : Int32) (x1 : Int32) (H : ((¬ ((x0 >>> (x1 &&& 31)) &&& (iI_ 1)) = (iI_ 1) → P (iI_ 0) σ) ∧ (((x0 >>> (x1 &&& 31)) &&& (iI_ 1)) = (iI_ 1) → P (iI_ 1) σ))) : MMi_ (zm_ u) mX10_isIn [.int x0, .int x1] σ P := by
  refine MM_.of (L := [(0, .int x0), (1, .int x1)]) (by decide +kernel) (Nat.le_of_ble_eq_true rfl) rfl ?_
  refine g_iload_n dX10_isIn_0 0 rfl rfl ?_
  refine g_iload_n dX10_isIn_1 1 rfl rfl ?_
  refine g_ishr dX10_isIn_2 ?_
  refine g_iconst (v := (iI_ 1)) dX10_isIn_3 (by decide) ?_
  refine g_iand dX10_isIn_4 ?_
  refine g_iconst (v := (iI_ 1)) dX10_isIn_5 (by decide) ?_
  refine g_icmp_ne 13 dX10_isIn_6 (by decide) (fun c1 => ?_) (fun c1 => ?_)
  · replace H := H.1 c1
    refine g_iconst (v := (iI_ 0)) dX10_isIn_13 (by decide) ?_
    exact g_zret rfl (by decide) dX10_isIn_14 ⟨_, rfl, H⟩
  · replace H := H.2 c1
    refine g_iconst (v := (iI_ 1)) dX10_isIn_9 (by decide) ?_
    refine g_goto 14 dX10_isIn_10 (by decide) ?_
    exact g_zret rfl (by decide) dX10_isIn_14 ⟨_, rfl, H⟩
set_option maxHeartbeats 4000000 in
set_option maxRecDepth 100000 in
theorem eX10_no (u : Ux_) {P : Int64 → St_ → Prop}  (σ : St_) (x0 : Int32) (H : P ((iL_ (-9223372036854775808)) - (Int32.toInt64 x0)) σ) : MMl_ (zm_ u) mX10_no [.int x0] σ P := by
  refine MM_.of (L := [(0, .int x0)]) (by decide +kernel) (Nat.le_of_ble_eq_true rfl) rfl ?_
  refine g_ldc2 (v := (iL_ (-9223372036854775808))) (by decide) w_1184 rfl dX10_no_0 ?_
  refine g_iload_n dX10_no_3 0 rfl rfl ?_
  refine g_i2l dX10_no_4 ?_
  refine g_lsub dX10_no_5 ?_
  exact g_lret rfl dX10_no_6 ⟨_, rfl, H⟩
set_option maxHeartbeats 4000000 in
set_option maxRecDepth 100000 in
theorem bX10_lowest_6 (u : Ux_) {P : Int64 → St_ → Prop}  (σ : St_) (x0 : Int64) (x2 : Int64) (x4 : Int32) (x5 : Int64) (x7 : Int64) (H : (((lg_cmp x7 (iL_ 0)) = iI_ 0 → ((¬ x4 = iI_ 0 → ¬ x5 = 0 ∧ P (x2 / x5) σ) ∧ (x4 = iI_ 0 → ¬ x5 = 0 ∧ P (x0 / x5) σ))) ∧ (¬ (lg_cmp x7 (iL_ 0)) = iI_ 0 → ¬ x7 = 0 ∧ GG_ (zm_ u) mX10_lowest (Pl_ P) 6 [(0, .long x0), (2, .long x2), (4, .int x4), (5, .long x7), (7, .long (x5 - x5 / x7 * x7))] [] σ))) : GG_ (zm_ u) mX10_lowest (Pl_ P) 6 [(0, .long x0), (2, .long x2), (4, .int x4), (5, .long x5), (7, .long x7)] [] σ := by
  refine g_lload dX10_lowest_6 4 rfl ?_
  refine g_lconst (v := (iL_ 0)) dX10_lowest_8 (by decide) ?_
  refine g_lcmp dX10_lowest_9 ?_
  refine g_if_eq 31 dX10_lowest_10 (by decide) (fun c1 => ?_) (fun c1 => ?_)
  · replace H := H.1 c1
    refine g_iload dX10_lowest_31 2 rfl ?_
    refine g_if_ne 43 dX10_lowest_33 (by decide) (fun c2 => ?_) (fun c2 => ?_)
    · replace H := H.1 c2
      refine g_lload_n dX10_lowest_43 1 rfl rfl ?_
      refine g_lload dX10_lowest_44 3 rfl ?_
      obtain ⟨h3, H⟩ := H
      refine g_ldiv dX10_lowest_46 h3 ?_
      exact g_lret rfl dX10_lowest_47 ⟨_, rfl, H⟩
    · replace H := H.2 c2
      refine g_lload_n dX10_lowest_36 0 rfl rfl ?_
      refine g_lload dX10_lowest_37 3 rfl ?_
      obtain ⟨h4, H⟩ := H
      refine g_ldiv dX10_lowest_39 h4 ?_
      refine g_goto 47 dX10_lowest_40 (by decide) ?_
      exact g_lret rfl dX10_lowest_47 ⟨_, rfl, H⟩
  · replace H := H.2 c1
    refine g_lload dX10_lowest_13 3 rfl ?_
    refine g_lload dX10_lowest_15 4 rfl ?_
    obtain ⟨h5, H⟩ := H
    refine g_lrem dX10_lowest_17 h5 ?_
    refine g_lstore (L' := [(9, .long (x5 - x5 / x7 * x7)), (0, .long x0), (2, .long x2), (4, .int x4), (5, .long x5), (7, .long x7)]) dX10_lowest_18 (by decide) rfl ?_
    refine g_lload dX10_lowest_20 5 rfl ?_
    refine g_lstore (L' := [(5, .long x7), (9, .long (x5 - x5 / x7 * x7)), (0, .long x0), (2, .long x2), (4, .int x4), (7, .long x7)]) dX10_lowest_22 (by decide) rfl ?_
    refine g_lload dX10_lowest_24 1 rfl ?_
    refine g_lstore (L' := [(7, .long (x5 - x5 / x7 * x7)), (5, .long x7), (9, .long (x5 - x5 / x7 * x7)), (0, .long x0), (2, .long x2), (4, .int x4)]) dX10_lowest_26 (by decide) rfl ?_
    refine g_goto 6 dX10_lowest_28 (by decide) ?_
    exact GG_.sub [3, 4, 5, 1, 0] rfl H
set_option maxHeartbeats 4000000 in
set_option maxRecDepth 100000 in
theorem eX10_lowest (u : Ux_) {P : Int64 → St_ → Prop}  (σ : St_) (x0 : Int64) (x2 : Int64) (x4 : Int32) (H : GG_ (zm_ u) mX10_lowest (Pl_ P) 6 [(0, .long x0), (2, .long x2), (4, .int x4), (5, .long x0), (7, .long x2)] [] σ) : MMl_ (zm_ u) mX10_lowest [.long x0, .long x2, .int x4] σ P := by
  refine MM_.of (L := [(0, .long x0), (2, .long x2), (4, .int x4)]) (by decide +kernel) (Nat.le_of_ble_eq_true rfl) rfl ?_
  refine g_lload_n dX10_lowest_0 0 rfl rfl ?_
  refine g_lstore (L' := [(5, .long x0), (0, .long x0), (2, .long x2), (4, .int x4)]) dX10_lowest_1 (by decide) rfl ?_
  refine g_lload_n dX10_lowest_3 2 rfl rfl ?_
  refine g_lstore (L' := [(7, .long x2), (5, .long x0), (0, .long x0), (2, .long x2), (4, .int x4)]) dX10_lowest_4 (by decide) rfl ?_
  exact GG_.sub [2, 3, 4, 1, 0] rfl H
set_option maxHeartbeats 4000000 in
set_option maxRecDepth 100000 in
theorem eX10_isText (u : Ux_) {P : Int32 → St_ → Prop}  (σ : St_) (x0 : Int32) (H : MMi_ (zm_ u) mX10_in [.int x0, .int (iI_ 0), .int (iI_ 1)] σ (fun r2 σ1 => (r2 = iI_ 0 ∨ r2 = iI_ 1) ∧ P r2 σ1)) : MMi_ (zm_ u) mX10_isText [.int x0] σ P := by
  refine MM_.of (L := [(0, .int x0)]) (by decide +kernel) (Nat.le_of_ble_eq_true rfl) rfl ?_
  refine g_iload_n dX10_isText_0 0 rfl rfl ?_
  refine g_iconst (v := (iI_ 0)) dX10_isText_1 (by decide) ?_
  refine g_iconst (v := (iI_ 1)) dX10_isText_2 (by decide) ?_
  refine k_X10_in w_954 rfl ⟨Nat.le_of_ble_eq_true rfl, Nat.le_of_ble_eq_true rfl⟩ (Nat.le_of_ble_eq_true rfl) dX10_isText_3 H (fun r2 σ1 H => ?_)
  obtain ⟨hz, H⟩ := H
  exact g_zret rfl hz dX10_isText_6 ⟨_, rfl, H⟩
set_option maxHeartbeats 4000000 in
set_option maxRecDepth 100000 in
theorem eX10_isNight (u : Ux_) {P : Int32 → St_ → Prop}  (σ : St_) (x0 : Int32) (H : MMi_ (zm_ u) mX10_in [.int x0, .int (iI_ 0), .int (iI_ 9)] σ (fun r2 σ1 => (r2 = iI_ 0 ∨ r2 = iI_ 1) ∧ P r2 σ1)) : MMi_ (zm_ u) mX10_isNight [.int x0] σ P := by
  refine MM_.of (L := [(0, .int x0)]) (by decide +kernel) (Nat.le_of_ble_eq_true rfl) rfl ?_
  refine g_iload_n dX10_isNight_0 0 rfl rfl ?_
  refine g_iconst (v := (iI_ 0)) dX10_isNight_1 (by decide) ?_
  refine g_bipush (v := (iI_ 9)) dX10_isNight_2 (by decide) ?_
  refine k_X10_in w_954 rfl ⟨Nat.le_of_ble_eq_true rfl, Nat.le_of_ble_eq_true rfl⟩ (Nat.le_of_ble_eq_true rfl) dX10_isNight_4 H (fun r2 σ1 H => ?_)
  obtain ⟨hz, H⟩ := H
  exact g_zret rfl hz dX10_isNight_7 ⟨_, rfl, H⟩
set_option maxHeartbeats 4000000 in
set_option maxRecDepth 100000 in
theorem eX10_type (u : Ux_) {P : Int32 → St_ → Prop}  (σ : St_) (x1 : Int32) (x2 : Int32) (H : MMi_ (zm_ u) mX10_isText [.int x1] σ (fun r2 σ1 => ((r2 = iI_ 0 → P (iI_ (-2)) σ1) ∧ (¬ r2 = iI_ 0 → MMi_ (zm_ u) mX10_in [.int x2, .int (iI_ 0), .int (iI_ 255)] σ1 (fun r5 σ4 => ((¬ r5 = iI_ 0 → vp_in x1 2 ∧ ((¬ x1 = iI_ 0 → ((¬ (σ4 0 (Int32.toNatClampNeg x1)) = (iI_ 30) → vp_in x1 2 ∧ vp_in (((iI_ 47) * x1) + (σ4 0 (Int32.toNatClampNeg x1))) 94 ∧ (∀ σ11, σ11 = su_ σ4 1 (Int32.toNatClampNeg (((iI_ 47) * x1) + (σ4 0 (Int32.toNatClampNeg x1)))) x2 → vp_in x1 2 ∧ vp_in x1 2 ∧ (∀ σ14, σ14 = su_ σ11 0 (Int32.toNatClampNeg x1) ((σ11 0 (Int32.toNatClampNeg x1)) + (iI_ 1)) → vp_in x1 2 ∧ P (σ14 0 (Int32.toNatClampNeg x1)) σ14))) ∧ ((σ4 0 (Int32.toNatClampNeg x1)) = (iI_ 30) → P (iI_ (-4)) σ4))) ∧ (x1 = iI_ 0 → ((¬ (σ4 0 (Int32.toNatClampNeg x1)) = (iI_ 47) → vp_in x1 2 ∧ vp_in (((iI_ 47) * x1) + (σ4 0 (Int32.toNatClampNeg x1))) 94 ∧ (∀ σ19, σ19 = su_ σ4 1 (Int32.toNatClampNeg (((iI_ 47) * x1) + (σ4 0 (Int32.toNatClampNeg x1)))) x2 → vp_in x1 2 ∧ vp_in x1 2 ∧ (∀ σ22, σ22 = su_ σ19 0 (Int32.toNatClampNeg x1) ((σ19 0 (Int32.toNatClampNeg x1)) + (iI_ 1)) → vp_in x1 2 ∧ P (σ22 0 (Int32.toNatClampNeg x1)) σ22))) ∧ ((σ4 0 (Int32.toNatClampNeg x1)) = (iI_ 47) → P (iI_ (-4)) σ4))))) ∧ (r5 = iI_ 0 → P (iI_ (-2)) σ4))))))) : MMi_ (zm_ u) mX10_type [.ref (uq_ u 0), .int x1, .int x2] σ P := by
  refine MM_.of (L := [(0, .ref (uq_ u 0)), (1, .int x1), (2, .int x2)]) (by decide +kernel) (Nat.le_of_ble_eq_true rfl) rfl ?_
  refine g_iload_n dX10_type_0 1 rfl rfl ?_
  refine k_X10_isText w_951 rfl ⟨Nat.le_of_ble_eq_true rfl, Nat.le_of_ble_eq_true rfl⟩ (Nat.le_of_ble_eq_true rfl) dX10_type_1 H (fun r2 σ1 H => ?_)
  refine g_if_eq 18 dX10_type_4 (by decide) (fun c3 => ?_) (fun c3 => ?_)
  · replace H := H.1 c3
    refine g_bipush (v := (iI_ (-2))) dX10_type_18 (by decide) ?_
    exact g_iret rfl dX10_type_20 ⟨_, rfl, H⟩
  · replace H := H.2 c3
    refine g_iload_n dX10_type_7 2 rfl rfl ?_
    refine g_iconst (v := (iI_ 0)) dX10_type_8 (by decide) ?_
    refine g_sipush (v := (iI_ 255)) dX10_type_9 (by decide) ?_
    refine k_X10_in w_954 rfl ⟨Nat.le_of_ble_eq_true rfl, Nat.le_of_ble_eq_true rfl⟩ (Nat.le_of_ble_eq_true rfl) dX10_type_12 H (fun r5 σ4 H => ?_)
    refine g_if_ne 21 dX10_type_15 (by decide) (fun c6 => ?_) (fun c6 => ?_)
    · replace H := H.1 c6
      refine g_aload_n dX10_type_21 0 rfl rfl ?_
      refine gm_LinenHouseModel_typed w_813 rfl dX10_type_22 ?_
      refine g_iload_n dX10_type_25 1 rfl rfl ?_
      obtain ⟨h7, H⟩ := H
      refine am_0 h7 dX10_type_26 ?_
      refine g_iload_n dX10_type_27 1 rfl rfl ?_
      refine g_if_ne 36 dX10_type_28 (by decide) (fun c8 => ?_) (fun c8 => ?_)
      · replace H := H.1 c8
        refine g_bipush (v := (iI_ 30)) dX10_type_36 (by decide) ?_
        refine g_icmp_ne 44 dX10_type_38 (by decide) (fun c9 => ?_) (fun c9 => ?_)
        · replace H := H.1 c9
          refine g_aload_n dX10_type_44 0 rfl rfl ?_
          refine gm_LinenHouseModel_texts w_814 rfl dX10_type_45 ?_
          refine g_bipush (v := (iI_ 47)) dX10_type_48 (by decide) ?_
          refine g_iload_n dX10_type_50 1 rfl rfl ?_
          refine g_imul dX10_type_51 ?_
          refine g_aload_n dX10_type_52 0 rfl rfl ?_
          refine gm_LinenHouseModel_typed w_813 rfl dX10_type_53 ?_
          refine g_iload_n dX10_type_56 1 rfl rfl ?_
          obtain ⟨h10, H⟩ := H
          refine am_0 h10 dX10_type_57 ?_
          refine g_iadd dX10_type_58 ?_
          refine g_iload_n dX10_type_59 2 rfl rfl ?_
          obtain ⟨h12, H⟩ := H
          refine sm_1 h12 dX10_type_60 ?_
          obtain ⟨σ11, e_σ11⟩ : ∃ q : St_, q = su_ σ4 1 (Int32.toNatClampNeg (((iI_ 47) * x1) + (σ4 0 (Int32.toNatClampNeg x1)))) x2 := ⟨_, rfl⟩
          rw [← e_σ11]
          replace H := H σ11 e_σ11
          refine g_aload_n dX10_type_61 0 rfl rfl ?_
          refine gm_LinenHouseModel_typed w_813 rfl dX10_type_62 ?_
          refine g_iload_n dX10_type_65 1 rfl rfl ?_
          refine g_dup2 dX10_type_66 rfl rfl ?_
          obtain ⟨h13, H⟩ := H
          refine am_0 h13 dX10_type_67 ?_
          refine g_iconst (v := (iI_ 1)) dX10_type_68 (by decide) ?_
          refine g_iadd dX10_type_69 ?_
          obtain ⟨h15, H⟩ := H
          refine sm_0 h15 dX10_type_70 ?_
          obtain ⟨σ14, e_σ14⟩ : ∃ q : St_, q = su_ σ11 0 (Int32.toNatClampNeg x1) ((σ11 0 (Int32.toNatClampNeg x1)) + (iI_ 1)) := ⟨_, rfl⟩
          rw [← e_σ14]
          replace H := H σ14 e_σ14
          refine g_aload_n dX10_type_71 0 rfl rfl ?_
          refine gm_LinenHouseModel_typed w_813 rfl dX10_type_72 ?_
          refine g_iload_n dX10_type_75 1 rfl rfl ?_
          obtain ⟨h16, H⟩ := H
          refine am_0 h16 dX10_type_76 ?_
          exact g_iret rfl dX10_type_77 ⟨_, rfl, H⟩
        · replace H := H.2 c9
          refine g_bipush (v := (iI_ (-4))) dX10_type_41 (by decide) ?_
          exact g_iret rfl dX10_type_43 ⟨_, rfl, H⟩
      · replace H := H.2 c8
        refine g_bipush (v := (iI_ 47)) dX10_type_31 (by decide) ?_
        refine g_goto 38 dX10_type_33 (by decide) ?_
        refine g_icmp_ne 44 dX10_type_38 (by decide) (fun c17 => ?_) (fun c17 => ?_)
        · replace H := H.1 c17
          refine g_aload_n dX10_type_44 0 rfl rfl ?_
          refine gm_LinenHouseModel_texts w_814 rfl dX10_type_45 ?_
          refine g_bipush (v := (iI_ 47)) dX10_type_48 (by decide) ?_
          refine g_iload_n dX10_type_50 1 rfl rfl ?_
          refine g_imul dX10_type_51 ?_
          refine g_aload_n dX10_type_52 0 rfl rfl ?_
          refine gm_LinenHouseModel_typed w_813 rfl dX10_type_53 ?_
          refine g_iload_n dX10_type_56 1 rfl rfl ?_
          obtain ⟨h18, H⟩ := H
          refine am_0 h18 dX10_type_57 ?_
          refine g_iadd dX10_type_58 ?_
          refine g_iload_n dX10_type_59 2 rfl rfl ?_
          obtain ⟨h20, H⟩ := H
          refine sm_1 h20 dX10_type_60 ?_
          obtain ⟨σ19, e_σ19⟩ : ∃ q : St_, q = su_ σ4 1 (Int32.toNatClampNeg (((iI_ 47) * x1) + (σ4 0 (Int32.toNatClampNeg x1)))) x2 := ⟨_, rfl⟩
          rw [← e_σ19]
          replace H := H σ19 e_σ19
          refine g_aload_n dX10_type_61 0 rfl rfl ?_
          refine gm_LinenHouseModel_typed w_813 rfl dX10_type_62 ?_
          refine g_iload_n dX10_type_65 1 rfl rfl ?_
          refine g_dup2 dX10_type_66 rfl rfl ?_
          obtain ⟨h21, H⟩ := H
          refine am_0 h21 dX10_type_67 ?_
          refine g_iconst (v := (iI_ 1)) dX10_type_68 (by decide) ?_
          refine g_iadd dX10_type_69 ?_
          obtain ⟨h23, H⟩ := H
          refine sm_0 h23 dX10_type_70 ?_
          obtain ⟨σ22, e_σ22⟩ : ∃ q : St_, q = su_ σ19 0 (Int32.toNatClampNeg x1) ((σ19 0 (Int32.toNatClampNeg x1)) + (iI_ 1)) := ⟨_, rfl⟩
          rw [← e_σ22]
          replace H := H σ22 e_σ22
          refine g_aload_n dX10_type_71 0 rfl rfl ?_
          refine gm_LinenHouseModel_typed w_813 rfl dX10_type_72 ?_
          refine g_iload_n dX10_type_75 1 rfl rfl ?_
          obtain ⟨h24, H⟩ := H
          refine am_0 h24 dX10_type_76 ?_
          exact g_iret rfl dX10_type_77 ⟨_, rfl, H⟩
        · replace H := H.2 c17
          refine g_bipush (v := (iI_ (-4))) dX10_type_41 (by decide) ?_
          exact g_iret rfl dX10_type_43 ⟨_, rfl, H⟩
    · replace H := H.2 c6
      refine g_bipush (v := (iI_ (-2))) dX10_type_18 (by decide) ?_
      exact g_iret rfl dX10_type_20 ⟨_, rfl, H⟩
set_option maxHeartbeats 4000000 in
set_option maxRecDepth 100000 in
theorem eX10_wipe (u : Ux_) {P : Int32 → St_ → Prop}  (σ : St_) (x1 : Int32) (H : MMi_ (zm_ u) mX10_isText [.int x1] σ (fun r2 σ1 => ((¬ r2 = iI_ 0 → vp_in x1 2 ∧ vp_in x1 2 ∧ (∀ σ5, σ5 = su_ σ1 0 (Int32.toNatClampNeg x1) (iI_ 0) → P (σ1 0 (Int32.toNatClampNeg x1)) σ5)) ∧ (r2 = iI_ 0 → P (iI_ (-2)) σ1)))) : MMi_ (zm_ u) mX10_wipe [.ref (uq_ u 0), .int x1] σ P := by
  refine MM_.of (L := [(0, .ref (uq_ u 0)), (1, .int x1)]) (by decide +kernel) (Nat.le_of_ble_eq_true rfl) rfl ?_
  refine g_iload_n dX10_wipe_0 1 rfl rfl ?_
  refine k_X10_isText w_951 rfl ⟨Nat.le_of_ble_eq_true rfl, Nat.le_of_ble_eq_true rfl⟩ (Nat.le_of_ble_eq_true rfl) dX10_wipe_1 H (fun r2 σ1 H => ?_)
  refine g_if_ne 10 dX10_wipe_4 (by decide) (fun c3 => ?_) (fun c3 => ?_)
  · replace H := H.1 c3
    refine g_aload_n dX10_wipe_10 0 rfl rfl ?_
    refine gm_LinenHouseModel_typed w_813 rfl dX10_wipe_11 ?_
    refine g_iload_n dX10_wipe_14 1 rfl rfl ?_
    obtain ⟨h4, H⟩ := H
    refine am_0 h4 dX10_wipe_15 ?_
    refine g_istore_n (L' := [(2, .int (σ1 0 (Int32.toNatClampNeg x1))), (0, .ref (uq_ u 0)), (1, .int x1)]) dX10_wipe_16 rfl (by decide) rfl ?_
    refine g_aload_n dX10_wipe_17 1 rfl rfl ?_
    refine gm_LinenHouseModel_typed w_813 rfl dX10_wipe_18 ?_
    refine g_iload_n dX10_wipe_21 2 rfl rfl ?_
    refine g_iconst (v := (iI_ 0)) dX10_wipe_22 (by decide) ?_
    obtain ⟨h6, H⟩ := H
    refine sm_0 h6 dX10_wipe_23 ?_
    obtain ⟨σ5, e_σ5⟩ : ∃ q : St_, q = su_ σ1 0 (Int32.toNatClampNeg x1) (iI_ 0) := ⟨_, rfl⟩
    rw [← e_σ5]
    replace H := H σ5 e_σ5
    refine g_iload_n dX10_wipe_24 0 rfl rfl ?_
    exact g_iret rfl dX10_wipe_25 ⟨_, rfl, H⟩
  · replace H := H.2 c3
    refine g_bipush (v := (iI_ (-2))) dX10_wipe_7 (by decide) ?_
    exact g_iret rfl dX10_wipe_9 ⟨_, rfl, H⟩
set_option maxHeartbeats 4000000 in
set_option maxRecDepth 100000 in
theorem eX10_undo (u : Ux_) {P : Int32 → St_ → Prop}  (σ : St_) (x1 : Int32) (H : MMi_ (zm_ u) mX10_isText [.int x1] σ (fun r2 σ1 => ((¬ r2 = iI_ 0 → vp_in x1 2 ∧ ((¬ (σ1 0 (Int32.toNatClampNeg x1)) = iI_ 0 → vp_in x1 2 ∧ vp_in x1 2 ∧ (∀ σ7, σ7 = su_ σ1 0 (Int32.toNatClampNeg x1) ((σ1 0 (Int32.toNatClampNeg x1)) - (iI_ 1)) → vp_in x1 2 ∧ P (σ7 0 (Int32.toNatClampNeg x1)) σ7)) ∧ ((σ1 0 (Int32.toNatClampNeg x1)) = iI_ 0 → P (iI_ (-3)) σ1))) ∧ (r2 = iI_ 0 → P (iI_ (-2)) σ1)))) : MMi_ (zm_ u) mX10_undo [.ref (uq_ u 0), .int x1] σ P := by
  refine MM_.of (L := [(0, .ref (uq_ u 0)), (1, .int x1)]) (by decide +kernel) (Nat.le_of_ble_eq_true rfl) rfl ?_
  refine g_iload_n dX10_undo_0 1 rfl rfl ?_
  refine k_X10_isText w_951 rfl ⟨Nat.le_of_ble_eq_true rfl, Nat.le_of_ble_eq_true rfl⟩ (Nat.le_of_ble_eq_true rfl) dX10_undo_1 H (fun r2 σ1 H => ?_)
  refine g_if_ne 10 dX10_undo_4 (by decide) (fun c3 => ?_) (fun c3 => ?_)
  · replace H := H.1 c3
    refine g_aload_n dX10_undo_10 0 rfl rfl ?_
    refine gm_LinenHouseModel_typed w_813 rfl dX10_undo_11 ?_
    refine g_iload_n dX10_undo_14 1 rfl rfl ?_
    obtain ⟨h4, H⟩ := H
    refine am_0 h4 dX10_undo_15 ?_
    refine g_if_ne 22 dX10_undo_16 (by decide) (fun c5 => ?_) (fun c5 => ?_)
    · replace H := H.1 c5
      refine g_aload_n dX10_undo_22 0 rfl rfl ?_
      refine gm_LinenHouseModel_typed w_813 rfl dX10_undo_23 ?_
      refine g_iload_n dX10_undo_26 1 rfl rfl ?_
      refine g_dup2 dX10_undo_27 rfl rfl ?_
      obtain ⟨h6, H⟩ := H
      refine am_0 h6 dX10_undo_28 ?_
      refine g_iconst (v := (iI_ 1)) dX10_undo_29 (by decide) ?_
      refine g_isub dX10_undo_30 ?_
      obtain ⟨h8, H⟩ := H
      refine sm_0 h8 dX10_undo_31 ?_
      obtain ⟨σ7, e_σ7⟩ : ∃ q : St_, q = su_ σ1 0 (Int32.toNatClampNeg x1) ((σ1 0 (Int32.toNatClampNeg x1)) - (iI_ 1)) := ⟨_, rfl⟩
      rw [← e_σ7]
      replace H := H σ7 e_σ7
      refine g_aload_n dX10_undo_32 0 rfl rfl ?_
      refine gm_LinenHouseModel_typed w_813 rfl dX10_undo_33 ?_
      refine g_iload_n dX10_undo_36 1 rfl rfl ?_
      obtain ⟨h9, H⟩ := H
      refine am_0 h9 dX10_undo_37 ?_
      exact g_iret rfl dX10_undo_38 ⟨_, rfl, H⟩
    · replace H := H.2 c5
      refine g_bipush (v := (iI_ (-3))) dX10_undo_19 (by decide) ?_
      exact g_iret rfl dX10_undo_21 ⟨_, rfl, H⟩
  · replace H := H.2 c3
    refine g_bipush (v := (iI_ (-2))) dX10_undo_7 (by decide) ?_
    exact g_iret rfl dX10_undo_9 ⟨_, rfl, H⟩
set_option maxHeartbeats 4000000 in
set_option maxRecDepth 100000 in
theorem eX10_byteAt (u : Ux_) {P : Int32 → St_ → Prop}  (σ : St_) (x1 : Int32) (x2 : Int32) (H : vp_in x1 2 ∧ (((σ 0 (Int32.toNatClampNeg x1)) ≤ x2 → P (iI_ (-1)) σ) ∧ (¬ (σ 0 (Int32.toNatClampNeg x1)) ≤ x2 → vp_in (((iI_ 47) * x1) + x2) 94 ∧ P (σ 1 (Int32.toNatClampNeg (((iI_ 47) * x1) + x2))) σ))) : MMi_ (zm_ u) mX10_byteAt [.ref (uq_ u 0), .int x1, .int x2] σ P := by
  refine MM_.of (L := [(0, .ref (uq_ u 0)), (1, .int x1), (2, .int x2)]) (by decide +kernel) (Nat.le_of_ble_eq_true rfl) rfl ?_
  refine g_iload_n dX10_byteAt_0 2 rfl rfl ?_
  refine g_aload_n dX10_byteAt_1 0 rfl rfl ?_
  refine gm_LinenHouseModel_typed w_813 rfl dX10_byteAt_2 ?_
  refine g_iload_n dX10_byteAt_5 1 rfl rfl ?_
  obtain ⟨h1, H⟩ := H
  refine am_0 h1 dX10_byteAt_6 ?_
  refine g_icmp_ge 24 dX10_byteAt_7 (by decide) (fun c2 => ?_) (fun c2 => ?_)
  · replace H := H.1 c2
    refine g_iconst (v := (iI_ (-1))) dX10_byteAt_24 (by decide) ?_
    exact g_iret rfl dX10_byteAt_25 ⟨_, rfl, H⟩
  · replace H := H.2 c2
    refine g_aload_n dX10_byteAt_10 0 rfl rfl ?_
    refine gm_LinenHouseModel_texts w_814 rfl dX10_byteAt_11 ?_
    refine g_bipush (v := (iI_ 47)) dX10_byteAt_14 (by decide) ?_
    refine g_iload_n dX10_byteAt_16 1 rfl rfl ?_
    refine g_imul dX10_byteAt_17 ?_
    refine g_iload_n dX10_byteAt_18 2 rfl rfl ?_
    refine g_iadd dX10_byteAt_19 ?_
    obtain ⟨h3, H⟩ := H
    refine am_1 h3 dX10_byteAt_20 ?_
    refine g_goto 25 dX10_byteAt_21 (by decide) ?_
    exact g_iret rfl dX10_byteAt_25 ⟨_, rfl, H⟩
set_option maxHeartbeats 4000000 in
set_option maxRecDepth 100000 in
theorem eX10_letterAt (u : Ux_) {P : Int32 → St_ → Prop}  (σ : St_) (x1 : Int32) (x2 : Int32) (H : MMi_ (zm_ u) mX10_byteAt [.ref (uq_ u 0), .int x1, .int x2] σ (fun r2 σ1 => MMi_ (zm_ u) mX10_in [.int (r2 - (iI_ 97)), .int (iI_ 0), .int (iI_ 2)] σ1 (fun r4 σ3 => ((r4 = iI_ 0 → P (iI_ (-1)) σ3) ∧ (¬ r4 = iI_ 0 → P (r2 - (iI_ 97)) σ3))))) : MMi_ (zm_ u) mX10_letterAt [.ref (uq_ u 0), .int x1, .int x2] σ P := by
  refine MM_.of (L := [(0, .ref (uq_ u 0)), (1, .int x1), (2, .int x2)]) (by decide +kernel) (Nat.le_of_ble_eq_true rfl) rfl ?_
  refine g_aload_n dX10_letterAt_0 0 rfl rfl ?_
  refine g_iload_n dX10_letterAt_1 1 rfl rfl ?_
  refine g_iload_n dX10_letterAt_2 2 rfl rfl ?_
  refine k_X10_byteAt w_981 rfl ⟨Nat.le_of_ble_eq_true rfl, Nat.le_of_ble_eq_true rfl⟩ (Nat.le_of_ble_eq_true rfl) dX10_letterAt_3 H (fun r2 σ1 H => ?_)
  refine g_bipush (v := (iI_ 97)) dX10_letterAt_6 (by decide) ?_
  refine g_isub dX10_letterAt_8 ?_
  refine g_istore_n (L' := [(3, .int (r2 - (iI_ 97))), (0, .ref (uq_ u 0)), (1, .int x1), (2, .int x2)]) dX10_letterAt_9 rfl (by decide) rfl ?_
  refine g_iload_n dX10_letterAt_10 0 rfl rfl ?_
  refine g_iconst (v := (iI_ 0)) dX10_letterAt_11 (by decide) ?_
  refine g_iconst (v := (iI_ 2)) dX10_letterAt_12 (by decide) ?_
  refine k_X10_in w_954 rfl ⟨Nat.le_of_ble_eq_true rfl, Nat.le_of_ble_eq_true rfl⟩ (Nat.le_of_ble_eq_true rfl) dX10_letterAt_13 H (fun r4 σ3 H => ?_)
  refine g_if_eq 23 dX10_letterAt_16 (by decide) (fun c5 => ?_) (fun c5 => ?_)
  · replace H := H.1 c5
    refine g_iconst (v := (iI_ (-1))) dX10_letterAt_23 (by decide) ?_
    exact g_iret rfl dX10_letterAt_24 ⟨_, rfl, H⟩
  · replace H := H.2 c5
    refine g_iload_n dX10_letterAt_19 0 rfl rfl ?_
    refine g_goto 24 dX10_letterAt_20 (by decide) ?_
    exact g_iret rfl dX10_letterAt_24 ⟨_, rfl, H⟩
set_option maxHeartbeats 4000000 in
set_option maxRecDepth 100000 in
theorem bX10_readsMember_79 (u : Ux_) {P : Int32 → St_ → Prop}  (σ : St_) (x1 : Int32) (x2 : Int32) (x4 : Int32) (x5 : Int32) (x6 : Int32) (x7 : Int32) (H : (((iI_ 3) ≤ x7 → vp_in x1 9 ∧ (∀ σ2, σ2 = su_ σ 3 (Int32.toNatClampNeg x1) x4 → vp_in x1 9 ∧ (∀ σ4, σ4 = su_ σ2 4 (Int32.toNatClampNeg x1) x5 → P (iI_ 5) σ4))) ∧ (¬ (iI_ 3) ≤ x7 → MMi_ (zm_ u) mX10_letterAt [.ref (uq_ u 0), .int (iI_ 0), .int ((x2 + (iI_ 2)) + x7)] σ (fun r7 σ6 => ((r7 = (iI_ (-1)) → P ((iI_ 2) + x7) σ6) ∧ (¬ r7 = (iI_ (-1)) → MMi_ (zm_ u) mX10_isIn [.int x6, .int r7] σ6 (fun r10 σ9 => ((r10 = iI_ 0 → vp_in (((iI_ 3) * x1) + x7) 27 ∧ (∀ σ12, σ12 = su_ σ9 5 (Int32.toNatClampNeg (((iI_ 3) * x1) + x7)) r7 → GG_ (zm_ u) mX10_readsMember (Pi_ P) 79 [(0, .ref (uq_ u 0)), (1, .int x1), (2, .int x2), (4, .int x4), (5, .int x5), (6, .int (x6 ||| ((iI_ 1) <<< (r7 &&& 31)))), (7, .int (x7 + (iI_ 1)))] [] σ12)) ∧ (¬ r10 = iI_ 0 → P ((iI_ 2) + x7) σ9))))))))) : GG_ (zm_ u) mX10_readsMember (Pi_ P) 79 [(0, .ref (uq_ u 0)), (1, .int x1), (2, .int x2), (4, .int x4), (5, .int x5), (6, .int x6), (7, .int x7)] [] σ := by
  refine g_iload dX10_readsMember_79 6 rfl ?_
  refine g_iconst (v := (iI_ 3)) dX10_readsMember_81 (by decide) ?_
  refine g_icmp_ge 147 dX10_readsMember_82 (by decide) (fun c1 => ?_) (fun c1 => ?_)
  · replace H := H.1 c1
    refine g_aload_n dX10_readsMember_147 0 rfl rfl ?_
    refine gm_LinenHouseModel_sorts w_816 rfl dX10_readsMember_148 ?_
    refine g_iload_n dX10_readsMember_151 1 rfl rfl ?_
    refine g_iload dX10_readsMember_152 3 rfl ?_
    obtain ⟨h3, H⟩ := H
    refine sm_3 h3 dX10_readsMember_154 ?_
    obtain ⟨σ2, e_σ2⟩ : ∃ q : St_, q = su_ σ 3 (Int32.toNatClampNeg x1) x4 := ⟨_, rfl⟩
    rw [← e_σ2]
    replace H := H σ2 e_σ2
    refine g_aload_n dX10_readsMember_155 0 rfl rfl ?_
    refine gm_LinenHouseModel_shelves w_817 rfl dX10_readsMember_156 ?_
    refine g_iload_n dX10_readsMember_159 1 rfl rfl ?_
    refine g_iload dX10_readsMember_160 4 rfl ?_
    obtain ⟨h5, H⟩ := H
    refine sm_4 h5 dX10_readsMember_162 ?_
    obtain ⟨σ4, e_σ4⟩ : ∃ q : St_, q = su_ σ2 4 (Int32.toNatClampNeg x1) x5 := ⟨_, rfl⟩
    rw [← e_σ4]
    replace H := H σ4 e_σ4
    refine g_iconst (v := (iI_ 5)) dX10_readsMember_163 (by decide) ?_
    exact g_iret rfl dX10_readsMember_164 ⟨_, rfl, H⟩
  · replace H := H.2 c1
    refine g_aload_n dX10_readsMember_85 0 rfl rfl ?_
    refine g_iconst (v := (iI_ 0)) dX10_readsMember_86 (by decide) ?_
    refine g_iload_n dX10_readsMember_87 2 rfl rfl ?_
    refine g_iconst (v := (iI_ 2)) dX10_readsMember_88 (by decide) ?_
    refine g_iadd dX10_readsMember_89 ?_
    refine g_iload dX10_readsMember_90 6 rfl ?_
    refine g_iadd dX10_readsMember_92 ?_
    refine k_X10_letterAt w_985 rfl ⟨Nat.le_of_ble_eq_true rfl, Nat.le_of_ble_eq_true rfl⟩ (Nat.le_of_ble_eq_true rfl) dX10_readsMember_93 H (fun r7 σ6 H => ?_)
    refine g_istore (L' := [(8, .int r7), (0, .ref (uq_ u 0)), (1, .int x1), (2, .int x2), (4, .int x4), (5, .int x5), (6, .int x6), (7, .int x7)]) dX10_readsMember_96 (by decide) rfl ?_
    refine g_iload dX10_readsMember_98 0 rfl ?_
    refine g_iconst (v := (iI_ (-1))) dX10_readsMember_100 (by decide) ?_
    refine g_icmp_eq 114 dX10_readsMember_101 (by decide) (fun c8 => ?_) (fun c8 => ?_)
    · replace H := H.1 c8
      refine g_iconst (v := (iI_ 2)) dX10_readsMember_114 (by decide) ?_
      refine g_iload dX10_readsMember_115 7 rfl ?_
      refine g_iadd dX10_readsMember_117 ?_
      exact g_iret rfl dX10_readsMember_118 ⟨_, rfl, H⟩
    · replace H := H.2 c8
      refine g_iload dX10_readsMember_104 6 rfl ?_
      refine g_iload dX10_readsMember_106 0 rfl ?_
      refine k_X10_isIn w_989 rfl ⟨Nat.le_of_ble_eq_true rfl, Nat.le_of_ble_eq_true rfl⟩ (Nat.le_of_ble_eq_true rfl) dX10_readsMember_108 H (fun r10 σ9 H => ?_)
      refine g_if_eq 119 dX10_readsMember_111 (by decide) (fun c11 => ?_) (fun c11 => ?_)
      · replace H := H.1 c11
        refine g_iload dX10_readsMember_119 6 rfl ?_
        refine g_iconst (v := (iI_ 1)) dX10_readsMember_121 (by decide) ?_
        refine g_iload dX10_readsMember_122 0 rfl ?_
        refine g_ishl dX10_readsMember_124 ?_
        refine g_ior dX10_readsMember_125 ?_
        refine g_istore (L' := [(6, .int (x6 ||| ((iI_ 1) <<< (r7 &&& 31)))), (8, .int r7), (0, .ref (uq_ u 0)), (1, .int x1), (2, .int x2), (4, .int x4), (5, .int x5), (7, .int x7)]) dX10_readsMember_126 (by decide) rfl ?_
        refine g_aload_n dX10_readsMember_128 2 rfl rfl ?_
        refine gm_LinenHouseModel_wants w_818 rfl dX10_readsMember_129 ?_
        refine g_iconst (v := (iI_ 3)) dX10_readsMember_132 (by decide) ?_
        refine g_iload_n dX10_readsMember_133 3 rfl rfl ?_
        refine g_imul dX10_readsMember_134 ?_
        refine g_iload dX10_readsMember_135 7 rfl ?_
        refine g_iadd dX10_readsMember_137 ?_
        refine g_iload dX10_readsMember_138 1 rfl ?_
        obtain ⟨h13, H⟩ := H
        refine sm_5 h13 dX10_readsMember_140 ?_
        obtain ⟨σ12, e_σ12⟩ : ∃ q : St_, q = su_ σ9 5 (Int32.toNatClampNeg (((iI_ 3) * x1) + x7)) r7 := ⟨_, rfl⟩
        rw [← e_σ12]
        replace H := H σ12 e_σ12
        refine g_iinc (v := (x7 + (iI_ 1))) (L' := [(7, .int (x7 + (iI_ 1))), (6, .int (x6 ||| ((iI_ 1) <<< (r7 &&& 31)))), (8, .int r7), (0, .ref (uq_ u 0)), (1, .int x1), (2, .int x2), (4, .int x4), (5, .int x5)]) dX10_readsMember_141 7 rfl rfl (by decide) rfl ?_
        refine g_goto 79 dX10_readsMember_144 (by decide) ?_
        exact GG_.sub [3, 4, 5, 6, 7, 1, 0] rfl H
      · replace H := H.2 c11
        refine g_iconst (v := (iI_ 2)) dX10_readsMember_114 (by decide) ?_
        refine g_iload dX10_readsMember_115 7 rfl ?_
        refine g_iadd dX10_readsMember_117 ?_
        exact g_iret rfl dX10_readsMember_118 ⟨_, rfl, H⟩
set_option maxHeartbeats 4000000 in
set_option maxRecDepth 100000 in
theorem eX10_readsMember (u : Ux_) {P : Int32 → St_ → Prop}  (σ : St_) (x1 : Int32) (x2 : Int32) (H : MMi_ (zm_ u) mX10_byteAt [.ref (uq_ u 0), .int (iI_ 0), .int x2] σ (fun r2 σ1 => ((¬ r2 = (iI_ 115) → ((¬ r2 = (iI_ 98) → ((¬ r2 = (iI_ 100) → MMi_ (zm_ u) mX10_byteAt [.ref (uq_ u 0), .int (iI_ 0), .int (x2 + (iI_ 1))] σ1 (fun r7 σ6 => P (iI_ 0) σ6)) ∧ (r2 = (iI_ 100) → MMi_ (zm_ u) mX10_byteAt [.ref (uq_ u 0), .int (iI_ 0), .int (x2 + (iI_ 1))] σ1 (fun r10 σ9 => MMi_ (zm_ u) mX10_in [.int (r10 - (iI_ 48)), .int (iI_ 0), .int (iI_ 5)] σ9 (fun r13 σ12 => ((¬ r13 = iI_ 0 → GG_ (zm_ u) mX10_readsMember (Pi_ P) 79 [(0, .ref (uq_ u 0)), (1, .int x1), (2, .int x2), (4, .int (iI_ 2)), (5, .int (r10 - (iI_ 48))), (6, .int (iI_ 0)), (7, .int (iI_ 0))] [] σ12) ∧ (r13 = iI_ 0 → P (iI_ 1) σ12))))))) ∧ (r2 = (iI_ 98) → MMi_ (zm_ u) mX10_byteAt [.ref (uq_ u 0), .int (iI_ 0), .int (x2 + (iI_ 1))] σ1 (fun r16 σ15 => MMi_ (zm_ u) mX10_in [.int (r16 - (iI_ 48)), .int (iI_ 0), .int (iI_ 5)] σ15 (fun r19 σ18 => ((¬ r19 = iI_ 0 → GG_ (zm_ u) mX10_readsMember (Pi_ P) 79 [(0, .ref (uq_ u 0)), (1, .int x1), (2, .int x2), (4, .int (iI_ 1)), (5, .int (r16 - (iI_ 48))), (6, .int (iI_ 0)), (7, .int (iI_ 0))] [] σ18) ∧ (r19 = iI_ 0 → P (iI_ 1) σ18))))))) ∧ (r2 = (iI_ 115) → MMi_ (zm_ u) mX10_byteAt [.ref (uq_ u 0), .int (iI_ 0), .int (x2 + (iI_ 1))] σ1 (fun r22 σ21 => MMi_ (zm_ u) mX10_in [.int (r22 - (iI_ 48)), .int (iI_ 0), .int (iI_ 5)] σ21 (fun r25 σ24 => ((¬ r25 = iI_ 0 → GG_ (zm_ u) mX10_readsMember (Pi_ P) 79 [(0, .ref (uq_ u 0)), (1, .int x1), (2, .int x2), (4, .int (iI_ 0)), (5, .int (r22 - (iI_ 48))), (6, .int (iI_ 0)), (7, .int (iI_ 0))] [] σ24) ∧ (r25 = iI_ 0 → P (iI_ 1) σ24)))))))) : MMi_ (zm_ u) mX10_readsMember [.ref (uq_ u 0), .int x1, .int x2] σ P := by
  refine MM_.of (L := [(0, .ref (uq_ u 0)), (1, .int x1), (2, .int x2)]) (by decide +kernel) (Nat.le_of_ble_eq_true rfl) rfl ?_
  refine g_aload_n dX10_readsMember_0 0 rfl rfl ?_
  refine g_iconst (v := (iI_ 0)) dX10_readsMember_1 (by decide) ?_
  refine g_iload_n dX10_readsMember_2 2 rfl rfl ?_
  refine k_X10_byteAt w_981 rfl ⟨Nat.le_of_ble_eq_true rfl, Nat.le_of_ble_eq_true rfl⟩ (Nat.le_of_ble_eq_true rfl) dX10_readsMember_3 H (fun r2 σ1 H => ?_)
  refine g_istore_n (L' := [(3, .int r2), (0, .ref (uq_ u 0)), (1, .int x1), (2, .int x2)]) dX10_readsMember_6 rfl (by decide) rfl ?_
  refine g_iload_n dX10_readsMember_7 0 rfl rfl ?_
  refine g_bipush (v := (iI_ 115)) dX10_readsMember_8 (by decide) ?_
  refine g_icmp_ne 17 dX10_readsMember_10 (by decide) (fun c3 => ?_) (fun c3 => ?_)
  · replace H := H.1 c3
    refine g_iload_n dX10_readsMember_17 0 rfl rfl ?_
    refine g_bipush (v := (iI_ 98)) dX10_readsMember_18 (by decide) ?_
    refine g_icmp_ne 27 dX10_readsMember_20 (by decide) (fun c4 => ?_) (fun c4 => ?_)
    · replace H := H.1 c4
      refine g_iload_n dX10_readsMember_27 0 rfl rfl ?_
      refine g_bipush (v := (iI_ 100)) dX10_readsMember_28 (by decide) ?_
      refine g_icmp_ne 37 dX10_readsMember_30 (by decide) (fun c5 => ?_) (fun c5 => ?_)
      · replace H := H.1 c5
        refine g_iconst (v := (iI_ (-1))) dX10_readsMember_37 (by decide) ?_
        refine g_istore (L' := [(4, .int (iI_ (-1))), (3, .int r2), (0, .ref (uq_ u 0)), (1, .int x1), (2, .int x2)]) dX10_readsMember_38 (by decide) rfl ?_
        refine g_aload_n dX10_readsMember_40 2 rfl rfl ?_
        refine g_iconst (v := (iI_ 0)) dX10_readsMember_41 (by decide) ?_
        refine g_iload_n dX10_readsMember_42 4 rfl rfl ?_
        refine g_iconst (v := (iI_ 1)) dX10_readsMember_43 (by decide) ?_
        refine g_iadd dX10_readsMember_44 ?_
        refine k_X10_byteAt w_981 rfl ⟨Nat.le_of_ble_eq_true rfl, Nat.le_of_ble_eq_true rfl⟩ (Nat.le_of_ble_eq_true rfl) dX10_readsMember_45 H (fun r7 σ6 H => ?_)
        refine g_bipush (v := (iI_ 48)) dX10_readsMember_48 (by decide) ?_
        refine g_isub dX10_readsMember_50 ?_
        refine g_istore (L' := [(5, .int (r7 - (iI_ 48))), (4, .int (iI_ (-1))), (3, .int r2), (0, .ref (uq_ u 0)), (1, .int x1), (2, .int x2)]) dX10_readsMember_51 (by decide) rfl ?_
        refine g_iload dX10_readsMember_53 1 rfl ?_
        refine g_iconst (v := (iI_ (-1))) dX10_readsMember_55 (by decide) ?_
        refine g_icmp_ne 61 dX10_readsMember_56 (by decide) (fun c8 => ?_) (fun c8 => ?_)
        · first | exact absurd c8 (by decide) | exact absurd (by decide) c8
        · skip
          refine g_iconst (v := (iI_ 0)) dX10_readsMember_59 (by decide) ?_
          exact g_iret rfl dX10_readsMember_60 ⟨_, rfl, H⟩
      · replace H := H.2 c5
        refine g_iconst (v := (iI_ 2)) dX10_readsMember_33 (by decide) ?_
        refine g_goto 38 dX10_readsMember_34 (by decide) ?_
        refine g_istore (L' := [(4, .int (iI_ 2)), (3, .int r2), (0, .ref (uq_ u 0)), (1, .int x1), (2, .int x2)]) dX10_readsMember_38 (by decide) rfl ?_
        refine g_aload_n dX10_readsMember_40 2 rfl rfl ?_
        refine g_iconst (v := (iI_ 0)) dX10_readsMember_41 (by decide) ?_
        refine g_iload_n dX10_readsMember_42 4 rfl rfl ?_
        refine g_iconst (v := (iI_ 1)) dX10_readsMember_43 (by decide) ?_
        refine g_iadd dX10_readsMember_44 ?_
        refine k_X10_byteAt w_981 rfl ⟨Nat.le_of_ble_eq_true rfl, Nat.le_of_ble_eq_true rfl⟩ (Nat.le_of_ble_eq_true rfl) dX10_readsMember_45 H (fun r10 σ9 H => ?_)
        refine g_bipush (v := (iI_ 48)) dX10_readsMember_48 (by decide) ?_
        refine g_isub dX10_readsMember_50 ?_
        refine g_istore (L' := [(5, .int (r10 - (iI_ 48))), (4, .int (iI_ 2)), (3, .int r2), (0, .ref (uq_ u 0)), (1, .int x1), (2, .int x2)]) dX10_readsMember_51 (by decide) rfl ?_
        refine g_iload dX10_readsMember_53 1 rfl ?_
        refine g_iconst (v := (iI_ (-1))) dX10_readsMember_55 (by decide) ?_
        refine g_icmp_ne 61 dX10_readsMember_56 (by decide) (fun c11 => ?_) (fun c11 => ?_)
        · skip
          refine g_iload dX10_readsMember_61 0 rfl ?_
          refine g_iconst (v := (iI_ 0)) dX10_readsMember_63 (by decide) ?_
          refine g_iconst (v := (iI_ 5)) dX10_readsMember_64 (by decide) ?_
          refine k_X10_in w_954 rfl ⟨Nat.le_of_ble_eq_true rfl, Nat.le_of_ble_eq_true rfl⟩ (Nat.le_of_ble_eq_true rfl) dX10_readsMember_65 H (fun r13 σ12 H => ?_)
          refine g_if_ne 73 dX10_readsMember_68 (by decide) (fun c14 => ?_) (fun c14 => ?_)
          · replace H := H.1 c14
            refine g_iconst (v := (iI_ 0)) dX10_readsMember_73 (by decide) ?_
            refine g_istore (L' := [(6, .int (iI_ 0)), (5, .int (r10 - (iI_ 48))), (4, .int (iI_ 2)), (3, .int r2), (0, .ref (uq_ u 0)), (1, .int x1), (2, .int x2)]) dX10_readsMember_74 (by decide) rfl ?_
            refine g_iconst (v := (iI_ 0)) dX10_readsMember_76 (by decide) ?_
            refine g_istore (L' := [(7, .int (iI_ 0)), (6, .int (iI_ 0)), (5, .int (r10 - (iI_ 48))), (4, .int (iI_ 2)), (3, .int r2), (0, .ref (uq_ u 0)), (1, .int x1), (2, .int x2)]) dX10_readsMember_77 (by decide) rfl ?_
            exact GG_.sub [5, 6, 7, 3, 2, 1, 0] rfl H
          · replace H := H.2 c14
            refine g_iconst (v := (iI_ 1)) dX10_readsMember_71 (by decide) ?_
            exact g_iret rfl dX10_readsMember_72 ⟨_, rfl, H⟩
        · first | exact absurd c11 (by decide) | exact absurd (by decide) c11
    · replace H := H.2 c4
      refine g_iconst (v := (iI_ 1)) dX10_readsMember_23 (by decide) ?_
      refine g_goto 38 dX10_readsMember_24 (by decide) ?_
      refine g_istore (L' := [(4, .int (iI_ 1)), (3, .int r2), (0, .ref (uq_ u 0)), (1, .int x1), (2, .int x2)]) dX10_readsMember_38 (by decide) rfl ?_
      refine g_aload_n dX10_readsMember_40 2 rfl rfl ?_
      refine g_iconst (v := (iI_ 0)) dX10_readsMember_41 (by decide) ?_
      refine g_iload_n dX10_readsMember_42 4 rfl rfl ?_
      refine g_iconst (v := (iI_ 1)) dX10_readsMember_43 (by decide) ?_
      refine g_iadd dX10_readsMember_44 ?_
      refine k_X10_byteAt w_981 rfl ⟨Nat.le_of_ble_eq_true rfl, Nat.le_of_ble_eq_true rfl⟩ (Nat.le_of_ble_eq_true rfl) dX10_readsMember_45 H (fun r16 σ15 H => ?_)
      refine g_bipush (v := (iI_ 48)) dX10_readsMember_48 (by decide) ?_
      refine g_isub dX10_readsMember_50 ?_
      refine g_istore (L' := [(5, .int (r16 - (iI_ 48))), (4, .int (iI_ 1)), (3, .int r2), (0, .ref (uq_ u 0)), (1, .int x1), (2, .int x2)]) dX10_readsMember_51 (by decide) rfl ?_
      refine g_iload dX10_readsMember_53 1 rfl ?_
      refine g_iconst (v := (iI_ (-1))) dX10_readsMember_55 (by decide) ?_
      refine g_icmp_ne 61 dX10_readsMember_56 (by decide) (fun c17 => ?_) (fun c17 => ?_)
      · skip
        refine g_iload dX10_readsMember_61 0 rfl ?_
        refine g_iconst (v := (iI_ 0)) dX10_readsMember_63 (by decide) ?_
        refine g_iconst (v := (iI_ 5)) dX10_readsMember_64 (by decide) ?_
        refine k_X10_in w_954 rfl ⟨Nat.le_of_ble_eq_true rfl, Nat.le_of_ble_eq_true rfl⟩ (Nat.le_of_ble_eq_true rfl) dX10_readsMember_65 H (fun r19 σ18 H => ?_)
        refine g_if_ne 73 dX10_readsMember_68 (by decide) (fun c20 => ?_) (fun c20 => ?_)
        · replace H := H.1 c20
          refine g_iconst (v := (iI_ 0)) dX10_readsMember_73 (by decide) ?_
          refine g_istore (L' := [(6, .int (iI_ 0)), (5, .int (r16 - (iI_ 48))), (4, .int (iI_ 1)), (3, .int r2), (0, .ref (uq_ u 0)), (1, .int x1), (2, .int x2)]) dX10_readsMember_74 (by decide) rfl ?_
          refine g_iconst (v := (iI_ 0)) dX10_readsMember_76 (by decide) ?_
          refine g_istore (L' := [(7, .int (iI_ 0)), (6, .int (iI_ 0)), (5, .int (r16 - (iI_ 48))), (4, .int (iI_ 1)), (3, .int r2), (0, .ref (uq_ u 0)), (1, .int x1), (2, .int x2)]) dX10_readsMember_77 (by decide) rfl ?_
          exact GG_.sub [5, 6, 7, 3, 2, 1, 0] rfl H
        · replace H := H.2 c20
          refine g_iconst (v := (iI_ 1)) dX10_readsMember_71 (by decide) ?_
          exact g_iret rfl dX10_readsMember_72 ⟨_, rfl, H⟩
      · first | exact absurd c17 (by decide) | exact absurd (by decide) c17
  · replace H := H.2 c3
    refine g_iconst (v := (iI_ 0)) dX10_readsMember_13 (by decide) ?_
    refine g_goto 38 dX10_readsMember_14 (by decide) ?_
    refine g_istore (L' := [(4, .int (iI_ 0)), (3, .int r2), (0, .ref (uq_ u 0)), (1, .int x1), (2, .int x2)]) dX10_readsMember_38 (by decide) rfl ?_
    refine g_aload_n dX10_readsMember_40 2 rfl rfl ?_
    refine g_iconst (v := (iI_ 0)) dX10_readsMember_41 (by decide) ?_
    refine g_iload_n dX10_readsMember_42 4 rfl rfl ?_
    refine g_iconst (v := (iI_ 1)) dX10_readsMember_43 (by decide) ?_
    refine g_iadd dX10_readsMember_44 ?_
    refine k_X10_byteAt w_981 rfl ⟨Nat.le_of_ble_eq_true rfl, Nat.le_of_ble_eq_true rfl⟩ (Nat.le_of_ble_eq_true rfl) dX10_readsMember_45 H (fun r22 σ21 H => ?_)
    refine g_bipush (v := (iI_ 48)) dX10_readsMember_48 (by decide) ?_
    refine g_isub dX10_readsMember_50 ?_
    refine g_istore (L' := [(5, .int (r22 - (iI_ 48))), (4, .int (iI_ 0)), (3, .int r2), (0, .ref (uq_ u 0)), (1, .int x1), (2, .int x2)]) dX10_readsMember_51 (by decide) rfl ?_
    refine g_iload dX10_readsMember_53 1 rfl ?_
    refine g_iconst (v := (iI_ (-1))) dX10_readsMember_55 (by decide) ?_
    refine g_icmp_ne 61 dX10_readsMember_56 (by decide) (fun c23 => ?_) (fun c23 => ?_)
    · skip
      refine g_iload dX10_readsMember_61 0 rfl ?_
      refine g_iconst (v := (iI_ 0)) dX10_readsMember_63 (by decide) ?_
      refine g_iconst (v := (iI_ 5)) dX10_readsMember_64 (by decide) ?_
      refine k_X10_in w_954 rfl ⟨Nat.le_of_ble_eq_true rfl, Nat.le_of_ble_eq_true rfl⟩ (Nat.le_of_ble_eq_true rfl) dX10_readsMember_65 H (fun r25 σ24 H => ?_)
      refine g_if_ne 73 dX10_readsMember_68 (by decide) (fun c26 => ?_) (fun c26 => ?_)
      · replace H := H.1 c26
        refine g_iconst (v := (iI_ 0)) dX10_readsMember_73 (by decide) ?_
        refine g_istore (L' := [(6, .int (iI_ 0)), (5, .int (r22 - (iI_ 48))), (4, .int (iI_ 0)), (3, .int r2), (0, .ref (uq_ u 0)), (1, .int x1), (2, .int x2)]) dX10_readsMember_74 (by decide) rfl ?_
        refine g_iconst (v := (iI_ 0)) dX10_readsMember_76 (by decide) ?_
        refine g_istore (L' := [(7, .int (iI_ 0)), (6, .int (iI_ 0)), (5, .int (r22 - (iI_ 48))), (4, .int (iI_ 0)), (3, .int r2), (0, .ref (uq_ u 0)), (1, .int x1), (2, .int x2)]) dX10_readsMember_77 (by decide) rfl ?_
        exact GG_.sub [5, 6, 7, 3, 2, 1, 0] rfl H
      · replace H := H.2 c26
        refine g_iconst (v := (iI_ 1)) dX10_readsMember_71 (by decide) ?_
        exact g_iret rfl dX10_readsMember_72 ⟨_, rfl, H⟩
    · first | exact absurd c23 (by decide) | exact absurd (by decide) c23
set_option maxHeartbeats 4000000 in
set_option maxRecDepth 100000 in
theorem bX10_readsMembers_9 (u : Ux_) {P : Int32 → St_ → Prop}  (σ : St_) (x1 : Int32) (x2 : Int32) (H : ((x2 < (σ 0 (Int32.toNatClampNeg (iI_ 0))) → ((¬ x1 = (iI_ 8) → MMi_ (zm_ u) mX10_readsMember [.ref (uq_ u 0), .int x1, .int x2] σ (fun r4 σ3 => GG_ (zm_ u) mX10_readsMembers (Pi_ P) 39 [(0, .ref (uq_ u 0)), (1, .int x1), (2, .int x2)] [.int r4] σ3)) ∧ (x1 = (iI_ 8) → GG_ (zm_ u) mX10_readsMembers (Pi_ P) 39 [(0, .ref (uq_ u 0)), (1, .int x1), (2, .int x2)] [.int (iI_ 0)] σ))) ∧ (¬ x2 < (σ 0 (Int32.toNatClampNeg (iI_ 0))) → ((x2 ≤ iI_ 0 → P (iI_ (-1)) σ) ∧ (¬ x2 ≤ iI_ 0 → ((¬ x1 = (iI_ 8) → MMi_ (zm_ u) mX10_readsMember [.ref (uq_ u 0), .int x1, .int x2] σ (fun r8 σ7 => GG_ (zm_ u) mX10_readsMembers (Pi_ P) 39 [(0, .ref (uq_ u 0)), (1, .int x1), (2, .int x2)] [.int r8] σ7)) ∧ (x1 = (iI_ 8) → GG_ (zm_ u) mX10_readsMembers (Pi_ P) 39 [(0, .ref (uq_ u 0)), (1, .int x1), (2, .int x2)] [.int (iI_ 0)] σ))))))) : GG_ (zm_ u) mX10_readsMembers (Pi_ P) 9 [(0, .ref (uq_ u 0)), (1, .int x1), (2, .int x2)] [] σ := by
  refine g_iload_n dX10_readsMembers_9 2 rfl rfl ?_
  refine g_aload_n dX10_readsMembers_10 0 rfl rfl ?_
  refine gm_LinenHouseModel_typed w_813 rfl dX10_readsMembers_11 ?_
  refine g_iconst (v := (iI_ 0)) dX10_readsMembers_14 (by decide) ?_
  refine am_0 (by unfold vp_in; decide) dX10_readsMembers_15 ?_
  refine g_icmp_lt 23 dX10_readsMembers_16 (by decide) (fun c1 => ?_) (fun c1 => ?_)
  · replace H := H.1 c1
    refine g_iload_n dX10_readsMembers_23 1 rfl rfl ?_
    refine g_bipush (v := (iI_ 8)) dX10_readsMembers_24 (by decide) ?_
    refine g_icmp_ne 33 dX10_readsMembers_26 (by decide) (fun c2 => ?_) (fun c2 => ?_)
    · replace H := H.1 c2
      refine g_aload_n dX10_readsMembers_33 0 rfl rfl ?_
      refine g_iload_n dX10_readsMembers_34 1 rfl rfl ?_
      refine g_iload_n dX10_readsMembers_35 2 rfl rfl ?_
      refine k_X10_readsMember w_977 rfl ⟨Nat.le_of_ble_eq_true rfl, Nat.le_of_ble_eq_true rfl⟩ (Nat.le_of_ble_eq_true rfl) dX10_readsMembers_36 H (fun r4 σ3 H => ?_)
      exact GG_.sub [0, 1, 2] rfl H
    · replace H := H.2 c2
      refine g_iconst (v := (iI_ 0)) dX10_readsMembers_29 (by decide) ?_
      refine g_goto 39 dX10_readsMembers_30 (by decide) ?_
      exact GG_.sub [0, 1, 2] rfl H
  · replace H := H.2 c1
    refine g_iload_n dX10_readsMembers_19 2 rfl rfl ?_
    refine g_if_le 91 dX10_readsMembers_20 (by decide) (fun c5 => ?_) (fun c5 => ?_)
    · replace H := H.1 c5
      refine g_iconst (v := (iI_ (-1))) dX10_readsMembers_91 (by decide) ?_
      exact g_iret rfl dX10_readsMembers_92 ⟨_, rfl, H⟩
    · replace H := H.2 c5
      refine g_iload_n dX10_readsMembers_23 1 rfl rfl ?_
      refine g_bipush (v := (iI_ 8)) dX10_readsMembers_24 (by decide) ?_
      refine g_icmp_ne 33 dX10_readsMembers_26 (by decide) (fun c6 => ?_) (fun c6 => ?_)
      · replace H := H.1 c6
        refine g_aload_n dX10_readsMembers_33 0 rfl rfl ?_
        refine g_iload_n dX10_readsMembers_34 1 rfl rfl ?_
        refine g_iload_n dX10_readsMembers_35 2 rfl rfl ?_
        refine k_X10_readsMember w_977 rfl ⟨Nat.le_of_ble_eq_true rfl, Nat.le_of_ble_eq_true rfl⟩ (Nat.le_of_ble_eq_true rfl) dX10_readsMembers_36 H (fun r8 σ7 H => ?_)
        exact GG_.sub [0, 1, 2] rfl H
      · replace H := H.2 c6
        refine g_iconst (v := (iI_ 0)) dX10_readsMembers_29 (by decide) ?_
        refine g_goto 39 dX10_readsMembers_30 (by decide) ?_
        exact GG_.sub [0, 1, 2] rfl H
set_option maxHeartbeats 4000000 in
set_option maxRecDepth 100000 in
theorem bX10_readsMembers_39 (u : Ux_) {P : Int32 → St_ → Prop}  (σ : St_) (x1 : Int32) (x2 : Int32) (y0 : Int32) (H : (((iI_ 5) ≤ y0 → ((¬ (x2 + (iI_ 5)) = (σ 0 (Int32.toNatClampNeg (iI_ 0))) → MMi_ (zm_ u) mX10_byteAt [.ref (uq_ u 0), .int (iI_ 0), .int (x2 + (iI_ 5))] σ (fun r4 σ3 => ((r4 = (iI_ 59) → GG_ (zm_ u) mX10_readsMembers (Pi_ P) 9 [(0, .ref (uq_ u 0)), (1, .int (x1 + (iI_ 1))), (2, .int ((x2 + (iI_ 5)) + (iI_ 1)))] [] σ3) ∧ (¬ r4 = (iI_ 59) → P (x2 + (iI_ 5)) σ3)))) ∧ ((x2 + (iI_ 5)) = (σ 0 (Int32.toNatClampNeg (iI_ 0))) → (∀ σ6, σ6 = su_ σ 2 0 (x1 + (iI_ 1)) → P (iI_ (-1)) σ6)))) ∧ (¬ (iI_ 5) ≤ y0 → P (x2 + y0) σ))) : GG_ (zm_ u) mX10_readsMembers (Pi_ P) 39 [(0, .ref (uq_ u 0)), (1, .int x1), (2, .int x2)] [.int y0] σ := by
  refine g_istore_n (L' := [(3, .int y0), (0, .ref (uq_ u 0)), (1, .int x1), (2, .int x2)]) dX10_readsMembers_39 rfl (by decide) rfl ?_
  refine g_iload_n dX10_readsMembers_40 0 rfl rfl ?_
  refine g_iconst (v := (iI_ 5)) dX10_readsMembers_41 (by decide) ?_
  refine g_icmp_ge 49 dX10_readsMembers_42 (by decide) (fun c1 => ?_) (fun c1 => ?_)
  · replace H := H.1 c1
    refine g_iinc (v := (x1 + (iI_ 1))) (L' := [(1, .int (x1 + (iI_ 1))), (3, .int y0), (0, .ref (uq_ u 0)), (2, .int x2)]) dX10_readsMembers_49 2 rfl rfl (by decide) rfl ?_
    refine g_iinc (v := (x2 + (iI_ 5))) (L' := [(2, .int (x2 + (iI_ 5))), (1, .int (x1 + (iI_ 1))), (3, .int y0), (0, .ref (uq_ u 0))]) dX10_readsMembers_52 3 rfl rfl (by decide) rfl ?_
    refine g_iload_n dX10_readsMembers_55 0 rfl rfl ?_
    refine g_aload_n dX10_readsMembers_56 3 rfl rfl ?_
    refine gm_LinenHouseModel_typed w_813 rfl dX10_readsMembers_57 ?_
    refine g_iconst (v := (iI_ 0)) dX10_readsMembers_60 (by decide) ?_
    refine am_0 (by unfold vp_in; decide) dX10_readsMembers_61 ?_
    refine g_icmp_ne 72 dX10_readsMembers_62 (by decide) (fun c2 => ?_) (fun c2 => ?_)
    · replace H := H.1 c2
      refine g_aload_n dX10_readsMembers_72 3 rfl rfl ?_
      refine g_iconst (v := (iI_ 0)) dX10_readsMembers_73 (by decide) ?_
      refine g_iload_n dX10_readsMembers_74 0 rfl rfl ?_
      refine k_X10_byteAt w_981 rfl ⟨Nat.le_of_ble_eq_true rfl, Nat.le_of_ble_eq_true rfl⟩ (Nat.le_of_ble_eq_true rfl) dX10_readsMembers_75 H (fun r4 σ3 H => ?_)
      refine g_bipush (v := (iI_ 59)) dX10_readsMembers_78 (by decide) ?_
      refine g_icmp_eq 85 dX10_readsMembers_80 (by decide) (fun c5 => ?_) (fun c5 => ?_)
      · replace H := H.1 c5
        refine g_iinc (v := ((x2 + (iI_ 5)) + (iI_ 1))) (L' := [(2, .int ((x2 + (iI_ 5)) + (iI_ 1))), (1, .int (x1 + (iI_ 1))), (3, .int y0), (0, .ref (uq_ u 0))]) dX10_readsMembers_85 0 rfl rfl (by decide) rfl ?_
        refine g_goto 9 dX10_readsMembers_88 (by decide) ?_
        exact GG_.sub [3, 1, 0] rfl H
      · replace H := H.2 c5
        refine g_iload_n dX10_readsMembers_83 0 rfl rfl ?_
        exact g_iret rfl dX10_readsMembers_84 ⟨_, rfl, H⟩
    · replace H := H.2 c2
      refine g_aload_n dX10_readsMembers_65 3 rfl rfl ?_
      refine g_iload_n dX10_readsMembers_66 1 rfl rfl ?_
      refine pm_LinenHouseModel_members w_815 rfl dX10_readsMembers_67 ?_
      obtain ⟨σ6, e_σ6⟩ : ∃ q : St_, q = su_ σ 2 0 (x1 + (iI_ 1)) := ⟨_, rfl⟩
      rw [← e_σ6]
      replace H := H σ6 e_σ6
      refine g_iconst (v := (iI_ (-1))) dX10_readsMembers_70 (by decide) ?_
      exact g_iret rfl dX10_readsMembers_71 ⟨_, rfl, H⟩
  · replace H := H.2 c1
    refine g_iload_n dX10_readsMembers_45 3 rfl rfl ?_
    refine g_iload_n dX10_readsMembers_46 0 rfl rfl ?_
    refine g_iadd dX10_readsMembers_47 ?_
    exact g_iret rfl dX10_readsMembers_48 ⟨_, rfl, H⟩
set_option maxHeartbeats 4000000 in
set_option maxRecDepth 100000 in
theorem eX10_readsMembers (u : Ux_) {P : Int32 → St_ → Prop}  (σ : St_)  (H : (∀ σ1, σ1 = su_ σ 2 0 (iI_ 0) → GG_ (zm_ u) mX10_readsMembers (Pi_ P) 9 [(0, .ref (uq_ u 0)), (1, .int (iI_ 0)), (2, .int (iI_ 0))] [] σ1)) : MMi_ (zm_ u) mX10_readsMembers [.ref (uq_ u 0)] σ P := by
  refine MM_.of (L := [(0, .ref (uq_ u 0))]) (by decide +kernel) (Nat.le_of_ble_eq_true rfl) rfl ?_
  refine g_iconst (v := (iI_ 0)) dX10_readsMembers_0 (by decide) ?_
  refine g_istore_n (L' := [(1, .int (iI_ 0)), (0, .ref (uq_ u 0))]) dX10_readsMembers_1 rfl (by decide) rfl ?_
  refine g_iconst (v := (iI_ 0)) dX10_readsMembers_2 (by decide) ?_
  refine g_istore_n (L' := [(2, .int (iI_ 0)), (1, .int (iI_ 0)), (0, .ref (uq_ u 0))]) dX10_readsMembers_3 rfl (by decide) rfl ?_
  refine g_aload_n dX10_readsMembers_4 2 rfl rfl ?_
  refine g_iconst (v := (iI_ 0)) dX10_readsMembers_5 (by decide) ?_
  refine pm_LinenHouseModel_members w_815 rfl dX10_readsMembers_6 ?_
  obtain ⟨σ1, e_σ1⟩ : ∃ q : St_, q = su_ σ 2 0 (iI_ 0) := ⟨_, rfl⟩
  rw [← e_σ1]
  replace H := H σ1 e_σ1
  exact GG_.sub [2, 1, 0] rfl H
set_option maxHeartbeats 4000000 in
set_option maxRecDepth 100000 in
theorem bX10_readsMotions_7 (u : Ux_) {P : Int32 → St_ → Prop}  (σ : St_) (x1 : Int32) (H : (((σ 0 (Int32.toNatClampNeg (iI_ 1))) ≤ ((iI_ 3) * x1) → (∀ σ2, σ2 = su_ σ 6 0 x1 → P (iI_ (-1)) σ2)) ∧ (¬ (σ 0 (Int32.toNatClampNeg (iI_ 1))) ≤ ((iI_ 3) * x1) → MMi_ (zm_ u) mX10_letterAt [.ref (uq_ u 0), .int (iI_ 1), .int ((iI_ 3) * x1)] σ (fun r4 σ3 => MMi_ (zm_ u) mX10_letterAt [.ref (uq_ u 0), .int (iI_ 1), .int (((iI_ 3) * x1) + (iI_ 1))] σ3 (fun r6 σ5 => MMi_ (zm_ u) mX10_byteAt [.ref (uq_ u 0), .int (iI_ 1), .int (((iI_ 3) * x1) + (iI_ 2))] σ5 (fun r8 σ7 => ((¬ r4 = (iI_ (-1)) → ((r6 = (iI_ (-1)) → P (((iI_ 3) * x1) + (iI_ 1)) σ7) ∧ (¬ r6 = (iI_ (-1)) → ((¬ r6 = r4 → MMi_ (zm_ u) mX10_in [.int (r8 - (iI_ 48)), .int (iI_ 1), .int (iI_ 2)] σ7 (fun r13 σ12 => ((¬ r13 = iI_ 0 → vp_in x1 11 ∧ (∀ σ15, σ15 = su_ σ12 7 (Int32.toNatClampNeg x1) r4 → vp_in x1 11 ∧ (∀ σ17, σ17 = su_ σ15 8 (Int32.toNatClampNeg x1) r6 → vp_in x1 11 ∧ (∀ σ19, σ19 = su_ σ17 9 (Int32.toNatClampNeg x1) (r8 - (iI_ 48)) → GG_ (zm_ u) mX10_readsMotions (Pi_ P) 7 [(0, .ref (uq_ u 0)), (1, .int (x1 + (iI_ 1)))] [] σ19)))) ∧ (r13 = iI_ 0 → P (((iI_ 3) * x1) + (iI_ 2)) σ12)))) ∧ (r6 = r4 → P (((iI_ 3) * x1) + (iI_ 1)) σ7))))) ∧ (r4 = (iI_ (-1)) → P ((iI_ 3) * x1) σ7)))))))) : GG_ (zm_ u) mX10_readsMotions (Pi_ P) 7 [(0, .ref (uq_ u 0)), (1, .int x1)] [] σ := by
  refine g_iconst (v := (iI_ 3)) dX10_readsMotions_7 (by decide) ?_
  refine g_iload_n dX10_readsMotions_8 1 rfl rfl ?_
  refine g_imul dX10_readsMotions_9 ?_
  refine g_aload_n dX10_readsMotions_10 0 rfl rfl ?_
  refine gm_LinenHouseModel_typed w_813 rfl dX10_readsMotions_11 ?_
  refine g_iconst (v := (iI_ 1)) dX10_readsMotions_14 (by decide) ?_
  refine am_0 (by unfold vp_in; decide) dX10_readsMotions_15 ?_
  refine g_icmp_ge 123 dX10_readsMotions_16 (by decide) (fun c1 => ?_) (fun c1 => ?_)
  · replace H := H.1 c1
    refine g_aload_n dX10_readsMotions_123 0 rfl rfl ?_
    refine g_iload_n dX10_readsMotions_124 1 rfl rfl ?_
    refine pm_LinenHouseModel_motions w_819 rfl dX10_readsMotions_125 ?_
    obtain ⟨σ2, e_σ2⟩ : ∃ q : St_, q = su_ σ 6 0 x1 := ⟨_, rfl⟩
    rw [← e_σ2]
    replace H := H σ2 e_σ2
    refine g_iconst (v := (iI_ (-1))) dX10_readsMotions_128 (by decide) ?_
    exact g_iret rfl dX10_readsMotions_129 ⟨_, rfl, H⟩
  · replace H := H.2 c1
    refine g_aload_n dX10_readsMotions_19 0 rfl rfl ?_
    refine g_iconst (v := (iI_ 1)) dX10_readsMotions_20 (by decide) ?_
    refine g_iconst (v := (iI_ 3)) dX10_readsMotions_21 (by decide) ?_
    refine g_iload_n dX10_readsMotions_22 1 rfl rfl ?_
    refine g_imul dX10_readsMotions_23 ?_
    refine k_X10_letterAt w_985 rfl ⟨Nat.le_of_ble_eq_true rfl, Nat.le_of_ble_eq_true rfl⟩ (Nat.le_of_ble_eq_true rfl) dX10_readsMotions_24 H (fun r4 σ3 H => ?_)
    refine g_istore_n (L' := [(2, .int r4), (0, .ref (uq_ u 0)), (1, .int x1)]) dX10_readsMotions_27 rfl (by decide) rfl ?_
    refine g_aload_n dX10_readsMotions_28 1 rfl rfl ?_
    refine g_iconst (v := (iI_ 1)) dX10_readsMotions_29 (by decide) ?_
    refine g_iconst (v := (iI_ 3)) dX10_readsMotions_30 (by decide) ?_
    refine g_iload_n dX10_readsMotions_31 2 rfl rfl ?_
    refine g_imul dX10_readsMotions_32 ?_
    refine g_iconst (v := (iI_ 1)) dX10_readsMotions_33 (by decide) ?_
    refine g_iadd dX10_readsMotions_34 ?_
    refine k_X10_letterAt w_985 rfl ⟨Nat.le_of_ble_eq_true rfl, Nat.le_of_ble_eq_true rfl⟩ (Nat.le_of_ble_eq_true rfl) dX10_readsMotions_35 H (fun r6 σ5 H => ?_)
    refine g_istore_n (L' := [(3, .int r6), (2, .int r4), (0, .ref (uq_ u 0)), (1, .int x1)]) dX10_readsMotions_38 rfl (by decide) rfl ?_
    refine g_aload_n dX10_readsMotions_39 2 rfl rfl ?_
    refine g_iconst (v := (iI_ 1)) dX10_readsMotions_40 (by decide) ?_
    refine g_iconst (v := (iI_ 3)) dX10_readsMotions_41 (by decide) ?_
    refine g_iload_n dX10_readsMotions_42 3 rfl rfl ?_
    refine g_imul dX10_readsMotions_43 ?_
    refine g_iconst (v := (iI_ 2)) dX10_readsMotions_44 (by decide) ?_
    refine g_iadd dX10_readsMotions_45 ?_
    refine k_X10_byteAt w_981 rfl ⟨Nat.le_of_ble_eq_true rfl, Nat.le_of_ble_eq_true rfl⟩ (Nat.le_of_ble_eq_true rfl) dX10_readsMotions_46 H (fun r8 σ7 H => ?_)
    refine g_bipush (v := (iI_ 48)) dX10_readsMotions_49 (by decide) ?_
    refine g_isub dX10_readsMotions_51 ?_
    refine g_istore (L' := [(4, .int (r8 - (iI_ 48))), (3, .int r6), (2, .int r4), (0, .ref (uq_ u 0)), (1, .int x1)]) dX10_readsMotions_52 (by decide) rfl ?_
    refine g_iload_n dX10_readsMotions_54 2 rfl rfl ?_
    refine g_iconst (v := (iI_ (-1))) dX10_readsMotions_55 (by decide) ?_
    refine g_icmp_ne 63 dX10_readsMotions_56 (by decide) (fun c9 => ?_) (fun c9 => ?_)
    · replace H := H.1 c9
      refine g_iload_n dX10_readsMotions_63 1 rfl rfl ?_
      refine g_iconst (v := (iI_ (-1))) dX10_readsMotions_64 (by decide) ?_
      refine g_icmp_eq 73 dX10_readsMotions_65 (by decide) (fun c10 => ?_) (fun c10 => ?_)
      · replace H := H.1 c10
        refine g_iconst (v := (iI_ 3)) dX10_readsMotions_73 (by decide) ?_
        refine g_iload_n dX10_readsMotions_74 4 rfl rfl ?_
        refine g_imul dX10_readsMotions_75 ?_
        refine g_iconst (v := (iI_ 1)) dX10_readsMotions_76 (by decide) ?_
        refine g_iadd dX10_readsMotions_77 ?_
        exact g_iret rfl dX10_readsMotions_78 ⟨_, rfl, H⟩
      · replace H := H.2 c10
        refine g_iload_n dX10_readsMotions_68 1 rfl rfl ?_
        refine g_iload_n dX10_readsMotions_69 2 rfl rfl ?_
        refine g_icmp_ne 79 dX10_readsMotions_70 (by decide) (fun c11 => ?_) (fun c11 => ?_)
        · replace H := H.1 c11
          refine g_iload dX10_readsMotions_79 0 rfl ?_
          refine g_iconst (v := (iI_ 1)) dX10_readsMotions_81 (by decide) ?_
          refine g_iconst (v := (iI_ 2)) dX10_readsMotions_82 (by decide) ?_
          refine k_X10_in w_954 rfl ⟨Nat.le_of_ble_eq_true rfl, Nat.le_of_ble_eq_true rfl⟩ (Nat.le_of_ble_eq_true rfl) dX10_readsMotions_83 H (fun r13 σ12 H => ?_)
          refine g_if_ne 95 dX10_readsMotions_86 (by decide) (fun c14 => ?_) (fun c14 => ?_)
          · replace H := H.1 c14
            refine g_aload_n dX10_readsMotions_95 3 rfl rfl ?_
            refine gm_LinenHouseModel_firsts w_820 rfl dX10_readsMotions_96 ?_
            refine g_iload_n dX10_readsMotions_99 4 rfl rfl ?_
            refine g_iload_n dX10_readsMotions_100 2 rfl rfl ?_
            obtain ⟨h16, H⟩ := H
            refine sm_7 h16 dX10_readsMotions_101 ?_
            obtain ⟨σ15, e_σ15⟩ : ∃ q : St_, q = su_ σ12 7 (Int32.toNatClampNeg x1) r4 := ⟨_, rfl⟩
            rw [← e_σ15]
            replace H := H σ15 e_σ15
            refine g_aload_n dX10_readsMotions_102 3 rfl rfl ?_
            refine gm_LinenHouseModel_others w_821 rfl dX10_readsMotions_103 ?_
            refine g_iload_n dX10_readsMotions_106 4 rfl rfl ?_
            refine g_iload_n dX10_readsMotions_107 1 rfl rfl ?_
            obtain ⟨h18, H⟩ := H
            refine sm_8 h18 dX10_readsMotions_108 ?_
            obtain ⟨σ17, e_σ17⟩ : ∃ q : St_, q = su_ σ15 8 (Int32.toNatClampNeg x1) r6 := ⟨_, rfl⟩
            rw [← e_σ17]
            replace H := H σ17 e_σ17
            refine g_aload_n dX10_readsMotions_109 3 rfl rfl ?_
            refine gm_LinenHouseModel_hows w_822 rfl dX10_readsMotions_110 ?_
            refine g_iload_n dX10_readsMotions_113 4 rfl rfl ?_
            refine g_iload dX10_readsMotions_114 0 rfl ?_
            obtain ⟨h20, H⟩ := H
            refine sm_9 h20 dX10_readsMotions_116 ?_
            obtain ⟨σ19, e_σ19⟩ : ∃ q : St_, q = su_ σ17 9 (Int32.toNatClampNeg x1) (r8 - (iI_ 48)) := ⟨_, rfl⟩
            rw [← e_σ19]
            replace H := H σ19 e_σ19
            refine g_iinc (v := (x1 + (iI_ 1))) (L' := [(1, .int (x1 + (iI_ 1))), (4, .int (r8 - (iI_ 48))), (3, .int r6), (2, .int r4), (0, .ref (uq_ u 0))]) dX10_readsMotions_117 4 rfl rfl (by decide) rfl ?_
            refine g_goto 7 dX10_readsMotions_120 (by decide) ?_
            exact GG_.sub [4, 0] rfl H
          · replace H := H.2 c14
            refine g_iconst (v := (iI_ 3)) dX10_readsMotions_89 (by decide) ?_
            refine g_iload_n dX10_readsMotions_90 4 rfl rfl ?_
            refine g_imul dX10_readsMotions_91 ?_
            refine g_iconst (v := (iI_ 2)) dX10_readsMotions_92 (by decide) ?_
            refine g_iadd dX10_readsMotions_93 ?_
            exact g_iret rfl dX10_readsMotions_94 ⟨_, rfl, H⟩
        · replace H := H.2 c11
          refine g_iconst (v := (iI_ 3)) dX10_readsMotions_73 (by decide) ?_
          refine g_iload_n dX10_readsMotions_74 4 rfl rfl ?_
          refine g_imul dX10_readsMotions_75 ?_
          refine g_iconst (v := (iI_ 1)) dX10_readsMotions_76 (by decide) ?_
          refine g_iadd dX10_readsMotions_77 ?_
          exact g_iret rfl dX10_readsMotions_78 ⟨_, rfl, H⟩
    · replace H := H.2 c9
      refine g_iconst (v := (iI_ 3)) dX10_readsMotions_59 (by decide) ?_
      refine g_iload_n dX10_readsMotions_60 4 rfl rfl ?_
      refine g_imul dX10_readsMotions_61 ?_
      exact g_iret rfl dX10_readsMotions_62 ⟨_, rfl, H⟩
set_option maxHeartbeats 4000000 in
set_option maxRecDepth 100000 in
theorem eX10_readsMotions (u : Ux_) {P : Int32 → St_ → Prop}  (σ : St_)  (H : (∀ σ1, σ1 = su_ σ 6 0 (iI_ 0) → GG_ (zm_ u) mX10_readsMotions (Pi_ P) 7 [(0, .ref (uq_ u 0)), (1, .int (iI_ 0))] [] σ1)) : MMi_ (zm_ u) mX10_readsMotions [.ref (uq_ u 0)] σ P := by
  refine MM_.of (L := [(0, .ref (uq_ u 0))]) (by decide +kernel) (Nat.le_of_ble_eq_true rfl) rfl ?_
  refine g_iconst (v := (iI_ 0)) dX10_readsMotions_0 (by decide) ?_
  refine g_istore_n (L' := [(1, .int (iI_ 0)), (0, .ref (uq_ u 0))]) dX10_readsMotions_1 rfl (by decide) rfl ?_
  refine g_aload_n dX10_readsMotions_2 1 rfl rfl ?_
  refine g_iconst (v := (iI_ 0)) dX10_readsMotions_3 (by decide) ?_
  refine pm_LinenHouseModel_motions w_819 rfl dX10_readsMotions_4 ?_
  obtain ⟨σ1, e_σ1⟩ : ∃ q : St_, q = su_ σ 6 0 (iI_ 0) := ⟨_, rfl⟩
  rw [← e_σ1]
  replace H := H σ1 e_σ1
  exact GG_.sub [1, 0] rfl H
set_option maxHeartbeats 4000000 in
set_option maxRecDepth 100000 in
theorem eX10_faultOf (u : Ux_) {P : Int32 → St_ → Prop}  (σ : St_) (x1 : Int32) (H : MMi_ (zm_ u) mX10_readsMembers [.ref (uq_ u 0)] σ (fun r2 σ1 => MMi_ (zm_ u) mX10_readsMotions [.ref (uq_ u 0)] σ1 (fun r4 σ3 => ((¬ x1 = iI_ 0 → P r4 σ3) ∧ (x1 = iI_ 0 → P r2 σ3))))) : MMi_ (zm_ u) mX10_faultOf [.ref (uq_ u 0), .int x1] σ P := by
  refine MM_.of (L := [(0, .ref (uq_ u 0)), (1, .int x1)]) (by decide +kernel) (Nat.le_of_ble_eq_true rfl) rfl ?_
  refine g_aload_n dX10_faultOf_0 0 rfl rfl ?_
  refine k_X10_readsMembers w_973 rfl ⟨Nat.le_of_ble_eq_true rfl, Nat.le_of_ble_eq_true rfl⟩ (Nat.le_of_ble_eq_true rfl) dX10_faultOf_1 H (fun r2 σ1 H => ?_)
  refine g_istore_n (L' := [(2, .int r2), (0, .ref (uq_ u 0)), (1, .int x1)]) dX10_faultOf_4 rfl (by decide) rfl ?_
  refine g_aload_n dX10_faultOf_5 1 rfl rfl ?_
  refine k_X10_readsMotions w_992 rfl ⟨Nat.le_of_ble_eq_true rfl, Nat.le_of_ble_eq_true rfl⟩ (Nat.le_of_ble_eq_true rfl) dX10_faultOf_6 H (fun r4 σ3 H => ?_)
  refine g_istore_n (L' := [(3, .int r4), (2, .int r2), (0, .ref (uq_ u 0)), (1, .int x1)]) dX10_faultOf_9 rfl (by decide) rfl ?_
  refine g_iload_n dX10_faultOf_10 3 rfl rfl ?_
  refine g_if_ne 18 dX10_faultOf_11 (by decide) (fun c5 => ?_) (fun c5 => ?_)
  · replace H := H.1 c5
    refine g_iload_n dX10_faultOf_18 0 rfl rfl ?_
    exact g_iret rfl dX10_faultOf_19 ⟨_, rfl, H⟩
  · replace H := H.2 c5
    refine g_iload_n dX10_faultOf_14 1 rfl rfl ?_
    refine g_goto 19 dX10_faultOf_15 (by decide) ?_
    exact g_iret rfl dX10_faultOf_19 ⟨_, rfl, H⟩
set_option maxHeartbeats 4000000 in
set_option maxRecDepth 100000 in
theorem eX10_reads (u : Ux_) {P : St_ → Prop}  (σ : St_)  (H : MMi_ (zm_ u) mX10_faultOf [.ref (uq_ u 0), .int (iI_ 0)] σ (fun r2 σ1 => P σ1)) : MMv_ (zm_ u) mX10_reads [.ref (uq_ u 0)] σ P := by
  refine MM_.of (L := [(0, .ref (uq_ u 0))]) (by decide +kernel) (Nat.le_of_ble_eq_true rfl) rfl ?_
  refine g_aload_n dX10_reads_0 0 rfl rfl ?_
  refine g_iconst (v := (iI_ 0)) dX10_reads_1 (by decide) ?_
  refine k_X10_faultOf w_969 rfl ⟨Nat.le_of_ble_eq_true rfl, Nat.le_of_ble_eq_true rfl⟩ (Nat.le_of_ble_eq_true rfl) dX10_reads_2 H (fun r2 σ1 H => ?_)
  refine g_istore_n (L' := [(1, .int r2), (0, .ref (uq_ u 0))]) dX10_reads_5 rfl (by decide) rfl ?_
  exact g_vret rfl dX10_reads_6 ⟨rfl, H⟩
set_option maxHeartbeats 4000000 in
set_option maxRecDepth 100000 in
theorem eX10_fault (u : Ux_) {P : Int32 → St_ → Prop}  (σ : St_) (x1 : Int32) (H : MMi_ (zm_ u) mX10_isText [.int x1] σ (fun r2 σ1 => ((r2 = iI_ 0 → P (iI_ (-2)) σ1) ∧ (¬ r2 = iI_ 0 → MMi_ (zm_ u) mX10_faultOf [.ref (uq_ u 0), .int x1] σ1 (fun r5 σ4 => P r5 σ4))))) : MMi_ (zm_ u) mX10_fault [.ref (uq_ u 0), .int x1] σ P := by
  refine MM_.of (L := [(0, .ref (uq_ u 0)), (1, .int x1)]) (by decide +kernel) (Nat.le_of_ble_eq_true rfl) rfl ?_
  refine g_iload_n dX10_fault_0 1 rfl rfl ?_
  refine k_X10_isText w_951 rfl ⟨Nat.le_of_ble_eq_true rfl, Nat.le_of_ble_eq_true rfl⟩ (Nat.le_of_ble_eq_true rfl) dX10_fault_1 H (fun r2 σ1 H => ?_)
  refine g_if_eq 15 dX10_fault_4 (by decide) (fun c3 => ?_) (fun c3 => ?_)
  · replace H := H.1 c3
    refine g_bipush (v := (iI_ (-2))) dX10_fault_15 (by decide) ?_
    exact g_iret rfl dX10_fault_17 ⟨_, rfl, H⟩
  · replace H := H.2 c3
    refine g_aload_n dX10_fault_7 0 rfl rfl ?_
    refine g_iload_n dX10_fault_8 1 rfl rfl ?_
    refine k_X10_faultOf w_969 rfl ⟨Nat.le_of_ble_eq_true rfl, Nat.le_of_ble_eq_true rfl⟩ (Nat.le_of_ble_eq_true rfl) dX10_fault_9 H (fun r5 σ4 H => ?_)
    refine g_goto 17 dX10_fault_12 (by decide) ?_
    exact g_iret rfl dX10_fault_17 ⟨_, rfl, H⟩
