set_option maxHeartbeats 4000000 in
set_option maxRecDepth 100000 in
theorem bX10_write_31 (u : Ux_) {P : Int32 → St_ → Prop}  (σ : St_) (x1 : Int32) (x2 : Int32) (H : vp_in x1 4 ∧ (((σ 40 (Int32.toNatClampNeg x1)) ≤ x2 → P x2 σ) ∧ (¬ (σ 40 (Int32.toNatClampNeg x1)) ≤ x2 → (((iI_ 10) ≤ x2 → P x2 σ) ∧ (¬ (iI_ 10) ≤ x2 → vp_in x2 10 ∧ MMv_ (zm_ u) mX10_keep [.ref (uq_ u 0), .int x1, .int x2, .int (σ 31 (Int32.toNatClampNeg x2))] σ (fun σ5 => GG_ (zm_ u) mX10_write (Pi_ P) 31 [(0, .ref (uq_ u 0)), (1, .int x1), (2, .int (x2 + (iI_ 1)))] [] σ5)))))) : GG_ (zm_ u) mX10_write (Pi_ P) 31 [(0, .ref (uq_ u 0)), (1, .int x1), (2, .int x2)] [] σ := by
  refine g_iload_n dX10_write_31 2 rfl rfl ?_
  refine g_aload_n dX10_write_32 0 rfl rfl ?_
  refine gm_LinenHouseModel_sizes w_853 rfl dX10_write_33 ?_
  refine g_iload_n dX10_write_36 1 rfl rfl ?_
  obtain ⟨h1, H⟩ := H
  refine am_40 h1 dX10_write_37 ?_
  refine g_icmp_ge 65 dX10_write_38 (by decide) (fun c2 => ?_) (fun c2 => ?_)
  · replace H := H.1 c2
    refine g_iload_n dX10_write_65 2 rfl rfl ?_
    exact g_iret rfl dX10_write_66 ⟨_, rfl, H⟩
  · replace H := H.2 c2
    refine g_iload_n dX10_write_41 2 rfl rfl ?_
    refine g_bipush (v := (iI_ 10)) dX10_write_42 (by decide) ?_
    refine g_icmp_ge 65 dX10_write_44 (by decide) (fun c3 => ?_) (fun c3 => ?_)
    · replace H := H.1 c3
      refine g_iload_n dX10_write_65 2 rfl rfl ?_
      exact g_iret rfl dX10_write_66 ⟨_, rfl, H⟩
    · replace H := H.2 c3
      refine g_aload_n dX10_write_47 0 rfl rfl ?_
      refine g_iload_n dX10_write_48 1 rfl rfl ?_
      refine g_iload_n dX10_write_49 2 rfl rfl ?_
      refine g_aload_n dX10_write_50 0 rfl rfl ?_
      refine gm_LinenHouseModel_carried w_844 rfl dX10_write_51 ?_
      refine g_iload_n dX10_write_54 2 rfl rfl ?_
      obtain ⟨h4, H⟩ := H
      refine am_31 h4 dX10_write_55 ?_
      refine k_X10_keep w_1278 rfl ⟨Nat.le_of_ble_eq_true rfl, Nat.le_of_ble_eq_true rfl⟩ (Nat.le_of_ble_eq_true rfl) dX10_write_56 H (fun σ5 H => ?_)
      refine g_iinc (v := (x2 + (iI_ 1))) (L' := [(2, .int (x2 + (iI_ 1))), (0, .ref (uq_ u 0)), (1, .int x1)]) dX10_write_59 2 rfl rfl (by decide) rfl ?_
      refine g_goto 31 dX10_write_62 (by decide) ?_
      exact GG_.sub [1, 2, 0] rfl H
set_option maxHeartbeats 4000000 in
set_option maxRecDepth 100000 in
theorem eX10_write (u : Ux_) {P : Int32 → St_ → Prop}  (σ : St_) (x1 : Int32) (H : MMi_ (zm_ u) mX10_isSheet [.int x1] σ (fun r2 σ1 => ((¬ r2 = iI_ 0 → vp_in x1 4 ∧ ((¬ (σ1 38 (Int32.toNatClampNeg x1)) = iI_ 0 → MMv_ (zm_ u) mX10_runsTold [.ref (uq_ u 0)] σ1 (fun σ6 => GG_ (zm_ u) mX10_write (Pi_ P) 31 [(0, .ref (uq_ u 0)), (1, .int x1), (2, .int (iI_ 0))] [] σ6)) ∧ ((σ1 38 (Int32.toNatClampNeg x1)) = iI_ 0 → MMi_ (zm_ u) mX10_meets [.ref (uq_ u 0), .int (iI_ 1)] σ1 (fun r8 σ7 => P r8 σ7)))) ∧ (r2 = iI_ 0 → P (iI_ (-2)) σ1)))) : MMi_ (zm_ u) mX10_write [.ref (uq_ u 0), .int x1] σ P := by
  refine MM_.of (L := [(0, .ref (uq_ u 0)), (1, .int x1)]) (by decide +kernel) (Nat.le_of_ble_eq_true rfl) rfl ?_
  refine g_iload_n dX10_write_0 1 rfl rfl ?_
  refine k_X10_isSheet w_1043 rfl ⟨Nat.le_of_ble_eq_true rfl, Nat.le_of_ble_eq_true rfl⟩ (Nat.le_of_ble_eq_true rfl) dX10_write_1 H (fun r2 σ1 H => ?_)
  refine g_if_ne 10 dX10_write_4 (by decide) (fun c3 => ?_) (fun c3 => ?_)
  · replace H := H.1 c3
    refine g_aload_n dX10_write_10 0 rfl rfl ?_
    refine gm_LinenHouseModel_isThere w_851 rfl dX10_write_11 ?_
    refine g_iload_n dX10_write_14 1 rfl rfl ?_
    obtain ⟨h4, H⟩ := H
    refine am_38 h4 dX10_write_15 ?_
    refine g_if_ne 25 dX10_write_16 (by decide) (fun c5 => ?_) (fun c5 => ?_)
    · replace H := H.1 c5
      refine g_aload_n dX10_write_25 0 rfl rfl ?_
      refine k_X10_runsTold w_1059 rfl ⟨Nat.le_of_ble_eq_true rfl, Nat.le_of_ble_eq_true rfl⟩ (Nat.le_of_ble_eq_true rfl) dX10_write_26 H (fun σ6 H => ?_)
      refine g_iconst (v := (iI_ 0)) dX10_write_29 (by decide) ?_
      refine g_istore_n (L' := [(2, .int (iI_ 0)), (0, .ref (uq_ u 0)), (1, .int x1)]) dX10_write_30 rfl (by decide) rfl ?_
      exact GG_.sub [1, 2, 0] rfl H
    · replace H := H.2 c5
      refine g_aload_n dX10_write_19 0 rfl rfl ?_
      refine g_iconst (v := (iI_ 1)) dX10_write_20 (by decide) ?_
      refine k_X10_meets w_1046 rfl ⟨Nat.le_of_ble_eq_true rfl, Nat.le_of_ble_eq_true rfl⟩ (Nat.le_of_ble_eq_true rfl) dX10_write_21 H (fun r8 σ7 H => ?_)
      exact g_iret rfl dX10_write_24 ⟨_, rfl, H⟩
  · replace H := H.2 c3
    refine g_bipush (v := (iI_ (-2))) dX10_write_7 (by decide) ?_
    exact g_iret rfl dX10_write_9 ⟨_, rfl, H⟩
set_option maxHeartbeats 4000000 in
set_option maxRecDepth 100000 in
theorem eX10_sumOf (u : Ux_) {P : Int32 → St_ → Prop}  (σ : St_) (x1 : Int32) (H : MMv_ (zm_ u) mX10_reads [.ref (uq_ u 0)] σ (fun σ1 => ((¬ x1 = iI_ 0 → ((¬ x1 = (iI_ 1) → MMi_ (zm_ u) mX10_weightOf [.ref (uq_ u 0), .int (((iI_ 1) <<< ((σ1 2 0) &&& 31)) - (iI_ 1))] σ1 (fun r5 σ4 => P r5 σ4)) ∧ (x1 = (iI_ 1) → P (σ1 6 0) σ1))) ∧ (x1 = iI_ 0 → P (σ1 2 0) σ1)))) : MMi_ (zm_ u) mX10_sumOf [.ref (uq_ u 0), .int x1] σ P := by
  refine MM_.of (L := [(0, .ref (uq_ u 0)), (1, .int x1)]) (by decide +kernel) (Nat.le_of_ble_eq_true rfl) rfl ?_
  refine g_aload_n dX10_sumOf_0 0 rfl rfl ?_
  refine k_X10_reads w_1004 rfl ⟨Nat.le_of_ble_eq_true rfl, Nat.le_of_ble_eq_true rfl⟩ (Nat.le_of_ble_eq_true rfl) dX10_sumOf_1 H (fun σ1 H => ?_)
  refine g_iload_n dX10_sumOf_4 1 rfl rfl ?_
  refine g_if_ne 15 dX10_sumOf_5 (by decide) (fun c2 => ?_) (fun c2 => ?_)
  · replace H := H.1 c2
    refine g_iload_n dX10_sumOf_15 1 rfl rfl ?_
    refine g_iconst (v := (iI_ 1)) dX10_sumOf_16 (by decide) ?_
    refine g_icmp_ne 27 dX10_sumOf_17 (by decide) (fun c3 => ?_) (fun c3 => ?_)
    · replace H := H.1 c3
      refine g_aload_n dX10_sumOf_27 0 rfl rfl ?_
      refine g_iconst (v := (iI_ 1)) dX10_sumOf_28 (by decide) ?_
      refine g_aload_n dX10_sumOf_29 0 rfl rfl ?_
      refine gm_LinenHouseModel_members w_815 rfl dX10_sumOf_30 ?_
      refine g_ishl dX10_sumOf_33 ?_
      refine g_iconst (v := (iI_ 1)) dX10_sumOf_34 (by decide) ?_
      refine g_isub dX10_sumOf_35 ?_
      refine k_X10_weightOf w_1171 rfl ⟨Nat.le_of_ble_eq_true rfl, Nat.le_of_ble_eq_true rfl⟩ (Nat.le_of_ble_eq_true rfl) dX10_sumOf_36 H (fun r5 σ4 H => ?_)
      exact g_iret rfl dX10_sumOf_39 ⟨_, rfl, H⟩
    · replace H := H.2 c3
      refine g_aload_n dX10_sumOf_20 0 rfl rfl ?_
      refine gm_LinenHouseModel_motions w_819 rfl dX10_sumOf_21 ?_
      refine g_goto 39 dX10_sumOf_24 (by decide) ?_
      exact g_iret rfl dX10_sumOf_39 ⟨_, rfl, H⟩
  · replace H := H.2 c2
    refine g_aload_n dX10_sumOf_8 0 rfl rfl ?_
    refine gm_LinenHouseModel_members w_815 rfl dX10_sumOf_9 ?_
    refine g_goto 39 dX10_sumOf_12 (by decide) ?_
    exact g_iret rfl dX10_sumOf_39 ⟨_, rfl, H⟩
set_option maxHeartbeats 4000000 in
set_option maxRecDepth 100000 in
theorem eX10_count (u : Ux_) {P : Int32 → St_ → Prop}  (σ : St_) (x1 : Int32) (H : ((x1 = iI_ 0 → MMi_ (zm_ u) mX10_sumOf [.ref (uq_ u 0), .int x1] σ (fun r2 σ1 => P r2 σ1)) ∧ (x1 = iI_ 1 → MMi_ (zm_ u) mX10_sumOf [.ref (uq_ u 0), .int x1] σ (fun r4 σ3 => P r4 σ3)) ∧ (x1 = iI_ 2 → vp_in (x1 - (iI_ 2)) 2 ∧ P (σ 0 (Int32.toNatClampNeg (x1 - (iI_ 2)))) σ) ∧ (x1 = iI_ 3 → vp_in (x1 - (iI_ 2)) 2 ∧ P (σ 0 (Int32.toNatClampNeg (x1 - (iI_ 2)))) σ) ∧ (x1 = iI_ 4 → P (σ 11 0) σ) ∧ (x1 = iI_ 5 → P (σ 15 0) σ) ∧ (x1 = iI_ 6 → MMi_ (zm_ u) mX10_sumOf [.ref (uq_ u 0), .int x1] σ (fun r8 σ7 => P r8 σ7)) ∧ (x1 = iI_ 7 → P (σ 33 0) σ) ∧ (x1 = iI_ 8 → P (σ 43 0) σ) ∧ ((∀ j : Nat, j < 9 → ¬ x1 = iI_ j) → P (iI_ (-2)) σ))) : MMi_ (zm_ u) mX10_count [.ref (uq_ u 0), .int x1] σ P := by
  refine MM_.of (L := [(0, .ref (uq_ u 0)), (1, .int x1)]) (by decide +kernel) (Nat.le_of_ble_eq_true rfl) rfl ?_
  refine g_iload_n dX10_count_0 1 rfl rfl ?_
  refine g_tab 9 [52, 52, 58, 58, 67, 72, 52, 77, 82] dX10_count_1 rfl (by decide) (by decide) rfl 87 (by decide) ?_ ?_
  · intro j t ht hx
    rcases j with _ | _ | _ | _ | _ | _ | _ | _ | _ | j
    · cases ht
      replace H := H.1 hx
      refine g_aload_n dX10_count_52 0 rfl rfl ?_
      refine g_iload_n dX10_count_53 1 rfl rfl ?_
      refine k_X10_sumOf w_1299 rfl ⟨Nat.le_of_ble_eq_true rfl, Nat.le_of_ble_eq_true rfl⟩ (Nat.le_of_ble_eq_true rfl) dX10_count_54 H (fun r2 σ1 H => ?_)
      exact g_iret rfl dX10_count_57 ⟨_, rfl, H⟩
    · cases ht
      replace H := H.2.1 hx
      refine g_aload_n dX10_count_52 0 rfl rfl ?_
      refine g_iload_n dX10_count_53 1 rfl rfl ?_
      refine k_X10_sumOf w_1299 rfl ⟨Nat.le_of_ble_eq_true rfl, Nat.le_of_ble_eq_true rfl⟩ (Nat.le_of_ble_eq_true rfl) dX10_count_54 H (fun r4 σ3 H => ?_)
      exact g_iret rfl dX10_count_57 ⟨_, rfl, H⟩
    · cases ht
      replace H := H.2.2.1 hx
      refine g_aload_n dX10_count_58 0 rfl rfl ?_
      refine gm_LinenHouseModel_typed w_813 rfl dX10_count_59 ?_
      refine g_iload_n dX10_count_62 1 rfl rfl ?_
      refine g_iconst (v := (iI_ 2)) dX10_count_63 (by decide) ?_
      refine g_isub dX10_count_64 ?_
      obtain ⟨h5, H⟩ := H
      refine am_0 h5 dX10_count_65 ?_
      exact g_iret rfl dX10_count_66 ⟨_, rfl, H⟩
    · cases ht
      replace H := H.2.2.2.1 hx
      refine g_aload_n dX10_count_58 0 rfl rfl ?_
      refine gm_LinenHouseModel_typed w_813 rfl dX10_count_59 ?_
      refine g_iload_n dX10_count_62 1 rfl rfl ?_
      refine g_iconst (v := (iI_ 2)) dX10_count_63 (by decide) ?_
      refine g_isub dX10_count_64 ?_
      obtain ⟨h6, H⟩ := H
      refine am_0 h6 dX10_count_65 ?_
      exact g_iret rfl dX10_count_66 ⟨_, rfl, H⟩
    · cases ht
      replace H := H.2.2.2.2.1 hx
      refine g_aload_n dX10_count_67 0 rfl rfl ?_
      refine gm_LinenHouseModel_folds w_824 rfl dX10_count_68 ?_
      exact g_iret rfl dX10_count_71 ⟨_, rfl, H⟩
    · cases ht
      replace H := H.2.2.2.2.2.1 hx
      refine g_aload_n dX10_count_72 0 rfl rfl ?_
      refine gm_LinenHouseModel_jars w_828 rfl dX10_count_73 ?_
      exact g_iret rfl dX10_count_76 ⟨_, rfl, H⟩
    · cases ht
      replace H := H.2.2.2.2.2.2.1 hx
      refine g_aload_n dX10_count_52 0 rfl rfl ?_
      refine g_iload_n dX10_count_53 1 rfl rfl ?_
      refine k_X10_sumOf w_1299 rfl ⟨Nat.le_of_ble_eq_true rfl, Nat.le_of_ble_eq_true rfl⟩ (Nat.le_of_ble_eq_true rfl) dX10_count_54 H (fun r8 σ7 H => ?_)
      exact g_iret rfl dX10_count_57 ⟨_, rfl, H⟩
    · cases ht
      replace H := H.2.2.2.2.2.2.2.1 hx
      refine g_aload_n dX10_count_77 0 rfl rfl ?_
      refine gm_LinenHouseModel_seens w_846 rfl dX10_count_78 ?_
      exact g_iret rfl dX10_count_81 ⟨_, rfl, H⟩
    · cases ht
      replace H := H.2.2.2.2.2.2.2.2.1 hx
      refine g_aload_n dX10_count_82 0 rfl rfl ?_
      refine gm_LinenHouseModel_finding w_856 rfl dX10_count_83 ?_
      exact g_iret rfl dX10_count_86 ⟨_, rfl, H⟩
    · cases ht
  · intro hx
    replace H := H.2.2.2.2.2.2.2.2.2 hx
    refine g_bipush (v := (iI_ (-2))) dX10_count_87 (by decide) ?_
    exact g_iret rfl dX10_count_89 ⟨_, rfl, H⟩
set_option maxHeartbeats 4000000 in
set_option maxRecDepth 100000 in
theorem bX10_nightsDigest_6 (u : Ux_) {P : Int64 → St_ → Prop}  (σ : St_) (x3 : Int32) (x4 : Int32) (x5 : Int64) (x7 : Int32) (H : (((iI_ 3) ≤ x7 → MMi_ (zm_ u) mX10_shamOf [.ref (uq_ u 0), .int x3, .int x4] σ (fun r3 σ2 => P (((iL_ 31) * x5) + (Int32.toInt64 r3)) σ2)) ∧ (¬ (iI_ 3) ≤ x7 → MMi_ (zm_ u) mX10_liesOf [.ref (uq_ u 0), .int x3, .int x4, .int x7] σ (fun r5 σ4 => GG_ (zm_ u) mX10_nightsDigest (Pl_ P) 6 [(0, .ref (uq_ u 0)), (3, .int x3), (4, .int x4), (5, .long (((iL_ 31) * x5) + (Int32.toInt64 r5))), (7, .int (x7 + (iI_ 1)))] [] σ4)))) : GG_ (zm_ u) mX10_nightsDigest (Pl_ P) 6 [(0, .ref (uq_ u 0)), (3, .int x3), (4, .int x4), (5, .long x5), (7, .int x7)] [] σ := by
  refine g_iload dX10_nightsDigest_6 4 rfl ?_
  refine g_iconst (v := (iI_ 3)) dX10_nightsDigest_8 (by decide) ?_
  refine g_icmp_ge 37 dX10_nightsDigest_9 (by decide) (fun c1 => ?_) (fun c1 => ?_)
  · replace H := H.1 c1
    refine g_ldc2 (v := (iL_ 31)) (by decide) w_1308 rfl dX10_nightsDigest_37 ?_
    refine g_lload dX10_nightsDigest_40 3 rfl ?_
    refine g_lmul dX10_nightsDigest_42 ?_
    refine g_aload_n dX10_nightsDigest_43 0 rfl rfl ?_
    refine g_iload_n dX10_nightsDigest_44 1 rfl rfl ?_
    refine g_iload dX10_nightsDigest_45 2 rfl ?_
    refine k_X10_shamOf w_1201 rfl ⟨Nat.le_of_ble_eq_true rfl, Nat.le_of_ble_eq_true rfl⟩ (Nat.le_of_ble_eq_true rfl) dX10_nightsDigest_47 H (fun r3 σ2 H => ?_)
    refine g_i2l dX10_nightsDigest_50 ?_
    refine g_ladd dX10_nightsDigest_51 ?_
    exact g_lret rfl dX10_nightsDigest_52 ⟨_, rfl, H⟩
  · replace H := H.2 c1
    refine g_ldc2 (v := (iL_ 31)) (by decide) w_1308 rfl dX10_nightsDigest_12 ?_
    refine g_lload dX10_nightsDigest_15 3 rfl ?_
    refine g_lmul dX10_nightsDigest_17 ?_
    refine g_aload_n dX10_nightsDigest_18 0 rfl rfl ?_
    refine g_iload_n dX10_nightsDigest_19 1 rfl rfl ?_
    refine g_iload dX10_nightsDigest_20 2 rfl ?_
    refine g_iload dX10_nightsDigest_22 4 rfl ?_
    refine k_X10_liesOf w_1055 rfl ⟨Nat.le_of_ble_eq_true rfl, Nat.le_of_ble_eq_true rfl⟩ (Nat.le_of_ble_eq_true rfl) dX10_nightsDigest_24 H (fun r5 σ4 H => ?_)
    refine g_i2l dX10_nightsDigest_27 ?_
    refine g_ladd dX10_nightsDigest_28 ?_
    refine g_lstore (L' := [(5, .long (((iL_ 31) * x5) + (Int32.toInt64 r5))), (0, .ref (uq_ u 0)), (3, .int x3), (4, .int x4), (7, .int x7)]) dX10_nightsDigest_29 (by decide) rfl ?_
    refine g_iinc (v := (x7 + (iI_ 1))) (L' := [(7, .int (x7 + (iI_ 1))), (5, .long (((iL_ 31) * x5) + (Int32.toInt64 r5))), (0, .ref (uq_ u 0)), (3, .int x3), (4, .int x4)]) dX10_nightsDigest_31 4 rfl rfl (by decide) rfl ?_
    refine g_goto 6 dX10_nightsDigest_34 (by decide) ?_
    exact GG_.sub [2, 3, 4, 1, 0] rfl H
set_option maxHeartbeats 4000000 in
set_option maxRecDepth 100000 in
theorem eX10_nightsDigest (u : Ux_) {P : Int64 → St_ → Prop}  (σ : St_) (x1 : Int64) (x3 : Int32) (x4 : Int32) (H : GG_ (zm_ u) mX10_nightsDigest (Pl_ P) 6 [(0, .ref (uq_ u 0)), (3, .int x3), (4, .int x4), (5, .long x1), (7, .int (iI_ 0))] [] σ) : MMl_ (zm_ u) mX10_nightsDigest [.ref (uq_ u 0), .long x1, .int x3, .int x4] σ P := by
  refine MM_.of (L := [(0, .ref (uq_ u 0)), (1, .long x1), (3, .int x3), (4, .int x4)]) (by decide +kernel) (Nat.le_of_ble_eq_true rfl) rfl ?_
  refine g_lload_n dX10_nightsDigest_0 1 rfl rfl ?_
  refine g_lstore (L' := [(5, .long x1), (0, .ref (uq_ u 0)), (1, .long x1), (3, .int x3), (4, .int x4)]) dX10_nightsDigest_1 (by decide) rfl ?_
  refine g_iconst (v := (iI_ 0)) dX10_nightsDigest_3 (by decide) ?_
  refine g_istore (L' := [(7, .int (iI_ 0)), (5, .long x1), (0, .ref (uq_ u 0)), (1, .long x1), (3, .int x3), (4, .int x4)]) dX10_nightsDigest_4 (by decide) rfl ?_
  exact GG_.sub [2, 4, 5, 1, 0] rfl H
set_option maxHeartbeats 4000000 in
set_option maxRecDepth 100000 in
theorem bX10_memberDigest_6 (u : Ux_) {P : Int64 → St_ → Prop}  (σ : St_) (x3 : Int32) (x4 : Int64) (x6 : Int32) (H : (((iI_ 5) ≤ x6 → MMl_ (zm_ u) mX10_nightsDigest [.ref (uq_ u 0), .long x4, .int (iI_ 0), .int x3] σ (fun r3 σ2 => MMl_ (zm_ u) mX10_nightsDigest [.ref (uq_ u 0), .long r3, .int (iI_ 4), .int x3] σ2 (fun r5 σ4 => MMl_ (zm_ u) mX10_nightsDigest [.ref (uq_ u 0), .long r5, .int (iI_ 9), .int x3] σ4 (fun r7 σ6 => MMl_ (zm_ u) mX10_powerOf [.ref (uq_ u 0), .int x3, .int (iI_ 0)] σ6 (fun r9 σ8 => MMl_ (zm_ u) mX10_powerOf [.ref (uq_ u 0), .int x3, .int (iI_ 1)] σ8 (fun r11 σ10 => MMi_ (zm_ u) mX10_wouldBy [.ref (uq_ u 0), .int x3] σ10 (fun r13 σ12 => MMi_ (zm_ u) mX10_askOf [.ref (uq_ u 0), .int x3] σ12 (fun r15 σ14 => P (((iL_ 31) * (((iL_ 31) * (((iL_ 31) * (((iL_ 31) * r7) + r9)) + r11)) + (Int32.toInt64 r13))) + (Int32.toInt64 r15)) σ14)))))))) ∧ (¬ (iI_ 5) ≤ x6 → MMi_ (zm_ u) mX10_memberOf [.ref (uq_ u 0), .int x3, .int x6] σ (fun r17 σ16 => GG_ (zm_ u) mX10_memberDigest (Pl_ P) 6 [(0, .ref (uq_ u 0)), (3, .int x3), (4, .long (((iL_ 31) * x4) + (Int32.toInt64 r17))), (6, .int (x6 + (iI_ 1)))] [] σ16)))) : GG_ (zm_ u) mX10_memberDigest (Pl_ P) 6 [(0, .ref (uq_ u 0)), (3, .int x3), (4, .long x4), (6, .int x6)] [] σ := by
  refine g_iload dX10_memberDigest_6 3 rfl ?_
  refine g_iconst (v := (iI_ 5)) dX10_memberDigest_8 (by decide) ?_
  refine g_icmp_ge 35 dX10_memberDigest_9 (by decide) (fun c1 => ?_) (fun c1 => ?_)
  · replace H := H.1 c1
    refine g_aload_n dX10_memberDigest_35 0 rfl rfl ?_
    refine g_lload dX10_memberDigest_36 2 rfl ?_
    refine g_iconst (v := (iI_ 0)) dX10_memberDigest_38 (by decide) ?_
    refine g_iload_n dX10_memberDigest_39 1 rfl rfl ?_
    refine k_X10_nightsDigest w_1314 rfl ⟨Nat.le_of_ble_eq_true rfl, Nat.le_of_ble_eq_true rfl⟩ (Nat.le_of_ble_eq_true rfl) dX10_memberDigest_40 H (fun r3 σ2 H => ?_)
    refine g_lstore (L' := [(4, .long r3), (0, .ref (uq_ u 0)), (3, .int x3), (6, .int x6)]) dX10_memberDigest_43 (by decide) rfl ?_
    refine g_aload_n dX10_memberDigest_45 1 rfl rfl ?_
    refine g_lload dX10_memberDigest_46 0 rfl ?_
    refine g_iconst (v := (iI_ 4)) dX10_memberDigest_48 (by decide) ?_
    refine g_iload_n dX10_memberDigest_49 2 rfl rfl ?_
    refine k_X10_nightsDigest w_1314 rfl ⟨Nat.le_of_ble_eq_true rfl, Nat.le_of_ble_eq_true rfl⟩ (Nat.le_of_ble_eq_true rfl) dX10_memberDigest_50 H (fun r5 σ4 H => ?_)
    refine g_lstore (L' := [(4, .long r5), (0, .ref (uq_ u 0)), (3, .int x3), (6, .int x6)]) dX10_memberDigest_53 (by decide) rfl ?_
    refine g_aload_n dX10_memberDigest_55 1 rfl rfl ?_
    refine g_lload dX10_memberDigest_56 0 rfl ?_
    refine g_bipush (v := (iI_ 9)) dX10_memberDigest_58 (by decide) ?_
    refine g_iload_n dX10_memberDigest_60 2 rfl rfl ?_
    refine k_X10_nightsDigest w_1314 rfl ⟨Nat.le_of_ble_eq_true rfl, Nat.le_of_ble_eq_true rfl⟩ (Nat.le_of_ble_eq_true rfl) dX10_memberDigest_61 H (fun r7 σ6 H => ?_)
    refine g_lstore (L' := [(4, .long r7), (0, .ref (uq_ u 0)), (3, .int x3), (6, .int x6)]) dX10_memberDigest_64 (by decide) rfl ?_
    refine g_ldc2 (v := (iL_ 31)) (by decide) w_1308 rfl dX10_memberDigest_66 ?_
    refine g_lload dX10_memberDigest_69 0 rfl ?_
    refine g_lmul dX10_memberDigest_71 ?_
    refine g_aload_n dX10_memberDigest_72 1 rfl rfl ?_
    refine g_iload_n dX10_memberDigest_73 2 rfl rfl ?_
    refine g_iconst (v := (iI_ 0)) dX10_memberDigest_74 (by decide) ?_
    refine k_X10_powerOf w_1167 rfl ⟨Nat.le_of_ble_eq_true rfl, Nat.le_of_ble_eq_true rfl⟩ (Nat.le_of_ble_eq_true rfl) dX10_memberDigest_75 H (fun r9 σ8 H => ?_)
    refine g_ladd dX10_memberDigest_78 ?_
    refine g_lstore (L' := [(4, .long (((iL_ 31) * r7) + r9)), (0, .ref (uq_ u 0)), (3, .int x3), (6, .int x6)]) dX10_memberDigest_79 (by decide) rfl ?_
    refine g_ldc2 (v := (iL_ 31)) (by decide) w_1308 rfl dX10_memberDigest_81 ?_
    refine g_lload dX10_memberDigest_84 0 rfl ?_
    refine g_lmul dX10_memberDigest_86 ?_
    refine g_aload_n dX10_memberDigest_87 1 rfl rfl ?_
    refine g_iload_n dX10_memberDigest_88 2 rfl rfl ?_
    refine g_iconst (v := (iI_ 1)) dX10_memberDigest_89 (by decide) ?_
    refine k_X10_powerOf w_1167 rfl ⟨Nat.le_of_ble_eq_true rfl, Nat.le_of_ble_eq_true rfl⟩ (Nat.le_of_ble_eq_true rfl) dX10_memberDigest_90 H (fun r11 σ10 H => ?_)
    refine g_ladd dX10_memberDigest_93 ?_
    refine g_lstore (L' := [(4, .long (((iL_ 31) * (((iL_ 31) * r7) + r9)) + r11)), (0, .ref (uq_ u 0)), (3, .int x3), (6, .int x6)]) dX10_memberDigest_94 (by decide) rfl ?_
    refine g_ldc2 (v := (iL_ 31)) (by decide) w_1308 rfl dX10_memberDigest_96 ?_
    refine g_lload dX10_memberDigest_99 0 rfl ?_
    refine g_lmul dX10_memberDigest_101 ?_
    refine g_aload_n dX10_memberDigest_102 1 rfl rfl ?_
    refine g_iload_n dX10_memberDigest_103 2 rfl rfl ?_
    refine k_X10_wouldBy w_1229 rfl ⟨Nat.le_of_ble_eq_true rfl, Nat.le_of_ble_eq_true rfl⟩ (Nat.le_of_ble_eq_true rfl) dX10_memberDigest_104 H (fun r13 σ12 H => ?_)
    refine g_i2l dX10_memberDigest_107 ?_
    refine g_ladd dX10_memberDigest_108 ?_
    refine g_lstore (L' := [(4, .long (((iL_ 31) * (((iL_ 31) * (((iL_ 31) * r7) + r9)) + r11)) + (Int32.toInt64 r13))), (0, .ref (uq_ u 0)), (3, .int x3), (6, .int x6)]) dX10_memberDigest_109 (by decide) rfl ?_
    refine g_ldc2 (v := (iL_ 31)) (by decide) w_1308 rfl dX10_memberDigest_111 ?_
    refine g_lload dX10_memberDigest_114 0 rfl ?_
    refine g_lmul dX10_memberDigest_116 ?_
    refine g_aload_n dX10_memberDigest_117 1 rfl rfl ?_
    refine g_iload_n dX10_memberDigest_118 2 rfl rfl ?_
    refine k_X10_askOf w_1241 rfl ⟨Nat.le_of_ble_eq_true rfl, Nat.le_of_ble_eq_true rfl⟩ (Nat.le_of_ble_eq_true rfl) dX10_memberDigest_119 H (fun r15 σ14 H => ?_)
    refine g_i2l dX10_memberDigest_122 ?_
    refine g_ladd dX10_memberDigest_123 ?_
    exact g_lret rfl dX10_memberDigest_124 ⟨_, rfl, H⟩
  · replace H := H.2 c1
    refine g_ldc2 (v := (iL_ 31)) (by decide) w_1308 rfl dX10_memberDigest_12 ?_
    refine g_lload dX10_memberDigest_15 2 rfl ?_
    refine g_lmul dX10_memberDigest_17 ?_
    refine g_aload_n dX10_memberDigest_18 0 rfl rfl ?_
    refine g_iload_n dX10_memberDigest_19 1 rfl rfl ?_
    refine g_iload dX10_memberDigest_20 3 rfl ?_
    refine k_X10_memberOf w_1008 rfl ⟨Nat.le_of_ble_eq_true rfl, Nat.le_of_ble_eq_true rfl⟩ (Nat.le_of_ble_eq_true rfl) dX10_memberDigest_22 H (fun r17 σ16 H => ?_)
    refine g_i2l dX10_memberDigest_25 ?_
    refine g_ladd dX10_memberDigest_26 ?_
    refine g_lstore (L' := [(4, .long (((iL_ 31) * x4) + (Int32.toInt64 r17))), (0, .ref (uq_ u 0)), (3, .int x3), (6, .int x6)]) dX10_memberDigest_27 (by decide) rfl ?_
    refine g_iinc (v := (x6 + (iI_ 1))) (L' := [(6, .int (x6 + (iI_ 1))), (4, .long (((iL_ 31) * x4) + (Int32.toInt64 r17))), (0, .ref (uq_ u 0)), (3, .int x3)]) dX10_memberDigest_29 3 rfl rfl (by decide) rfl ?_
    refine g_goto 6 dX10_memberDigest_32 (by decide) ?_
    exact GG_.sub [2, 3, 1, 0] rfl H
set_option maxHeartbeats 4000000 in
set_option maxRecDepth 100000 in
theorem eX10_memberDigest (u : Ux_) {P : Int64 → St_ → Prop}  (σ : St_) (x1 : Int64) (x3 : Int32) (H : GG_ (zm_ u) mX10_memberDigest (Pl_ P) 6 [(0, .ref (uq_ u 0)), (3, .int x3), (4, .long x1), (6, .int (iI_ 0))] [] σ) : MMl_ (zm_ u) mX10_memberDigest [.ref (uq_ u 0), .long x1, .int x3] σ P := by
  refine MM_.of (L := [(0, .ref (uq_ u 0)), (1, .long x1), (3, .int x3)]) (by decide +kernel) (Nat.le_of_ble_eq_true rfl) rfl ?_
  refine g_lload_n dX10_memberDigest_0 1 rfl rfl ?_
  refine g_lstore (L' := [(4, .long x1), (0, .ref (uq_ u 0)), (1, .long x1), (3, .int x3)]) dX10_memberDigest_1 (by decide) rfl ?_
  refine g_iconst (v := (iI_ 0)) dX10_memberDigest_3 (by decide) ?_
  refine g_istore (L' := [(6, .int (iI_ 0)), (4, .long x1), (0, .ref (uq_ u 0)), (1, .long x1), (3, .int x3)]) dX10_memberDigest_4 (by decide) rfl ?_
  exact GG_.sub [2, 4, 1, 0] rfl H
set_option maxHeartbeats 4000000 in
set_option maxRecDepth 100000 in
theorem bX10_nightDigest_6 (u : Ux_) {P : Int64 → St_ → Prop}  (σ : St_) (x3 : Int32) (x4 : Int64) (x6 : Int32) (H : (((iI_ 3) ≤ x6 → GG_ (zm_ u) mX10_nightDigest (Pl_ P) 38 [(0, .ref (uq_ u 0)), (3, .int x3), (4, .long x4), (6, .int (iI_ 0))] [] σ) ∧ (¬ (iI_ 3) ≤ x6 → MMi_ (zm_ u) mX10_motionOf [.ref (uq_ u 0), .int x3, .int x6] σ (fun r3 σ2 => GG_ (zm_ u) mX10_nightDigest (Pl_ P) 6 [(0, .ref (uq_ u 0)), (3, .int x3), (4, .long (((iL_ 31) * x4) + (Int32.toInt64 r3))), (6, .int (x6 + (iI_ 1)))] [] σ2)))) : GG_ (zm_ u) mX10_nightDigest (Pl_ P) 6 [(0, .ref (uq_ u 0)), (3, .int x3), (4, .long x4), (6, .int x6)] [] σ := by
  refine g_iload dX10_nightDigest_6 3 rfl ?_
  refine g_iconst (v := (iI_ 3)) dX10_nightDigest_8 (by decide) ?_
  refine g_icmp_ge 35 dX10_nightDigest_9 (by decide) (fun c1 => ?_) (fun c1 => ?_)
  · replace H := H.1 c1
    refine g_iconst (v := (iI_ 0)) dX10_nightDigest_35 (by decide) ?_
    refine g_istore (L' := [(6, .int (iI_ 0)), (0, .ref (uq_ u 0)), (3, .int x3), (4, .long x4)]) dX10_nightDigest_36 (by decide) rfl ?_
    exact GG_.sub [1, 2, 3, 0] rfl H
  · replace H := H.2 c1
    refine g_ldc2 (v := (iL_ 31)) (by decide) w_1308 rfl dX10_nightDigest_12 ?_
    refine g_lload dX10_nightDigest_15 2 rfl ?_
    refine g_lmul dX10_nightDigest_17 ?_
    refine g_aload_n dX10_nightDigest_18 0 rfl rfl ?_
    refine g_iload_n dX10_nightDigest_19 1 rfl rfl ?_
    refine g_iload dX10_nightDigest_20 3 rfl ?_
    refine k_X10_motionOf w_1019 rfl ⟨Nat.le_of_ble_eq_true rfl, Nat.le_of_ble_eq_true rfl⟩ (Nat.le_of_ble_eq_true rfl) dX10_nightDigest_22 H (fun r3 σ2 H => ?_)
    refine g_i2l dX10_nightDigest_25 ?_
    refine g_ladd dX10_nightDigest_26 ?_
    refine g_lstore (L' := [(4, .long (((iL_ 31) * x4) + (Int32.toInt64 r3))), (0, .ref (uq_ u 0)), (3, .int x3), (6, .int x6)]) dX10_nightDigest_27 (by decide) rfl ?_
    refine g_iinc (v := (x6 + (iI_ 1))) (L' := [(6, .int (x6 + (iI_ 1))), (4, .long (((iL_ 31) * x4) + (Int32.toInt64 r3))), (0, .ref (uq_ u 0)), (3, .int x3)]) dX10_nightDigest_29 3 rfl rfl (by decide) rfl ?_
    refine g_goto 6 dX10_nightDigest_32 (by decide) ?_
    exact GG_.sub [2, 3, 1, 0] rfl H
set_option maxHeartbeats 4000000 in
set_option maxRecDepth 100000 in
theorem bX10_nightDigest_38 (u : Ux_) {P : Int64 → St_ → Prop}  (σ : St_) (x3 : Int32) (x4 : Int64) (x6 : Int32) (H : (((iI_ 4) ≤ x6 → MMi_ (zm_ u) mX10_houseOf [.ref (uq_ u 0), .int x3] σ (fun r3 σ2 => MMi_ (zm_ u) mX10_liftBy [.ref (uq_ u 0), .int x3] σ2 (fun r5 σ4 => MMi_ (zm_ u) mX10_ofRow [.ref (uq_ u 0), .int r5, .int (iI_ 0)] σ4 (fun r7 σ6 => P (((iL_ 31) * (((iL_ 31) * (((iL_ 31) * x4) + (Int32.toInt64 r3))) + (Int32.toInt64 r5))) + (Int32.toInt64 r7)) σ6)))) ∧ (¬ (iI_ 4) ≤ x6 → MMi_ (zm_ u) mX10_voteOf [.ref (uq_ u 0), .int x3, .int x6] σ (fun r9 σ8 => GG_ (zm_ u) mX10_nightDigest (Pl_ P) 38 [(0, .ref (uq_ u 0)), (3, .int x3), (4, .long (((iL_ 31) * x4) + (Int32.toInt64 r9))), (6, .int (x6 + (iI_ 1)))] [] σ8)))) : GG_ (zm_ u) mX10_nightDigest (Pl_ P) 38 [(0, .ref (uq_ u 0)), (3, .int x3), (4, .long x4), (6, .int x6)] [] σ := by
  refine g_iload dX10_nightDigest_38 3 rfl ?_
  refine g_iconst (v := (iI_ 4)) dX10_nightDigest_40 (by decide) ?_
  refine g_icmp_ge 67 dX10_nightDigest_41 (by decide) (fun c1 => ?_) (fun c1 => ?_)
  · replace H := H.1 c1
    refine g_ldc2 (v := (iL_ 31)) (by decide) w_1308 rfl dX10_nightDigest_67 ?_
    refine g_lload dX10_nightDigest_70 2 rfl ?_
    refine g_lmul dX10_nightDigest_72 ?_
    refine g_aload_n dX10_nightDigest_73 0 rfl rfl ?_
    refine g_iload_n dX10_nightDigest_74 1 rfl rfl ?_
    refine k_X10_houseOf w_1107 rfl ⟨Nat.le_of_ble_eq_true rfl, Nat.le_of_ble_eq_true rfl⟩ (Nat.le_of_ble_eq_true rfl) dX10_nightDigest_75 H (fun r3 σ2 H => ?_)
    refine g_i2l dX10_nightDigest_78 ?_
    refine g_ladd dX10_nightDigest_79 ?_
    refine g_lstore (L' := [(4, .long (((iL_ 31) * x4) + (Int32.toInt64 r3))), (0, .ref (uq_ u 0)), (3, .int x3), (6, .int x6)]) dX10_nightDigest_80 (by decide) rfl ?_
    refine g_aload_n dX10_nightDigest_82 1 rfl rfl ?_
    refine g_iload_n dX10_nightDigest_83 2 rfl rfl ?_
    refine k_X10_liftBy w_1139 rfl ⟨Nat.le_of_ble_eq_true rfl, Nat.le_of_ble_eq_true rfl⟩ (Nat.le_of_ble_eq_true rfl) dX10_nightDigest_84 H (fun r5 σ4 H => ?_)
    refine g_istore (L' := [(6, .int r5), (4, .long (((iL_ 31) * x4) + (Int32.toInt64 r3))), (0, .ref (uq_ u 0)), (3, .int x3)]) dX10_nightDigest_87 (by decide) rfl ?_
    refine g_ldc2 (v := (iL_ 31)) (by decide) w_1308 rfl dX10_nightDigest_89 ?_
    refine g_lload dX10_nightDigest_92 1 rfl ?_
    refine g_lmul dX10_nightDigest_94 ?_
    refine g_iload dX10_nightDigest_95 0 rfl ?_
    refine g_i2l dX10_nightDigest_97 ?_
    refine g_ladd dX10_nightDigest_98 ?_
    refine g_lstore (L' := [(4, .long (((iL_ 31) * (((iL_ 31) * x4) + (Int32.toInt64 r3))) + (Int32.toInt64 r5))), (6, .int r5), (0, .ref (uq_ u 0)), (3, .int x3)]) dX10_nightDigest_99 (by decide) rfl ?_
    refine g_ldc2 (v := (iL_ 31)) (by decide) w_1308 rfl dX10_nightDigest_101 ?_
    refine g_lload dX10_nightDigest_104 0 rfl ?_
    refine g_lmul dX10_nightDigest_106 ?_
    refine g_aload_n dX10_nightDigest_107 2 rfl rfl ?_
    refine g_iload dX10_nightDigest_108 1 rfl ?_
    refine g_iconst (v := (iI_ 0)) dX10_nightDigest_110 (by decide) ?_
    refine k_X10_ofRow w_1147 rfl ⟨Nat.le_of_ble_eq_true rfl, Nat.le_of_ble_eq_true rfl⟩ (Nat.le_of_ble_eq_true rfl) dX10_nightDigest_111 H (fun r7 σ6 H => ?_)
    refine g_i2l dX10_nightDigest_114 ?_
    refine g_ladd dX10_nightDigest_115 ?_
    exact g_lret rfl dX10_nightDigest_116 ⟨_, rfl, H⟩
  · replace H := H.2 c1
    refine g_ldc2 (v := (iL_ 31)) (by decide) w_1308 rfl dX10_nightDigest_44 ?_
    refine g_lload dX10_nightDigest_47 2 rfl ?_
    refine g_lmul dX10_nightDigest_49 ?_
    refine g_aload_n dX10_nightDigest_50 0 rfl rfl ?_
    refine g_iload_n dX10_nightDigest_51 1 rfl rfl ?_
    refine g_iload dX10_nightDigest_52 3 rfl ?_
    refine k_X10_voteOf w_1095 rfl ⟨Nat.le_of_ble_eq_true rfl, Nat.le_of_ble_eq_true rfl⟩ (Nat.le_of_ble_eq_true rfl) dX10_nightDigest_54 H (fun r9 σ8 H => ?_)
    refine g_i2l dX10_nightDigest_57 ?_
    refine g_ladd dX10_nightDigest_58 ?_
    refine g_lstore (L' := [(4, .long (((iL_ 31) * x4) + (Int32.toInt64 r9))), (0, .ref (uq_ u 0)), (3, .int x3), (6, .int x6)]) dX10_nightDigest_59 (by decide) rfl ?_
    refine g_iinc (v := (x6 + (iI_ 1))) (L' := [(6, .int (x6 + (iI_ 1))), (4, .long (((iL_ 31) * x4) + (Int32.toInt64 r9))), (0, .ref (uq_ u 0)), (3, .int x3)]) dX10_nightDigest_61 3 rfl rfl (by decide) rfl ?_
    refine g_goto 38 dX10_nightDigest_64 (by decide) ?_
    exact GG_.sub [2, 3, 1, 0] rfl H
set_option maxHeartbeats 4000000 in
set_option maxRecDepth 100000 in
theorem eX10_nightDigest (u : Ux_) {P : Int64 → St_ → Prop}  (σ : St_) (x1 : Int64) (x3 : Int32) (H : GG_ (zm_ u) mX10_nightDigest (Pl_ P) 6 [(0, .ref (uq_ u 0)), (3, .int x3), (4, .long x1), (6, .int (iI_ 0))] [] σ) : MMl_ (zm_ u) mX10_nightDigest [.ref (uq_ u 0), .long x1, .int x3] σ P := by
  refine MM_.of (L := [(0, .ref (uq_ u 0)), (1, .long x1), (3, .int x3)]) (by decide +kernel) (Nat.le_of_ble_eq_true rfl) rfl ?_
  refine g_lload_n dX10_nightDigest_0 1 rfl rfl ?_
  refine g_lstore (L' := [(4, .long x1), (0, .ref (uq_ u 0)), (1, .long x1), (3, .int x3)]) dX10_nightDigest_1 (by decide) rfl ?_
  refine g_iconst (v := (iI_ 0)) dX10_nightDigest_3 (by decide) ?_
  refine g_istore (L' := [(6, .int (iI_ 0)), (4, .long x1), (0, .ref (uq_ u 0)), (1, .long x1), (3, .int x3)]) dX10_nightDigest_4 (by decide) rfl ?_
  exact GG_.sub [2, 4, 1, 0] rfl H
set_option maxHeartbeats 4000000 in
set_option maxRecDepth 100000 in
theorem bX10_digest_6 (u : Ux_) {P : Int64 → St_ → Prop}  (σ : St_) (x1 : Int64) (x3 : Int32) (H : (((iI_ 8) ≤ x3 → MMi_ (zm_ u) mX10_faultOf [.ref (uq_ u 0), .int (iI_ 0)] σ (fun r3 σ2 => MMi_ (zm_ u) mX10_faultOf [.ref (uq_ u 0), .int (iI_ 1)] σ2 (fun r5 σ4 => GG_ (zm_ u) mX10_digest (Pl_ P) 59 [(0, .ref (uq_ u 0)), (1, .long (((iL_ 31) * (((iL_ 31) * x1) + (Int32.toInt64 r3))) + (Int32.toInt64 r5))), (3, .int (iI_ 0))] [] σ4))) ∧ (¬ (iI_ 8) ≤ x3 → MMi_ (zm_ u) mX10_count [.ref (uq_ u 0), .int x3] σ (fun r7 σ6 => GG_ (zm_ u) mX10_digest (Pl_ P) 6 [(0, .ref (uq_ u 0)), (1, .long (((iL_ 31) * x1) + (Int32.toInt64 r7))), (3, .int (x3 + (iI_ 1)))] [] σ6)))) : GG_ (zm_ u) mX10_digest (Pl_ P) 6 [(0, .ref (uq_ u 0)), (1, .long x1), (3, .int x3)] [] σ := by
  refine g_iload_n dX10_digest_6 2 rfl rfl ?_
  refine g_bipush (v := (iI_ 8)) dX10_digest_7 (by decide) ?_
  refine g_icmp_ge 31 dX10_digest_9 (by decide) (fun c1 => ?_) (fun c1 => ?_)
  · replace H := H.1 c1
    refine g_ldc2 (v := (iL_ 31)) (by decide) w_1308 rfl dX10_digest_31 ?_
    refine g_lload_n dX10_digest_34 1 rfl rfl ?_
    refine g_lmul dX10_digest_35 ?_
    refine g_aload_n dX10_digest_36 0 rfl rfl ?_
    refine g_iconst (v := (iI_ 0)) dX10_digest_37 (by decide) ?_
    refine k_X10_faultOf w_969 rfl ⟨Nat.le_of_ble_eq_true rfl, Nat.le_of_ble_eq_true rfl⟩ (Nat.le_of_ble_eq_true rfl) dX10_digest_38 H (fun r3 σ2 H => ?_)
    refine g_i2l dX10_digest_41 ?_
    refine g_ladd dX10_digest_42 ?_
    refine g_lstore_n (L' := [(1, .long (((iL_ 31) * x1) + (Int32.toInt64 r3))), (0, .ref (uq_ u 0)), (3, .int x3)]) dX10_digest_43 rfl (by decide) rfl ?_
    refine g_ldc2 (v := (iL_ 31)) (by decide) w_1308 rfl dX10_digest_44 ?_
    refine g_lload_n dX10_digest_47 0 rfl rfl ?_
    refine g_lmul dX10_digest_48 ?_
    refine g_aload_n dX10_digest_49 1 rfl rfl ?_
    refine g_iconst (v := (iI_ 1)) dX10_digest_50 (by decide) ?_
    refine k_X10_faultOf w_969 rfl ⟨Nat.le_of_ble_eq_true rfl, Nat.le_of_ble_eq_true rfl⟩ (Nat.le_of_ble_eq_true rfl) dX10_digest_51 H (fun r5 σ4 H => ?_)
    refine g_i2l dX10_digest_54 ?_
    refine g_ladd dX10_digest_55 ?_
    refine g_lstore_n (L' := [(1, .long (((iL_ 31) * (((iL_ 31) * x1) + (Int32.toInt64 r3))) + (Int32.toInt64 r5))), (0, .ref (uq_ u 0)), (3, .int x3)]) dX10_digest_56 rfl (by decide) rfl ?_
    refine g_iconst (v := (iI_ 0)) dX10_digest_57 (by decide) ?_
    refine g_istore_n (L' := [(3, .int (iI_ 0)), (1, .long (((iL_ 31) * (((iL_ 31) * x1) + (Int32.toInt64 r3))) + (Int32.toInt64 r5))), (0, .ref (uq_ u 0))]) dX10_digest_58 rfl (by decide) rfl ?_
    exact GG_.sub [2, 1, 0] rfl H
  · replace H := H.2 c1
    refine g_ldc2 (v := (iL_ 31)) (by decide) w_1308 rfl dX10_digest_12 ?_
    refine g_lload_n dX10_digest_15 1 rfl rfl ?_
    refine g_lmul dX10_digest_16 ?_
    refine g_aload_n dX10_digest_17 0 rfl rfl ?_
    refine g_iload_n dX10_digest_18 2 rfl rfl ?_
    refine k_X10_count w_1309 rfl ⟨Nat.le_of_ble_eq_true rfl, Nat.le_of_ble_eq_true rfl⟩ (Nat.le_of_ble_eq_true rfl) dX10_digest_19 H (fun r7 σ6 H => ?_)
    refine g_i2l dX10_digest_22 ?_
    refine g_ladd dX10_digest_23 ?_
    refine g_lstore_n (L' := [(1, .long (((iL_ 31) * x1) + (Int32.toInt64 r7))), (0, .ref (uq_ u 0)), (3, .int x3)]) dX10_digest_24 rfl (by decide) rfl ?_
    refine g_iinc (v := (x3 + (iI_ 1))) (L' := [(3, .int (x3 + (iI_ 1))), (1, .long (((iL_ 31) * x1) + (Int32.toInt64 r7))), (0, .ref (uq_ u 0))]) dX10_digest_25 2 rfl rfl (by decide) rfl ?_
    refine g_goto 6 dX10_digest_28 (by decide) ?_
    exact GG_.sub [2, 1, 0] rfl H
set_option maxHeartbeats 4000000 in
set_option maxRecDepth 100000 in
theorem bX10_digest_59 (u : Ux_) {P : Int64 → St_ → Prop}  (σ : St_) (x1 : Int64) (x3 : Int32) (H : (((σ 2 0) ≤ x3 → GG_ (zm_ u) mX10_digest (Pl_ P) 82 [(0, .ref (uq_ u 0)), (1, .long x1), (3, .int (iI_ 0))] [] σ) ∧ (¬ (σ 2 0) ≤ x3 → MMl_ (zm_ u) mX10_memberDigest [.ref (uq_ u 0), .long x1, .int x3] σ (fun r3 σ2 => GG_ (zm_ u) mX10_digest (Pl_ P) 59 [(0, .ref (uq_ u 0)), (1, .long r3), (3, .int (x3 + (iI_ 1)))] [] σ2)))) : GG_ (zm_ u) mX10_digest (Pl_ P) 59 [(0, .ref (uq_ u 0)), (1, .long x1), (3, .int x3)] [] σ := by
  refine g_iload_n dX10_digest_59 2 rfl rfl ?_
  refine g_aload_n dX10_digest_60 0 rfl rfl ?_
  refine gm_LinenHouseModel_members w_815 rfl dX10_digest_61 ?_
  refine g_icmp_ge 80 dX10_digest_64 (by decide) (fun c1 => ?_) (fun c1 => ?_)
  · replace H := H.1 c1
    refine g_iconst (v := (iI_ 0)) dX10_digest_80 (by decide) ?_
    refine g_istore_n (L' := [(3, .int (iI_ 0)), (0, .ref (uq_ u 0)), (1, .long x1)]) dX10_digest_81 rfl (by decide) rfl ?_
    exact GG_.sub [1, 2, 0] rfl H
  · replace H := H.2 c1
    refine g_aload_n dX10_digest_67 0 rfl rfl ?_
    refine g_lload_n dX10_digest_68 1 rfl rfl ?_
    refine g_iload_n dX10_digest_69 2 rfl rfl ?_
    refine k_X10_memberDigest w_1310 rfl ⟨Nat.le_of_ble_eq_true rfl, Nat.le_of_ble_eq_true rfl⟩ (Nat.le_of_ble_eq_true rfl) dX10_digest_70 H (fun r3 σ2 H => ?_)
    refine g_lstore_n (L' := [(1, .long r3), (0, .ref (uq_ u 0)), (3, .int x3)]) dX10_digest_73 rfl (by decide) rfl ?_
    refine g_iinc (v := (x3 + (iI_ 1))) (L' := [(3, .int (x3 + (iI_ 1))), (1, .long r3), (0, .ref (uq_ u 0))]) dX10_digest_74 2 rfl rfl (by decide) rfl ?_
    refine g_goto 59 dX10_digest_77 (by decide) ?_
    exact GG_.sub [2, 1, 0] rfl H
set_option maxHeartbeats 4000000 in
set_option maxRecDepth 100000 in
theorem bX10_digest_82 (u : Ux_) {P : Int64 → St_ → Prop}  (σ : St_) (x1 : Int64) (x3 : Int32) (H : (((iI_ 10) ≤ x3 → MMi_ (zm_ u) mX10_toldNow [.ref (uq_ u 0)] σ (fun r3 σ2 => MMi_ (zm_ u) mX10_pleasedNow [.ref (uq_ u 0)] σ2 (fun r5 σ4 => GG_ (zm_ u) mX10_digest (Pl_ P) 127 [(0, .ref (uq_ u 0)), (1, .long (((iL_ 31) * (((iL_ 31) * x1) + (Int32.toInt64 r3))) + (Int32.toInt64 r5))), (3, .int (iI_ 0))] [] σ4))) ∧ (¬ (iI_ 10) ≤ x3 → MMl_ (zm_ u) mX10_nightDigest [.ref (uq_ u 0), .long x1, .int x3] σ (fun r7 σ6 => GG_ (zm_ u) mX10_digest (Pl_ P) 82 [(0, .ref (uq_ u 0)), (1, .long r7), (3, .int (x3 + (iI_ 1)))] [] σ6)))) : GG_ (zm_ u) mX10_digest (Pl_ P) 82 [(0, .ref (uq_ u 0)), (1, .long x1), (3, .int x3)] [] σ := by
  refine g_iload_n dX10_digest_82 2 rfl rfl ?_
  refine g_bipush (v := (iI_ 10)) dX10_digest_83 (by decide) ?_
  refine g_icmp_ge 101 dX10_digest_85 (by decide) (fun c1 => ?_) (fun c1 => ?_)
  · replace H := H.1 c1
    refine g_ldc2 (v := (iL_ 31)) (by decide) w_1308 rfl dX10_digest_101 ?_
    refine g_lload_n dX10_digest_104 1 rfl rfl ?_
    refine g_lmul dX10_digest_105 ?_
    refine g_aload_n dX10_digest_106 0 rfl rfl ?_
    refine k_X10_toldNow w_1119 rfl ⟨Nat.le_of_ble_eq_true rfl, Nat.le_of_ble_eq_true rfl⟩ (Nat.le_of_ble_eq_true rfl) dX10_digest_107 H (fun r3 σ2 H => ?_)
    refine g_i2l dX10_digest_110 ?_
    refine g_ladd dX10_digest_111 ?_
    refine g_lstore_n (L' := [(1, .long (((iL_ 31) * x1) + (Int32.toInt64 r3))), (0, .ref (uq_ u 0)), (3, .int x3)]) dX10_digest_112 rfl (by decide) rfl ?_
    refine g_ldc2 (v := (iL_ 31)) (by decide) w_1308 rfl dX10_digest_113 ?_
    refine g_lload_n dX10_digest_116 0 rfl rfl ?_
    refine g_lmul dX10_digest_117 ?_
    refine g_aload_n dX10_digest_118 1 rfl rfl ?_
    refine k_X10_pleasedNow w_1127 rfl ⟨Nat.le_of_ble_eq_true rfl, Nat.le_of_ble_eq_true rfl⟩ (Nat.le_of_ble_eq_true rfl) dX10_digest_119 H (fun r5 σ4 H => ?_)
    refine g_i2l dX10_digest_122 ?_
    refine g_ladd dX10_digest_123 ?_
    refine g_lstore_n (L' := [(1, .long (((iL_ 31) * (((iL_ 31) * x1) + (Int32.toInt64 r3))) + (Int32.toInt64 r5))), (0, .ref (uq_ u 0)), (3, .int x3)]) dX10_digest_124 rfl (by decide) rfl ?_
    refine g_iconst (v := (iI_ 0)) dX10_digest_125 (by decide) ?_
    refine g_istore_n (L' := [(3, .int (iI_ 0)), (1, .long (((iL_ 31) * (((iL_ 31) * x1) + (Int32.toInt64 r3))) + (Int32.toInt64 r5))), (0, .ref (uq_ u 0))]) dX10_digest_126 rfl (by decide) rfl ?_
    exact GG_.sub [2, 1, 0] rfl H
  · replace H := H.2 c1
    refine g_aload_n dX10_digest_88 0 rfl rfl ?_
    refine g_lload_n dX10_digest_89 1 rfl rfl ?_
    refine g_iload_n dX10_digest_90 2 rfl rfl ?_
    refine k_X10_nightDigest w_1318 rfl ⟨Nat.le_of_ble_eq_true rfl, Nat.le_of_ble_eq_true rfl⟩ (Nat.le_of_ble_eq_true rfl) dX10_digest_91 H (fun r7 σ6 H => ?_)
    refine g_lstore_n (L' := [(1, .long r7), (0, .ref (uq_ u 0)), (3, .int x3)]) dX10_digest_94 rfl (by decide) rfl ?_
    refine g_iinc (v := (x3 + (iI_ 1))) (L' := [(3, .int (x3 + (iI_ 1))), (1, .long r7), (0, .ref (uq_ u 0))]) dX10_digest_95 2 rfl rfl (by decide) rfl ?_
    refine g_goto 82 dX10_digest_98 (by decide) ?_
    exact GG_.sub [2, 1, 0] rfl H
set_option maxHeartbeats 4000000 in
set_option maxRecDepth 100000 in
theorem bX10_digest_127 (u : Ux_) {P : Int64 → St_ → Prop}  (σ : St_) (x1 : Int64) (x3 : Int32) (H : (((iI_ 3) ≤ x3 → MMi_ (zm_ u) mX10_ringNow [.ref (uq_ u 0)] σ (fun r3 σ2 => MMi_ (zm_ u) mX10_neverNow [.ref (uq_ u 0)] σ2 (fun r5 σ4 => MMl_ (zm_ u) mX10_ajarOf [.ref (uq_ u 0), .int (iI_ 5), .int (iI_ 5), .int (iI_ 1), .int (iI_ 7), .int (iI_ 0)] σ4 (fun r7 σ6 => MMl_ (zm_ u) mX10_ajarOf [.ref (uq_ u 0), .int (iI_ 5), .int (iI_ 5), .int (iI_ 1), .int (iI_ 7), .int (iI_ 1)] σ6 (fun r9 σ8 => MMi_ (zm_ u) mX10_eveningsOf [.ref (uq_ u 0), .int (iI_ 7), .int (iI_ 0)] σ8 (fun r11 σ10 => MMi_ (zm_ u) mX10_eveningsOf [.ref (uq_ u 0), .int (iI_ 7), .int (iI_ 1)] σ10 (fun r13 σ12 => P (((iL_ 31) * (((iL_ 31) * (((iL_ 31) * (((iL_ 31) * (((iL_ 31) * (((iL_ 31) * x1) + (Int32.toInt64 r3))) + (Int32.toInt64 r5))) + r7)) + r9)) + (Int32.toInt64 r11))) + (Int32.toInt64 r13)) σ12))))))) ∧ (¬ (iI_ 3) ≤ x3 → MMi_ (zm_ u) mX10_agendaOf [.ref (uq_ u 0), .int x3] σ (fun r15 σ14 => GG_ (zm_ u) mX10_digest (Pl_ P) 127 [(0, .ref (uq_ u 0)), (1, .long (((iL_ 31) * x1) + (Int32.toInt64 r15))), (3, .int (x3 + (iI_ 1)))] [] σ14)))) : GG_ (zm_ u) mX10_digest (Pl_ P) 127 [(0, .ref (uq_ u 0)), (1, .long x1), (3, .int x3)] [] σ := by
  refine g_iload_n dX10_digest_127 2 rfl rfl ?_
  refine g_iconst (v := (iI_ 3)) dX10_digest_128 (by decide) ?_
  refine g_icmp_ge 151 dX10_digest_129 (by decide) (fun c1 => ?_) (fun c1 => ?_)
  · replace H := H.1 c1
    refine g_ldc2 (v := (iL_ 31)) (by decide) w_1308 rfl dX10_digest_151 ?_
    refine g_lload_n dX10_digest_154 1 rfl rfl ?_
    refine g_lmul dX10_digest_155 ?_
    refine g_aload_n dX10_digest_156 0 rfl rfl ?_
    refine k_X10_ringNow w_1189 rfl ⟨Nat.le_of_ble_eq_true rfl, Nat.le_of_ble_eq_true rfl⟩ (Nat.le_of_ble_eq_true rfl) dX10_digest_157 H (fun r3 σ2 H => ?_)
    refine g_i2l dX10_digest_160 ?_
    refine g_ladd dX10_digest_161 ?_
    refine g_lstore_n (L' := [(1, .long (((iL_ 31) * x1) + (Int32.toInt64 r3))), (0, .ref (uq_ u 0)), (3, .int x3)]) dX10_digest_162 rfl (by decide) rfl ?_
    refine g_ldc2 (v := (iL_ 31)) (by decide) w_1308 rfl dX10_digest_163 ?_
    refine g_lload_n dX10_digest_166 0 rfl rfl ?_
    refine g_lmul dX10_digest_167 ?_
    refine g_aload_n dX10_digest_168 1 rfl rfl ?_
    refine k_X10_neverNow w_1217 rfl ⟨Nat.le_of_ble_eq_true rfl, Nat.le_of_ble_eq_true rfl⟩ (Nat.le_of_ble_eq_true rfl) dX10_digest_169 H (fun r5 σ4 H => ?_)
    refine g_i2l dX10_digest_172 ?_
    refine g_ladd dX10_digest_173 ?_
    refine g_lstore_n (L' := [(1, .long (((iL_ 31) * (((iL_ 31) * x1) + (Int32.toInt64 r3))) + (Int32.toInt64 r5))), (0, .ref (uq_ u 0)), (3, .int x3)]) dX10_digest_174 rfl (by decide) rfl ?_
    refine g_ldc2 (v := (iL_ 31)) (by decide) w_1308 rfl dX10_digest_175 ?_
    refine g_lload_n dX10_digest_178 0 rfl rfl ?_
    refine g_lmul dX10_digest_179 ?_
    refine g_aload_n dX10_digest_180 1 rfl rfl ?_
    refine g_iconst (v := (iI_ 5)) dX10_digest_181 (by decide) ?_
    refine g_iconst (v := (iI_ 5)) dX10_digest_182 (by decide) ?_
    refine g_iconst (v := (iI_ 1)) dX10_digest_183 (by decide) ?_
    refine g_bipush (v := (iI_ 7)) dX10_digest_184 (by decide) ?_
    refine g_iconst (v := (iI_ 0)) dX10_digest_186 (by decide) ?_
    refine k_X10_ajarOf w_1249 rfl ⟨Nat.le_of_ble_eq_true rfl, Nat.le_of_ble_eq_true rfl⟩ (Nat.le_of_ble_eq_true rfl) dX10_digest_187 H (fun r7 σ6 H => ?_)
    refine g_ladd dX10_digest_190 ?_
    refine g_lstore_n (L' := [(1, .long (((iL_ 31) * (((iL_ 31) * (((iL_ 31) * x1) + (Int32.toInt64 r3))) + (Int32.toInt64 r5))) + r7)), (0, .ref (uq_ u 0)), (3, .int x3)]) dX10_digest_191 rfl (by decide) rfl ?_
    refine g_ldc2 (v := (iL_ 31)) (by decide) w_1308 rfl dX10_digest_192 ?_
    refine g_lload_n dX10_digest_195 0 rfl rfl ?_
    refine g_lmul dX10_digest_196 ?_
    refine g_aload_n dX10_digest_197 1 rfl rfl ?_
    refine g_iconst (v := (iI_ 5)) dX10_digest_198 (by decide) ?_
    refine g_iconst (v := (iI_ 5)) dX10_digest_199 (by decide) ?_
    refine g_iconst (v := (iI_ 1)) dX10_digest_200 (by decide) ?_
    refine g_bipush (v := (iI_ 7)) dX10_digest_201 (by decide) ?_
    refine g_iconst (v := (iI_ 1)) dX10_digest_203 (by decide) ?_
    refine k_X10_ajarOf w_1249 rfl ⟨Nat.le_of_ble_eq_true rfl, Nat.le_of_ble_eq_true rfl⟩ (Nat.le_of_ble_eq_true rfl) dX10_digest_204 H (fun r9 σ8 H => ?_)
    refine g_ladd dX10_digest_207 ?_
    refine g_lstore_n (L' := [(1, .long (((iL_ 31) * (((iL_ 31) * (((iL_ 31) * (((iL_ 31) * x1) + (Int32.toInt64 r3))) + (Int32.toInt64 r5))) + r7)) + r9)), (0, .ref (uq_ u 0)), (3, .int x3)]) dX10_digest_208 rfl (by decide) rfl ?_
    refine g_ldc2 (v := (iL_ 31)) (by decide) w_1308 rfl dX10_digest_209 ?_
    refine g_lload_n dX10_digest_212 0 rfl rfl ?_
    refine g_lmul dX10_digest_213 ?_
    refine g_aload_n dX10_digest_214 1 rfl rfl ?_
    refine g_bipush (v := (iI_ 7)) dX10_digest_215 (by decide) ?_
    refine g_iconst (v := (iI_ 0)) dX10_digest_217 (by decide) ?_
    refine k_X10_eveningsOf w_1257 rfl ⟨Nat.le_of_ble_eq_true rfl, Nat.le_of_ble_eq_true rfl⟩ (Nat.le_of_ble_eq_true rfl) dX10_digest_218 H (fun r11 σ10 H => ?_)
    refine g_i2l dX10_digest_221 ?_
    refine g_ladd dX10_digest_222 ?_
    refine g_lstore_n (L' := [(1, .long (((iL_ 31) * (((iL_ 31) * (((iL_ 31) * (((iL_ 31) * (((iL_ 31) * x1) + (Int32.toInt64 r3))) + (Int32.toInt64 r5))) + r7)) + r9)) + (Int32.toInt64 r11))), (0, .ref (uq_ u 0)), (3, .int x3)]) dX10_digest_223 rfl (by decide) rfl ?_
    refine g_ldc2 (v := (iL_ 31)) (by decide) w_1308 rfl dX10_digest_224 ?_
    refine g_lload_n dX10_digest_227 0 rfl rfl ?_
    refine g_lmul dX10_digest_228 ?_
    refine g_aload_n dX10_digest_229 1 rfl rfl ?_
    refine g_bipush (v := (iI_ 7)) dX10_digest_230 (by decide) ?_
    refine g_iconst (v := (iI_ 1)) dX10_digest_232 (by decide) ?_
    refine k_X10_eveningsOf w_1257 rfl ⟨Nat.le_of_ble_eq_true rfl, Nat.le_of_ble_eq_true rfl⟩ (Nat.le_of_ble_eq_true rfl) dX10_digest_233 H (fun r13 σ12 H => ?_)
    refine g_i2l dX10_digest_236 ?_
    refine g_ladd dX10_digest_237 ?_
    exact g_lret rfl dX10_digest_238 ⟨_, rfl, H⟩
  · replace H := H.2 c1
    refine g_ldc2 (v := (iL_ 31)) (by decide) w_1308 rfl dX10_digest_132 ?_
    refine g_lload_n dX10_digest_135 1 rfl rfl ?_
    refine g_lmul dX10_digest_136 ?_
    refine g_aload_n dX10_digest_137 0 rfl rfl ?_
    refine g_iload_n dX10_digest_138 2 rfl rfl ?_
    refine k_X10_agendaOf w_1155 rfl ⟨Nat.le_of_ble_eq_true rfl, Nat.le_of_ble_eq_true rfl⟩ (Nat.le_of_ble_eq_true rfl) dX10_digest_139 H (fun r15 σ14 H => ?_)
    refine g_i2l dX10_digest_142 ?_
    refine g_ladd dX10_digest_143 ?_
    refine g_lstore_n (L' := [(1, .long (((iL_ 31) * x1) + (Int32.toInt64 r15))), (0, .ref (uq_ u 0)), (3, .int x3)]) dX10_digest_144 rfl (by decide) rfl ?_
    refine g_iinc (v := (x3 + (iI_ 1))) (L' := [(3, .int (x3 + (iI_ 1))), (1, .long (((iL_ 31) * x1) + (Int32.toInt64 r15))), (0, .ref (uq_ u 0))]) dX10_digest_145 2 rfl rfl (by decide) rfl ?_
    refine g_goto 127 dX10_digest_148 (by decide) ?_
    exact GG_.sub [2, 1, 0] rfl H
set_option maxHeartbeats 4000000 in
set_option maxRecDepth 100000 in
theorem eX10_digest (u : Ux_) {P : Int64 → St_ → Prop}  (σ : St_)  (H : GG_ (zm_ u) mX10_digest (Pl_ P) 6 [(0, .ref (uq_ u 0)), (1, .long (iL_ 17)), (3, .int (iI_ 0))] [] σ) : MMl_ (zm_ u) mX10_digest [.ref (uq_ u 0)] σ P := by
  refine MM_.of (L := [(0, .ref (uq_ u 0))]) (by decide +kernel) (Nat.le_of_ble_eq_true rfl) rfl ?_
  refine g_ldc2 (v := (iL_ 17)) (by decide) w_1307 rfl dX10_digest_0 ?_
  refine g_lstore_n (L' := [(1, .long (iL_ 17)), (0, .ref (uq_ u 0))]) dX10_digest_3 rfl (by decide) rfl ?_
  refine g_iconst (v := (iI_ 0)) dX10_digest_4 (by decide) ?_
  refine g_istore_n (L' := [(3, .int (iI_ 0)), (1, .long (iL_ 17)), (0, .ref (uq_ u 0))]) dX10_digest_5 rfl (by decide) rfl ?_
  exact GG_.sub [2, 1, 0] rfl H
