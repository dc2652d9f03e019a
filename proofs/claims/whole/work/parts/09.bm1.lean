set_option maxHeartbeats 4000000 in
set_option maxRecDepth 100000 in
theorem eX10_isMember (u : Ux_) {P : Int32 → St_ → Prop}  (σ : St_) (x1 : Int32) (H : MMv_ (zm_ u) mX10_reads [.ref (uq_ u 0)] σ (fun σ1 => MMi_ (zm_ u) mX10_in [.int x1, .int (iI_ 0), .int ((σ1 2 0) - (iI_ 1))] σ1 (fun r3 σ2 => (r3 = iI_ 0 ∨ r3 = iI_ 1) ∧ P r3 σ2))) : MMi_ (zm_ u) mX10_isMember [.ref (uq_ u 0), .int x1] σ P := by
  refine MM_.of (L := [(0, .ref (uq_ u 0)), (1, .int x1)]) (by decide +kernel) (Nat.le_of_ble_eq_true rfl) rfl ?_
  refine g_aload_n dX10_isMember_0 0 rfl rfl ?_
  refine k_X10_reads w_1004 rfl ⟨Nat.le_of_ble_eq_true rfl, Nat.le_of_ble_eq_true rfl⟩ (Nat.le_of_ble_eq_true rfl) dX10_isMember_1 H (fun σ1 H => ?_)
  refine g_iload_n dX10_isMember_4 1 rfl rfl ?_
  refine g_iconst (v := (iI_ 0)) dX10_isMember_5 (by decide) ?_
  refine g_aload_n dX10_isMember_6 0 rfl rfl ?_
  refine gm_LinenHouseModel_members w_815 rfl dX10_isMember_7 ?_
  refine g_iconst (v := (iI_ 1)) dX10_isMember_10 (by decide) ?_
  refine g_isub dX10_isMember_11 ?_
  refine k_X10_in w_954 rfl ⟨Nat.le_of_ble_eq_true rfl, Nat.le_of_ble_eq_true rfl⟩ (Nat.le_of_ble_eq_true rfl) dX10_isMember_12 H (fun r3 σ2 H => ?_)
  obtain ⟨hz, H⟩ := H
  exact g_zret rfl hz dX10_isMember_15 ⟨_, rfl, H⟩
set_option maxHeartbeats 4000000 in
set_option maxRecDepth 100000 in
theorem eX10_memberOf (u : Ux_) {P : Int32 → St_ → Prop}  (σ : St_) (x1 : Int32) (x2 : Int32) (H : ((¬ x2 = iI_ 0 → ((¬ x2 = (iI_ 1) → vp_in ((((iI_ 3) * x1) + x2) - (iI_ 2)) 27 ∧ P (σ 5 (Int32.toNatClampNeg ((((iI_ 3) * x1) + x2) - (iI_ 2)))) σ) ∧ (x2 = (iI_ 1) → vp_in x1 9 ∧ P (σ 4 (Int32.toNatClampNeg x1)) σ))) ∧ (x2 = iI_ 0 → vp_in x1 9 ∧ P (σ 3 (Int32.toNatClampNeg x1)) σ))) : MMi_ (zm_ u) mX10_memberOf [.ref (uq_ u 0), .int x1, .int x2] σ P := by
  refine MM_.of (L := [(0, .ref (uq_ u 0)), (1, .int x1), (2, .int x2)]) (by decide +kernel) (Nat.le_of_ble_eq_true rfl) rfl ?_
  refine g_iload_n dX10_memberOf_0 2 rfl rfl ?_
  refine g_if_ne 13 dX10_memberOf_1 (by decide) (fun c1 => ?_) (fun c1 => ?_)
  · replace H := H.1 c1
    refine g_iload_n dX10_memberOf_13 2 rfl rfl ?_
    refine g_iconst (v := (iI_ 1)) dX10_memberOf_14 (by decide) ?_
    refine g_icmp_ne 27 dX10_memberOf_15 (by decide) (fun c2 => ?_) (fun c2 => ?_)
    · replace H := H.1 c2
      refine g_aload_n dX10_memberOf_27 0 rfl rfl ?_
      refine gm_LinenHouseModel_wants w_818 rfl dX10_memberOf_28 ?_
      refine g_iconst (v := (iI_ 3)) dX10_memberOf_31 (by decide) ?_
      refine g_iload_n dX10_memberOf_32 1 rfl rfl ?_
      refine g_imul dX10_memberOf_33 ?_
      refine g_iload_n dX10_memberOf_34 2 rfl rfl ?_
      refine g_iadd dX10_memberOf_35 ?_
      refine g_iconst (v := (iI_ 2)) dX10_memberOf_36 (by decide) ?_
      refine g_isub dX10_memberOf_37 ?_
      obtain ⟨h3, H⟩ := H
      refine am_5 h3 dX10_memberOf_38 ?_
      exact g_iret rfl dX10_memberOf_39 ⟨_, rfl, H⟩
    · replace H := H.2 c2
      refine g_aload_n dX10_memberOf_18 0 rfl rfl ?_
      refine gm_LinenHouseModel_shelves w_817 rfl dX10_memberOf_19 ?_
      refine g_iload_n dX10_memberOf_22 1 rfl rfl ?_
      obtain ⟨h4, H⟩ := H
      refine am_4 h4 dX10_memberOf_23 ?_
      refine g_goto 39 dX10_memberOf_24 (by decide) ?_
      exact g_iret rfl dX10_memberOf_39 ⟨_, rfl, H⟩
  · replace H := H.2 c1
    refine g_aload_n dX10_memberOf_4 0 rfl rfl ?_
    refine gm_LinenHouseModel_sorts w_816 rfl dX10_memberOf_5 ?_
    refine g_iload_n dX10_memberOf_8 1 rfl rfl ?_
    obtain ⟨h5, H⟩ := H
    refine am_3 h5 dX10_memberOf_9 ?_
    refine g_goto 39 dX10_memberOf_10 (by decide) ?_
    exact g_iret rfl dX10_memberOf_39 ⟨_, rfl, H⟩
set_option maxHeartbeats 4000000 in
set_option maxRecDepth 100000 in
theorem eX10_member (u : Ux_) {P : Int32 → St_ → Prop}  (σ : St_) (x1 : Int32) (x2 : Int32) (H : MMi_ (zm_ u) mX10_isMember [.ref (uq_ u 0), .int x1] σ (fun r2 σ1 => ((r2 = iI_ 0 → P (iI_ (-2)) σ1) ∧ (¬ r2 = iI_ 0 → MMi_ (zm_ u) mX10_in [.int x2, .int (iI_ 0), .int (iI_ 4)] σ1 (fun r5 σ4 => ((r5 = iI_ 0 → P (iI_ (-2)) σ4) ∧ (¬ r5 = iI_ 0 → MMi_ (zm_ u) mX10_memberOf [.ref (uq_ u 0), .int x1, .int x2] σ4 (fun r8 σ7 => P r8 σ7)))))))) : MMi_ (zm_ u) mX10_member [.ref (uq_ u 0), .int x1, .int x2] σ P := by
  refine MM_.of (L := [(0, .ref (uq_ u 0)), (1, .int x1), (2, .int x2)]) (by decide +kernel) (Nat.le_of_ble_eq_true rfl) rfl ?_
  refine g_aload_n dX10_member_0 0 rfl rfl ?_
  refine g_iload_n dX10_member_1 1 rfl rfl ?_
  refine k_X10_isMember w_1000 rfl ⟨Nat.le_of_ble_eq_true rfl, Nat.le_of_ble_eq_true rfl⟩ (Nat.le_of_ble_eq_true rfl) dX10_member_2 H (fun r2 σ1 H => ?_)
  refine g_if_eq 26 dX10_member_5 (by decide) (fun c3 => ?_) (fun c3 => ?_)
  · replace H := H.1 c3
    refine g_bipush (v := (iI_ (-2))) dX10_member_26 (by decide) ?_
    exact g_iret rfl dX10_member_28 ⟨_, rfl, H⟩
  · replace H := H.2 c3
    refine g_iload_n dX10_member_8 2 rfl rfl ?_
    refine g_iconst (v := (iI_ 0)) dX10_member_9 (by decide) ?_
    refine g_iconst (v := (iI_ 4)) dX10_member_10 (by decide) ?_
    refine k_X10_in w_954 rfl ⟨Nat.le_of_ble_eq_true rfl, Nat.le_of_ble_eq_true rfl⟩ (Nat.le_of_ble_eq_true rfl) dX10_member_11 H (fun r5 σ4 H => ?_)
    refine g_if_eq 26 dX10_member_14 (by decide) (fun c6 => ?_) (fun c6 => ?_)
    · replace H := H.1 c6
      refine g_bipush (v := (iI_ (-2))) dX10_member_26 (by decide) ?_
      exact g_iret rfl dX10_member_28 ⟨_, rfl, H⟩
    · replace H := H.2 c6
      refine g_aload_n dX10_member_17 0 rfl rfl ?_
      refine g_iload_n dX10_member_18 1 rfl rfl ?_
      refine g_iload_n dX10_member_19 2 rfl rfl ?_
      refine k_X10_memberOf w_1008 rfl ⟨Nat.le_of_ble_eq_true rfl, Nat.le_of_ble_eq_true rfl⟩ (Nat.le_of_ble_eq_true rfl) dX10_member_20 H (fun r8 σ7 H => ?_)
      refine g_goto 28 dX10_member_23 (by decide) ?_
      exact g_iret rfl dX10_member_28 ⟨_, rfl, H⟩
set_option maxHeartbeats 4000000 in
set_option maxRecDepth 100000 in
theorem eX10_motionOf (u : Ux_) {P : Int32 → St_ → Prop}  (σ : St_) (x1 : Int32) (x2 : Int32) (H : MMv_ (zm_ u) mX10_reads [.ref (uq_ u 0)] σ (fun σ1 => ((x1 < (σ1 6 0) → ((¬ x2 = iI_ 0 → ((¬ x2 = (iI_ 1) → vp_in x1 11 ∧ P (σ1 9 (Int32.toNatClampNeg x1)) σ1) ∧ (x2 = (iI_ 1) → vp_in x1 11 ∧ P (σ1 8 (Int32.toNatClampNeg x1)) σ1))) ∧ (x2 = iI_ 0 → vp_in x1 11 ∧ P (σ1 7 (Int32.toNatClampNeg x1)) σ1))) ∧ (¬ x1 < (σ1 6 0) → P (iI_ (-1)) σ1)))) : MMi_ (zm_ u) mX10_motionOf [.ref (uq_ u 0), .int x1, .int x2] σ P := by
  refine MM_.of (L := [(0, .ref (uq_ u 0)), (1, .int x1), (2, .int x2)]) (by decide +kernel) (Nat.le_of_ble_eq_true rfl) rfl ?_
  refine g_aload_n dX10_motionOf_0 0 rfl rfl ?_
  refine k_X10_reads w_1004 rfl ⟨Nat.le_of_ble_eq_true rfl, Nat.le_of_ble_eq_true rfl⟩ (Nat.le_of_ble_eq_true rfl) dX10_motionOf_1 H (fun σ1 H => ?_)
  refine g_iload_n dX10_motionOf_4 1 rfl rfl ?_
  refine g_aload_n dX10_motionOf_5 0 rfl rfl ?_
  refine gm_LinenHouseModel_motions w_819 rfl dX10_motionOf_6 ?_
  refine g_icmp_lt 16 dX10_motionOf_9 (by decide) (fun c2 => ?_) (fun c2 => ?_)
  · replace H := H.1 c2
    refine g_iload_n dX10_motionOf_16 2 rfl rfl ?_
    refine g_if_ne 29 dX10_motionOf_17 (by decide) (fun c3 => ?_) (fun c3 => ?_)
    · replace H := H.1 c3
      refine g_iload_n dX10_motionOf_29 2 rfl rfl ?_
      refine g_iconst (v := (iI_ 1)) dX10_motionOf_30 (by decide) ?_
      refine g_icmp_ne 43 dX10_motionOf_31 (by decide) (fun c4 => ?_) (fun c4 => ?_)
      · replace H := H.1 c4
        refine g_aload_n dX10_motionOf_43 0 rfl rfl ?_
        refine gm_LinenHouseModel_hows w_822 rfl dX10_motionOf_44 ?_
        refine g_iload_n dX10_motionOf_47 1 rfl rfl ?_
        obtain ⟨h5, H⟩ := H
        refine am_9 h5 dX10_motionOf_48 ?_
        exact g_iret rfl dX10_motionOf_49 ⟨_, rfl, H⟩
      · replace H := H.2 c4
        refine g_aload_n dX10_motionOf_34 0 rfl rfl ?_
        refine gm_LinenHouseModel_others w_821 rfl dX10_motionOf_35 ?_
        refine g_iload_n dX10_motionOf_38 1 rfl rfl ?_
        obtain ⟨h6, H⟩ := H
        refine am_8 h6 dX10_motionOf_39 ?_
        refine g_goto 49 dX10_motionOf_40 (by decide) ?_
        exact g_iret rfl dX10_motionOf_49 ⟨_, rfl, H⟩
    · replace H := H.2 c3
      refine g_aload_n dX10_motionOf_20 0 rfl rfl ?_
      refine gm_LinenHouseModel_firsts w_820 rfl dX10_motionOf_21 ?_
      refine g_iload_n dX10_motionOf_24 1 rfl rfl ?_
      obtain ⟨h7, H⟩ := H
      refine am_7 h7 dX10_motionOf_25 ?_
      refine g_goto 49 dX10_motionOf_26 (by decide) ?_
      exact g_iret rfl dX10_motionOf_49 ⟨_, rfl, H⟩
  · replace H := H.2 c2
    refine g_iconst (v := (iI_ (-1))) dX10_motionOf_12 (by decide) ?_
    refine g_goto 49 dX10_motionOf_13 (by decide) ?_
    exact g_iret rfl dX10_motionOf_49 ⟨_, rfl, H⟩
set_option maxHeartbeats 4000000 in
set_option maxRecDepth 100000 in
theorem eX10_motion (u : Ux_) {P : Int32 → St_ → Prop}  (σ : St_) (x1 : Int32) (x2 : Int32) (H : MMi_ (zm_ u) mX10_isNight [.int x1] σ (fun r2 σ1 => ((r2 = iI_ 0 → P (iI_ (-2)) σ1) ∧ (¬ r2 = iI_ 0 → MMi_ (zm_ u) mX10_in [.int x2, .int (iI_ 0), .int (iI_ 2)] σ1 (fun r5 σ4 => ((r5 = iI_ 0 → P (iI_ (-2)) σ4) ∧ (¬ r5 = iI_ 0 → MMi_ (zm_ u) mX10_motionOf [.ref (uq_ u 0), .int x1, .int x2] σ4 (fun r8 σ7 => P r8 σ7)))))))) : MMi_ (zm_ u) mX10_motion [.ref (uq_ u 0), .int x1, .int x2] σ P := by
  refine MM_.of (L := [(0, .ref (uq_ u 0)), (1, .int x1), (2, .int x2)]) (by decide +kernel) (Nat.le_of_ble_eq_true rfl) rfl ?_
  refine g_iload_n dX10_motion_0 1 rfl rfl ?_
  refine k_X10_isNight w_1016 rfl ⟨Nat.le_of_ble_eq_true rfl, Nat.le_of_ble_eq_true rfl⟩ (Nat.le_of_ble_eq_true rfl) dX10_motion_1 H (fun r2 σ1 H => ?_)
  refine g_if_eq 25 dX10_motion_4 (by decide) (fun c3 => ?_) (fun c3 => ?_)
  · replace H := H.1 c3
    refine g_bipush (v := (iI_ (-2))) dX10_motion_25 (by decide) ?_
    exact g_iret rfl dX10_motion_27 ⟨_, rfl, H⟩
  · replace H := H.2 c3
    refine g_iload_n dX10_motion_7 2 rfl rfl ?_
    refine g_iconst (v := (iI_ 0)) dX10_motion_8 (by decide) ?_
    refine g_iconst (v := (iI_ 2)) dX10_motion_9 (by decide) ?_
    refine k_X10_in w_954 rfl ⟨Nat.le_of_ble_eq_true rfl, Nat.le_of_ble_eq_true rfl⟩ (Nat.le_of_ble_eq_true rfl) dX10_motion_10 H (fun r5 σ4 H => ?_)
    refine g_if_eq 25 dX10_motion_13 (by decide) (fun c6 => ?_) (fun c6 => ?_)
    · replace H := H.1 c6
      refine g_bipush (v := (iI_ (-2))) dX10_motion_25 (by decide) ?_
      exact g_iret rfl dX10_motion_27 ⟨_, rfl, H⟩
    · replace H := H.2 c6
      refine g_aload_n dX10_motion_16 0 rfl rfl ?_
      refine g_iload_n dX10_motion_17 1 rfl rfl ?_
      refine g_iload_n dX10_motion_18 2 rfl rfl ?_
      refine k_X10_motionOf w_1019 rfl ⟨Nat.le_of_ble_eq_true rfl, Nat.le_of_ble_eq_true rfl⟩ (Nat.le_of_ble_eq_true rfl) dX10_motion_19 H (fun r8 σ7 H => ?_)
      refine g_goto 27 dX10_motion_22 (by decide) ?_
      exact g_iret rfl dX10_motion_27 ⟨_, rfl, H⟩
set_option maxHeartbeats 4000000 in
set_option maxRecDepth 100000 in
theorem eX10_weight (u : Ux_) {P : Int32 → St_ → Prop}  (σ : St_) (x1 : Int32) (x2 : Int32) (H : MMi_ (zm_ u) mX10_in [.int x1, .int (iI_ 0), .int (iI_ 2)] σ (fun r2 σ1 => ((r2 = iI_ 0 → P (iI_ (-2)) σ1) ∧ (¬ r2 = iI_ 0 → MMi_ (zm_ u) mX10_in [.int x2, .int (iI_ 0), .int (iI_ 9)] σ1 (fun r5 σ4 => ((¬ r5 = iI_ 0 → vp_in x1 3 ∧ vp_in x1 3 ∧ (∀ σ8, σ8 = su_ σ4 10 (Int32.toNatClampNeg x1) x2 → P (σ4 10 (Int32.toNatClampNeg x1)) σ8)) ∧ (r5 = iI_ 0 → P (iI_ (-2)) σ4))))))) : MMi_ (zm_ u) mX10_weight [.ref (uq_ u 0), .int x1, .int x2] σ P := by
  refine MM_.of (L := [(0, .ref (uq_ u 0)), (1, .int x1), (2, .int x2)]) (by decide +kernel) (Nat.le_of_ble_eq_true rfl) rfl ?_
  refine g_iload_n dX10_weight_0 1 rfl rfl ?_
  refine g_iconst (v := (iI_ 0)) dX10_weight_1 (by decide) ?_
  refine g_iconst (v := (iI_ 2)) dX10_weight_2 (by decide) ?_
  refine k_X10_in w_954 rfl ⟨Nat.le_of_ble_eq_true rfl, Nat.le_of_ble_eq_true rfl⟩ (Nat.le_of_ble_eq_true rfl) dX10_weight_3 H (fun r2 σ1 H => ?_)
  refine g_if_eq 19 dX10_weight_6 (by decide) (fun c3 => ?_) (fun c3 => ?_)
  · replace H := H.1 c3
    refine g_bipush (v := (iI_ (-2))) dX10_weight_19 (by decide) ?_
    exact g_iret rfl dX10_weight_21 ⟨_, rfl, H⟩
  · replace H := H.2 c3
    refine g_iload_n dX10_weight_9 2 rfl rfl ?_
    refine g_iconst (v := (iI_ 0)) dX10_weight_10 (by decide) ?_
    refine g_bipush (v := (iI_ 9)) dX10_weight_11 (by decide) ?_
    refine k_X10_in w_954 rfl ⟨Nat.le_of_ble_eq_true rfl, Nat.le_of_ble_eq_true rfl⟩ (Nat.le_of_ble_eq_true rfl) dX10_weight_13 H (fun r5 σ4 H => ?_)
    refine g_if_ne 22 dX10_weight_16 (by decide) (fun c6 => ?_) (fun c6 => ?_)
    · replace H := H.1 c6
      refine g_aload_n dX10_weight_22 0 rfl rfl ?_
      refine gm_LinenHouseModel_weights w_823 rfl dX10_weight_23 ?_
      refine g_iload_n dX10_weight_26 1 rfl rfl ?_
      obtain ⟨h7, H⟩ := H
      refine am_10 h7 dX10_weight_27 ?_
      refine g_istore_n (L' := [(3, .int (σ4 10 (Int32.toNatClampNeg x1))), (0, .ref (uq_ u 0)), (1, .int x1), (2, .int x2)]) dX10_weight_28 rfl (by decide) rfl ?_
      refine g_aload_n dX10_weight_29 1 rfl rfl ?_
      refine gm_LinenHouseModel_weights w_823 rfl dX10_weight_30 ?_
      refine g_iload_n dX10_weight_33 2 rfl rfl ?_
      refine g_iload_n dX10_weight_34 3 rfl rfl ?_
      obtain ⟨h9, H⟩ := H
      refine sm_10 h9 dX10_weight_35 ?_
      obtain ⟨σ8, e_σ8⟩ : ∃ q : St_, q = su_ σ4 10 (Int32.toNatClampNeg x1) x2 := ⟨_, rfl⟩
      rw [← e_σ8]
      replace H := H σ8 e_σ8
      refine g_iload_n dX10_weight_36 0 rfl rfl ?_
      exact g_iret rfl dX10_weight_37 ⟨_, rfl, H⟩
    · replace H := H.2 c6
      refine g_bipush (v := (iI_ (-2))) dX10_weight_19 (by decide) ?_
      exact g_iret rfl dX10_weight_21 ⟨_, rfl, H⟩
set_option maxHeartbeats 4000000 in
set_option maxRecDepth 100000 in
theorem eX10_fold (u : Ux_) {P : Int32 → St_ → Prop}  (σ : St_) (x1 : Int32) (x2 : Int32) (x3 : Int32) (H : MMi_ (zm_ u) mX10_isNight [.int x1] σ (fun r2 σ1 => ((r2 = iI_ 0 → P (iI_ (-2)) σ1) ∧ (¬ r2 = iI_ 0 → MMi_ (zm_ u) mX10_in [.int x2, .int (iI_ 0), .int (iI_ 7)] σ1 (fun r5 σ4 => ((r5 = iI_ 0 → P (iI_ (-2)) σ4) ∧ (¬ r5 = iI_ 0 → MMi_ (zm_ u) mX10_in [.int x3, .int (iI_ 0), .int (iI_ 5)] σ4 (fun r8 σ7 => ((¬ r8 = iI_ 0 → ((¬ (σ7 11 0) = (iI_ 8) → vp_in (σ7 11 0) 8 ∧ (∀ σ11, σ11 = su_ σ7 12 (Int32.toNatClampNeg (σ7 11 0)) x1 → vp_in (σ11 11 0) 8 ∧ (∀ σ13, σ13 = su_ σ11 13 (Int32.toNatClampNeg (σ11 11 0)) x2 → vp_in (σ13 11 0) 8 ∧ (∀ σ15, σ15 = su_ σ13 14 (Int32.toNatClampNeg (σ13 11 0)) x3 → (∀ σ17, σ17 = su_ σ15 11 0 ((σ15 11 0) + (iI_ 1)) → P (σ17 11 0) σ17))))) ∧ ((σ7 11 0) = (iI_ 8) → P (iI_ (-4)) σ7))) ∧ (r8 = iI_ 0 → P (iI_ (-2)) σ7)))))))))) : MMi_ (zm_ u) mX10_fold [.ref (uq_ u 0), .int x1, .int x2, .int x3] σ P := by
  refine MM_.of (L := [(0, .ref (uq_ u 0)), (1, .int x1), (2, .int x2), (3, .int x3)]) (by decide +kernel) (Nat.le_of_ble_eq_true rfl) rfl ?_
  refine g_iload_n dX10_fold_0 1 rfl rfl ?_
  refine k_X10_isNight w_1016 rfl ⟨Nat.le_of_ble_eq_true rfl, Nat.le_of_ble_eq_true rfl⟩ (Nat.le_of_ble_eq_true rfl) dX10_fold_1 H (fun r2 σ1 H => ?_)
  refine g_if_eq 26 dX10_fold_4 (by decide) (fun c3 => ?_) (fun c3 => ?_)
  · replace H := H.1 c3
    refine g_bipush (v := (iI_ (-2))) dX10_fold_26 (by decide) ?_
    exact g_iret rfl dX10_fold_28 ⟨_, rfl, H⟩
  · replace H := H.2 c3
    refine g_iload_n dX10_fold_7 2 rfl rfl ?_
    refine g_iconst (v := (iI_ 0)) dX10_fold_8 (by decide) ?_
    refine g_bipush (v := (iI_ 7)) dX10_fold_9 (by decide) ?_
    refine k_X10_in w_954 rfl ⟨Nat.le_of_ble_eq_true rfl, Nat.le_of_ble_eq_true rfl⟩ (Nat.le_of_ble_eq_true rfl) dX10_fold_11 H (fun r5 σ4 H => ?_)
    refine g_if_eq 26 dX10_fold_14 (by decide) (fun c6 => ?_) (fun c6 => ?_)
    · replace H := H.1 c6
      refine g_bipush (v := (iI_ (-2))) dX10_fold_26 (by decide) ?_
      exact g_iret rfl dX10_fold_28 ⟨_, rfl, H⟩
    · replace H := H.2 c6
      refine g_iload_n dX10_fold_17 3 rfl rfl ?_
      refine g_iconst (v := (iI_ 0)) dX10_fold_18 (by decide) ?_
      refine g_iconst (v := (iI_ 5)) dX10_fold_19 (by decide) ?_
      refine k_X10_in w_954 rfl ⟨Nat.le_of_ble_eq_true rfl, Nat.le_of_ble_eq_true rfl⟩ (Nat.le_of_ble_eq_true rfl) dX10_fold_20 H (fun r8 σ7 H => ?_)
      refine g_if_ne 29 dX10_fold_23 (by decide) (fun c9 => ?_) (fun c9 => ?_)
      · replace H := H.1 c9
        refine g_aload_n dX10_fold_29 0 rfl rfl ?_
        refine gm_LinenHouseModel_folds w_824 rfl dX10_fold_30 ?_
        refine g_bipush (v := (iI_ 8)) dX10_fold_33 (by decide) ?_
        refine g_icmp_ne 41 dX10_fold_35 (by decide) (fun c10 => ?_) (fun c10 => ?_)
        · replace H := H.1 c10
          refine g_aload_n dX10_fold_41 0 rfl rfl ?_
          refine gm_LinenHouseModel_foldNight w_825 rfl dX10_fold_42 ?_
          refine g_aload_n dX10_fold_45 0 rfl rfl ?_
          refine gm_LinenHouseModel_folds w_824 rfl dX10_fold_46 ?_
          refine g_iload_n dX10_fold_49 1 rfl rfl ?_
          obtain ⟨h12, H⟩ := H
          refine sm_12 h12 dX10_fold_50 ?_
          obtain ⟨σ11, e_σ11⟩ : ∃ q : St_, q = su_ σ7 12 (Int32.toNatClampNeg (σ7 11 0)) x1 := ⟨_, rfl⟩
          rw [← e_σ11]
          replace H := H σ11 e_σ11
          refine g_aload_n dX10_fold_51 0 rfl rfl ?_
          refine gm_LinenHouseModel_foldWho w_826 rfl dX10_fold_52 ?_
          refine g_aload_n dX10_fold_55 0 rfl rfl ?_
          refine gm_LinenHouseModel_folds w_824 rfl dX10_fold_56 ?_
          refine g_iload_n dX10_fold_59 2 rfl rfl ?_
          obtain ⟨h14, H⟩ := H
          refine sm_13 h14 dX10_fold_60 ?_
          obtain ⟨σ13, e_σ13⟩ : ∃ q : St_, q = su_ σ11 13 (Int32.toNatClampNeg (σ11 11 0)) x2 := ⟨_, rfl⟩
          rw [← e_σ13]
          replace H := H σ13 e_σ13
          refine g_aload_n dX10_fold_61 0 rfl rfl ?_
          refine gm_LinenHouseModel_foldShelf w_827 rfl dX10_fold_62 ?_
          refine g_aload_n dX10_fold_65 0 rfl rfl ?_
          refine gm_LinenHouseModel_folds w_824 rfl dX10_fold_66 ?_
          refine g_iload_n dX10_fold_69 3 rfl rfl ?_
          obtain ⟨h16, H⟩ := H
          refine sm_14 h16 dX10_fold_70 ?_
          obtain ⟨σ15, e_σ15⟩ : ∃ q : St_, q = su_ σ13 14 (Int32.toNatClampNeg (σ13 11 0)) x3 := ⟨_, rfl⟩
          rw [← e_σ15]
          replace H := H σ15 e_σ15
          refine g_aload_n dX10_fold_71 0 rfl rfl ?_
          refine g_dup dX10_fold_72 rfl ?_
          refine gm_LinenHouseModel_folds w_824 rfl dX10_fold_73 ?_
          refine g_iconst (v := (iI_ 1)) dX10_fold_76 (by decide) ?_
          refine g_iadd dX10_fold_77 ?_
          refine pm_LinenHouseModel_folds w_824 rfl dX10_fold_78 ?_
          obtain ⟨σ17, e_σ17⟩ : ∃ q : St_, q = su_ σ15 11 0 ((σ15 11 0) + (iI_ 1)) := ⟨_, rfl⟩
          rw [← e_σ17]
          replace H := H σ17 e_σ17
          refine g_aload_n dX10_fold_81 0 rfl rfl ?_
          refine gm_LinenHouseModel_folds w_824 rfl dX10_fold_82 ?_
          exact g_iret rfl dX10_fold_85 ⟨_, rfl, H⟩
        · replace H := H.2 c10
          refine g_bipush (v := (iI_ (-4))) dX10_fold_38 (by decide) ?_
          exact g_iret rfl dX10_fold_40 ⟨_, rfl, H⟩
      · replace H := H.2 c9
        refine g_bipush (v := (iI_ (-2))) dX10_fold_26 (by decide) ?_
        exact g_iret rfl dX10_fold_28 ⟨_, rfl, H⟩
set_option maxHeartbeats 4000000 in
set_option maxRecDepth 100000 in
theorem eX10_jar (u : Ux_) {P : Int32 → St_ → Prop}  (σ : St_) (x1 : Int32) (H : MMi_ (zm_ u) mX10_isNight [.int x1] σ (fun r2 σ1 => ((¬ r2 = iI_ 0 → ((¬ (σ1 15 0) = (iI_ 6) → vp_in (σ1 15 0) 6 ∧ (∀ σ5, σ5 = su_ σ1 16 (Int32.toNatClampNeg (σ1 15 0)) x1 → (∀ σ7, σ7 = su_ σ5 15 0 ((σ5 15 0) + (iI_ 1)) → P (σ7 15 0) σ7))) ∧ ((σ1 15 0) = (iI_ 6) → P (iI_ (-4)) σ1))) ∧ (r2 = iI_ 0 → P (iI_ (-2)) σ1)))) : MMi_ (zm_ u) mX10_jar [.ref (uq_ u 0), .int x1] σ P := by
  refine MM_.of (L := [(0, .ref (uq_ u 0)), (1, .int x1)]) (by decide +kernel) (Nat.le_of_ble_eq_true rfl) rfl ?_
  refine g_iload_n dX10_jar_0 1 rfl rfl ?_
  refine k_X10_isNight w_1016 rfl ⟨Nat.le_of_ble_eq_true rfl, Nat.le_of_ble_eq_true rfl⟩ (Nat.le_of_ble_eq_true rfl) dX10_jar_1 H (fun r2 σ1 H => ?_)
  refine g_if_ne 10 dX10_jar_4 (by decide) (fun c3 => ?_) (fun c3 => ?_)
  · replace H := H.1 c3
    refine g_aload_n dX10_jar_10 0 rfl rfl ?_
    refine gm_LinenHouseModel_jars w_828 rfl dX10_jar_11 ?_
    refine g_bipush (v := (iI_ 6)) dX10_jar_14 (by decide) ?_
    refine g_icmp_ne 22 dX10_jar_16 (by decide) (fun c4 => ?_) (fun c4 => ?_)
    · replace H := H.1 c4
      refine g_aload_n dX10_jar_22 0 rfl rfl ?_
      refine gm_LinenHouseModel_jarNight w_829 rfl dX10_jar_23 ?_
      refine g_aload_n dX10_jar_26 0 rfl rfl ?_
      refine gm_LinenHouseModel_jars w_828 rfl dX10_jar_27 ?_
      refine g_iload_n dX10_jar_30 1 rfl rfl ?_
      obtain ⟨h6, H⟩ := H
      refine sm_16 h6 dX10_jar_31 ?_
      obtain ⟨σ5, e_σ5⟩ : ∃ q : St_, q = su_ σ1 16 (Int32.toNatClampNeg (σ1 15 0)) x1 := ⟨_, rfl⟩
      rw [← e_σ5]
      replace H := H σ5 e_σ5
      refine g_aload_n dX10_jar_32 0 rfl rfl ?_
      refine g_dup dX10_jar_33 rfl ?_
      refine gm_LinenHouseModel_jars w_828 rfl dX10_jar_34 ?_
      refine g_iconst (v := (iI_ 1)) dX10_jar_37 (by decide) ?_
      refine g_iadd dX10_jar_38 ?_
      refine pm_LinenHouseModel_jars w_828 rfl dX10_jar_39 ?_
      obtain ⟨σ7, e_σ7⟩ : ∃ q : St_, q = su_ σ5 15 0 ((σ5 15 0) + (iI_ 1)) := ⟨_, rfl⟩
      rw [← e_σ7]
      replace H := H σ7 e_σ7
      refine g_aload_n dX10_jar_42 0 rfl rfl ?_
      refine gm_LinenHouseModel_jars w_828 rfl dX10_jar_43 ?_
      exact g_iret rfl dX10_jar_46 ⟨_, rfl, H⟩
    · replace H := H.2 c4
      refine g_bipush (v := (iI_ (-4))) dX10_jar_19 (by decide) ?_
      exact g_iret rfl dX10_jar_21 ⟨_, rfl, H⟩
  · replace H := H.2 c3
    refine g_bipush (v := (iI_ (-2))) dX10_jar_7 (by decide) ?_
    exact g_iret rfl dX10_jar_9 ⟨_, rfl, H⟩
set_option maxHeartbeats 4000000 in
set_option maxRecDepth 100000 in
theorem bX10_back_27 (u : Ux_) {P : Int32 → St_ → Prop}  (σ : St_) (x1 : Int32) (y0 : Int32) (H : ((¬ y0 = iI_ 0 → ((¬ x1 = iI_ 0 → (∀ σ3, σ3 = su_ σ 11 0 ((σ 11 0) - (iI_ 0)) → ((¬ x1 = (iI_ 1) → (∀ σ5, σ5 = su_ σ3 15 0 ((σ3 15 0) - (iI_ 0)) → P (y0 - (iI_ 1)) σ5)) ∧ (x1 = (iI_ 1) → (∀ σ6, σ6 = su_ σ3 15 0 ((σ3 15 0) - (iI_ 1)) → P (y0 - (iI_ 1)) σ6))))) ∧ (x1 = iI_ 0 → (∀ σ7, σ7 = su_ σ 11 0 ((σ 11 0) - (iI_ 1)) → ((¬ x1 = (iI_ 1) → (∀ σ9, σ9 = su_ σ7 15 0 ((σ7 15 0) - (iI_ 0)) → P (y0 - (iI_ 1)) σ9)) ∧ (x1 = (iI_ 1) → (∀ σ10, σ10 = su_ σ7 15 0 ((σ7 15 0) - (iI_ 1)) → P (y0 - (iI_ 1)) σ10))))))) ∧ (y0 = iI_ 0 → P (iI_ (-3)) σ))) : GG_ (zm_ u) mX10_back (Pi_ P) 27 [(0, .ref (uq_ u 0)), (1, .int x1)] [.int y0] σ := by
  refine g_istore_n (L' := [(2, .int y0), (0, .ref (uq_ u 0)), (1, .int x1)]) dX10_back_27 rfl (by decide) rfl ?_
  refine g_iload_n dX10_back_28 0 rfl rfl ?_
  refine g_if_ne 35 dX10_back_29 (by decide) (fun c1 => ?_) (fun c1 => ?_)
  · replace H := H.1 c1
    refine g_aload_n dX10_back_35 1 rfl rfl ?_
    refine g_dup dX10_back_36 rfl ?_
    refine gm_LinenHouseModel_folds w_824 rfl dX10_back_37 ?_
    refine g_iload_n dX10_back_40 2 rfl rfl ?_
    refine g_if_ne 48 dX10_back_41 (by decide) (fun c2 => ?_) (fun c2 => ?_)
    · replace H := H.1 c2
      refine g_iconst (v := (iI_ 0)) dX10_back_48 (by decide) ?_
      refine g_isub dX10_back_49 ?_
      refine pm_LinenHouseModel_folds w_824 rfl dX10_back_50 ?_
      obtain ⟨σ3, e_σ3⟩ : ∃ q : St_, q = su_ σ 11 0 ((σ 11 0) - (iI_ 0)) := ⟨_, rfl⟩
      rw [← e_σ3]
      replace H := H σ3 e_σ3
      refine g_aload_n dX10_back_53 1 rfl rfl ?_
      refine g_dup dX10_back_54 rfl ?_
      refine gm_LinenHouseModel_jars w_828 rfl dX10_back_55 ?_
      refine g_iload_n dX10_back_58 2 rfl rfl ?_
      refine g_iconst (v := (iI_ 1)) dX10_back_59 (by decide) ?_
      refine g_icmp_ne 67 dX10_back_60 (by decide) (fun c4 => ?_) (fun c4 => ?_)
      · replace H := H.1 c4
        refine g_iconst (v := (iI_ 0)) dX10_back_67 (by decide) ?_
        refine g_isub dX10_back_68 ?_
        refine pm_LinenHouseModel_jars w_828 rfl dX10_back_69 ?_
        obtain ⟨σ5, e_σ5⟩ : ∃ q : St_, q = su_ σ3 15 0 ((σ3 15 0) - (iI_ 0)) := ⟨_, rfl⟩
        rw [← e_σ5]
        replace H := H σ5 e_σ5
        refine g_iload_n dX10_back_72 0 rfl rfl ?_
        refine g_iconst (v := (iI_ 1)) dX10_back_73 (by decide) ?_
        refine g_isub dX10_back_74 ?_
        exact g_iret rfl dX10_back_75 ⟨_, rfl, H⟩
      · replace H := H.2 c4
        refine g_iconst (v := (iI_ 1)) dX10_back_63 (by decide) ?_
        refine g_goto 68 dX10_back_64 (by decide) ?_
        refine g_isub dX10_back_68 ?_
        refine pm_LinenHouseModel_jars w_828 rfl dX10_back_69 ?_
        obtain ⟨σ6, e_σ6⟩ : ∃ q : St_, q = su_ σ3 15 0 ((σ3 15 0) - (iI_ 1)) := ⟨_, rfl⟩
        rw [← e_σ6]
        replace H := H σ6 e_σ6
        refine g_iload_n dX10_back_72 0 rfl rfl ?_
        refine g_iconst (v := (iI_ 1)) dX10_back_73 (by decide) ?_
        refine g_isub dX10_back_74 ?_
        exact g_iret rfl dX10_back_75 ⟨_, rfl, H⟩
    · replace H := H.2 c2
      refine g_iconst (v := (iI_ 1)) dX10_back_44 (by decide) ?_
      refine g_goto 49 dX10_back_45 (by decide) ?_
      refine g_isub dX10_back_49 ?_
      refine pm_LinenHouseModel_folds w_824 rfl dX10_back_50 ?_
      obtain ⟨σ7, e_σ7⟩ : ∃ q : St_, q = su_ σ 11 0 ((σ 11 0) - (iI_ 1)) := ⟨_, rfl⟩
      rw [← e_σ7]
      replace H := H σ7 e_σ7
      refine g_aload_n dX10_back_53 1 rfl rfl ?_
      refine g_dup dX10_back_54 rfl ?_
      refine gm_LinenHouseModel_jars w_828 rfl dX10_back_55 ?_
      refine g_iload_n dX10_back_58 2 rfl rfl ?_
      refine g_iconst (v := (iI_ 1)) dX10_back_59 (by decide) ?_
      refine g_icmp_ne 67 dX10_back_60 (by decide) (fun c8 => ?_) (fun c8 => ?_)
      · replace H := H.1 c8
        refine g_iconst (v := (iI_ 0)) dX10_back_67 (by decide) ?_
        refine g_isub dX10_back_68 ?_
        refine pm_LinenHouseModel_jars w_828 rfl dX10_back_69 ?_
        obtain ⟨σ9, e_σ9⟩ : ∃ q : St_, q = su_ σ7 15 0 ((σ7 15 0) - (iI_ 0)) := ⟨_, rfl⟩
        rw [← e_σ9]
        replace H := H σ9 e_σ9
        refine g_iload_n dX10_back_72 0 rfl rfl ?_
        refine g_iconst (v := (iI_ 1)) dX10_back_73 (by decide) ?_
        refine g_isub dX10_back_74 ?_
        exact g_iret rfl dX10_back_75 ⟨_, rfl, H⟩
      · replace H := H.2 c8
        refine g_iconst (v := (iI_ 1)) dX10_back_63 (by decide) ?_
        refine g_goto 68 dX10_back_64 (by decide) ?_
        refine g_isub dX10_back_68 ?_
        refine pm_LinenHouseModel_jars w_828 rfl dX10_back_69 ?_
        obtain ⟨σ10, e_σ10⟩ : ∃ q : St_, q = su_ σ7 15 0 ((σ7 15 0) - (iI_ 1)) := ⟨_, rfl⟩
        rw [← e_σ10]
        replace H := H σ10 e_σ10
        refine g_iload_n dX10_back_72 0 rfl rfl ?_
        refine g_iconst (v := (iI_ 1)) dX10_back_73 (by decide) ?_
        refine g_isub dX10_back_74 ?_
        exact g_iret rfl dX10_back_75 ⟨_, rfl, H⟩
  · replace H := H.2 c1
    refine g_bipush (v := (iI_ (-3))) dX10_back_32 (by decide) ?_
    exact g_iret rfl dX10_back_34 ⟨_, rfl, H⟩
set_option maxHeartbeats 4000000 in
set_option maxRecDepth 100000 in
theorem eX10_back (u : Ux_) {P : Int32 → St_ → Prop}  (σ : St_) (x1 : Int32) (H : MMi_ (zm_ u) mX10_in [.int x1, .int (iI_ 0), .int (iI_ 1)] σ (fun r2 σ1 => ((¬ r2 = iI_ 0 → ((¬ x1 = iI_ 0 → GG_ (zm_ u) mX10_back (Pi_ P) 27 [(0, .ref (uq_ u 0)), (1, .int x1)] [.int (σ1 15 0)] σ1) ∧ (x1 = iI_ 0 → GG_ (zm_ u) mX10_back (Pi_ P) 27 [(0, .ref (uq_ u 0)), (1, .int x1)] [.int (σ1 11 0)] σ1))) ∧ (r2 = iI_ 0 → P (iI_ (-2)) σ1)))) : MMi_ (zm_ u) mX10_back [.ref (uq_ u 0), .int x1] σ P := by
  refine MM_.of (L := [(0, .ref (uq_ u 0)), (1, .int x1)]) (by decide +kernel) (Nat.le_of_ble_eq_true rfl) rfl ?_
  refine g_iload_n dX10_back_0 1 rfl rfl ?_
  refine g_iconst (v := (iI_ 0)) dX10_back_1 (by decide) ?_
  refine g_iconst (v := (iI_ 1)) dX10_back_2 (by decide) ?_
  refine k_X10_in w_954 rfl ⟨Nat.le_of_ble_eq_true rfl, Nat.le_of_ble_eq_true rfl⟩ (Nat.le_of_ble_eq_true rfl) dX10_back_3 H (fun r2 σ1 H => ?_)
  refine g_if_ne 12 dX10_back_6 (by decide) (fun c3 => ?_) (fun c3 => ?_)
  · replace H := H.1 c3
    refine g_iload_n dX10_back_12 1 rfl rfl ?_
    refine g_if_ne 23 dX10_back_13 (by decide) (fun c4 => ?_) (fun c4 => ?_)
    · replace H := H.1 c4
      refine g_aload_n dX10_back_23 0 rfl rfl ?_
      refine gm_LinenHouseModel_jars w_828 rfl dX10_back_24 ?_
      exact GG_.sub [0, 1] rfl H
    · replace H := H.2 c4
      refine g_aload_n dX10_back_16 0 rfl rfl ?_
      refine gm_LinenHouseModel_folds w_824 rfl dX10_back_17 ?_
      refine g_goto 27 dX10_back_20 (by decide) ?_
      exact GG_.sub [0, 1] rfl H
  · replace H := H.2 c3
    refine g_bipush (v := (iI_ (-2))) dX10_back_9 (by decide) ?_
    exact g_iret rfl dX10_back_11 ⟨_, rfl, H⟩
set_option maxHeartbeats 4000000 in
set_option maxRecDepth 100000 in
theorem bX10_read_27 (u : Ux_) {P : Int32 → St_ → Prop}  (σ : St_) (x1 : Int32) (x2 : Int32) (H : vp_in x1 4 ∧ (((σ 40 (Int32.toNatClampNeg x1)) ≤ (((iI_ 3) * x2) + (iI_ 2)) → P x2 σ) ∧ (¬ (σ 40 (Int32.toNatClampNeg x1)) ≤ (((iI_ 3) * x2) + (iI_ 2)) → vp_in (((iI_ 60) * x1) + ((iI_ 3) * x2)) 240 ∧ vp_in ((((iI_ 60) * x1) + ((iI_ 3) * x2)) + (iI_ 1)) 240 ∧ vp_in ((((iI_ 60) * x1) + ((iI_ 3) * x2)) + (iI_ 2)) 240 ∧ MMi_ (zm_ u) mX10_fold [.ref (uq_ u 0), .int (σ 41 (Int32.toNatClampNeg (((iI_ 60) * x1) + ((iI_ 3) * x2)))), .int (σ 41 (Int32.toNatClampNeg ((((iI_ 60) * x1) + ((iI_ 3) * x2)) + (iI_ 1)))), .int (σ 41 (Int32.toNatClampNeg ((((iI_ 60) * x1) + ((iI_ 3) * x2)) + (iI_ 2))))] σ (fun r7 σ6 => ((r7 ≤ iI_ 0 → P x2 σ6) ∧ (¬ r7 ≤ iI_ 0 → GG_ (zm_ u) mX10_read (Pi_ P) 27 [(0, .ref (uq_ u 0)), (1, .int x1), (2, .int (x2 + (iI_ 1)))] [] σ6)))))) : GG_ (zm_ u) mX10_read (Pi_ P) 27 [(0, .ref (uq_ u 0)), (1, .int x1), (2, .int x2)] [] σ := by
  refine g_iconst (v := (iI_ 3)) dX10_read_27 (by decide) ?_
  refine g_iload_n dX10_read_28 2 rfl rfl ?_
  refine g_imul dX10_read_29 ?_
  refine g_iconst (v := (iI_ 2)) dX10_read_30 (by decide) ?_
  refine g_iadd dX10_read_31 ?_
  refine g_aload_n dX10_read_32 0 rfl rfl ?_
  refine gm_LinenHouseModel_sizes w_853 rfl dX10_read_33 ?_
  refine g_iload_n dX10_read_36 1 rfl rfl ?_
  obtain ⟨h1, H⟩ := H
  refine am_40 h1 dX10_read_37 ?_
  refine g_icmp_ge 97 dX10_read_38 (by decide) (fun c2 => ?_) (fun c2 => ?_)
  · replace H := H.1 c2
    refine g_iload_n dX10_read_97 2 rfl rfl ?_
    exact g_iret rfl dX10_read_98 ⟨_, rfl, H⟩
  · replace H := H.2 c2
    refine g_aload_n dX10_read_41 0 rfl rfl ?_
    refine g_aload_n dX10_read_42 0 rfl rfl ?_
    refine gm_LinenHouseModel_items w_854 rfl dX10_read_43 ?_
    refine g_bipush (v := (iI_ 60)) dX10_read_46 (by decide) ?_
    refine g_iload_n dX10_read_48 1 rfl rfl ?_
    refine g_imul dX10_read_49 ?_
    refine g_iconst (v := (iI_ 3)) dX10_read_50 (by decide) ?_
    refine g_iload_n dX10_read_51 2 rfl rfl ?_
    refine g_imul dX10_read_52 ?_
    refine g_iadd dX10_read_53 ?_
    obtain ⟨h3, H⟩ := H
    refine am_41 h3 dX10_read_54 ?_
    refine g_aload_n dX10_read_55 0 rfl rfl ?_
    refine gm_LinenHouseModel_items w_854 rfl dX10_read_56 ?_
    refine g_bipush (v := (iI_ 60)) dX10_read_59 (by decide) ?_
    refine g_iload_n dX10_read_61 1 rfl rfl ?_
    refine g_imul dX10_read_62 ?_
    refine g_iconst (v := (iI_ 3)) dX10_read_63 (by decide) ?_
    refine g_iload_n dX10_read_64 2 rfl rfl ?_
    refine g_imul dX10_read_65 ?_
    refine g_iadd dX10_read_66 ?_
    refine g_iconst (v := (iI_ 1)) dX10_read_67 (by decide) ?_
    refine g_iadd dX10_read_68 ?_
    obtain ⟨h4, H⟩ := H
    refine am_41 h4 dX10_read_69 ?_
    refine g_aload_n dX10_read_70 0 rfl rfl ?_
    refine gm_LinenHouseModel_items w_854 rfl dX10_read_71 ?_
    refine g_bipush (v := (iI_ 60)) dX10_read_74 (by decide) ?_
    refine g_iload_n dX10_read_76 1 rfl rfl ?_
    refine g_imul dX10_read_77 ?_
    refine g_iconst (v := (iI_ 3)) dX10_read_78 (by decide) ?_
    refine g_iload_n dX10_read_79 2 rfl rfl ?_
    refine g_imul dX10_read_80 ?_
    refine g_iadd dX10_read_81 ?_
    refine g_iconst (v := (iI_ 2)) dX10_read_82 (by decide) ?_
    refine g_iadd dX10_read_83 ?_
    obtain ⟨h5, H⟩ := H
    refine am_41 h5 dX10_read_84 ?_
    refine k_X10_fold w_1050 rfl ⟨Nat.le_of_ble_eq_true rfl, Nat.le_of_ble_eq_true rfl⟩ (Nat.le_of_ble_eq_true rfl) dX10_read_85 H (fun r7 σ6 H => ?_)
    refine g_if_le 97 dX10_read_88 (by decide) (fun c8 => ?_) (fun c8 => ?_)
    · replace H := H.1 c8
      refine g_iload_n dX10_read_97 2 rfl rfl ?_
      exact g_iret rfl dX10_read_98 ⟨_, rfl, H⟩
    · replace H := H.2 c8
      refine g_iinc (v := (x2 + (iI_ 1))) (L' := [(2, .int (x2 + (iI_ 1))), (0, .ref (uq_ u 0)), (1, .int x1)]) dX10_read_91 2 rfl rfl (by decide) rfl ?_
      refine g_goto 27 dX10_read_94 (by decide) ?_
      exact GG_.sub [1, 2, 0] rfl H
set_option maxHeartbeats 4000000 in
set_option maxRecDepth 100000 in
theorem eX10_read (u : Ux_) {P : Int32 → St_ → Prop}  (σ : St_) (x1 : Int32) (H : MMi_ (zm_ u) mX10_isSheet [.int x1] σ (fun r2 σ1 => ((¬ r2 = iI_ 0 → vp_in x1 4 ∧ ((¬ (σ1 38 (Int32.toNatClampNeg x1)) = iI_ 0 → GG_ (zm_ u) mX10_read (Pi_ P) 27 [(0, .ref (uq_ u 0)), (1, .int x1), (2, .int (iI_ 0))] [] σ1) ∧ ((σ1 38 (Int32.toNatClampNeg x1)) = iI_ 0 → MMi_ (zm_ u) mX10_meets [.ref (uq_ u 0), .int (iI_ 1)] σ1 (fun r7 σ6 => P r7 σ6)))) ∧ (r2 = iI_ 0 → P (iI_ (-2)) σ1)))) : MMi_ (zm_ u) mX10_read [.ref (uq_ u 0), .int x1] σ P := by
  refine MM_.of (L := [(0, .ref (uq_ u 0)), (1, .int x1)]) (by decide +kernel) (Nat.le_of_ble_eq_true rfl) rfl ?_
  refine g_iload_n dX10_read_0 1 rfl rfl ?_
  refine k_X10_isSheet w_1043 rfl ⟨Nat.le_of_ble_eq_true rfl, Nat.le_of_ble_eq_true rfl⟩ (Nat.le_of_ble_eq_true rfl) dX10_read_1 H (fun r2 σ1 H => ?_)
  refine g_if_ne 10 dX10_read_4 (by decide) (fun c3 => ?_) (fun c3 => ?_)
  · replace H := H.1 c3
    refine g_aload_n dX10_read_10 0 rfl rfl ?_
    refine gm_LinenHouseModel_isThere w_851 rfl dX10_read_11 ?_
    refine g_iload_n dX10_read_14 1 rfl rfl ?_
    obtain ⟨h4, H⟩ := H
    refine am_38 h4 dX10_read_15 ?_
    refine g_if_ne 25 dX10_read_16 (by decide) (fun c5 => ?_) (fun c5 => ?_)
    · replace H := H.1 c5
      refine g_iconst (v := (iI_ 0)) dX10_read_25 (by decide) ?_
      refine g_istore_n (L' := [(2, .int (iI_ 0)), (0, .ref (uq_ u 0)), (1, .int x1)]) dX10_read_26 rfl (by decide) rfl ?_
      exact GG_.sub [1, 2, 0] rfl H
    · replace H := H.2 c5
      refine g_aload_n dX10_read_19 0 rfl rfl ?_
      refine g_iconst (v := (iI_ 1)) dX10_read_20 (by decide) ?_
      refine k_X10_meets w_1046 rfl ⟨Nat.le_of_ble_eq_true rfl, Nat.le_of_ble_eq_true rfl⟩ (Nat.le_of_ble_eq_true rfl) dX10_read_21 H (fun r7 σ6 H => ?_)
      exact g_iret rfl dX10_read_24 ⟨_, rfl, H⟩
  · replace H := H.2 c3
    refine g_bipush (v := (iI_ (-2))) dX10_read_7 (by decide) ?_
    exact g_iret rfl dX10_read_9 ⟨_, rfl, H⟩
set_option maxHeartbeats 4000000 in
set_option maxRecDepth 100000 in
theorem bX10_isOther_3 (u : Ux_) {P : Int32 → St_ → Prop}  (σ : St_) (x1 : Int32) (x2 : Int32) (x3 : Int32) (x4 : Int32) (H : (((iI_ 3) ≤ x4 → P (iI_ 0) σ) ∧ (¬ (iI_ 3) ≤ x4 → vp_in (((iI_ 3) * x1) + x4) 27 ∧ ((¬ (σ 5 (Int32.toNatClampNeg (((iI_ 3) * x1) + x4))) = x2 → vp_in (((iI_ 3) * x1) + x4) 27 ∧ ((¬ (σ 5 (Int32.toNatClampNeg (((iI_ 3) * x1) + x4))) = x3 → GG_ (zm_ u) mX10_isOther (Pi_ P) 3 [(0, .ref (uq_ u 0)), (1, .int x1), (2, .int x2), (3, .int x3), (4, .int (x4 + (iI_ 1)))] [] σ) ∧ ((σ 5 (Int32.toNatClampNeg (((iI_ 3) * x1) + x4))) = x3 → P (iI_ 1) σ))) ∧ ((σ 5 (Int32.toNatClampNeg (((iI_ 3) * x1) + x4))) = x2 → P (iI_ 0) σ))))) : GG_ (zm_ u) mX10_isOther (Pi_ P) 3 [(0, .ref (uq_ u 0)), (1, .int x1), (2, .int x2), (3, .int x3), (4, .int x4)] [] σ := by
  refine g_iload dX10_isOther_3 4 rfl ?_
  refine g_iconst (v := (iI_ 3)) dX10_isOther_5 (by decide) ?_
  refine g_icmp_ge 49 dX10_isOther_6 (by decide) (fun c1 => ?_) (fun c1 => ?_)
  · replace H := H.1 c1
    refine g_iconst (v := (iI_ 0)) dX10_isOther_49 (by decide) ?_
    exact g_zret rfl (by decide) dX10_isOther_50 ⟨_, rfl, H⟩
  · replace H := H.2 c1
    refine g_aload_n dX10_isOther_9 0 rfl rfl ?_
    refine gm_LinenHouseModel_wants w_818 rfl dX10_isOther_10 ?_
    refine g_iconst (v := (iI_ 3)) dX10_isOther_13 (by decide) ?_
    refine g_iload_n dX10_isOther_14 1 rfl rfl ?_
    refine g_imul dX10_isOther_15 ?_
    refine g_iload dX10_isOther_16 4 rfl ?_
    refine g_iadd dX10_isOther_18 ?_
    obtain ⟨h2, H⟩ := H
    refine am_5 h2 dX10_isOther_19 ?_
    refine g_iload_n dX10_isOther_20 2 rfl rfl ?_
    refine g_icmp_ne 26 dX10_isOther_21 (by decide) (fun c3 => ?_) (fun c3 => ?_)
    · replace H := H.1 c3
      refine g_aload_n dX10_isOther_26 0 rfl rfl ?_
      refine gm_LinenHouseModel_wants w_818 rfl dX10_isOther_27 ?_
      refine g_iconst (v := (iI_ 3)) dX10_isOther_30 (by decide) ?_
      refine g_iload_n dX10_isOther_31 1 rfl rfl ?_
      refine g_imul dX10_isOther_32 ?_
      refine g_iload dX10_isOther_33 4 rfl ?_
      refine g_iadd dX10_isOther_35 ?_
      obtain ⟨h4, H⟩ := H
      refine am_5 h4 dX10_isOther_36 ?_
      refine g_iload_n dX10_isOther_37 3 rfl rfl ?_
      refine g_icmp_ne 43 dX10_isOther_38 (by decide) (fun c5 => ?_) (fun c5 => ?_)
      · replace H := H.1 c5
        refine g_iinc (v := (x4 + (iI_ 1))) (L' := [(4, .int (x4 + (iI_ 1))), (0, .ref (uq_ u 0)), (1, .int x1), (2, .int x2), (3, .int x3)]) dX10_isOther_43 4 rfl rfl (by decide) rfl ?_
        refine g_goto 3 dX10_isOther_46 (by decide) ?_
        exact GG_.sub [1, 2, 3, 4, 0] rfl H
      · replace H := H.2 c5
        refine g_iconst (v := (iI_ 1)) dX10_isOther_41 (by decide) ?_
        exact g_zret rfl (by decide) dX10_isOther_42 ⟨_, rfl, H⟩
    · replace H := H.2 c3
      refine g_iconst (v := (iI_ 0)) dX10_isOther_24 (by decide) ?_
      exact g_zret rfl (by decide) dX10_isOther_25 ⟨_, rfl, H⟩
set_option maxHeartbeats 4000000 in
set_option maxRecDepth 100000 in
theorem eX10_isOther (u : Ux_) {P : Int32 → St_ → Prop}  (σ : St_) (x1 : Int32) (x2 : Int32) (x3 : Int32) (H : GG_ (zm_ u) mX10_isOther (Pi_ P) 3 [(0, .ref (uq_ u 0)), (1, .int x1), (2, .int x2), (3, .int x3), (4, .int (iI_ 0))] [] σ) : MMi_ (zm_ u) mX10_isOther [.ref (uq_ u 0), .int x1, .int x2, .int x3] σ P := by
  refine MM_.of (L := [(0, .ref (uq_ u 0)), (1, .int x1), (2, .int x2), (3, .int x3)]) (by decide +kernel) (Nat.le_of_ble_eq_true rfl) rfl ?_
  refine g_iconst (v := (iI_ 0)) dX10_isOther_0 (by decide) ?_
  refine g_istore (L' := [(4, .int (iI_ 0)), (0, .ref (uq_ u 0)), (1, .int x1), (2, .int x2), (3, .int x3)]) dX10_isOther_1 (by decide) rfl ?_
  exact GG_.sub [1, 2, 3, 4, 0] rfl H
set_option maxHeartbeats 4000000 in
set_option maxRecDepth 100000 in
theorem bX10_leansOther_6 (u : Ux_) {P : Int32 → St_ → Prop}  (σ : St_) (x1 : Int32) (x2 : Int32) (x3 : Int32) (x4 : Int32) (x5 : Int32) (H : (((σ 2 0) ≤ x5 → ((¬ x4 = iI_ 0 → ((x4 ≤ iI_ 0 → P (iI_ 0) σ) ∧ (¬ x4 ≤ iI_ 0 → P (iI_ 1) σ))) ∧ (x4 = iI_ 0 → MMi_ (zm_ u) mX10_isOther [.ref (uq_ u 0), .int x1, .int x2, .int x3] σ (fun r5 σ4 => (r5 = iI_ 0 ∨ r5 = iI_ 1) ∧ P r5 σ4)))) ∧ (¬ (σ 2 0) ≤ x5 → vp_in x1 8 ∧ (((iI_ 2) ≤ (σ 18 (Int32.toNatClampNeg x1)) → ((¬ x4 = iI_ 0 → ((x4 ≤ iI_ 0 → P (iI_ 0) σ) ∧ (¬ x4 ≤ iI_ 0 → P (iI_ 1) σ))) ∧ (x4 = iI_ 0 → MMi_ (zm_ u) mX10_isOther [.ref (uq_ u 0), .int x1, .int x2, .int x3] σ (fun r11 σ10 => (r11 = iI_ 0 ∨ r11 = iI_ 1) ∧ P r11 σ10)))) ∧ (¬ (iI_ 2) ≤ (σ 18 (Int32.toNatClampNeg x1)) → vp_in x5 8 ∧ vp_in x1 8 ∧ ((¬ (σ 17 (Int32.toNatClampNeg x5)) = (σ 17 (Int32.toNatClampNeg x1)) → GG_ (zm_ u) mX10_leansOther (Pi_ P) 6 [(0, .ref (uq_ u 0)), (1, .int x1), (2, .int x2), (3, .int x3), (4, .int x4), (5, .int (x5 + (iI_ 1)))] [] σ) ∧ ((σ 17 (Int32.toNatClampNeg x5)) = (σ 17 (Int32.toNatClampNeg x1)) → MMi_ (zm_ u) mX10_isOther [.ref (uq_ u 0), .int x5, .int x2, .int x3] σ (fun r16 σ15 => ((r16 = iI_ 0 → GG_ (zm_ u) mX10_leansOther (Pi_ P) 6 [(0, .ref (uq_ u 0)), (1, .int x1), (2, .int x2), (3, .int x3), (4, .int (x4 + (iI_ (-1)))), (5, .int (x5 + (iI_ 1)))] [] σ15) ∧ (¬ r16 = iI_ 0 → GG_ (zm_ u) mX10_leansOther (Pi_ P) 6 [(0, .ref (uq_ u 0)), (1, .int x1), (2, .int x2), (3, .int x3), (4, .int (x4 + (iI_ 1))), (5, .int (x5 + (iI_ 1)))] [] σ15)))))))))) : GG_ (zm_ u) mX10_leansOther (Pi_ P) 6 [(0, .ref (uq_ u 0)), (1, .int x1), (2, .int x2), (3, .int x3), (4, .int x4), (5, .int x5)] [] σ := by
  refine g_iload dX10_leansOther_6 5 rfl ?_
  refine g_aload_n dX10_leansOther_8 0 rfl rfl ?_
  refine gm_LinenHouseModel_members w_815 rfl dX10_leansOther_9 ?_
  refine g_icmp_ge 68 dX10_leansOther_12 (by decide) (fun c1 => ?_) (fun c1 => ?_)
  · replace H := H.1 c1
    refine g_iload dX10_leansOther_68 4 rfl ?_
    refine g_if_ne 83 dX10_leansOther_70 (by decide) (fun c2 => ?_) (fun c2 => ?_)
    · replace H := H.1 c2
      refine g_iload dX10_leansOther_83 4 rfl ?_
      refine g_if_le 92 dX10_leansOther_85 (by decide) (fun c3 => ?_) (fun c3 => ?_)
      · replace H := H.1 c3
        refine g_iconst (v := (iI_ 0)) dX10_leansOther_92 (by decide) ?_
        exact g_zret rfl (by decide) dX10_leansOther_93 ⟨_, rfl, H⟩
      · replace H := H.2 c3
        refine g_iconst (v := (iI_ 1)) dX10_leansOther_88 (by decide) ?_
        refine g_goto 93 dX10_leansOther_89 (by decide) ?_
        exact g_zret rfl (by decide) dX10_leansOther_93 ⟨_, rfl, H⟩
    · replace H := H.2 c2
      refine g_aload_n dX10_leansOther_73 0 rfl rfl ?_
      refine g_iload_n dX10_leansOther_74 1 rfl rfl ?_
      refine g_iload_n dX10_leansOther_75 2 rfl rfl ?_
      refine g_iload_n dX10_leansOther_76 3 rfl rfl ?_
      refine k_X10_isOther w_1083 rfl ⟨Nat.le_of_ble_eq_true rfl, Nat.le_of_ble_eq_true rfl⟩ (Nat.le_of_ble_eq_true rfl) dX10_leansOther_77 H (fun r5 σ4 H => ?_)
      refine g_goto 93 dX10_leansOther_80 (by decide) ?_
      obtain ⟨hz, H⟩ := H
      exact g_zret rfl hz dX10_leansOther_93 ⟨_, rfl, H⟩
  · replace H := H.2 c1
    refine g_aload_n dX10_leansOther_15 0 rfl rfl ?_
    refine gm_LinenHouseModel_warmNow w_831 rfl dX10_leansOther_16 ?_
    refine g_iload_n dX10_leansOther_19 1 rfl rfl ?_
    obtain ⟨h6, H⟩ := H
    refine am_18 h6 dX10_leansOther_20 ?_
    refine g_iconst (v := (iI_ 2)) dX10_leansOther_21 (by decide) ?_
    refine g_icmp_ge 68 dX10_leansOther_22 (by decide) (fun c7 => ?_) (fun c7 => ?_)
    · replace H := H.1 c7
      refine g_iload dX10_leansOther_68 4 rfl ?_
      refine g_if_ne 83 dX10_leansOther_70 (by decide) (fun c8 => ?_) (fun c8 => ?_)
      · replace H := H.1 c8
        refine g_iload dX10_leansOther_83 4 rfl ?_
        refine g_if_le 92 dX10_leansOther_85 (by decide) (fun c9 => ?_) (fun c9 => ?_)
        · replace H := H.1 c9
          refine g_iconst (v := (iI_ 0)) dX10_leansOther_92 (by decide) ?_
          exact g_zret rfl (by decide) dX10_leansOther_93 ⟨_, rfl, H⟩
        · replace H := H.2 c9
          refine g_iconst (v := (iI_ 1)) dX10_leansOther_88 (by decide) ?_
          refine g_goto 93 dX10_leansOther_89 (by decide) ?_
          exact g_zret rfl (by decide) dX10_leansOther_93 ⟨_, rfl, H⟩
      · replace H := H.2 c8
        refine g_aload_n dX10_leansOther_73 0 rfl rfl ?_
        refine g_iload_n dX10_leansOther_74 1 rfl rfl ?_
        refine g_iload_n dX10_leansOther_75 2 rfl rfl ?_
        refine g_iload_n dX10_leansOther_76 3 rfl rfl ?_
        refine k_X10_isOther w_1083 rfl ⟨Nat.le_of_ble_eq_true rfl, Nat.le_of_ble_eq_true rfl⟩ (Nat.le_of_ble_eq_true rfl) dX10_leansOther_77 H (fun r11 σ10 H => ?_)
        refine g_goto 93 dX10_leansOther_80 (by decide) ?_
        obtain ⟨hz, H⟩ := H
        exact g_zret rfl hz dX10_leansOther_93 ⟨_, rfl, H⟩
    · replace H := H.2 c7
      refine g_aload_n dX10_leansOther_25 0 rfl rfl ?_
      refine gm_LinenHouseModel_lieNow w_830 rfl dX10_leansOther_26 ?_
      refine g_iload dX10_leansOther_29 5 rfl ?_
      obtain ⟨h12, H⟩ := H
      refine am_17 h12 dX10_leansOther_31 ?_
      refine g_aload_n dX10_leansOther_32 0 rfl rfl ?_
      refine gm_LinenHouseModel_lieNow w_830 rfl dX10_leansOther_33 ?_
      refine g_iload_n dX10_leansOther_36 1 rfl rfl ?_
      obtain ⟨h13, H⟩ := H
      refine am_17 h13 dX10_leansOther_37 ?_
      refine g_icmp_ne 62 dX10_leansOther_38 (by decide) (fun c14 => ?_) (fun c14 => ?_)
      · replace H := H.1 c14
        refine g_iinc (v := (x5 + (iI_ 1))) (L' := [(5, .int (x5 + (iI_ 1))), (0, .ref (uq_ u 0)), (1, .int x1), (2, .int x2), (3, .int x3), (4, .int x4)]) dX10_leansOther_62 5 rfl rfl (by decide) rfl ?_
        refine g_goto 6 dX10_leansOther_65 (by decide) ?_
        exact GG_.sub [1, 2, 3, 4, 5, 0] rfl H
      · replace H := H.2 c14
        refine g_iload dX10_leansOther_41 4 rfl ?_
        refine g_aload_n dX10_leansOther_43 0 rfl rfl ?_
        refine g_iload dX10_leansOther_44 5 rfl ?_
        refine g_iload_n dX10_leansOther_46 2 rfl rfl ?_
        refine g_iload_n dX10_leansOther_47 3 rfl rfl ?_
        refine k_X10_isOther w_1083 rfl ⟨Nat.le_of_ble_eq_true rfl, Nat.le_of_ble_eq_true rfl⟩ (Nat.le_of_ble_eq_true rfl) dX10_leansOther_48 H (fun r16 σ15 H => ?_)
        refine g_if_eq 58 dX10_leansOther_51 (by decide) (fun c17 => ?_) (fun c17 => ?_)
        · replace H := H.1 c17
          refine g_iconst (v := (iI_ (-1))) dX10_leansOther_58 (by decide) ?_
          refine g_iadd dX10_leansOther_59 ?_
          refine g_istore (L' := [(4, .int (x4 + (iI_ (-1)))), (0, .ref (uq_ u 0)), (1, .int x1), (2, .int x2), (3, .int x3), (5, .int x5)]) dX10_leansOther_60 (by decide) rfl ?_
          refine g_iinc (v := (x5 + (iI_ 1))) (L' := [(5, .int (x5 + (iI_ 1))), (4, .int (x4 + (iI_ (-1)))), (0, .ref (uq_ u 0)), (1, .int x1), (2, .int x2), (3, .int x3)]) dX10_leansOther_62 5 rfl rfl (by decide) rfl ?_
          refine g_goto 6 dX10_leansOther_65 (by decide) ?_
          exact GG_.sub [2, 3, 4, 5, 1, 0] rfl H
        · replace H := H.2 c17
          refine g_iconst (v := (iI_ 1)) dX10_leansOther_54 (by decide) ?_
          refine g_goto 59 dX10_leansOther_55 (by decide) ?_
          refine g_iadd dX10_leansOther_59 ?_
          refine g_istore (L' := [(4, .int (x4 + (iI_ 1))), (0, .ref (uq_ u 0)), (1, .int x1), (2, .int x2), (3, .int x3), (5, .int x5)]) dX10_leansOther_60 (by decide) rfl ?_
          refine g_iinc (v := (x5 + (iI_ 1))) (L' := [(5, .int (x5 + (iI_ 1))), (4, .int (x4 + (iI_ 1))), (0, .ref (uq_ u 0)), (1, .int x1), (2, .int x2), (3, .int x3)]) dX10_leansOther_62 5 rfl rfl (by decide) rfl ?_
          refine g_goto 6 dX10_leansOther_65 (by decide) ?_
          exact GG_.sub [2, 3, 4, 5, 1, 0] rfl H
set_option maxHeartbeats 4000000 in
set_option maxRecDepth 100000 in
theorem eX10_leansOther (u : Ux_) {P : Int32 → St_ → Prop}  (σ : St_) (x1 : Int32) (x2 : Int32) (x3 : Int32) (H : GG_ (zm_ u) mX10_leansOther (Pi_ P) 6 [(0, .ref (uq_ u 0)), (1, .int x1), (2, .int x2), (3, .int x3), (4, .int (iI_ 0)), (5, .int (iI_ 0))] [] σ) : MMi_ (zm_ u) mX10_leansOther [.ref (uq_ u 0), .int x1, .int x2, .int x3] σ P := by
  refine MM_.of (L := [(0, .ref (uq_ u 0)), (1, .int x1), (2, .int x2), (3, .int x3)]) (by decide +kernel) (Nat.le_of_ble_eq_true rfl) rfl ?_
  refine g_iconst (v := (iI_ 0)) dX10_leansOther_0 (by decide) ?_
  refine g_istore (L' := [(4, .int (iI_ 0)), (0, .ref (uq_ u 0)), (1, .int x1), (2, .int x2), (3, .int x3)]) dX10_leansOther_1 (by decide) rfl ?_
  refine g_iconst (v := (iI_ 0)) dX10_leansOther_3 (by decide) ?_
  refine g_istore (L' := [(5, .int (iI_ 0)), (4, .int (iI_ 0)), (0, .ref (uq_ u 0)), (1, .int x1), (2, .int x2), (3, .int x3)]) dX10_leansOther_4 (by decide) rfl ?_
  exact GG_.sub [2, 3, 4, 5, 1, 0] rfl H
set_option maxHeartbeats 4000000 in
set_option maxRecDepth 100000 in
theorem bX10_leans_12 (u : Ux_) {P : St_ → Prop}  (σ : St_) (x1 : Int32) (x2 : Int32) (x3 : Int32) (H : (((σ 2 0) ≤ x3 → P σ) ∧ (¬ (σ 2 0) ≤ x3 → MMi_ (zm_ u) mX10_leansOther [.ref (uq_ u 0), .int x3, .int x1, .int x2] σ (fun r3 σ2 => ((r3 = iI_ 0 → GG_ (zm_ u) mX10_leans (Pv_ P) 42 [(0, .ref (uq_ u 0)), (1, .int x1), (2, .int x2), (3, .int x3)] [.int (iI_ 0), .int (σ 19 0), .ref (uq_ u 0)] σ2) ∧ (¬ r3 = iI_ 0 → GG_ (zm_ u) mX10_leans (Pv_ P) 42 [(0, .ref (uq_ u 0)), (1, .int x1), (2, .int x2), (3, .int x3)] [.int ((iI_ 1) <<< (x3 &&& 31)), .int (σ 19 0), .ref (uq_ u 0)] σ2)))))) : GG_ (zm_ u) mX10_leans (Pv_ P) 12 [(0, .ref (uq_ u 0)), (1, .int x1), (2, .int x2), (3, .int x3)] [] σ := by
  refine g_iload_n dX10_leans_12 3 rfl rfl ?_
  refine g_aload_n dX10_leans_13 0 rfl rfl ?_
  refine gm_LinenHouseModel_members w_815 rfl dX10_leans_14 ?_
  refine g_icmp_ge 90 dX10_leans_17 (by decide) (fun c1 => ?_) (fun c1 => ?_)
  · replace H := H.1 c1
    exact g_vret rfl dX10_leans_90 ⟨rfl, H⟩
  · replace H := H.2 c1
    refine g_aload_n dX10_leans_20 0 rfl rfl ?_
    refine g_dup dX10_leans_21 rfl ?_
    refine gm_LinenHouseModel_votesNow w_832 rfl dX10_leans_22 ?_
    refine g_aload_n dX10_leans_25 0 rfl rfl ?_
    refine g_iload_n dX10_leans_26 3 rfl rfl ?_
    refine g_iload_n dX10_leans_27 1 rfl rfl ?_
    refine g_iload_n dX10_leans_28 2 rfl rfl ?_
    refine k_X10_leansOther w_1079 rfl ⟨Nat.le_of_ble_eq_true rfl, Nat.le_of_ble_eq_true rfl⟩ (Nat.le_of_ble_eq_true rfl) dX10_leans_29 H (fun r3 σ2 H => ?_)
    refine g_if_eq 41 dX10_leans_32 (by decide) (fun c4 => ?_) (fun c4 => ?_)
    · replace H := H.1 c4
      refine g_iconst (v := (iI_ 0)) dX10_leans_41 (by decide) ?_
      exact GG_.sub [0, 1, 2, 3] rfl H
    · replace H := H.2 c4
      refine g_iconst (v := (iI_ 1)) dX10_leans_35 (by decide) ?_
      refine g_iload_n dX10_leans_36 3 rfl rfl ?_
      refine g_ishl dX10_leans_37 ?_
      refine g_goto 42 dX10_leans_38 (by decide) ?_
      exact GG_.sub [0, 1, 2, 3] rfl H
set_option maxHeartbeats 4000000 in
set_option maxRecDepth 100000 in
theorem bX10_leans_42 (u : Ux_) {P : St_ → Prop}  (σ : St_) (x1 : Int32) (x2 : Int32) (x3 : Int32) (y0 : Int32) (y1 : Int32) (H : (∀ σ1, σ1 = su_ σ 19 0 (y1 ||| y0) → (((σ1 21 0) = (iI_ (-1)) → (∀ σ3, σ3 = su_ σ1 21 0 x3 → GG_ (zm_ u) mX10_leans (Pv_ P) 12 [(0, .ref (uq_ u 0)), (1, .int x1), (2, .int x2), (3, .int (x3 + (iI_ 1)))] [] σ3)) ∧ (¬ (σ1 21 0) = (iI_ (-1)) → vp_in x3 8 ∧ vp_in (σ1 21 0) 8 ∧ (((σ1 17 (Int32.toNatClampNeg (σ1 21 0))) ≤ (σ1 17 (Int32.toNatClampNeg x3)) → (∀ σ7, σ7 = su_ σ1 21 0 (σ1 21 0) → GG_ (zm_ u) mX10_leans (Pv_ P) 12 [(0, .ref (uq_ u 0)), (1, .int x1), (2, .int x2), (3, .int (x3 + (iI_ 1)))] [] σ7)) ∧ (¬ (σ1 17 (Int32.toNatClampNeg (σ1 21 0))) ≤ (σ1 17 (Int32.toNatClampNeg x3)) → (∀ σ8, σ8 = su_ σ1 21 0 x3 → GG_ (zm_ u) mX10_leans (Pv_ P) 12 [(0, .ref (uq_ u 0)), (1, .int x1), (2, .int x2), (3, .int (x3 + (iI_ 1)))] [] σ8))))))) : GG_ (zm_ u) mX10_leans (Pv_ P) 42 [(0, .ref (uq_ u 0)), (1, .int x1), (2, .int x2), (3, .int x3)] [.int y0, .int y1, .ref (uq_ u 0)] σ := by
  refine g_ior dX10_leans_42 ?_
  refine pm_LinenHouseModel_votesNow w_832 rfl dX10_leans_43 ?_
  obtain ⟨σ1, e_σ1⟩ : ∃ q : St_, q = su_ σ 19 0 (y1 ||| y0) := ⟨_, rfl⟩
  rw [← e_σ1]
  replace H := H σ1 e_σ1
  refine g_aload_n dX10_leans_46 0 rfl rfl ?_
  refine g_aload_n dX10_leans_47 0 rfl rfl ?_
  refine gm_LinenHouseModel_speakerNow w_834 rfl dX10_leans_48 ?_
  refine g_iconst (v := (iI_ (-1))) dX10_leans_51 (by decide) ?_
  refine g_icmp_eq 73 dX10_leans_52 (by decide) (fun c2 => ?_) (fun c2 => ?_)
  · replace H := H.1 c2
    refine g_iload_n dX10_leans_73 3 rfl rfl ?_
    refine g_goto 81 dX10_leans_74 (by decide) ?_
    refine pm_LinenHouseModel_speakerNow w_834 rfl dX10_leans_81 ?_
    obtain ⟨σ3, e_σ3⟩ : ∃ q : St_, q = su_ σ1 21 0 x3 := ⟨_, rfl⟩
    rw [← e_σ3]
    replace H := H σ3 e_σ3
    refine g_iinc (v := (x3 + (iI_ 1))) (L' := [(3, .int (x3 + (iI_ 1))), (0, .ref (uq_ u 0)), (1, .int x1), (2, .int x2)]) dX10_leans_84 3 rfl rfl (by decide) rfl ?_
    refine g_goto 12 dX10_leans_87 (by decide) ?_
    exact GG_.sub [1, 2, 3, 0] rfl H
  · replace H := H.2 c2
    refine g_aload_n dX10_leans_55 0 rfl rfl ?_
    refine gm_LinenHouseModel_lieNow w_830 rfl dX10_leans_56 ?_
    refine g_iload_n dX10_leans_59 3 rfl rfl ?_
    obtain ⟨h4, H⟩ := H
    refine am_17 h4 dX10_leans_60 ?_
    refine g_aload_n dX10_leans_61 0 rfl rfl ?_
    refine gm_LinenHouseModel_lieNow w_830 rfl dX10_leans_62 ?_
    refine g_aload_n dX10_leans_65 0 rfl rfl ?_
    refine gm_LinenHouseModel_speakerNow w_834 rfl dX10_leans_66 ?_
    obtain ⟨h5, H⟩ := H
    refine am_17 h5 dX10_leans_69 ?_
    refine g_icmp_ge 77 dX10_leans_70 (by decide) (fun c6 => ?_) (fun c6 => ?_)
    · replace H := H.1 c6
      refine g_aload_n dX10_leans_77 0 rfl rfl ?_
      refine gm_LinenHouseModel_speakerNow w_834 rfl dX10_leans_78 ?_
      refine pm_LinenHouseModel_speakerNow w_834 rfl dX10_leans_81 ?_
      obtain ⟨σ7, e_σ7⟩ : ∃ q : St_, q = su_ σ1 21 0 (σ1 21 0) := ⟨_, rfl⟩
      rw [← e_σ7]
      replace H := H σ7 e_σ7
      refine g_iinc (v := (x3 + (iI_ 1))) (L' := [(3, .int (x3 + (iI_ 1))), (0, .ref (uq_ u 0)), (1, .int x1), (2, .int x2)]) dX10_leans_84 3 rfl rfl (by decide) rfl ?_
      refine g_goto 12 dX10_leans_87 (by decide) ?_
      exact GG_.sub [1, 2, 3, 0] rfl H
    · replace H := H.2 c6
      refine g_iload_n dX10_leans_73 3 rfl rfl ?_
      refine g_goto 81 dX10_leans_74 (by decide) ?_
      refine pm_LinenHouseModel_speakerNow w_834 rfl dX10_leans_81 ?_
      obtain ⟨σ8, e_σ8⟩ : ∃ q : St_, q = su_ σ1 21 0 x3 := ⟨_, rfl⟩
      rw [← e_σ8]
      replace H := H σ8 e_σ8
      refine g_iinc (v := (x3 + (iI_ 1))) (L' := [(3, .int (x3 + (iI_ 1))), (0, .ref (uq_ u 0)), (1, .int x1), (2, .int x2)]) dX10_leans_84 3 rfl rfl (by decide) rfl ?_
      refine g_goto 12 dX10_leans_87 (by decide) ?_
      exact GG_.sub [1, 2, 3, 0] rfl H
set_option maxHeartbeats 4000000 in
set_option maxRecDepth 100000 in
theorem eX10_leans (u : Ux_) {P : St_ → Prop}  (σ : St_) (x1 : Int32) (x2 : Int32) (H : (∀ σ1, σ1 = su_ σ 19 0 (iI_ 0) → (∀ σ2, σ2 = su_ σ1 21 0 (iI_ (-1)) → GG_ (zm_ u) mX10_leans (Pv_ P) 12 [(0, .ref (uq_ u 0)), (1, .int x1), (2, .int x2), (3, .int (iI_ 0))] [] σ2))) : MMv_ (zm_ u) mX10_leans [.ref (uq_ u 0), .int x1, .int x2] σ P := by
  refine MM_.of (L := [(0, .ref (uq_ u 0)), (1, .int x1), (2, .int x2)]) (by decide +kernel) (Nat.le_of_ble_eq_true rfl) rfl ?_
  refine g_aload_n dX10_leans_0 0 rfl rfl ?_
  refine g_iconst (v := (iI_ 0)) dX10_leans_1 (by decide) ?_
  refine pm_LinenHouseModel_votesNow w_832 rfl dX10_leans_2 ?_
  obtain ⟨σ1, e_σ1⟩ : ∃ q : St_, q = su_ σ 19 0 (iI_ 0) := ⟨_, rfl⟩
  rw [← e_σ1]
  replace H := H σ1 e_σ1
  refine g_aload_n dX10_leans_5 0 rfl rfl ?_
  refine g_iconst (v := (iI_ (-1))) dX10_leans_6 (by decide) ?_
  refine pm_LinenHouseModel_speakerNow w_834 rfl dX10_leans_7 ?_
  obtain ⟨σ2, e_σ2⟩ : ∃ q : St_, q = su_ σ1 21 0 (iI_ (-1)) := ⟨_, rfl⟩
  rw [← e_σ2]
  replace H := H σ2 e_σ2
  refine g_iconst (v := (iI_ 0)) dX10_leans_10 (by decide) ?_
  refine g_istore_n (L' := [(3, .int (iI_ 0)), (0, .ref (uq_ u 0)), (1, .int x1), (2, .int x2)]) dX10_leans_11 rfl (by decide) rfl ?_
  exact GG_.sub [1, 2, 3, 0] rfl H
set_option maxHeartbeats 4000000 in
set_option maxRecDepth 100000 in
theorem bX10_carries_15 (u : Ux_) {P : Int32 → St_ → Prop}  (σ : St_) (x1 : Int32) (x2 : Int32) (x3 : Int32) (x5 : Int32) (x6 : Int32) (x7 : Int32) (H : (((σ 2 0) ≤ x7 → ((iI_ 0 ≤ x6 → (∀ σ3, σ3 = su_ σ 20 0 x6 → ((¬ (σ3 2 0) = iI_ 0 → ((iI_ 0 < x6 → P x2 σ3) ∧ (¬ iI_ 0 < x6 → ((¬ x6 = iI_ 0 → P x1 σ3) ∧ (x6 = iI_ 0 → MMi_ (zm_ u) mX10_isIn [.int x5, .int (σ3 21 0)] σ3 (fun r8 σ7 => ((r8 = iI_ 0 → P x1 σ7) ∧ (¬ r8 = iI_ 0 → P x2 σ7)))))))) ∧ ((σ3 2 0) = iI_ 0 → P (iI_ (-1)) σ3)))) ∧ (¬ iI_ 0 ≤ x6 → (∀ σ10, σ10 = su_ σ 20 0 (iI_ 0 - x6) → ((¬ (σ10 2 0) = iI_ 0 → ((iI_ 0 < x6 → P x2 σ10) ∧ (¬ iI_ 0 < x6 → ((¬ x6 = iI_ 0 → P x1 σ10) ∧ (x6 = iI_ 0 → MMi_ (zm_ u) mX10_isIn [.int x5, .int (σ10 21 0)] σ10 (fun r15 σ14 => ((r15 = iI_ 0 → P x1 σ14) ∧ (¬ r15 = iI_ 0 → P x2 σ14)))))))) ∧ ((σ10 2 0) = iI_ 0 → P (iI_ (-1)) σ10)))))) ∧ (¬ (σ 2 0) ≤ x7 → ((¬ x3 = (iI_ 1) → vp_in x7 9 ∧ vp_in (σ 3 (Int32.toNatClampNeg x7)) 3 ∧ MMi_ (zm_ u) mX10_isIn [.int x5, .int x7] σ (fun r21 σ20 => ((r21 = iI_ 0 → GG_ (zm_ u) mX10_carries (Pi_ P) 15 [(0, .ref (uq_ u 0)), (1, .int x1), (2, .int x2), (3, .int x3), (5, .int x5), (6, .int (x6 + (iI_ 0 - (σ 10 (Int32.toNatClampNeg (σ 3 (Int32.toNatClampNeg x7))))))), (7, .int (x7 + (iI_ 1)))] [] σ20) ∧ (¬ r21 = iI_ 0 → GG_ (zm_ u) mX10_carries (Pi_ P) 15 [(0, .ref (uq_ u 0)), (1, .int x1), (2, .int x2), (3, .int x3), (5, .int x5), (6, .int (x6 + (σ 10 (Int32.toNatClampNeg (σ 3 (Int32.toNatClampNeg x7)))))), (7, .int (x7 + (iI_ 1)))] [] σ20)))) ∧ (x3 = (iI_ 1) → MMi_ (zm_ u) mX10_isIn [.int x5, .int x7] σ (fun r24 σ23 => ((r24 = iI_ 0 → GG_ (zm_ u) mX10_carries (Pi_ P) 15 [(0, .ref (uq_ u 0)), (1, .int x1), (2, .int x2), (3, .int x3), (5, .int x5), (6, .int (x6 + (iI_ 0 - (iI_ 1)))), (7, .int (x7 + (iI_ 1)))] [] σ23) ∧ (¬ r24 = iI_ 0 → GG_ (zm_ u) mX10_carries (Pi_ P) 15 [(0, .ref (uq_ u 0)), (1, .int x1), (2, .int x2), (3, .int x3), (5, .int x5), (6, .int (x6 + (iI_ 1))), (7, .int (x7 + (iI_ 1)))] [] σ23)))))))) : GG_ (zm_ u) mX10_carries (Pi_ P) 15 [(0, .ref (uq_ u 0)), (1, .int x1), (2, .int x2), (3, .int x3), (5, .int x5), (6, .int x6), (7, .int x7)] [] σ := by
  refine g_iload dX10_carries_15 6 rfl ?_
  refine g_aload_n dX10_carries_17 0 rfl rfl ?_
  refine gm_LinenHouseModel_members w_815 rfl dX10_carries_18 ?_
  refine g_icmp_ge 76 dX10_carries_21 (by decide) (fun c1 => ?_) (fun c1 => ?_)
  · replace H := H.1 c1
    refine g_aload_n dX10_carries_76 0 rfl rfl ?_
    refine g_iload dX10_carries_77 5 rfl ?_
    refine g_if_ge 88 dX10_carries_79 (by decide) (fun c2 => ?_) (fun c2 => ?_)
    · replace H := H.1 c2
      refine g_iload dX10_carries_88 5 rfl ?_
      refine pm_LinenHouseModel_apartNow w_833 rfl dX10_carries_90 ?_
      obtain ⟨σ3, e_σ3⟩ : ∃ q : St_, q = su_ σ 20 0 x6 := ⟨_, rfl⟩
      rw [← e_σ3]
      replace H := H σ3 e_σ3
      refine g_aload_n dX10_carries_93 0 rfl rfl ?_
      refine gm_LinenHouseModel_members w_815 rfl dX10_carries_94 ?_
      refine g_if_ne 104 dX10_carries_97 (by decide) (fun c4 => ?_) (fun c4 => ?_)
      · replace H := H.1 c4
        refine g_iload dX10_carries_104 5 rfl ?_
        refine g_if_gt 126 dX10_carries_106 (by decide) (fun c5 => ?_) (fun c5 => ?_)
        · replace H := H.1 c5
          refine g_iload_n dX10_carries_126 2 rfl rfl ?_
          refine g_goto 131 dX10_carries_127 (by decide) ?_
          exact g_iret rfl dX10_carries_131 ⟨_, rfl, H⟩
        · replace H := H.2 c5
          refine g_iload dX10_carries_109 5 rfl ?_
          refine g_if_ne 130 dX10_carries_111 (by decide) (fun c6 => ?_) (fun c6 => ?_)
          · replace H := H.1 c6
            refine g_iload_n dX10_carries_130 1 rfl rfl ?_
            exact g_iret rfl dX10_carries_131 ⟨_, rfl, H⟩
          · replace H := H.2 c6
            refine g_iload dX10_carries_114 4 rfl ?_
            refine g_aload_n dX10_carries_116 0 rfl rfl ?_
            refine gm_LinenHouseModel_speakerNow w_834 rfl dX10_carries_117 ?_
            refine k_X10_isIn w_989 rfl ⟨Nat.le_of_ble_eq_true rfl, Nat.le_of_ble_eq_true rfl⟩ (Nat.le_of_ble_eq_true rfl) dX10_carries_120 H (fun r8 σ7 H => ?_)
            refine g_if_eq 130 dX10_carries_123 (by decide) (fun c9 => ?_) (fun c9 => ?_)
            · replace H := H.1 c9
              refine g_iload_n dX10_carries_130 1 rfl rfl ?_
              exact g_iret rfl dX10_carries_131 ⟨_, rfl, H⟩
            · replace H := H.2 c9
              refine g_iload_n dX10_carries_126 2 rfl rfl ?_
              refine g_goto 131 dX10_carries_127 (by decide) ?_
              exact g_iret rfl dX10_carries_131 ⟨_, rfl, H⟩
      · replace H := H.2 c4
        refine g_iconst (v := (iI_ (-1))) dX10_carries_100 (by decide) ?_
        refine g_goto 131 dX10_carries_101 (by decide) ?_
        exact g_iret rfl dX10_carries_131 ⟨_, rfl, H⟩
    · replace H := H.2 c2
      refine g_iload dX10_carries_82 5 rfl ?_
      refine g_ineg dX10_carries_84 ?_
      refine g_goto 90 dX10_carries_85 (by decide) ?_
      refine pm_LinenHouseModel_apartNow w_833 rfl dX10_carries_90 ?_
      obtain ⟨σ10, e_σ10⟩ : ∃ q : St_, q = su_ σ 20 0 (iI_ 0 - x6) := ⟨_, rfl⟩
      rw [← e_σ10]
      replace H := H σ10 e_σ10
      refine g_aload_n dX10_carries_93 0 rfl rfl ?_
      refine gm_LinenHouseModel_members w_815 rfl dX10_carries_94 ?_
      refine g_if_ne 104 dX10_carries_97 (by decide) (fun c11 => ?_) (fun c11 => ?_)
      · replace H := H.1 c11
        refine g_iload dX10_carries_104 5 rfl ?_
        refine g_if_gt 126 dX10_carries_106 (by decide) (fun c12 => ?_) (fun c12 => ?_)
        · replace H := H.1 c12
          refine g_iload_n dX10_carries_126 2 rfl rfl ?_
          refine g_goto 131 dX10_carries_127 (by decide) ?_
          exact g_iret rfl dX10_carries_131 ⟨_, rfl, H⟩
        · replace H := H.2 c12
          refine g_iload dX10_carries_109 5 rfl ?_
          refine g_if_ne 130 dX10_carries_111 (by decide) (fun c13 => ?_) (fun c13 => ?_)
          · replace H := H.1 c13
            refine g_iload_n dX10_carries_130 1 rfl rfl ?_
            exact g_iret rfl dX10_carries_131 ⟨_, rfl, H⟩
          · replace H := H.2 c13
            refine g_iload dX10_carries_114 4 rfl ?_
            refine g_aload_n dX10_carries_116 0 rfl rfl ?_
            refine gm_LinenHouseModel_speakerNow w_834 rfl dX10_carries_117 ?_
            refine k_X10_isIn w_989 rfl ⟨Nat.le_of_ble_eq_true rfl, Nat.le_of_ble_eq_true rfl⟩ (Nat.le_of_ble_eq_true rfl) dX10_carries_120 H (fun r15 σ14 H => ?_)
            refine g_if_eq 130 dX10_carries_123 (by decide) (fun c16 => ?_) (fun c16 => ?_)
            · replace H := H.1 c16
              refine g_iload_n dX10_carries_130 1 rfl rfl ?_
              exact g_iret rfl dX10_carries_131 ⟨_, rfl, H⟩
            · replace H := H.2 c16
              refine g_iload_n dX10_carries_126 2 rfl rfl ?_
              refine g_goto 131 dX10_carries_127 (by decide) ?_
              exact g_iret rfl dX10_carries_131 ⟨_, rfl, H⟩
      · replace H := H.2 c11
        refine g_iconst (v := (iI_ (-1))) dX10_carries_100 (by decide) ?_
        refine g_goto 131 dX10_carries_101 (by decide) ?_
        exact g_iret rfl dX10_carries_131 ⟨_, rfl, H⟩
  · replace H := H.2 c1
    refine g_iload_n dX10_carries_24 3 rfl rfl ?_
    refine g_iconst (v := (iI_ 1)) dX10_carries_25 (by decide) ?_
    refine g_icmp_ne 33 dX10_carries_26 (by decide) (fun c17 => ?_) (fun c17 => ?_)
    · replace H := H.1 c17
      refine g_aload_n dX10_carries_33 0 rfl rfl ?_
      refine gm_LinenHouseModel_weights w_823 rfl dX10_carries_34 ?_
      refine g_aload_n dX10_carries_37 0 rfl rfl ?_
      refine gm_LinenHouseModel_sorts w_816 rfl dX10_carries_38 ?_
      refine g_iload dX10_carries_41 6 rfl ?_
      obtain ⟨h18, H⟩ := H
      refine am_3 h18 dX10_carries_43 ?_
      obtain ⟨h19, H⟩ := H
      refine am_10 h19 dX10_carries_44 ?_
      refine g_istore (L' := [(8, .int (σ 10 (Int32.toNatClampNeg (σ 3 (Int32.toNatClampNeg x7))))), (0, .ref (uq_ u 0)), (1, .int x1), (2, .int x2), (3, .int x3), (5, .int x5), (6, .int x6), (7, .int x7)]) dX10_carries_45 (by decide) rfl ?_
      refine g_iload dX10_carries_47 6 rfl ?_
      refine g_iload dX10_carries_49 5 rfl ?_
      refine g_iload dX10_carries_51 7 rfl ?_
      refine k_X10_isIn w_989 rfl ⟨Nat.le_of_ble_eq_true rfl, Nat.le_of_ble_eq_true rfl⟩ (Nat.le_of_ble_eq_true rfl) dX10_carries_53 H (fun r21 σ20 H => ?_)
      refine g_if_eq 64 dX10_carries_56 (by decide) (fun c22 => ?_) (fun c22 => ?_)
      · replace H := H.1 c22
        refine g_iload dX10_carries_64 0 rfl ?_
        refine g_ineg dX10_carries_66 ?_
        refine g_iadd dX10_carries_67 ?_
        refine g_istore (L' := [(6, .int (x6 + (iI_ 0 - (σ 10 (Int32.toNatClampNeg (σ 3 (Int32.toNatClampNeg x7))))))), (8, .int (σ 10 (Int32.toNatClampNeg (σ 3 (Int32.toNatClampNeg x7))))), (0, .ref (uq_ u 0)), (1, .int x1), (2, .int x2), (3, .int x3), (5, .int x5), (7, .int x7)]) dX10_carries_68 (by decide) rfl ?_
        refine g_iinc (v := (x7 + (iI_ 1))) (L' := [(7, .int (x7 + (iI_ 1))), (6, .int (x6 + (iI_ 0 - (σ 10 (Int32.toNatClampNeg (σ 3 (Int32.toNatClampNeg x7))))))), (8, .int (σ 10 (Int32.toNatClampNeg (σ 3 (Int32.toNatClampNeg x7))))), (0, .ref (uq_ u 0)), (1, .int x1), (2, .int x2), (3, .int x3), (5, .int x5)]) dX10_carries_70 7 rfl rfl (by decide) rfl ?_
        refine g_goto 15 dX10_carries_73 (by decide) ?_
        exact GG_.sub [3, 4, 5, 6, 7, 1, 0] rfl H
      · replace H := H.2 c22
        refine g_iload dX10_carries_59 0 rfl ?_
        refine g_goto 67 dX10_carries_61 (by decide) ?_
        refine g_iadd dX10_carries_67 ?_
        refine g_istore (L' := [(6, .int (x6 + (σ 10 (Int32.toNatClampNeg (σ 3 (Int32.toNatClampNeg x7)))))), (8, .int (σ 10 (Int32.toNatClampNeg (σ 3 (Int32.toNatClampNeg x7))))), (0, .ref (uq_ u 0)), (1, .int x1), (2, .int x2), (3, .int x3), (5, .int x5), (7, .int x7)]) dX10_carries_68 (by decide) rfl ?_
        refine g_iinc (v := (x7 + (iI_ 1))) (L' := [(7, .int (x7 + (iI_ 1))), (6, .int (x6 + (σ 10 (Int32.toNatClampNeg (σ 3 (Int32.toNatClampNeg x7)))))), (8, .int (σ 10 (Int32.toNatClampNeg (σ 3 (Int32.toNatClampNeg x7))))), (0, .ref (uq_ u 0)), (1, .int x1), (2, .int x2), (3, .int x3), (5, .int x5)]) dX10_carries_70 7 rfl rfl (by decide) rfl ?_
        refine g_goto 15 dX10_carries_73 (by decide) ?_
        exact GG_.sub [3, 4, 5, 6, 7, 1, 0] rfl H
    · replace H := H.2 c17
      refine g_iconst (v := (iI_ 1)) dX10_carries_29 (by decide) ?_
      refine g_goto 45 dX10_carries_30 (by decide) ?_
      refine g_istore (L' := [(8, .int (iI_ 1)), (0, .ref (uq_ u 0)), (1, .int x1), (2, .int x2), (3, .int x3), (5, .int x5), (6, .int x6), (7, .int x7)]) dX10_carries_45 (by decide) rfl ?_
      refine g_iload dX10_carries_47 6 rfl ?_
      refine g_iload dX10_carries_49 5 rfl ?_
      refine g_iload dX10_carries_51 7 rfl ?_
      refine k_X10_isIn w_989 rfl ⟨Nat.le_of_ble_eq_true rfl, Nat.le_of_ble_eq_true rfl⟩ (Nat.le_of_ble_eq_true rfl) dX10_carries_53 H (fun r24 σ23 H => ?_)
      refine g_if_eq 64 dX10_carries_56 (by decide) (fun c25 => ?_) (fun c25 => ?_)
      · replace H := H.1 c25
        refine g_iload dX10_carries_64 0 rfl ?_
        refine g_ineg dX10_carries_66 ?_
        refine g_iadd dX10_carries_67 ?_
        refine g_istore (L' := [(6, .int (x6 + (iI_ 0 - (iI_ 1)))), (8, .int (iI_ 1)), (0, .ref (uq_ u 0)), (1, .int x1), (2, .int x2), (3, .int x3), (5, .int x5), (7, .int x7)]) dX10_carries_68 (by decide) rfl ?_
        refine g_iinc (v := (x7 + (iI_ 1))) (L' := [(7, .int (x7 + (iI_ 1))), (6, .int (x6 + (iI_ 0 - (iI_ 1)))), (8, .int (iI_ 1)), (0, .ref (uq_ u 0)), (1, .int x1), (2, .int x2), (3, .int x3), (5, .int x5)]) dX10_carries_70 7 rfl rfl (by decide) rfl ?_
        refine g_goto 15 dX10_carries_73 (by decide) ?_
        exact GG_.sub [3, 4, 5, 6, 7, 1, 0] rfl H
      · replace H := H.2 c25
        refine g_iload dX10_carries_59 0 rfl ?_
        refine g_goto 67 dX10_carries_61 (by decide) ?_
        refine g_iadd dX10_carries_67 ?_
        refine g_istore (L' := [(6, .int (x6 + (iI_ 1))), (8, .int (iI_ 1)), (0, .ref (uq_ u 0)), (1, .int x1), (2, .int x2), (3, .int x3), (5, .int x5), (7, .int x7)]) dX10_carries_68 (by decide) rfl ?_
        refine g_iinc (v := (x7 + (iI_ 1))) (L' := [(7, .int (x7 + (iI_ 1))), (6, .int (x6 + (iI_ 1))), (8, .int (iI_ 1)), (0, .ref (uq_ u 0)), (1, .int x1), (2, .int x2), (3, .int x3), (5, .int x5)]) dX10_carries_70 7 rfl rfl (by decide) rfl ?_
        refine g_goto 15 dX10_carries_73 (by decide) ?_
        exact GG_.sub [3, 4, 5, 6, 7, 1, 0] rfl H
set_option maxHeartbeats 4000000 in
set_option maxRecDepth 100000 in
theorem eX10_carries (u : Ux_) {P : Int32 → St_ → Prop}  (σ : St_) (x1 : Int32) (x2 : Int32) (x3 : Int32) (x4 : Int32) (H : GG_ (zm_ u) mX10_carries (Pi_ P) 15 [(0, .ref (uq_ u 0)), (1, .int x1), (2, .int x2), (3, .int x3), (5, .int ((σ 19 0) ^^^ x4)), (6, .int (iI_ 0)), (7, .int (iI_ 0))] [] σ) : MMi_ (zm_ u) mX10_carries [.ref (uq_ u 0), .int x1, .int x2, .int x3, .int x4] σ P := by
  refine MM_.of (L := [(0, .ref (uq_ u 0)), (1, .int x1), (2, .int x2), (3, .int x3), (4, .int x4)]) (by decide +kernel) (Nat.le_of_ble_eq_true rfl) rfl ?_
  refine g_aload_n dX10_carries_0 0 rfl rfl ?_
  refine gm_LinenHouseModel_votesNow w_832 rfl dX10_carries_1 ?_
  refine g_iload dX10_carries_4 4 rfl ?_
  refine g_ixor dX10_carries_6 ?_
  refine g_istore (L' := [(5, .int ((σ 19 0) ^^^ x4)), (0, .ref (uq_ u 0)), (1, .int x1), (2, .int x2), (3, .int x3), (4, .int x4)]) dX10_carries_7 (by decide) rfl ?_
  refine g_iconst (v := (iI_ 0)) dX10_carries_9 (by decide) ?_
  refine g_istore (L' := [(6, .int (iI_ 0)), (5, .int ((σ 19 0) ^^^ x4)), (0, .ref (uq_ u 0)), (1, .int x1), (2, .int x2), (3, .int x3), (4, .int x4)]) dX10_carries_10 (by decide) rfl ?_
  refine g_iconst (v := (iI_ 0)) dX10_carries_12 (by decide) ?_
  refine g_istore (L' := [(7, .int (iI_ 0)), (6, .int (iI_ 0)), (5, .int ((σ 19 0) ^^^ x4)), (0, .ref (uq_ u 0)), (1, .int x1), (2, .int x2), (3, .int x3), (4, .int x4)]) dX10_carries_13 (by decide) rfl ?_
  exact GG_.sub [3, 4, 5, 6, 2, 1, 0] rfl H
