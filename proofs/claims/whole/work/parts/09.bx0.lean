set_option maxHeartbeats 4000000 in
set_option maxRecDepth 100000 in
theorem eX9_type (u : Ux_) {P : Int32 → St_ → Prop}  (σ : St_) (x1 : Int32) (x2 : Int32) (H : MMi_ (zx_ u) mX9_within [.int x1, .int (iI_ 2)] σ (fun r2 σ1 => ((r2 = iI_ 0 → P (iI_ (-2)) σ1) ∧ (¬ r2 = iI_ 0 → MMi_ (zx_ u) mX9_within [.int x2, .int (iI_ 256)] σ1 (fun r5 σ4 => ((¬ r5 = iI_ 0 → vp_in x1 2 ∧ MMi_ (zx_ u) mX8_add [.ref (uq_ u (32 + (Int32.toNatClampNeg x1))), .int x2] σ4 (fun r9 σ8 => ((¬ r9 = iI_ 0 → MMv_ (zx_ u) mX9_takeAgain [.ref (uq_ u 0), .int x1] σ8 (fun σ11 => vp_in x1 2 ∧ P (σ11 0 (Int32.toNatClampNeg x1)) σ11)) ∧ (r9 = iI_ 0 → P (iI_ (-4)) σ8)))) ∧ (r5 = iI_ 0 → P (iI_ (-2)) σ4))))))) : MMi_ (zx_ u) mX9_type [.ref (uq_ u 0), .int x1, .int x2] σ P := by
  refine MM_.of (L := [(0, .ref (uq_ u 0)), (1, .int x1), (2, .int x2)]) (by decide +kernel) (Nat.le_of_ble_eq_true rfl) rfl ?_
  refine g_iload_n dX9_type_0 1 rfl rfl ?_
  refine g_iconst (v := (iI_ 2)) dX9_type_1 (by decide) ?_
  refine k_X9_within w_370 rfl ⟨Nat.le_of_ble_eq_true rfl, Nat.le_of_ble_eq_true rfl⟩ (Nat.le_of_ble_eq_true rfl) dX9_type_2 H (fun r2 σ1 H => ?_)
  refine g_if_eq 18 dX9_type_5 (by decide) (fun c3 => ?_) (fun c3 => ?_)
  · replace H := H.1 c3
    refine g_bipush (v := (iI_ (-2))) dX9_type_18 (by decide) ?_
    exact g_iret rfl dX9_type_20 ⟨_, rfl, H⟩
  · replace H := H.2 c3
    refine g_iload_n dX9_type_8 2 rfl rfl ?_
    refine g_sipush (v := (iI_ 256)) dX9_type_9 (by decide) ?_
    refine k_X9_within w_370 rfl ⟨Nat.le_of_ble_eq_true rfl, Nat.le_of_ble_eq_true rfl⟩ (Nat.le_of_ble_eq_true rfl) dX9_type_12 H (fun r5 σ4 H => ?_)
    refine g_if_ne 21 dX9_type_15 (by decide) (fun c6 => ?_) (fun c6 => ?_)
    · replace H := H.1 c6
      refine g_aload_n dX9_type_21 0 rfl rfl ?_
      refine gx_LinenHouse_texts w_323 rfl dX9_type_22 ?_
      refine g_iload_n dX9_type_25 1 rfl rfl ?_
      obtain ⟨h7, H⟩ := H
      refine ax_texts h7 dX9_type_26 ?_
      refine g_iload_n dX9_type_27 2 rfl rfl ?_
      refine k_X8_add (vp_lt h7) w_373 rfl ⟨Nat.le_of_ble_eq_true rfl, Nat.le_of_ble_eq_true rfl⟩ (Nat.le_of_ble_eq_true rfl) dX9_type_28 H (fun r9 σ8 H => ?_)
      refine g_if_ne 37 dX9_type_31 (by decide) (fun c10 => ?_) (fun c10 => ?_)
      · replace H := H.1 c10
        refine g_aload_n dX9_type_37 0 rfl rfl ?_
        refine g_iload_n dX9_type_38 1 rfl rfl ?_
        refine k_X9_takeAgain w_377 rfl ⟨Nat.le_of_ble_eq_true rfl, Nat.le_of_ble_eq_true rfl⟩ (Nat.le_of_ble_eq_true rfl) dX9_type_39 H (fun σ11 H => ?_)
        refine g_aload_n dX9_type_42 0 rfl rfl ?_
        refine gx_LinenHouse_texts w_323 rfl dX9_type_43 ?_
        refine g_iload_n dX9_type_46 1 rfl rfl ?_
        obtain ⟨h12, H⟩ := H
        refine ax_texts h12 dX9_type_47 ?_
        refine gx_Text_n (vp_lt h12) w_299 rfl dX9_type_48 ?_
        exact g_iret rfl dX9_type_51 ⟨_, rfl, H⟩
      · replace H := H.2 c10
        refine g_bipush (v := (iI_ (-4))) dX9_type_34 (by decide) ?_
        exact g_iret rfl dX9_type_36 ⟨_, rfl, H⟩
    · replace H := H.2 c6
      refine g_bipush (v := (iI_ (-2))) dX9_type_18 (by decide) ?_
      exact g_iret rfl dX9_type_20 ⟨_, rfl, H⟩
set_option maxHeartbeats 4000000 in
set_option maxRecDepth 100000 in
theorem eX9_wipe (u : Ux_) {P : Int32 → St_ → Prop}  (σ : St_) (x1 : Int32) (H : MMi_ (zx_ u) mX9_within [.int x1, .int (iI_ 2)] σ (fun r2 σ1 => ((¬ r2 = iI_ 0 → vp_in x1 2 ∧ vp_in x1 2 ∧ (∀ σ6, σ6 = su_ σ1 0 (Int32.toNatClampNeg x1) (iI_ 0) → MMv_ (zx_ u) mX9_takeAgain [.ref (uq_ u 0), .int x1] σ6 (fun σ7 => P (σ1 0 (Int32.toNatClampNeg x1)) σ7))) ∧ (r2 = iI_ 0 → P (iI_ (-2)) σ1)))) : MMi_ (zx_ u) mX9_wipe [.ref (uq_ u 0), .int x1] σ P := by
  refine MM_.of (L := [(0, .ref (uq_ u 0)), (1, .int x1)]) (by decide +kernel) (Nat.le_of_ble_eq_true rfl) rfl ?_
  refine g_iload_n dX9_wipe_0 1 rfl rfl ?_
  refine g_iconst (v := (iI_ 2)) dX9_wipe_1 (by decide) ?_
  refine k_X9_within w_370 rfl ⟨Nat.le_of_ble_eq_true rfl, Nat.le_of_ble_eq_true rfl⟩ (Nat.le_of_ble_eq_true rfl) dX9_wipe_2 H (fun r2 σ1 H => ?_)
  refine g_if_ne 11 dX9_wipe_5 (by decide) (fun c3 => ?_) (fun c3 => ?_)
  · replace H := H.1 c3
    refine g_aload_n dX9_wipe_11 0 rfl rfl ?_
    refine gx_LinenHouse_texts w_323 rfl dX9_wipe_12 ?_
    refine g_iload_n dX9_wipe_15 1 rfl rfl ?_
    obtain ⟨h4, H⟩ := H
    refine ax_texts h4 dX9_wipe_16 ?_
    refine gx_Text_n (vp_lt h4) w_299 rfl dX9_wipe_17 ?_
    refine g_istore_n (L' := [(2, .int (σ1 0 (Int32.toNatClampNeg x1))), (0, .ref (uq_ u 0)), (1, .int x1)]) dX9_wipe_20 rfl (by decide) rfl ?_
    refine g_aload_n dX9_wipe_21 1 rfl rfl ?_
    refine gx_LinenHouse_texts w_323 rfl dX9_wipe_22 ?_
    refine g_iload_n dX9_wipe_25 2 rfl rfl ?_
    obtain ⟨h5, H⟩ := H
    refine ax_texts h5 dX9_wipe_26 ?_
    refine g_iconst (v := (iI_ 0)) dX9_wipe_27 (by decide) ?_
    refine px_Text_n (vp_lt h5) w_299 rfl dX9_wipe_28 ?_
    obtain ⟨σ6, e_σ6⟩ : ∃ q : St_, q = su_ σ1 0 (Int32.toNatClampNeg x1) (iI_ 0) := ⟨_, rfl⟩
    rw [← e_σ6]
    replace H := H σ6 e_σ6
    refine g_aload_n dX9_wipe_31 1 rfl rfl ?_
    refine g_iload_n dX9_wipe_32 2 rfl rfl ?_
    refine k_X9_takeAgain w_377 rfl ⟨Nat.le_of_ble_eq_true rfl, Nat.le_of_ble_eq_true rfl⟩ (Nat.le_of_ble_eq_true rfl) dX9_wipe_33 H (fun σ7 H => ?_)
    refine g_iload_n dX9_wipe_36 0 rfl rfl ?_
    exact g_iret rfl dX9_wipe_37 ⟨_, rfl, H⟩
  · replace H := H.2 c3
    refine g_bipush (v := (iI_ (-2))) dX9_wipe_8 (by decide) ?_
    exact g_iret rfl dX9_wipe_10 ⟨_, rfl, H⟩
set_option maxHeartbeats 4000000 in
set_option maxRecDepth 100000 in
theorem eX9_undo (u : Ux_) {P : Int32 → St_ → Prop}  (σ : St_) (x1 : Int32) (H : MMi_ (zx_ u) mX9_within [.int x1, .int (iI_ 2)] σ (fun r2 σ1 => ((¬ r2 = iI_ 0 → vp_in x1 2 ∧ ((¬ (σ1 0 (Int32.toNatClampNeg x1)) = iI_ 0 → vp_in x1 2 ∧ (∀ σ7, σ7 = su_ σ1 0 (Int32.toNatClampNeg x1) ((σ1 0 (Int32.toNatClampNeg x1)) - (iI_ 1)) → MMv_ (zx_ u) mX9_takeAgain [.ref (uq_ u 0), .int x1] σ7 (fun σ8 => vp_in x1 2 ∧ P (σ8 0 (Int32.toNatClampNeg x1)) σ8))) ∧ ((σ1 0 (Int32.toNatClampNeg x1)) = iI_ 0 → P (iI_ (-3)) σ1))) ∧ (r2 = iI_ 0 → P (iI_ (-2)) σ1)))) : MMi_ (zx_ u) mX9_undo [.ref (uq_ u 0), .int x1] σ P := by
  refine MM_.of (L := [(0, .ref (uq_ u 0)), (1, .int x1)]) (by decide +kernel) (Nat.le_of_ble_eq_true rfl) rfl ?_
  refine g_iload_n dX9_undo_0 1 rfl rfl ?_
  refine g_iconst (v := (iI_ 2)) dX9_undo_1 (by decide) ?_
  refine k_X9_within w_370 rfl ⟨Nat.le_of_ble_eq_true rfl, Nat.le_of_ble_eq_true rfl⟩ (Nat.le_of_ble_eq_true rfl) dX9_undo_2 H (fun r2 σ1 H => ?_)
  refine g_if_ne 11 dX9_undo_5 (by decide) (fun c3 => ?_) (fun c3 => ?_)
  · replace H := H.1 c3
    refine g_aload_n dX9_undo_11 0 rfl rfl ?_
    refine gx_LinenHouse_texts w_323 rfl dX9_undo_12 ?_
    refine g_iload_n dX9_undo_15 1 rfl rfl ?_
    obtain ⟨h4, H⟩ := H
    refine ax_texts h4 dX9_undo_16 ?_
    refine gx_Text_n (vp_lt h4) w_299 rfl dX9_undo_17 ?_
    refine g_if_ne 26 dX9_undo_20 (by decide) (fun c5 => ?_) (fun c5 => ?_)
    · replace H := H.1 c5
      refine g_aload_n dX9_undo_26 0 rfl rfl ?_
      refine gx_LinenHouse_texts w_323 rfl dX9_undo_27 ?_
      refine g_iload_n dX9_undo_30 1 rfl rfl ?_
      obtain ⟨h6, H⟩ := H
      refine ax_texts h6 dX9_undo_31 ?_
      refine g_dup dX9_undo_32 rfl ?_
      refine gx_Text_n (vp_lt h6) w_299 rfl dX9_undo_33 ?_
      refine g_iconst (v := (iI_ 1)) dX9_undo_36 (by decide) ?_
      refine g_isub dX9_undo_37 ?_
      refine px_Text_n (vp_lt h6) w_299 rfl dX9_undo_38 ?_
      obtain ⟨σ7, e_σ7⟩ : ∃ q : St_, q = su_ σ1 0 (Int32.toNatClampNeg x1) ((σ1 0 (Int32.toNatClampNeg x1)) - (iI_ 1)) := ⟨_, rfl⟩
      rw [← e_σ7]
      replace H := H σ7 e_σ7
      refine g_aload_n dX9_undo_41 0 rfl rfl ?_
      refine g_iload_n dX9_undo_42 1 rfl rfl ?_
      refine k_X9_takeAgain w_377 rfl ⟨Nat.le_of_ble_eq_true rfl, Nat.le_of_ble_eq_true rfl⟩ (Nat.le_of_ble_eq_true rfl) dX9_undo_43 H (fun σ8 H => ?_)
      refine g_aload_n dX9_undo_46 0 rfl rfl ?_
      refine gx_LinenHouse_texts w_323 rfl dX9_undo_47 ?_
      refine g_iload_n dX9_undo_50 1 rfl rfl ?_
      obtain ⟨h9, H⟩ := H
      refine ax_texts h9 dX9_undo_51 ?_
      refine gx_Text_n (vp_lt h9) w_299 rfl dX9_undo_52 ?_
      exact g_iret rfl dX9_undo_55 ⟨_, rfl, H⟩
    · replace H := H.2 c5
      refine g_bipush (v := (iI_ (-3))) dX9_undo_23 (by decide) ?_
      exact g_iret rfl dX9_undo_25 ⟨_, rfl, H⟩
  · replace H := H.2 c3
    refine g_bipush (v := (iI_ (-2))) dX9_undo_8 (by decide) ?_
    exact g_iret rfl dX9_undo_10 ⟨_, rfl, H⟩
set_option maxHeartbeats 4000000 in
set_option maxRecDepth 100000 in
theorem eX9_fault (u : Ux_) {P : Int32 → St_ → Prop}  (σ : St_) (x1 : Int32) (H : MMi_ (zx_ u) mX9_within [.int x1, .int (iI_ 2)] σ (fun r2 σ1 => ((¬ r2 = iI_ 0 → ((¬ x1 = iI_ 0 → P (σ1 10 0) σ1) ∧ (x1 = iI_ 0 → P (σ1 4 0) σ1))) ∧ (r2 = iI_ 0 → P (iI_ (-2)) σ1)))) : MMi_ (zx_ u) mX9_fault [.ref (uq_ u 0), .int x1] σ P := by
  refine MM_.of (L := [(0, .ref (uq_ u 0)), (1, .int x1)]) (by decide +kernel) (Nat.le_of_ble_eq_true rfl) rfl ?_
  refine g_iload_n dX9_fault_0 1 rfl rfl ?_
  refine g_iconst (v := (iI_ 2)) dX9_fault_1 (by decide) ?_
  refine k_X9_within w_370 rfl ⟨Nat.le_of_ble_eq_true rfl, Nat.le_of_ble_eq_true rfl⟩ (Nat.le_of_ble_eq_true rfl) dX9_fault_2 H (fun r2 σ1 H => ?_)
  refine g_if_ne 11 dX9_fault_5 (by decide) (fun c3 => ?_) (fun c3 => ?_)
  · replace H := H.1 c3
    refine g_iload_n dX9_fault_11 1 rfl rfl ?_
    refine g_if_ne 25 dX9_fault_12 (by decide) (fun c4 => ?_) (fun c4 => ?_)
    · replace H := H.1 c4
      refine g_aload_n dX9_fault_25 0 rfl rfl ?_
      refine gx_LinenHouse_motions w_325 rfl dX9_fault_26 ?_
      refine gx_Motions_fault w_141 rfl dX9_fault_29 ?_
      exact g_iret rfl dX9_fault_32 ⟨_, rfl, H⟩
    · replace H := H.2 c4
      refine g_aload_n dX9_fault_15 0 rfl rfl ?_
      refine gx_LinenHouse_roll w_324 rfl dX9_fault_16 ?_
      refine gx_Roll_fault w_107 rfl dX9_fault_19 ?_
      refine g_goto 32 dX9_fault_22 (by decide) ?_
      exact g_iret rfl dX9_fault_32 ⟨_, rfl, H⟩
  · replace H := H.2 c3
    refine g_bipush (v := (iI_ (-2))) dX9_fault_8 (by decide) ?_
    exact g_iret rfl dX9_fault_10 ⟨_, rfl, H⟩
set_option maxHeartbeats 4000000 in
set_option maxRecDepth 100000 in
theorem eX9_member (u : Ux_) {P : Int32 → St_ → Prop}  (σ : St_) (x1 : Int32) (x2 : Int32) (H : MMi_ (zx_ u) mX9_isMember [.ref (uq_ u 0), .int x1] σ (fun r2 σ1 => ((r2 = iI_ 0 → P (iI_ (-2)) σ1) ∧ (¬ r2 = iI_ 0 → MMi_ (zx_ u) mX9_within [.int x2, .int (iI_ 5)] σ1 (fun r5 σ4 => ((¬ r5 = iI_ 0 → ((¬ x2 = iI_ 0 → ((¬ x2 = (iI_ 1) → vp_in x1 8 ∧ MMi_ (zx_ u) mX9_wanted [.int (σ4 7 (Int32.toNatClampNeg x1)), .int (x2 - (iI_ 2))] σ4 (fun r11 σ10 => P r11 σ10)) ∧ (x2 = (iI_ 1) → vp_in x1 8 ∧ P (σ4 6 (Int32.toNatClampNeg x1)) σ4))) ∧ (x2 = iI_ 0 → vp_in x1 8 ∧ P (σ4 5 (Int32.toNatClampNeg x1)) σ4))) ∧ (r5 = iI_ 0 → P (iI_ (-2)) σ4))))))) : MMi_ (zx_ u) mX9_member [.ref (uq_ u 0), .int x1, .int x2] σ P := by
  refine MM_.of (L := [(0, .ref (uq_ u 0)), (1, .int x1), (2, .int x2)]) (by decide +kernel) (Nat.le_of_ble_eq_true rfl) rfl ?_
  refine g_aload_n dX9_member_0 0 rfl rfl ?_
  refine g_iload_n dX9_member_1 1 rfl rfl ?_
  refine k_X9_isMember w_431 rfl ⟨Nat.le_of_ble_eq_true rfl, Nat.le_of_ble_eq_true rfl⟩ (Nat.le_of_ble_eq_true rfl) dX9_member_2 H (fun r2 σ1 H => ?_)
  refine g_if_eq 16 dX9_member_5 (by decide) (fun c3 => ?_) (fun c3 => ?_)
  · replace H := H.1 c3
    refine g_bipush (v := (iI_ (-2))) dX9_member_16 (by decide) ?_
    exact g_iret rfl dX9_member_18 ⟨_, rfl, H⟩
  · replace H := H.2 c3
    refine g_iload_n dX9_member_8 2 rfl rfl ?_
    refine g_iconst (v := (iI_ 5)) dX9_member_9 (by decide) ?_
    refine k_X9_within w_370 rfl ⟨Nat.le_of_ble_eq_true rfl, Nat.le_of_ble_eq_true rfl⟩ (Nat.le_of_ble_eq_true rfl) dX9_member_10 H (fun r5 σ4 H => ?_)
    refine g_if_ne 19 dX9_member_13 (by decide) (fun c6 => ?_) (fun c6 => ?_)
    · replace H := H.1 c6
      refine g_iload_n dX9_member_19 2 rfl rfl ?_
      refine g_if_ne 33 dX9_member_20 (by decide) (fun c7 => ?_) (fun c7 => ?_)
      · replace H := H.1 c7
        refine g_iload_n dX9_member_33 2 rfl rfl ?_
        refine g_iconst (v := (iI_ 1)) dX9_member_34 (by decide) ?_
        refine g_icmp_ne 50 dX9_member_35 (by decide) (fun c8 => ?_) (fun c8 => ?_)
        · replace H := H.1 c8
          refine g_aload_n dX9_member_50 0 rfl rfl ?_
          refine gx_LinenHouse_roll w_324 rfl dX9_member_51 ?_
          refine gx_Roll_order w_114 rfl dX9_member_54 ?_
          refine g_iload_n dX9_member_57 1 rfl rfl ?_
          obtain ⟨h9, H⟩ := H
          refine ax_7 h9 dX9_member_58 ?_
          refine g_iload_n dX9_member_59 2 rfl rfl ?_
          refine g_iconst (v := (iI_ 2)) dX9_member_60 (by decide) ?_
          refine g_isub dX9_member_61 ?_
          refine k_X9_wanted w_435 rfl ⟨Nat.le_of_ble_eq_true rfl, Nat.le_of_ble_eq_true rfl⟩ (Nat.le_of_ble_eq_true rfl) dX9_member_62 H (fun r11 σ10 H => ?_)
          exact g_iret rfl dX9_member_65 ⟨_, rfl, H⟩
        · replace H := H.2 c8
          refine g_aload_n dX9_member_38 0 rfl rfl ?_
          refine gx_LinenHouse_roll w_324 rfl dX9_member_39 ?_
          refine gx_Roll_shelf w_112 rfl dX9_member_42 ?_
          refine g_iload_n dX9_member_45 1 rfl rfl ?_
          obtain ⟨h12, H⟩ := H
          refine ax_6 h12 dX9_member_46 ?_
          refine g_goto 65 dX9_member_47 (by decide) ?_
          exact g_iret rfl dX9_member_65 ⟨_, rfl, H⟩
      · replace H := H.2 c7
        refine g_aload_n dX9_member_23 0 rfl rfl ?_
        refine gx_LinenHouse_roll w_324 rfl dX9_member_24 ?_
        refine gx_Roll_sort w_109 rfl dX9_member_27 ?_
        refine g_iload_n dX9_member_30 1 rfl rfl ?_
        obtain ⟨h13, H⟩ := H
        refine ax_5 h13 dX9_member_31 ?_
        exact g_iret rfl dX9_member_32 ⟨_, rfl, H⟩
    · replace H := H.2 c6
      refine g_bipush (v := (iI_ (-2))) dX9_member_16 (by decide) ?_
      exact g_iret rfl dX9_member_18 ⟨_, rfl, H⟩
set_option maxHeartbeats 4000000 in
set_option maxRecDepth 100000 in
theorem eX9_motion (u : Ux_) {P : Int32 → St_ → Prop}  (σ : St_) (x1 : Int32) (x2 : Int32) (H : MMi_ (zx_ u) mX9_isNight [.int x1] σ (fun r2 σ1 => ((r2 = iI_ 0 → P (iI_ (-2)) σ1) ∧ (¬ r2 = iI_ 0 → MMi_ (zx_ u) mX9_within [.int x2, .int (iI_ 3)] σ1 (fun r5 σ4 => ((¬ r5 = iI_ 0 → ((x1 < (σ4 9 0) → ((¬ x2 = iI_ 0 → ((¬ x2 = (iI_ 1) → vp_in x1 10 ∧ P (σ4 13 (Int32.toNatClampNeg x1)) σ4) ∧ (x2 = (iI_ 1) → vp_in x1 10 ∧ P (σ4 12 (Int32.toNatClampNeg x1)) σ4))) ∧ (x2 = iI_ 0 → vp_in x1 10 ∧ P (σ4 11 (Int32.toNatClampNeg x1)) σ4))) ∧ (¬ x1 < (σ4 9 0) → P (iI_ (-1)) σ4))) ∧ (r5 = iI_ 0 → P (iI_ (-2)) σ4))))))) : MMi_ (zx_ u) mX9_motion [.ref (uq_ u 0), .int x1, .int x2] σ P := by
  refine MM_.of (L := [(0, .ref (uq_ u 0)), (1, .int x1), (2, .int x2)]) (by decide +kernel) (Nat.le_of_ble_eq_true rfl) rfl ?_
  refine g_iload_n dX9_motion_0 1 rfl rfl ?_
  refine k_X9_isNight w_444 rfl ⟨Nat.le_of_ble_eq_true rfl, Nat.le_of_ble_eq_true rfl⟩ (Nat.le_of_ble_eq_true rfl) dX9_motion_1 H (fun r2 σ1 H => ?_)
  refine g_if_eq 15 dX9_motion_4 (by decide) (fun c3 => ?_) (fun c3 => ?_)
  · replace H := H.1 c3
    refine g_bipush (v := (iI_ (-2))) dX9_motion_15 (by decide) ?_
    exact g_iret rfl dX9_motion_17 ⟨_, rfl, H⟩
  · replace H := H.2 c3
    refine g_iload_n dX9_motion_7 2 rfl rfl ?_
    refine g_iconst (v := (iI_ 3)) dX9_motion_8 (by decide) ?_
    refine k_X9_within w_370 rfl ⟨Nat.le_of_ble_eq_true rfl, Nat.le_of_ble_eq_true rfl⟩ (Nat.le_of_ble_eq_true rfl) dX9_motion_9 H (fun r5 σ4 H => ?_)
    refine g_if_ne 18 dX9_motion_12 (by decide) (fun c6 => ?_) (fun c6 => ?_)
    · replace H := H.1 c6
      refine g_iload_n dX9_motion_18 1 rfl rfl ?_
      refine g_aload_n dX9_motion_19 0 rfl rfl ?_
      refine gx_LinenHouse_motions w_325 rfl dX9_motion_20 ?_
      refine gx_Motions_n w_139 rfl dX9_motion_23 ?_
      refine g_icmp_lt 31 dX9_motion_26 (by decide) (fun c7 => ?_) (fun c7 => ?_)
      · replace H := H.1 c7
        refine g_iload_n dX9_motion_31 2 rfl rfl ?_
        refine g_if_ne 45 dX9_motion_32 (by decide) (fun c8 => ?_) (fun c8 => ?_)
        · replace H := H.1 c8
          refine g_iload_n dX9_motion_45 2 rfl rfl ?_
          refine g_iconst (v := (iI_ 1)) dX9_motion_46 (by decide) ?_
          refine g_icmp_ne 62 dX9_motion_47 (by decide) (fun c9 => ?_) (fun c9 => ?_)
          · replace H := H.1 c9
            refine g_aload_n dX9_motion_62 0 rfl rfl ?_
            refine gx_LinenHouse_motions w_325 rfl dX9_motion_63 ?_
            refine gx_Motions_how w_150 rfl dX9_motion_66 ?_
            refine g_iload_n dX9_motion_69 1 rfl rfl ?_
            obtain ⟨h10, H⟩ := H
            refine ax_13 h10 dX9_motion_70 ?_
            exact g_iret rfl dX9_motion_71 ⟨_, rfl, H⟩
          · replace H := H.2 c9
            refine g_aload_n dX9_motion_50 0 rfl rfl ?_
            refine gx_LinenHouse_motions w_325 rfl dX9_motion_51 ?_
            refine gx_Motions_other w_147 rfl dX9_motion_54 ?_
            refine g_iload_n dX9_motion_57 1 rfl rfl ?_
            obtain ⟨h11, H⟩ := H
            refine ax_12 h11 dX9_motion_58 ?_
            refine g_goto 71 dX9_motion_59 (by decide) ?_
            exact g_iret rfl dX9_motion_71 ⟨_, rfl, H⟩
        · replace H := H.2 c8
          refine g_aload_n dX9_motion_35 0 rfl rfl ?_
          refine gx_LinenHouse_motions w_325 rfl dX9_motion_36 ?_
          refine gx_Motions_first w_144 rfl dX9_motion_39 ?_
          refine g_iload_n dX9_motion_42 1 rfl rfl ?_
          obtain ⟨h12, H⟩ := H
          refine ax_11 h12 dX9_motion_43 ?_
          exact g_iret rfl dX9_motion_44 ⟨_, rfl, H⟩
      · replace H := H.2 c7
        refine g_iconst (v := (iI_ (-1))) dX9_motion_29 (by decide) ?_
        exact g_iret rfl dX9_motion_30 ⟨_, rfl, H⟩
    · replace H := H.2 c6
      refine g_bipush (v := (iI_ (-2))) dX9_motion_15 (by decide) ?_
      exact g_iret rfl dX9_motion_17 ⟨_, rfl, H⟩
set_option maxHeartbeats 4000000 in
set_option maxRecDepth 100000 in
theorem eX9_weight (u : Ux_) {P : Int32 → St_ → Prop}  (σ : St_) (x1 : Int32) (x2 : Int32) (H : MMi_ (zx_ u) mX9_within [.int x1, .int (iI_ 3)] σ (fun r2 σ1 => ((r2 = iI_ 0 → P (iI_ (-2)) σ1) ∧ (¬ r2 = iI_ 0 → MMi_ (zx_ u) mX9_within [.int x2, .int (iI_ 10)] σ1 (fun r5 σ4 => ((¬ r5 = iI_ 0 → vp_in x1 3 ∧ vp_in x1 3 ∧ (∀ σ8, σ8 = su_ σ4 8 (Int32.toNatClampNeg x1) x2 → P (σ4 8 (Int32.toNatClampNeg x1)) σ8)) ∧ (r5 = iI_ 0 → P (iI_ (-2)) σ4))))))) : MMi_ (zx_ u) mX9_weight [.ref (uq_ u 0), .int x1, .int x2] σ P := by
  refine MM_.of (L := [(0, .ref (uq_ u 0)), (1, .int x1), (2, .int x2)]) (by decide +kernel) (Nat.le_of_ble_eq_true rfl) rfl ?_
  refine g_iload_n dX9_weight_0 1 rfl rfl ?_
  refine g_iconst (v := (iI_ 3)) dX9_weight_1 (by decide) ?_
  refine k_X9_within w_370 rfl ⟨Nat.le_of_ble_eq_true rfl, Nat.le_of_ble_eq_true rfl⟩ (Nat.le_of_ble_eq_true rfl) dX9_weight_2 H (fun r2 σ1 H => ?_)
  refine g_if_eq 17 dX9_weight_5 (by decide) (fun c3 => ?_) (fun c3 => ?_)
  · replace H := H.1 c3
    refine g_bipush (v := (iI_ (-2))) dX9_weight_17 (by decide) ?_
    exact g_iret rfl dX9_weight_19 ⟨_, rfl, H⟩
  · replace H := H.2 c3
    refine g_iload_n dX9_weight_8 2 rfl rfl ?_
    refine g_bipush (v := (iI_ 10)) dX9_weight_9 (by decide) ?_
    refine k_X9_within w_370 rfl ⟨Nat.le_of_ble_eq_true rfl, Nat.le_of_ble_eq_true rfl⟩ (Nat.le_of_ble_eq_true rfl) dX9_weight_11 H (fun r5 σ4 H => ?_)
    refine g_if_ne 20 dX9_weight_14 (by decide) (fun c6 => ?_) (fun c6 => ?_)
    · replace H := H.1 c6
      refine g_aload_n dX9_weight_20 0 rfl rfl ?_
      refine gx_LinenHouse_roll w_324 rfl dX9_weight_21 ?_
      refine gx_Roll_weight w_116 rfl dX9_weight_24 ?_
      refine g_iload_n dX9_weight_27 1 rfl rfl ?_
      obtain ⟨h7, H⟩ := H
      refine ax_8 h7 dX9_weight_28 ?_
      refine g_istore_n (L' := [(3, .int (σ4 8 (Int32.toNatClampNeg x1))), (0, .ref (uq_ u 0)), (1, .int x1), (2, .int x2)]) dX9_weight_29 rfl (by decide) rfl ?_
      refine g_aload_n dX9_weight_30 1 rfl rfl ?_
      refine gx_LinenHouse_roll w_324 rfl dX9_weight_31 ?_
      refine gx_Roll_weight w_116 rfl dX9_weight_34 ?_
      refine g_iload_n dX9_weight_37 2 rfl rfl ?_
      refine g_iload_n dX9_weight_38 3 rfl rfl ?_
      obtain ⟨h9, H⟩ := H
      refine sx_8 h9 dX9_weight_39 ?_
      obtain ⟨σ8, e_σ8⟩ : ∃ q : St_, q = su_ σ4 8 (Int32.toNatClampNeg x1) x2 := ⟨_, rfl⟩
      rw [← e_σ8]
      replace H := H σ8 e_σ8
      refine g_iload_n dX9_weight_40 0 rfl rfl ?_
      exact g_iret rfl dX9_weight_41 ⟨_, rfl, H⟩
    · replace H := H.2 c6
      refine g_bipush (v := (iI_ (-2))) dX9_weight_17 (by decide) ?_
      exact g_iret rfl dX9_weight_19 ⟨_, rfl, H⟩
set_option maxHeartbeats 4000000 in
set_option maxRecDepth 100000 in
theorem eX9_fold (u : Ux_) {P : Int32 → St_ → Prop}  (σ : St_) (x1 : Int32) (x2 : Int32) (x3 : Int32) (H : MMi_ (zx_ u) mX9_isFold [.int x1, .int x2, .int x3] σ (fun r2 σ1 => ((¬ r2 = iI_ 0 → MMi_ (zx_ u) mX1_add [.ref (uq_ u 11), .int x1, .int x2, .int x3] σ1 (fun r5 σ4 => ((r5 = iI_ 0 → P (iI_ (-4)) σ4) ∧ (¬ r5 = iI_ 0 → P (σ4 14 0) σ4)))) ∧ (r2 = iI_ 0 → P (iI_ (-2)) σ1)))) : MMi_ (zx_ u) mX9_fold [.ref (uq_ u 0), .int x1, .int x2, .int x3] σ P := by
  refine MM_.of (L := [(0, .ref (uq_ u 0)), (1, .int x1), (2, .int x2), (3, .int x3)]) (by decide +kernel) (Nat.le_of_ble_eq_true rfl) rfl ?_
  refine g_iload_n dX9_fold_0 1 rfl rfl ?_
  refine g_iload_n dX9_fold_1 2 rfl rfl ?_
  refine g_iload_n dX9_fold_2 3 rfl rfl ?_
  refine k_X9_isFold w_455 rfl ⟨Nat.le_of_ble_eq_true rfl, Nat.le_of_ble_eq_true rfl⟩ (Nat.le_of_ble_eq_true rfl) dX9_fold_3 H (fun r2 σ1 H => ?_)
  refine g_if_ne 12 dX9_fold_6 (by decide) (fun c3 => ?_) (fun c3 => ?_)
  · replace H := H.1 c3
    refine g_aload_n dX9_fold_12 0 rfl rfl ?_
    refine gx_LinenHouse_folds w_326 rfl dX9_fold_13 ?_
    refine g_iload_n dX9_fold_16 1 rfl rfl ?_
    refine g_iload_n dX9_fold_17 2 rfl rfl ?_
    refine g_iload_n dX9_fold_18 3 rfl rfl ?_
    refine k_X1_add w_458 rfl ⟨Nat.le_of_ble_eq_true rfl, Nat.le_of_ble_eq_true rfl⟩ (Nat.le_of_ble_eq_true rfl) dX9_fold_19 H (fun r5 σ4 H => ?_)
    refine g_if_eq 35 dX9_fold_22 (by decide) (fun c6 => ?_) (fun c6 => ?_)
    · replace H := H.1 c6
      refine g_bipush (v := (iI_ (-4))) dX9_fold_35 (by decide) ?_
      exact g_iret rfl dX9_fold_37 ⟨_, rfl, H⟩
    · replace H := H.2 c6
      refine g_aload_n dX9_fold_25 0 rfl rfl ?_
      refine gx_LinenHouse_folds w_326 rfl dX9_fold_26 ?_
      refine gx_Folds_n w_170 rfl dX9_fold_29 ?_
      refine g_goto 37 dX9_fold_32 (by decide) ?_
      exact g_iret rfl dX9_fold_37 ⟨_, rfl, H⟩
  · replace H := H.2 c3
    refine g_bipush (v := (iI_ (-2))) dX9_fold_9 (by decide) ?_
    exact g_iret rfl dX9_fold_11 ⟨_, rfl, H⟩
set_option maxHeartbeats 4000000 in
set_option maxRecDepth 100000 in
theorem eX9_jar (u : Ux_) {P : Int32 → St_ → Prop}  (σ : St_) (x1 : Int32) (H : MMi_ (zx_ u) mX9_isNight [.int x1] σ (fun r2 σ1 => ((¬ r2 = iI_ 0 → MMi_ (zx_ u) mX2_add [.ref (uq_ u 15), .int x1] σ1 (fun r5 σ4 => ((r5 = iI_ 0 → P (iI_ (-4)) σ4) ∧ (¬ r5 = iI_ 0 → P (σ4 18 0) σ4)))) ∧ (r2 = iI_ 0 → P (iI_ (-2)) σ1)))) : MMi_ (zx_ u) mX9_jar [.ref (uq_ u 0), .int x1] σ P := by
  refine MM_.of (L := [(0, .ref (uq_ u 0)), (1, .int x1)]) (by decide +kernel) (Nat.le_of_ble_eq_true rfl) rfl ?_
  refine g_iload_n dX9_jar_0 1 rfl rfl ?_
  refine k_X9_isNight w_444 rfl ⟨Nat.le_of_ble_eq_true rfl, Nat.le_of_ble_eq_true rfl⟩ (Nat.le_of_ble_eq_true rfl) dX9_jar_1 H (fun r2 σ1 H => ?_)
  refine g_if_ne 10 dX9_jar_4 (by decide) (fun c3 => ?_) (fun c3 => ?_)
  · replace H := H.1 c3
    refine g_aload_n dX9_jar_10 0 rfl rfl ?_
    refine gx_LinenHouse_jars w_327 rfl dX9_jar_11 ?_
    refine g_iload_n dX9_jar_14 1 rfl rfl ?_
    refine k_X2_add w_466 rfl ⟨Nat.le_of_ble_eq_true rfl, Nat.le_of_ble_eq_true rfl⟩ (Nat.le_of_ble_eq_true rfl) dX9_jar_15 H (fun r5 σ4 H => ?_)
    refine g_if_eq 31 dX9_jar_18 (by decide) (fun c6 => ?_) (fun c6 => ?_)
    · replace H := H.1 c6
      refine g_bipush (v := (iI_ (-4))) dX9_jar_31 (by decide) ?_
      exact g_iret rfl dX9_jar_33 ⟨_, rfl, H⟩
    · replace H := H.2 c6
      refine g_aload_n dX9_jar_21 0 rfl rfl ?_
      refine gx_LinenHouse_jars w_327 rfl dX9_jar_22 ?_
      refine gx_Jars_n w_193 rfl dX9_jar_25 ?_
      refine g_goto 33 dX9_jar_28 (by decide) ?_
      exact g_iret rfl dX9_jar_33 ⟨_, rfl, H⟩
  · replace H := H.2 c3
    refine g_bipush (v := (iI_ (-2))) dX9_jar_7 (by decide) ?_
    exact g_iret rfl dX9_jar_9 ⟨_, rfl, H⟩
set_option maxHeartbeats 4000000 in
set_option maxRecDepth 100000 in
theorem eX9_back (u : Ux_) {P : Int32 → St_ → Prop}  (σ : St_) (x1 : Int32) (H : MMi_ (zx_ u) mX9_within [.int x1, .int (iI_ 2)] σ (fun r2 σ1 => ((¬ r2 = iI_ 0 → ((¬ x1 = iI_ 0 → ((iI_ 0 ≤ ((σ1 18 0) - (iI_ 1)) → ((¬ x1 = iI_ 0 → (∀ σ7, σ7 = su_ σ1 18 0 ((σ1 18 0) - (iI_ 1)) → P ((σ1 18 0) - (iI_ 1)) σ7)) ∧ (x1 = iI_ 0 → (∀ σ8, σ8 = su_ σ1 14 0 ((σ1 18 0) - (iI_ 1)) → P ((σ1 18 0) - (iI_ 1)) σ8)))) ∧ (¬ iI_ 0 ≤ ((σ1 18 0) - (iI_ 1)) → P (iI_ (-3)) σ1))) ∧ (x1 = iI_ 0 → ((iI_ 0 ≤ ((σ1 14 0) - (iI_ 1)) → ((¬ x1 = iI_ 0 → (∀ σ11, σ11 = su_ σ1 18 0 ((σ1 14 0) - (iI_ 1)) → P ((σ1 14 0) - (iI_ 1)) σ11)) ∧ (x1 = iI_ 0 → (∀ σ12, σ12 = su_ σ1 14 0 ((σ1 14 0) - (iI_ 1)) → P ((σ1 14 0) - (iI_ 1)) σ12)))) ∧ (¬ iI_ 0 ≤ ((σ1 14 0) - (iI_ 1)) → P (iI_ (-3)) σ1))))) ∧ (r2 = iI_ 0 → P (iI_ (-2)) σ1)))) : MMi_ (zx_ u) mX9_back [.ref (uq_ u 0), .int x1] σ P := by
  refine MM_.of (L := [(0, .ref (uq_ u 0)), (1, .int x1)]) (by decide +kernel) (Nat.le_of_ble_eq_true rfl) rfl ?_
  refine g_iload_n dX9_back_0 1 rfl rfl ?_
  refine g_iconst (v := (iI_ 2)) dX9_back_1 (by decide) ?_
  refine k_X9_within w_370 rfl ⟨Nat.le_of_ble_eq_true rfl, Nat.le_of_ble_eq_true rfl⟩ (Nat.le_of_ble_eq_true rfl) dX9_back_2 H (fun r2 σ1 H => ?_)
  refine g_if_ne 11 dX9_back_5 (by decide) (fun c3 => ?_) (fun c3 => ?_)
  · replace H := H.1 c3
    refine g_iload_n dX9_back_11 1 rfl rfl ?_
    refine g_if_ne 25 dX9_back_12 (by decide) (fun c4 => ?_) (fun c4 => ?_)
    · replace H := H.1 c4
      refine g_aload_n dX9_back_25 0 rfl rfl ?_
      refine gx_LinenHouse_jars w_327 rfl dX9_back_26 ?_
      refine gx_Jars_n w_193 rfl dX9_back_29 ?_
      refine g_iconst (v := (iI_ 1)) dX9_back_32 (by decide) ?_
      refine g_isub dX9_back_33 ?_
      refine g_istore_n (L' := [(2, .int ((σ1 18 0) - (iI_ 1))), (0, .ref (uq_ u 0)), (1, .int x1)]) dX9_back_34 rfl (by decide) rfl ?_
      refine g_iload_n dX9_back_35 0 rfl rfl ?_
      refine g_if_ge 42 dX9_back_36 (by decide) (fun c5 => ?_) (fun c5 => ?_)
      · replace H := H.1 c5
        refine g_iload_n dX9_back_42 2 rfl rfl ?_
        refine g_if_ne 57 dX9_back_43 (by decide) (fun c6 => ?_) (fun c6 => ?_)
        · replace H := H.1 c6
          refine g_aload_n dX9_back_57 1 rfl rfl ?_
          refine gx_LinenHouse_jars w_327 rfl dX9_back_58 ?_
          refine g_iload_n dX9_back_61 0 rfl rfl ?_
          refine px_Jars_n w_193 rfl dX9_back_62 ?_
          obtain ⟨σ7, e_σ7⟩ : ∃ q : St_, q = su_ σ1 18 0 ((σ1 18 0) - (iI_ 1)) := ⟨_, rfl⟩
          rw [← e_σ7]
          replace H := H σ7 e_σ7
          refine g_iload_n dX9_back_65 0 rfl rfl ?_
          exact g_iret rfl dX9_back_66 ⟨_, rfl, H⟩
        · replace H := H.2 c6
          refine g_aload_n dX9_back_46 1 rfl rfl ?_
          refine gx_LinenHouse_folds w_326 rfl dX9_back_47 ?_
          refine g_iload_n dX9_back_50 0 rfl rfl ?_
          refine px_Folds_n w_170 rfl dX9_back_51 ?_
          obtain ⟨σ8, e_σ8⟩ : ∃ q : St_, q = su_ σ1 14 0 ((σ1 18 0) - (iI_ 1)) := ⟨_, rfl⟩
          rw [← e_σ8]
          replace H := H σ8 e_σ8
          refine g_goto 65 dX9_back_54 (by decide) ?_
          refine g_iload_n dX9_back_65 0 rfl rfl ?_
          exact g_iret rfl dX9_back_66 ⟨_, rfl, H⟩
      · replace H := H.2 c5
        refine g_bipush (v := (iI_ (-3))) dX9_back_39 (by decide) ?_
        exact g_iret rfl dX9_back_41 ⟨_, rfl, H⟩
    · replace H := H.2 c4
      refine g_aload_n dX9_back_15 0 rfl rfl ?_
      refine gx_LinenHouse_folds w_326 rfl dX9_back_16 ?_
      refine gx_Folds_n w_170 rfl dX9_back_19 ?_
      refine g_goto 32 dX9_back_22 (by decide) ?_
      refine g_iconst (v := (iI_ 1)) dX9_back_32 (by decide) ?_
      refine g_isub dX9_back_33 ?_
      refine g_istore_n (L' := [(2, .int ((σ1 14 0) - (iI_ 1))), (0, .ref (uq_ u 0)), (1, .int x1)]) dX9_back_34 rfl (by decide) rfl ?_
      refine g_iload_n dX9_back_35 0 rfl rfl ?_
      refine g_if_ge 42 dX9_back_36 (by decide) (fun c9 => ?_) (fun c9 => ?_)
      · replace H := H.1 c9
        refine g_iload_n dX9_back_42 2 rfl rfl ?_
        refine g_if_ne 57 dX9_back_43 (by decide) (fun c10 => ?_) (fun c10 => ?_)
        · replace H := H.1 c10
          refine g_aload_n dX9_back_57 1 rfl rfl ?_
          refine gx_LinenHouse_jars w_327 rfl dX9_back_58 ?_
          refine g_iload_n dX9_back_61 0 rfl rfl ?_
          refine px_Jars_n w_193 rfl dX9_back_62 ?_
          obtain ⟨σ11, e_σ11⟩ : ∃ q : St_, q = su_ σ1 18 0 ((σ1 14 0) - (iI_ 1)) := ⟨_, rfl⟩
          rw [← e_σ11]
          replace H := H σ11 e_σ11
          refine g_iload_n dX9_back_65 0 rfl rfl ?_
          exact g_iret rfl dX9_back_66 ⟨_, rfl, H⟩
        · replace H := H.2 c10
          refine g_aload_n dX9_back_46 1 rfl rfl ?_
          refine gx_LinenHouse_folds w_326 rfl dX9_back_47 ?_
          refine g_iload_n dX9_back_50 0 rfl rfl ?_
          refine px_Folds_n w_170 rfl dX9_back_51 ?_
          obtain ⟨σ12, e_σ12⟩ : ∃ q : St_, q = su_ σ1 14 0 ((σ1 14 0) - (iI_ 1)) := ⟨_, rfl⟩
          rw [← e_σ12]
          replace H := H σ12 e_σ12
          refine g_goto 65 dX9_back_54 (by decide) ?_
          refine g_iload_n dX9_back_65 0 rfl rfl ?_
          exact g_iret rfl dX9_back_66 ⟨_, rfl, H⟩
      · replace H := H.2 c9
        refine g_bipush (v := (iI_ (-3))) dX9_back_39 (by decide) ?_
        exact g_iret rfl dX9_back_41 ⟨_, rfl, H⟩
  · replace H := H.2 c3
    refine g_bipush (v := (iI_ (-2))) dX9_back_8 (by decide) ?_
    exact g_iret rfl dX9_back_10 ⟨_, rfl, H⟩
set_option maxHeartbeats 4000000 in
set_option maxRecDepth 100000 in
theorem bX9_read_37 (u : Ux_) {P : Int32 → St_ → Prop}  (σ : St_) (tx2 : Nat) (hx2 : tx2 < 4) (x3 : Int32) (x4 : Int32) (H : (((σ 40 tx2) ≤ (x4 + (iI_ 2)) → P x3 σ) ∧ (¬ (σ 40 tx2) ≤ (x4 + (iI_ 2)) → vp_in x4 60 ∧ vp_in (x4 + (iI_ 1)) 60 ∧ vp_in (x4 + (iI_ 2)) 60 ∧ MMi_ (zx_ u) mX9_isFold [.int (σ (41 + tx2) (Int32.toNatClampNeg x4)), .int (σ (41 + tx2) (Int32.toNatClampNeg (x4 + (iI_ 1)))), .int (σ (41 + tx2) (Int32.toNatClampNeg (x4 + (iI_ 2))))] σ (fun r6 σ5 => ((r6 = iI_ 0 → P x3 σ5) ∧ (¬ r6 = iI_ 0 → MMi_ (zx_ u) mX1_add [.ref (uq_ u 11), .int (σ (41 + tx2) (Int32.toNatClampNeg x4)), .int (σ (41 + tx2) (Int32.toNatClampNeg (x4 + (iI_ 1)))), .int (σ (41 + tx2) (Int32.toNatClampNeg (x4 + (iI_ 2))))] σ5 (fun r9 σ8 => ((¬ r9 = iI_ 0 → GG_ (zx_ u) mX9_read (Pi_ P) 37 [(0, .ref (uq_ u 0)), (2, .ref (uq_ u (36 + tx2))), (3, .int (x3 + (iI_ 1))), (4, .int (x4 + (iI_ 3)))] [] σ8) ∧ (r9 = iI_ 0 → P x3 σ8))))))))) : GG_ (zx_ u) mX9_read (Pi_ P) 37 [(0, .ref (uq_ u 0)), (2, .ref (uq_ u (36 + tx2))), (3, .int x3), (4, .int x4)] [] σ := by
  refine g_iload dX9_read_37 3 rfl ?_
  refine g_iconst (v := (iI_ 2)) dX9_read_39 (by decide) ?_
  refine g_iadd dX9_read_40 ?_
  refine g_aload_n dX9_read_41 1 rfl rfl ?_
  refine gx_Sheet_size hx2 w_313 rfl dX9_read_42 ?_
  refine g_icmp_ge 119 dX9_read_45 (by decide) (fun c1 => ?_) (fun c1 => ?_)
  · replace H := H.1 c1
    refine g_iload_n dX9_read_119 2 rfl rfl ?_
    exact g_iret rfl dX9_read_120 ⟨_, rfl, H⟩
  · replace H := H.2 c1
    refine g_aload_n dX9_read_48 1 rfl rfl ?_
    refine gx_Sheet_item hx2 w_315 rfl dX9_read_49 ?_
    refine g_iload dX9_read_52 3 rfl ?_
    obtain ⟨h2, H⟩ := H
    refine ax_si hx2 h2 dX9_read_54 ?_
    refine g_istore (L' := [(5, .int (σ (41 + tx2) (Int32.toNatClampNeg x4))), (0, .ref (uq_ u 0)), (2, .ref (uq_ u (36 + tx2))), (3, .int x3), (4, .int x4)]) dX9_read_55 (by decide) rfl ?_
    refine g_aload_n dX9_read_57 2 rfl rfl ?_
    refine gx_Sheet_item hx2 w_315 rfl dX9_read_58 ?_
    refine g_iload dX9_read_61 4 rfl ?_
    refine g_iconst (v := (iI_ 1)) dX9_read_63 (by decide) ?_
    refine g_iadd dX9_read_64 ?_
    obtain ⟨h3, H⟩ := H
    refine ax_si hx2 h3 dX9_read_65 ?_
    refine g_istore (L' := [(6, .int (σ (41 + tx2) (Int32.toNatClampNeg (x4 + (iI_ 1))))), (5, .int (σ (41 + tx2) (Int32.toNatClampNeg x4))), (0, .ref (uq_ u 0)), (2, .ref (uq_ u (36 + tx2))), (3, .int x3), (4, .int x4)]) dX9_read_66 (by decide) rfl ?_
    refine g_aload_n dX9_read_68 3 rfl rfl ?_
    refine gx_Sheet_item hx2 w_315 rfl dX9_read_69 ?_
    refine g_iload dX9_read_72 5 rfl ?_
    refine g_iconst (v := (iI_ 2)) dX9_read_74 (by decide) ?_
    refine g_iadd dX9_read_75 ?_
    obtain ⟨h4, H⟩ := H
    refine ax_si hx2 h4 dX9_read_76 ?_
    refine g_istore (L' := [(7, .int (σ (41 + tx2) (Int32.toNatClampNeg (x4 + (iI_ 2))))), (6, .int (σ (41 + tx2) (Int32.toNatClampNeg (x4 + (iI_ 1))))), (5, .int (σ (41 + tx2) (Int32.toNatClampNeg x4))), (0, .ref (uq_ u 0)), (2, .ref (uq_ u (36 + tx2))), (3, .int x3), (4, .int x4)]) dX9_read_77 (by decide) rfl ?_
    refine g_iload dX9_read_79 2 rfl ?_
    refine g_iload dX9_read_81 1 rfl ?_
    refine g_iload dX9_read_83 0 rfl ?_
    refine k_X9_isFold w_455 rfl ⟨Nat.le_of_ble_eq_true rfl, Nat.le_of_ble_eq_true rfl⟩ (Nat.le_of_ble_eq_true rfl) dX9_read_85 H (fun r6 σ5 H => ?_)
    refine g_if_eq 119 dX9_read_88 (by decide) (fun c7 => ?_) (fun c7 => ?_)
    · replace H := H.1 c7
      refine g_iload_n dX9_read_119 5 rfl rfl ?_
      exact g_iret rfl dX9_read_120 ⟨_, rfl, H⟩
    · replace H := H.2 c7
      refine g_aload_n dX9_read_91 3 rfl rfl ?_
      refine gx_LinenHouse_folds w_326 rfl dX9_read_92 ?_
      refine g_iload dX9_read_95 2 rfl ?_
      refine g_iload dX9_read_97 1 rfl ?_
      refine g_iload dX9_read_99 0 rfl ?_
      refine k_X1_add w_458 rfl ⟨Nat.le_of_ble_eq_true rfl, Nat.le_of_ble_eq_true rfl⟩ (Nat.le_of_ble_eq_true rfl) dX9_read_101 H (fun r9 σ8 H => ?_)
      refine g_if_ne 110 dX9_read_104 (by decide) (fun c10 => ?_) (fun c10 => ?_)
      · replace H := H.1 c10
        refine g_iinc (v := (x3 + (iI_ 1))) (L' := [(3, .int (x3 + (iI_ 1))), (7, .int (σ (41 + tx2) (Int32.toNatClampNeg (x4 + (iI_ 2))))), (6, .int (σ (41 + tx2) (Int32.toNatClampNeg (x4 + (iI_ 1))))), (5, .int (σ (41 + tx2) (Int32.toNatClampNeg x4))), (0, .ref (uq_ u 0)), (2, .ref (uq_ u (36 + tx2))), (4, .int x4)]) dX9_read_110 5 rfl rfl (by decide) rfl ?_
        refine g_iinc (v := (x4 + (iI_ 3))) (L' := [(4, .int (x4 + (iI_ 3))), (3, .int (x3 + (iI_ 1))), (7, .int (σ (41 + tx2) (Int32.toNatClampNeg (x4 + (iI_ 2))))), (6, .int (σ (41 + tx2) (Int32.toNatClampNeg (x4 + (iI_ 1))))), (5, .int (σ (41 + tx2) (Int32.toNatClampNeg x4))), (0, .ref (uq_ u 0)), (2, .ref (uq_ u (36 + tx2)))]) dX9_read_113 6 rfl rfl (by decide) rfl ?_
        refine g_goto 37 dX9_read_116 (by decide) ?_
        exact GG_.sub [5, 6, 1, 0] rfl H
      · replace H := H.2 c10
        refine g_goto 119 dX9_read_107 (by decide) ?_
        refine g_iload_n dX9_read_119 5 rfl rfl ?_
        exact g_iret rfl dX9_read_120 ⟨_, rfl, H⟩
set_option maxHeartbeats 4000000 in
set_option maxRecDepth 100000 in
theorem eX9_read (u : Ux_) {P : Int32 → St_ → Prop}  (σ : St_) (x1 : Int32) (H : MMi_ (zx_ u) mX9_within [.int x1, .int (iI_ 4)] σ (fun r2 σ1 => ((¬ r2 = iI_ 0 → vp_in x1 4 ∧ ((¬ (σ1 39 (Int32.toNatClampNeg x1)) = (iI_ (-1)) → GG_ (zx_ u) mX9_read (Pi_ P) 37 [(0, .ref (uq_ u 0)), (2, .ref (uq_ u (36 + (Int32.toNatClampNeg x1)))), (3, .int (iI_ 0)), (4, .int (iI_ 0))] [] σ1) ∧ ((σ1 39 (Int32.toNatClampNeg x1)) = (iI_ (-1)) → MMi_ (zx_ u) mX9_found [.ref (uq_ u 0), .int (iI_ 1)] σ1 (fun r7 σ6 => P r7 σ6)))) ∧ (r2 = iI_ 0 → P (iI_ (-2)) σ1)))) : MMi_ (zx_ u) mX9_read [.ref (uq_ u 0), .int x1] σ P := by
  refine MM_.of (L := [(0, .ref (uq_ u 0)), (1, .int x1)]) (by decide +kernel) (Nat.le_of_ble_eq_true rfl) rfl ?_
  refine g_iload_n dX9_read_0 1 rfl rfl ?_
  refine g_iconst (v := (iI_ 4)) dX9_read_1 (by decide) ?_
  refine k_X9_within w_370 rfl ⟨Nat.le_of_ble_eq_true rfl, Nat.le_of_ble_eq_true rfl⟩ (Nat.le_of_ble_eq_true rfl) dX9_read_2 H (fun r2 σ1 H => ?_)
  refine g_if_ne 11 dX9_read_5 (by decide) (fun c3 => ?_) (fun c3 => ?_)
  · replace H := H.1 c3
    refine g_aload_n dX9_read_11 0 rfl rfl ?_
    refine gx_LinenHouse_sheets w_331 rfl dX9_read_12 ?_
    refine g_iload_n dX9_read_15 1 rfl rfl ?_
    obtain ⟨h4, H⟩ := H
    refine ax_sheets h4 dX9_read_16 ?_
    refine g_astore_n (L' := [(2, .ref (uq_ u (36 + (Int32.toNatClampNeg x1)))), (0, .ref (uq_ u 0)), (1, .int x1)]) dX9_read_17 rfl (by decide) rfl ?_
    refine g_aload_n dX9_read_18 0 rfl rfl ?_
    refine gx_Sheet_form (vp_lt h4) w_311 rfl dX9_read_19 ?_
    refine g_iconst (v := (iI_ (-1))) dX9_read_22 (by decide) ?_
    refine g_icmp_ne 32 dX9_read_23 (by decide) (fun c5 => ?_) (fun c5 => ?_)
    · replace H := H.1 c5
      refine g_iconst (v := (iI_ 0)) dX9_read_32 (by decide) ?_
      refine g_istore_n (L' := [(3, .int (iI_ 0)), (2, .ref (uq_ u (36 + (Int32.toNatClampNeg x1)))), (0, .ref (uq_ u 0)), (1, .int x1)]) dX9_read_33 rfl (by decide) rfl ?_
      refine g_iconst (v := (iI_ 0)) dX9_read_34 (by decide) ?_
      refine g_istore (L' := [(4, .int (iI_ 0)), (3, .int (iI_ 0)), (2, .ref (uq_ u (36 + (Int32.toNatClampNeg x1)))), (0, .ref (uq_ u 0)), (1, .int x1)]) dX9_read_35 (by decide) rfl ?_
      exact GG_.sub [3, 2, 1, 0] rfl H
    · replace H := H.2 c5
      refine g_aload_n dX9_read_26 1 rfl rfl ?_
      refine g_iconst (v := (iI_ 1)) dX9_read_27 (by decide) ?_
      refine k_X9_found w_478 rfl ⟨Nat.le_of_ble_eq_true rfl, Nat.le_of_ble_eq_true rfl⟩ (Nat.le_of_ble_eq_true rfl) dX9_read_28 H (fun r7 σ6 H => ?_)
      exact g_iret rfl dX9_read_31 ⟨_, rfl, H⟩
  · replace H := H.2 c3
    refine g_bipush (v := (iI_ (-2))) dX9_read_8 (by decide) ?_
    exact g_iret rfl dX9_read_10 ⟨_, rfl, H⟩
set_option maxHeartbeats 4000000 in
set_option maxRecDepth 100000 in
theorem eX9_lies (u : Ux_) {P : Int32 → St_ → Prop}  (σ : St_) (x1 : Int32) (x2 : Int32) (x3 : Int32) (H : MMi_ (zx_ u) mX9_isNight [.int x1] σ (fun r2 σ1 => ((r2 = iI_ 0 → P (iI_ (-2)) σ1) ∧ (¬ r2 = iI_ 0 → MMi_ (zx_ u) mX9_isMember [.ref (uq_ u 0), .int x2] σ1 (fun r5 σ4 => ((r5 = iI_ 0 → P (iI_ (-2)) σ4) ∧ (¬ r5 = iI_ 0 → MMi_ (zx_ u) mX9_within [.int x3, .int (iI_ 3)] σ4 (fun r8 σ7 => ((¬ r8 = iI_ 0 → ((¬ x3 = (iI_ 2) → MMv_ (zx_ u) mX0_lay [.ref (uq_ u 20), .int x1, .int (iI_ (-1))] σ7 (fun σ11 => vp_in x2 8 ∧ ((¬ x3 = iI_ 0 → MMi_ (zx_ u) mX2_has [.ref (uq_ u 15), .int x1] σ11 (fun r15 σ14 => MMi_ (zx_ u) mX9_warmth [.int (σ11 26 (Int32.toNatClampNeg x2)), .int r15] σ14 (fun r17 σ16 => P r17 σ16))) ∧ (x3 = iI_ 0 → P (σ11 26 (Int32.toNatClampNeg x2)) σ11)))) ∧ (x3 = (iI_ 2) → MMi_ (zx_ u) mX9_carriedAsTold [.ref (uq_ u 0), .int x1] σ7 (fun r19 σ18 => ((¬ r19 = (iI_ (-1)) → vp_in x2 8 ∧ P (σ18 29 (Int32.toNatClampNeg x2)) σ18) ∧ (r19 = (iI_ (-1)) → P (iI_ (-1)) σ18)))))) ∧ (r8 = iI_ 0 → P (iI_ (-2)) σ7)))))))))) : MMi_ (zx_ u) mX9_lies [.ref (uq_ u 0), .int x1, .int x2, .int x3] σ P := by
  refine MM_.of (L := [(0, .ref (uq_ u 0)), (1, .int x1), (2, .int x2), (3, .int x3)]) (by decide +kernel) (Nat.le_of_ble_eq_true rfl) rfl ?_
  refine g_iload_n dX9_lies_0 1 rfl rfl ?_
  refine k_X9_isNight w_444 rfl ⟨Nat.le_of_ble_eq_true rfl, Nat.le_of_ble_eq_true rfl⟩ (Nat.le_of_ble_eq_true rfl) dX9_lies_1 H (fun r2 σ1 H => ?_)
  refine g_if_eq 23 dX9_lies_4 (by decide) (fun c3 => ?_) (fun c3 => ?_)
  · replace H := H.1 c3
    refine g_bipush (v := (iI_ (-2))) dX9_lies_23 (by decide) ?_
    exact g_iret rfl dX9_lies_25 ⟨_, rfl, H⟩
  · replace H := H.2 c3
    refine g_aload_n dX9_lies_7 0 rfl rfl ?_
    refine g_iload_n dX9_lies_8 2 rfl rfl ?_
    refine k_X9_isMember w_431 rfl ⟨Nat.le_of_ble_eq_true rfl, Nat.le_of_ble_eq_true rfl⟩ (Nat.le_of_ble_eq_true rfl) dX9_lies_9 H (fun r5 σ4 H => ?_)
    refine g_if_eq 23 dX9_lies_12 (by decide) (fun c6 => ?_) (fun c6 => ?_)
    · replace H := H.1 c6
      refine g_bipush (v := (iI_ (-2))) dX9_lies_23 (by decide) ?_
      exact g_iret rfl dX9_lies_25 ⟨_, rfl, H⟩
    · replace H := H.2 c6
      refine g_iload_n dX9_lies_15 3 rfl rfl ?_
      refine g_iconst (v := (iI_ 3)) dX9_lies_16 (by decide) ?_
      refine k_X9_within w_370 rfl ⟨Nat.le_of_ble_eq_true rfl, Nat.le_of_ble_eq_true rfl⟩ (Nat.le_of_ble_eq_true rfl) dX9_lies_17 H (fun r8 σ7 H => ?_)
      refine g_if_ne 26 dX9_lies_20 (by decide) (fun c9 => ?_) (fun c9 => ?_)
      · replace H := H.1 c9
        refine g_iload_n dX9_lies_26 3 rfl rfl ?_
        refine g_iconst (v := (iI_ 2)) dX9_lies_27 (by decide) ?_
        refine g_icmp_ne 54 dX9_lies_28 (by decide) (fun c10 => ?_) (fun c10 => ?_)
        · replace H := H.1 c10
          refine g_aload_n dX9_lies_54 0 rfl rfl ?_
          refine gx_LinenHouse_chamber w_329 rfl dX9_lies_55 ?_
          refine g_iload_n dX9_lies_58 1 rfl rfl ?_
          refine g_iconst (v := (iI_ (-1))) dX9_lies_59 (by decide) ?_
          refine k_X0_lay w_539 rfl ⟨Nat.le_of_ble_eq_true rfl, Nat.le_of_ble_eq_true rfl⟩ (Nat.le_of_ble_eq_true rfl) dX9_lies_60 H (fun σ11 H => ?_)
          refine g_aload_n dX9_lies_63 0 rfl rfl ?_
          refine gx_LinenHouse_chamber w_329 rfl dX9_lies_64 ?_
          refine gx_Chamber_shelf w_234 rfl dX9_lies_67 ?_
          refine g_iload_n dX9_lies_70 2 rfl rfl ?_
          obtain ⟨h12, H⟩ := H
          refine ax_26 h12 dX9_lies_71 ?_
          refine g_istore (L' := [(4, .int (σ11 26 (Int32.toNatClampNeg x2))), (0, .ref (uq_ u 0)), (1, .int x1), (2, .int x2), (3, .int x3)]) dX9_lies_72 (by decide) rfl ?_
          refine g_iload_n dX9_lies_74 4 rfl rfl ?_
          refine g_if_ne 83 dX9_lies_75 (by decide) (fun c13 => ?_) (fun c13 => ?_)
          · replace H := H.1 c13
            refine g_iload dX9_lies_83 0 rfl ?_
            refine g_aload_n dX9_lies_85 1 rfl rfl ?_
            refine gx_LinenHouse_jars w_327 rfl dX9_lies_86 ?_
            refine g_iload_n dX9_lies_89 2 rfl rfl ?_
            refine k_X2_has w_490 rfl ⟨Nat.le_of_ble_eq_true rfl, Nat.le_of_ble_eq_true rfl⟩ (Nat.le_of_ble_eq_true rfl) dX9_lies_90 H (fun r15 σ14 H => ?_)
            refine k_X9_warmth w_540 rfl ⟨Nat.le_of_ble_eq_true rfl, Nat.le_of_ble_eq_true rfl⟩ (Nat.le_of_ble_eq_true rfl) dX9_lies_93 H (fun r17 σ16 H => ?_)
            exact g_iret rfl dX9_lies_96 ⟨_, rfl, H⟩
          · replace H := H.2 c13
            refine g_iload dX9_lies_78 0 rfl ?_
            refine g_goto 96 dX9_lies_80 (by decide) ?_
            exact g_iret rfl dX9_lies_96 ⟨_, rfl, H⟩
        · replace H := H.2 c10
          refine g_aload_n dX9_lies_31 0 rfl rfl ?_
          refine g_iload_n dX9_lies_32 1 rfl rfl ?_
          refine k_X9_carriedAsTold w_486 rfl ⟨Nat.le_of_ble_eq_true rfl, Nat.le_of_ble_eq_true rfl⟩ (Nat.le_of_ble_eq_true rfl) dX9_lies_33 H (fun r19 σ18 H => ?_)
          refine g_iconst (v := (iI_ (-1))) dX9_lies_36 (by decide) ?_
          refine g_icmp_ne 44 dX9_lies_37 (by decide) (fun c20 => ?_) (fun c20 => ?_)
          · replace H := H.1 c20
            refine g_aload_n dX9_lies_44 0 rfl rfl ?_
            refine gx_LinenHouse_chamber w_329 rfl dX9_lies_45 ?_
            refine gx_Chamber_vote w_238 rfl dX9_lies_48 ?_
            refine g_iload_n dX9_lies_51 2 rfl rfl ?_
            obtain ⟨h21, H⟩ := H
            refine ax_29 h21 dX9_lies_52 ?_
            exact g_iret rfl dX9_lies_53 ⟨_, rfl, H⟩
          · replace H := H.2 c20
            refine g_iconst (v := (iI_ (-1))) dX9_lies_40 (by decide) ?_
            refine g_goto 53 dX9_lies_41 (by decide) ?_
            exact g_iret rfl dX9_lies_53 ⟨_, rfl, H⟩
      · replace H := H.2 c9
        refine g_bipush (v := (iI_ (-2))) dX9_lies_23 (by decide) ?_
        exact g_iret rfl dX9_lies_25 ⟨_, rfl, H⟩
set_option maxHeartbeats 4000000 in
set_option maxRecDepth 100000 in
theorem eX9_vote (u : Ux_) {P : Int32 → St_ → Prop}  (σ : St_) (x1 : Int32) (x2 : Int32) (H : MMi_ (zx_ u) mX9_isNight [.int x1] σ (fun r2 σ1 => ((r2 = iI_ 0 → P (iI_ (-2)) σ1) ∧ (¬ r2 = iI_ 0 → MMi_ (zx_ u) mX9_within [.int x2, .int (iI_ 4)] σ1 (fun r5 σ4 => ((¬ r5 = iI_ 0 → MMi_ (zx_ u) mX9_carriedAsTold [.ref (uq_ u 0), .int x1] σ4 (fun r8 σ7 => ((¬ r8 = (iI_ (-1)) → ((x2 = iI_ 0 → P (σ7 31 0) σ7) ∧ (x2 = iI_ 1 → P (if iI_ 0 ≤ (σ7 32 0) then (σ7 32 0) else iI_ 0 - (σ7 32 0)) σ7) ∧ (x2 = iI_ 2 → P r8 σ7) ∧ ((∀ j : Nat, j < 3 → ¬ x2 = iI_ j) → P (σ7 30 0) σ7))) ∧ (r8 = (iI_ (-1)) → P (iI_ (-1)) σ7)))) ∧ (r5 = iI_ 0 → P (iI_ (-2)) σ4))))))) : MMi_ (zx_ u) mX9_vote [.ref (uq_ u 0), .int x1, .int x2] σ P := by
  refine MM_.of (L := [(0, .ref (uq_ u 0)), (1, .int x1), (2, .int x2)]) (by decide +kernel) (Nat.le_of_ble_eq_true rfl) rfl ?_
  refine g_iload_n dX9_vote_0 1 rfl rfl ?_
  refine k_X9_isNight w_444 rfl ⟨Nat.le_of_ble_eq_true rfl, Nat.le_of_ble_eq_true rfl⟩ (Nat.le_of_ble_eq_true rfl) dX9_vote_1 H (fun r2 σ1 H => ?_)
  refine g_if_eq 15 dX9_vote_4 (by decide) (fun c3 => ?_) (fun c3 => ?_)
  · replace H := H.1 c3
    refine g_bipush (v := (iI_ (-2))) dX9_vote_15 (by decide) ?_
    exact g_iret rfl dX9_vote_17 ⟨_, rfl, H⟩
  · replace H := H.2 c3
    refine g_iload_n dX9_vote_7 2 rfl rfl ?_
    refine g_iconst (v := (iI_ 4)) dX9_vote_8 (by decide) ?_
    refine k_X9_within w_370 rfl ⟨Nat.le_of_ble_eq_true rfl, Nat.le_of_ble_eq_true rfl⟩ (Nat.le_of_ble_eq_true rfl) dX9_vote_9 H (fun r5 σ4 H => ?_)
    refine g_if_ne 18 dX9_vote_12 (by decide) (fun c6 => ?_) (fun c6 => ?_)
    · replace H := H.1 c6
      refine g_aload_n dX9_vote_18 0 rfl rfl ?_
      refine g_iload_n dX9_vote_19 1 rfl rfl ?_
      refine k_X9_carriedAsTold w_486 rfl ⟨Nat.le_of_ble_eq_true rfl, Nat.le_of_ble_eq_true rfl⟩ (Nat.le_of_ble_eq_true rfl) dX9_vote_20 H (fun r8 σ7 H => ?_)
      refine g_istore_n (L' := [(3, .int r8), (0, .ref (uq_ u 0)), (1, .int x1), (2, .int x2)]) dX9_vote_23 rfl (by decide) rfl ?_
      refine g_iload_n dX9_vote_24 0 rfl rfl ?_
      refine g_iconst (v := (iI_ (-1))) dX9_vote_25 (by decide) ?_
      refine g_icmp_ne 31 dX9_vote_26 (by decide) (fun c9 => ?_) (fun c9 => ?_)
      · replace H := H.1 c9
        refine g_iload_n dX9_vote_31 3 rfl rfl ?_
        refine g_tab 3 [60, 68, 79] dX9_vote_32 rfl (by decide) (by decide) rfl 81 (by decide) ?_ ?_
        · intro j t ht hx
          rcases j with _ | _ | _ | j
          · cases ht
            replace H := H.1 hx
            refine g_aload_n dX9_vote_60 1 rfl rfl ?_
            refine gx_LinenHouse_chamber w_329 rfl dX9_vote_61 ?_
            refine gx_Chamber_firsts w_242 rfl dX9_vote_64 ?_
            exact g_iret rfl dX9_vote_67 ⟨_, rfl, H⟩
          · cases ht
            replace H := H.2.1 hx
            refine g_aload_n dX9_vote_68 1 rfl rfl ?_
            refine gx_LinenHouse_chamber w_329 rfl dX9_vote_69 ?_
            refine gx_Chamber_lead w_244 rfl dX9_vote_72 ?_
            refine g_abs w_545 rfl (Nat.le_of_ble_eq_true rfl) (Nat.le_of_ble_eq_true rfl) dX9_vote_75 ?_
            exact g_iret rfl dX9_vote_78 ⟨_, rfl, H⟩
          · cases ht
            replace H := H.2.2.1 hx
            refine g_iload_n dX9_vote_79 0 rfl rfl ?_
            exact g_iret rfl dX9_vote_80 ⟨_, rfl, H⟩
          · cases ht
        · intro hx
          replace H := H.2.2.2 hx
          refine g_aload_n dX9_vote_81 1 rfl rfl ?_
          refine gx_LinenHouse_chamber w_329 rfl dX9_vote_82 ?_
          refine gx_Chamber_speaker w_240 rfl dX9_vote_85 ?_
          exact g_iret rfl dX9_vote_88 ⟨_, rfl, H⟩
      · replace H := H.2 c9
        refine g_iconst (v := (iI_ (-1))) dX9_vote_29 (by decide) ?_
        exact g_iret rfl dX9_vote_30 ⟨_, rfl, H⟩
    · replace H := H.2 c6
      refine g_bipush (v := (iI_ (-2))) dX9_vote_15 (by decide) ?_
      exact g_iret rfl dX9_vote_17 ⟨_, rfl, H⟩
set_option maxHeartbeats 4000000 in
set_option maxRecDepth 100000 in
theorem eX9_house (u : Ux_) {P : Int32 → St_ → Prop}  (σ : St_) (x1 : Int32) (H : MMi_ (zx_ u) mX9_isNight [.int x1] σ (fun r2 σ1 => ((r2 = iI_ 0 → P (iI_ (-2)) σ1) ∧ (¬ r2 = iI_ 0 → MMi_ (zx_ u) mX9_lastPut [.ref (uq_ u 0), .int x1] σ1 (fun r5 σ4 => MMi_ (zx_ u) mX9_carriedAsTold [.ref (uq_ u 0), .int r5] σ4 (fun r7 σ6 => P r7 σ6)))))) : MMi_ (zx_ u) mX9_house [.ref (uq_ u 0), .int x1] σ P := by
  refine MM_.of (L := [(0, .ref (uq_ u 0)), (1, .int x1)]) (by decide +kernel) (Nat.le_of_ble_eq_true rfl) rfl ?_
  refine g_iload_n dX9_house_0 1 rfl rfl ?_
  refine k_X9_isNight w_444 rfl ⟨Nat.le_of_ble_eq_true rfl, Nat.le_of_ble_eq_true rfl⟩ (Nat.le_of_ble_eq_true rfl) dX9_house_1 H (fun r2 σ1 H => ?_)
  refine g_if_eq 19 dX9_house_4 (by decide) (fun c3 => ?_) (fun c3 => ?_)
  · replace H := H.1 c3
    refine g_bipush (v := (iI_ (-2))) dX9_house_19 (by decide) ?_
    exact g_iret rfl dX9_house_21 ⟨_, rfl, H⟩
  · replace H := H.2 c3
    refine g_aload_n dX9_house_7 0 rfl rfl ?_
    refine g_aload_n dX9_house_8 0 rfl rfl ?_
    refine g_iload_n dX9_house_9 1 rfl rfl ?_
    refine k_X9_lastPut w_552 rfl ⟨Nat.le_of_ble_eq_true rfl, Nat.le_of_ble_eq_true rfl⟩ (Nat.le_of_ble_eq_true rfl) dX9_house_10 H (fun r5 σ4 H => ?_)
    refine k_X9_carriedAsTold w_486 rfl ⟨Nat.le_of_ble_eq_true rfl, Nat.le_of_ble_eq_true rfl⟩ (Nat.le_of_ble_eq_true rfl) dX9_house_13 H (fun r7 σ6 H => ?_)
    refine g_goto 21 dX9_house_16 (by decide) ?_
    exact g_iret rfl dX9_house_21 ⟨_, rfl, H⟩
set_option maxHeartbeats 4000000 in
set_option maxRecDepth 100000 in
theorem bX9_told_4 (u : Ux_) {P : Int32 → St_ → Prop}  (σ : St_) (x1 : Int32) (x2 : Int32) (H : (((σ 9 0) ≤ x2 → P x1 σ) ∧ (¬ (σ 9 0) ≤ x2 → MMi_ (zx_ u) mX9_carriedAsTold [.ref (uq_ u 0), .int x2] σ (fun r3 σ2 => ((r3 = (iI_ (-1)) → GG_ (zx_ u) mX9_told (Pi_ P) 4 [(0, .ref (uq_ u 0)), (1, .int x1), (2, .int (x2 + (iI_ 1)))] [] σ2) ∧ (¬ r3 = (iI_ (-1)) → ((¬ (σ2 32 0) = iI_ 0 → GG_ (zx_ u) mX9_told (Pi_ P) 4 [(0, .ref (uq_ u 0)), (1, .int x1), (2, .int (x2 + (iI_ 1)))] [] σ2) ∧ ((σ2 32 0) = iI_ 0 → GG_ (zx_ u) mX9_told (Pi_ P) 4 [(0, .ref (uq_ u 0)), (1, .int (x1 + (iI_ 1))), (2, .int (x2 + (iI_ 1)))] [] σ2)))))))) : GG_ (zx_ u) mX9_told (Pi_ P) 4 [(0, .ref (uq_ u 0)), (1, .int x1), (2, .int x2)] [] σ := by
  refine g_iload_n dX9_told_4 2 rfl rfl ?_
  refine g_aload_n dX9_told_5 0 rfl rfl ?_
  refine gx_LinenHouse_motions w_325 rfl dX9_told_6 ?_
  refine gx_Motions_n w_139 rfl dX9_told_9 ?_
  refine g_icmp_ge 43 dX9_told_12 (by decide) (fun c1 => ?_) (fun c1 => ?_)
  · replace H := H.1 c1
    refine g_iload_n dX9_told_43 1 rfl rfl ?_
    exact g_iret rfl dX9_told_44 ⟨_, rfl, H⟩
  · replace H := H.2 c1
    refine g_aload_n dX9_told_15 0 rfl rfl ?_
    refine g_iload_n dX9_told_16 2 rfl rfl ?_
    refine k_X9_carriedAsTold w_486 rfl ⟨Nat.le_of_ble_eq_true rfl, Nat.le_of_ble_eq_true rfl⟩ (Nat.le_of_ble_eq_true rfl) dX9_told_17 H (fun r3 σ2 H => ?_)
    refine g_iconst (v := (iI_ (-1))) dX9_told_20 (by decide) ?_
    refine g_icmp_eq 37 dX9_told_21 (by decide) (fun c4 => ?_) (fun c4 => ?_)
    · replace H := H.1 c4
      refine g_iinc (v := (x2 + (iI_ 1))) (L' := [(2, .int (x2 + (iI_ 1))), (0, .ref (uq_ u 0)), (1, .int x1)]) dX9_told_37 2 rfl rfl (by decide) rfl ?_
      refine g_goto 4 dX9_told_40 (by decide) ?_
      exact GG_.sub [1, 2, 0] rfl H
    · replace H := H.2 c4
      refine g_aload_n dX9_told_24 0 rfl rfl ?_
      refine gx_LinenHouse_chamber w_329 rfl dX9_told_25 ?_
      refine gx_Chamber_lead w_244 rfl dX9_told_28 ?_
      refine g_if_ne 37 dX9_told_31 (by decide) (fun c5 => ?_) (fun c5 => ?_)
      · replace H := H.1 c5
        refine g_iinc (v := (x2 + (iI_ 1))) (L' := [(2, .int (x2 + (iI_ 1))), (0, .ref (uq_ u 0)), (1, .int x1)]) dX9_told_37 2 rfl rfl (by decide) rfl ?_
        refine g_goto 4 dX9_told_40 (by decide) ?_
        exact GG_.sub [1, 2, 0] rfl H
      · replace H := H.2 c5
        refine g_iinc (v := (x1 + (iI_ 1))) (L' := [(1, .int (x1 + (iI_ 1))), (0, .ref (uq_ u 0)), (2, .int x2)]) dX9_told_34 1 rfl rfl (by decide) rfl ?_
        refine g_iinc (v := (x2 + (iI_ 1))) (L' := [(2, .int (x2 + (iI_ 1))), (1, .int (x1 + (iI_ 1))), (0, .ref (uq_ u 0))]) dX9_told_37 2 rfl rfl (by decide) rfl ?_
        refine g_goto 4 dX9_told_40 (by decide) ?_
        exact GG_.sub [2, 1, 0] rfl H
set_option maxHeartbeats 4000000 in
set_option maxRecDepth 100000 in
theorem eX9_told (u : Ux_) {P : Int32 → St_ → Prop}  (σ : St_)  (H : GG_ (zx_ u) mX9_told (Pi_ P) 4 [(0, .ref (uq_ u 0)), (1, .int (iI_ 0)), (2, .int (iI_ 0))] [] σ) : MMi_ (zx_ u) mX9_told [.ref (uq_ u 0)] σ P := by
  refine MM_.of (L := [(0, .ref (uq_ u 0))]) (by decide +kernel) (Nat.le_of_ble_eq_true rfl) rfl ?_
  refine g_iconst (v := (iI_ 0)) dX9_told_0 (by decide) ?_
  refine g_istore_n (L' := [(1, .int (iI_ 0)), (0, .ref (uq_ u 0))]) dX9_told_1 rfl (by decide) rfl ?_
  refine g_iconst (v := (iI_ 0)) dX9_told_2 (by decide) ?_
  refine g_istore_n (L' := [(2, .int (iI_ 0)), (1, .int (iI_ 0)), (0, .ref (uq_ u 0))]) dX9_told_3 rfl (by decide) rfl ?_
  exact GG_.sub [2, 1, 0] rfl H
