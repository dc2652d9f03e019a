set_option maxHeartbeats 4000000 in
set_option maxRecDepth 100000 in
theorem eX9_sheet (u : Ux_) {P : Int32 → St_ → Prop}  (σ : St_) (x1 : Int32) (x2 : Int32) (x3 : Int32) (H : MMi_ (zx_ u) mX9_within [.int x1, .int (iI_ 4)] σ (fun r2 σ1 => ((r2 = iI_ 0 → P (iI_ (-2)) σ1) ∧ (¬ r2 = iI_ 0 → MMi_ (zx_ u) mX9_within [.int x2, .int (iI_ 3)] σ1 (fun r5 σ4 => ((r5 = iI_ 0 → P (iI_ (-2)) σ4) ∧ (¬ r5 = iI_ 0 → ((x3 ≤ (iI_ 60) → ((iI_ 0 ≤ x3 → vp_in x1 4 ∧ MMv_ (zx_ u) mX6_renew [.ref (uq_ u (36 + (Int32.toNatClampNeg x1))), .int x2, .int x3] σ4 (fun σ10 => P x3 σ10)) ∧ (¬ iI_ 0 ≤ x3 → MMi_ (zx_ u) mX9_found [.ref (uq_ u 0), .int (iI_ 5)] σ4 (fun r12 σ11 => P r12 σ11)))) ∧ (¬ x3 ≤ (iI_ 60) → P (iI_ (-2)) σ4))))))))) : MMi_ (zx_ u) mX9_sheet [.ref (uq_ u 0), .int x1, .int x2, .int x3] σ P := by
  refine MM_.of (L := [(0, .ref (uq_ u 0)), (1, .int x1), (2, .int x2), (3, .int x3)]) (by decide +kernel) (Nat.le_of_ble_eq_true rfl) rfl ?_
  refine g_iload_n dX9_sheet_0 1 rfl rfl ?_
  refine g_iconst (v := (iI_ 4)) dX9_sheet_1 (by decide) ?_
  refine k_X9_within w_370 rfl ⟨Nat.le_of_ble_eq_true rfl, Nat.le_of_ble_eq_true rfl⟩ (Nat.le_of_ble_eq_true rfl) dX9_sheet_2 H (fun r2 σ1 H => ?_)
  refine g_if_eq 22 dX9_sheet_5 (by decide) (fun c3 => ?_) (fun c3 => ?_)
  · replace H := H.1 c3
    refine g_bipush (v := (iI_ (-2))) dX9_sheet_22 (by decide) ?_
    exact g_iret rfl dX9_sheet_24 ⟨_, rfl, H⟩
  · replace H := H.2 c3
    refine g_iload_n dX9_sheet_8 2 rfl rfl ?_
    refine g_iconst (v := (iI_ 3)) dX9_sheet_9 (by decide) ?_
    refine k_X9_within w_370 rfl ⟨Nat.le_of_ble_eq_true rfl, Nat.le_of_ble_eq_true rfl⟩ (Nat.le_of_ble_eq_true rfl) dX9_sheet_10 H (fun r5 σ4 H => ?_)
    refine g_if_eq 22 dX9_sheet_13 (by decide) (fun c6 => ?_) (fun c6 => ?_)
    · replace H := H.1 c6
      refine g_bipush (v := (iI_ (-2))) dX9_sheet_22 (by decide) ?_
      exact g_iret rfl dX9_sheet_24 ⟨_, rfl, H⟩
    · replace H := H.2 c6
      refine g_iload_n dX9_sheet_16 3 rfl rfl ?_
      refine g_bipush (v := (iI_ 60)) dX9_sheet_17 (by decide) ?_
      refine g_icmp_le 25 dX9_sheet_19 (by decide) (fun c7 => ?_) (fun c7 => ?_)
      · replace H := H.1 c7
        refine g_iload_n dX9_sheet_25 3 rfl rfl ?_
        refine g_if_ge 35 dX9_sheet_26 (by decide) (fun c8 => ?_) (fun c8 => ?_)
        · replace H := H.1 c8
          refine g_aload_n dX9_sheet_35 0 rfl rfl ?_
          refine gx_LinenHouse_sheets w_331 rfl dX9_sheet_36 ?_
          refine g_iload_n dX9_sheet_39 1 rfl rfl ?_
          obtain ⟨h9, H⟩ := H
          refine ax_sheets h9 dX9_sheet_40 ?_
          refine g_iload_n dX9_sheet_41 2 rfl rfl ?_
          refine g_iload_n dX9_sheet_42 3 rfl rfl ?_
          refine k_X6_renew (vp_lt h9) w_723 rfl ⟨Nat.le_of_ble_eq_true rfl, Nat.le_of_ble_eq_true rfl⟩ (Nat.le_of_ble_eq_true rfl) dX9_sheet_43 H (fun σ10 H => ?_)
          refine g_iload_n dX9_sheet_46 3 rfl rfl ?_
          exact g_iret rfl dX9_sheet_47 ⟨_, rfl, H⟩
        · replace H := H.2 c8
          refine g_aload_n dX9_sheet_29 0 rfl rfl ?_
          refine g_iconst (v := (iI_ 5)) dX9_sheet_30 (by decide) ?_
          refine k_X9_found w_478 rfl ⟨Nat.le_of_ble_eq_true rfl, Nat.le_of_ble_eq_true rfl⟩ (Nat.le_of_ble_eq_true rfl) dX9_sheet_31 H (fun r12 σ11 H => ?_)
          exact g_iret rfl dX9_sheet_34 ⟨_, rfl, H⟩
      · replace H := H.2 c7
        refine g_bipush (v := (iI_ (-2))) dX9_sheet_22 (by decide) ?_
        exact g_iret rfl dX9_sheet_24 ⟨_, rfl, H⟩
set_option maxHeartbeats 4000000 in
set_option maxRecDepth 100000 in
theorem eX9_lose (u : Ux_) {P : Int32 → St_ → Prop}  (σ : St_) (x1 : Int32) (H : MMi_ (zx_ u) mX9_within [.int x1, .int (iI_ 4)] σ (fun r2 σ1 => ((¬ r2 = iI_ 0 → vp_in x1 4 ∧ ((¬ (σ1 39 (Int32.toNatClampNeg x1)) = (iI_ (-1)) → vp_in x1 4 ∧ vp_in x1 4 ∧ MMv_ (zx_ u) mX6_renew [.ref (uq_ u (36 + (Int32.toNatClampNeg x1))), .int (iI_ (-1)), .int (iI_ 0)] σ1 (fun σ8 => P (σ1 40 (Int32.toNatClampNeg x1)) σ8)) ∧ ((σ1 39 (Int32.toNatClampNeg x1)) = (iI_ (-1)) → MMi_ (zx_ u) mX9_found [.ref (uq_ u 0), .int (iI_ 1)] σ1 (fun r10 σ9 => P r10 σ9)))) ∧ (r2 = iI_ 0 → P (iI_ (-2)) σ1)))) : MMi_ (zx_ u) mX9_lose [.ref (uq_ u 0), .int x1] σ P := by
  refine MM_.of (L := [(0, .ref (uq_ u 0)), (1, .int x1)]) (by decide +kernel) (Nat.le_of_ble_eq_true rfl) rfl ?_
  refine g_iload_n dX9_lose_0 1 rfl rfl ?_
  refine g_iconst (v := (iI_ 4)) dX9_lose_1 (by decide) ?_
  refine k_X9_within w_370 rfl ⟨Nat.le_of_ble_eq_true rfl, Nat.le_of_ble_eq_true rfl⟩ (Nat.le_of_ble_eq_true rfl) dX9_lose_2 H (fun r2 σ1 H => ?_)
  refine g_if_ne 11 dX9_lose_5 (by decide) (fun c3 => ?_) (fun c3 => ?_)
  · replace H := H.1 c3
    refine g_aload_n dX9_lose_11 0 rfl rfl ?_
    refine gx_LinenHouse_sheets w_331 rfl dX9_lose_12 ?_
    refine g_iload_n dX9_lose_15 1 rfl rfl ?_
    obtain ⟨h4, H⟩ := H
    refine ax_sheets h4 dX9_lose_16 ?_
    refine gx_Sheet_form (vp_lt h4) w_311 rfl dX9_lose_17 ?_
    refine g_iconst (v := (iI_ (-1))) dX9_lose_20 (by decide) ?_
    refine g_icmp_ne 30 dX9_lose_21 (by decide) (fun c5 => ?_) (fun c5 => ?_)
    · replace H := H.1 c5
      refine g_aload_n dX9_lose_30 0 rfl rfl ?_
      refine gx_LinenHouse_sheets w_331 rfl dX9_lose_31 ?_
      refine g_iload_n dX9_lose_34 1 rfl rfl ?_
      obtain ⟨h6, H⟩ := H
      refine ax_sheets h6 dX9_lose_35 ?_
      refine gx_Sheet_size (vp_lt h6) w_313 rfl dX9_lose_36 ?_
      refine g_istore_n (L' := [(2, .int (σ1 40 (Int32.toNatClampNeg x1))), (0, .ref (uq_ u 0)), (1, .int x1)]) dX9_lose_39 rfl (by decide) rfl ?_
      refine g_aload_n dX9_lose_40 1 rfl rfl ?_
      refine gx_LinenHouse_sheets w_331 rfl dX9_lose_41 ?_
      refine g_iload_n dX9_lose_44 2 rfl rfl ?_
      obtain ⟨h7, H⟩ := H
      refine ax_sheets h7 dX9_lose_45 ?_
      refine g_iconst (v := (iI_ (-1))) dX9_lose_46 (by decide) ?_
      refine g_iconst (v := (iI_ 0)) dX9_lose_47 (by decide) ?_
      refine k_X6_renew (vp_lt h7) w_723 rfl ⟨Nat.le_of_ble_eq_true rfl, Nat.le_of_ble_eq_true rfl⟩ (Nat.le_of_ble_eq_true rfl) dX9_lose_48 H (fun σ8 H => ?_)
      refine g_iload_n dX9_lose_51 0 rfl rfl ?_
      exact g_iret rfl dX9_lose_52 ⟨_, rfl, H⟩
    · replace H := H.2 c5
      refine g_aload_n dX9_lose_24 0 rfl rfl ?_
      refine g_iconst (v := (iI_ 1)) dX9_lose_25 (by decide) ?_
      refine k_X9_found w_478 rfl ⟨Nat.le_of_ble_eq_true rfl, Nat.le_of_ble_eq_true rfl⟩ (Nat.le_of_ble_eq_true rfl) dX9_lose_26 H (fun r10 σ9 H => ?_)
      exact g_iret rfl dX9_lose_29 ⟨_, rfl, H⟩
  · replace H := H.2 c3
    refine g_bipush (v := (iI_ (-2))) dX9_lose_8 (by decide) ?_
    exact g_iret rfl dX9_lose_10 ⟨_, rfl, H⟩
set_option maxHeartbeats 4000000 in
set_option maxRecDepth 100000 in
theorem eX9_put (u : Ux_) {P : Int32 → St_ → Prop}  (σ : St_) (x1 : Int32) (x2 : Int32) (x3 : Int32) (x4 : Int32) (H : MMi_ (zx_ u) mX9_itemRefusal [.ref (uq_ u 0), .int x1, .int x2, .int x3] σ (fun r2 σ1 => ((r2 = iI_ 0 → vp_in x1 4 ∧ MMv_ (zx_ u) mX6_set [.ref (uq_ u (36 + (Int32.toNatClampNeg x1))), .int x3, .int x4] σ1 (fun σ5 => P (iI_ 1) σ5)) ∧ (¬ r2 = iI_ 0 → P r2 σ1)))) : MMi_ (zx_ u) mX9_put [.ref (uq_ u 0), .int x1, .int x2, .int x3, .int x4] σ P := by
  refine MM_.of (L := [(0, .ref (uq_ u 0)), (1, .int x1), (2, .int x2), (3, .int x3), (4, .int x4)]) (by decide +kernel) (Nat.le_of_ble_eq_true rfl) rfl ?_
  refine g_aload_n dX9_put_0 0 rfl rfl ?_
  refine g_iload_n dX9_put_1 1 rfl rfl ?_
  refine g_iload_n dX9_put_2 2 rfl rfl ?_
  refine g_iload_n dX9_put_3 3 rfl rfl ?_
  refine k_X9_itemRefusal w_737 rfl ⟨Nat.le_of_ble_eq_true rfl, Nat.le_of_ble_eq_true rfl⟩ (Nat.le_of_ble_eq_true rfl) dX9_put_4 H (fun r2 σ1 H => ?_)
  refine g_istore (L' := [(5, .int r2), (0, .ref (uq_ u 0)), (1, .int x1), (2, .int x2), (3, .int x3), (4, .int x4)]) dX9_put_7 (by decide) rfl ?_
  refine g_iload dX9_put_9 0 rfl ?_
  refine g_if_eq 17 dX9_put_11 (by decide) (fun c3 => ?_) (fun c3 => ?_)
  · replace H := H.1 c3
    refine g_aload_n dX9_put_17 1 rfl rfl ?_
    refine gx_LinenHouse_sheets w_331 rfl dX9_put_18 ?_
    refine g_iload_n dX9_put_21 2 rfl rfl ?_
    obtain ⟨h4, H⟩ := H
    refine ax_sheets h4 dX9_put_22 ?_
    refine g_iload_n dX9_put_23 4 rfl rfl ?_
    refine g_iload dX9_put_24 5 rfl ?_
    refine k_X6_set (vp_lt h4) w_741 rfl ⟨Nat.le_of_ble_eq_true rfl, Nat.le_of_ble_eq_true rfl⟩ (Nat.le_of_ble_eq_true rfl) dX9_put_26 H (fun σ5 H => ?_)
    refine g_iconst (v := (iI_ 1)) dX9_put_29 (by decide) ?_
    exact g_iret rfl dX9_put_30 ⟨_, rfl, H⟩
  · replace H := H.2 c3
    refine g_iload dX9_put_14 0 rfl ?_
    exact g_iret rfl dX9_put_16 ⟨_, rfl, H⟩
set_option maxHeartbeats 4000000 in
set_option maxRecDepth 100000 in
theorem eX9_get (u : Ux_) {P : Int32 → St_ → Prop}  (σ : St_) (x1 : Int32) (x2 : Int32) (x3 : Int32) (H : MMi_ (zx_ u) mX9_itemRefusal [.ref (uq_ u 0), .int x1, .int x2, .int x3] σ (fun r2 σ1 => ((r2 = iI_ 0 → vp_in x1 4 ∧ vp_in x3 60 ∧ P (σ1 (41 + (Int32.toNatClampNeg x1)) (Int32.toNatClampNeg x3)) σ1) ∧ (¬ r2 = iI_ 0 → P (iI_ (-2147483648)) σ1)))) : MMi_ (zx_ u) mX9_get [.ref (uq_ u 0), .int x1, .int x2, .int x3] σ P := by
  refine MM_.of (L := [(0, .ref (uq_ u 0)), (1, .int x1), (2, .int x2), (3, .int x3)]) (by decide +kernel) (Nat.le_of_ble_eq_true rfl) rfl ?_
  refine g_aload_n dX9_get_0 0 rfl rfl ?_
  refine g_iload_n dX9_get_1 1 rfl rfl ?_
  refine g_iload_n dX9_get_2 2 rfl rfl ?_
  refine g_iload_n dX9_get_3 3 rfl rfl ?_
  refine k_X9_itemRefusal w_737 rfl ⟨Nat.le_of_ble_eq_true rfl, Nat.le_of_ble_eq_true rfl⟩ (Nat.le_of_ble_eq_true rfl) dX9_get_4 H (fun r2 σ1 H => ?_)
  refine g_if_eq 16 dX9_get_7 (by decide) (fun c3 => ?_) (fun c3 => ?_)
  · replace H := H.1 c3
    refine g_aload_n dX9_get_16 0 rfl rfl ?_
    refine gx_LinenHouse_sheets w_331 rfl dX9_get_17 ?_
    refine g_iload_n dX9_get_20 1 rfl rfl ?_
    obtain ⟨h4, H⟩ := H
    refine ax_sheets h4 dX9_get_21 ?_
    refine gx_Sheet_item (vp_lt h4) w_315 rfl dX9_get_22 ?_
    refine g_iload_n dX9_get_25 3 rfl rfl ?_
    obtain ⟨h5, H⟩ := H
    refine ax_si (vp_lt h4) h5 dX9_get_26 ?_
    exact g_iret rfl dX9_get_27 ⟨_, rfl, H⟩
  · replace H := H.2 c3
    refine g_ldcw (v := (iI_ (-2147483648))) (by decide) w_749 rfl dX9_get_10 ?_
    refine g_goto 27 dX9_get_13 (by decide) ?_
    exact g_iret rfl dX9_get_27 ⟨_, rfl, H⟩
set_option maxHeartbeats 4000000 in
set_option maxRecDepth 100000 in
theorem eX9_copy (u : Ux_) {P : Int32 → St_ → Prop}  (σ : St_) (x1 : Int32) (x2 : Int32) (x3 : Int32) (x4 : Int32) (x5 : Int32) (H : MMi_ (zx_ u) mX9_within [.int x1, .int (iI_ 4)] σ (fun r2 σ1 => ((r2 = iI_ 0 → P (iI_ (-2)) σ1) ∧ (¬ r2 = iI_ 0 → MMi_ (zx_ u) mX9_within [.int x3, .int (iI_ 4)] σ1 (fun r5 σ4 => ((¬ r5 = iI_ 0 → vp_in x1 4 ∧ vp_in x3 4 ∧ (((σ4 39 (Int32.toNatClampNeg x1)) = (iI_ (-1)) → MMi_ (zx_ u) mX9_found [.ref (uq_ u 0), .int (iI_ 1)] σ4 (fun r11 σ10 => P r11 σ10)) ∧ (¬ (σ4 39 (Int32.toNatClampNeg x1)) = (iI_ (-1)) → ((¬ (σ4 39 (Int32.toNatClampNeg x3)) = (iI_ (-1)) → (((σ4 39 (Int32.toNatClampNeg x1)) = (σ4 39 (Int32.toNatClampNeg x3)) → MMi_ (zx_ u) mX6_holds [.ref (uq_ u (36 + (Int32.toNatClampNeg x1))), .int x2, .int x5] σ4 (fun r15 σ14 => ((r15 = iI_ 0 → MMi_ (zx_ u) mX9_found [.ref (uq_ u 0), .int (iI_ 2)] σ14 (fun r18 σ17 => P r18 σ17)) ∧ (¬ r15 = iI_ 0 → MMi_ (zx_ u) mX6_holds [.ref (uq_ u (36 + (Int32.toNatClampNeg x3))), .int x4, .int x5] σ14 (fun r20 σ19 => ((¬ r20 = iI_ 0 → ¬ x2 < 0 ∧ ¬ x4 < 0 ∧ ¬ x5 < 0 ∧ Int32.toNatClampNeg x2 + Int32.toNatClampNeg x5 ≤ 60 ∧ Int32.toNatClampNeg x4 + Int32.toNatClampNeg x5 ≤ 60 ∧ (∀ σ22, σ22 = sf_ σ19 (41 + (Int32.toNatClampNeg x3)) (va_cpy (σ19 (41 + (Int32.toNatClampNeg x1))) (σ19 (41 + (Int32.toNatClampNeg x3))) (Int32.toNatClampNeg x2) (Int32.toNatClampNeg x4) (Int32.toNatClampNeg x5)) → P (iI_ 1) σ22)) ∧ (r20 = iI_ 0 → MMi_ (zx_ u) mX9_found [.ref (uq_ u 0), .int (iI_ 2)] σ19 (fun r29 σ28 => P r29 σ28)))))))) ∧ (¬ (σ4 39 (Int32.toNatClampNeg x1)) = (σ4 39 (Int32.toNatClampNeg x3)) → MMi_ (zx_ u) mX9_found [.ref (uq_ u 0), .int (iI_ 4)] σ4 (fun r31 σ30 => P r31 σ30)))) ∧ ((σ4 39 (Int32.toNatClampNeg x3)) = (iI_ (-1)) → MMi_ (zx_ u) mX9_found [.ref (uq_ u 0), .int (iI_ 1)] σ4 (fun r33 σ32 => P r33 σ32)))))) ∧ (r5 = iI_ 0 → P (iI_ (-2)) σ4))))))) : MMi_ (zx_ u) mX9_copy [.ref (uq_ u 0), .int x1, .int x2, .int x3, .int x4, .int x5] σ P := by
  refine MM_.of (L := [(0, .ref (uq_ u 0)), (1, .int x1), (2, .int x2), (3, .int x3), (4, .int x4), (5, .int x5)]) (by decide +kernel) (Nat.le_of_ble_eq_true rfl) rfl ?_
  refine g_iload_n dX9_copy_0 1 rfl rfl ?_
  refine g_iconst (v := (iI_ 4)) dX9_copy_1 (by decide) ?_
  refine k_X9_within w_370 rfl ⟨Nat.le_of_ble_eq_true rfl, Nat.le_of_ble_eq_true rfl⟩ (Nat.le_of_ble_eq_true rfl) dX9_copy_2 H (fun r2 σ1 H => ?_)
  refine g_if_eq 16 dX9_copy_5 (by decide) (fun c3 => ?_) (fun c3 => ?_)
  · replace H := H.1 c3
    refine g_bipush (v := (iI_ (-2))) dX9_copy_16 (by decide) ?_
    exact g_iret rfl dX9_copy_18 ⟨_, rfl, H⟩
  · replace H := H.2 c3
    refine g_iload_n dX9_copy_8 3 rfl rfl ?_
    refine g_iconst (v := (iI_ 4)) dX9_copy_9 (by decide) ?_
    refine k_X9_within w_370 rfl ⟨Nat.le_of_ble_eq_true rfl, Nat.le_of_ble_eq_true rfl⟩ (Nat.le_of_ble_eq_true rfl) dX9_copy_10 H (fun r5 σ4 H => ?_)
    refine g_if_ne 19 dX9_copy_13 (by decide) (fun c6 => ?_) (fun c6 => ?_)
    · replace H := H.1 c6
      refine g_aload_n dX9_copy_19 0 rfl rfl ?_
      refine gx_LinenHouse_sheets w_331 rfl dX9_copy_20 ?_
      refine g_iload_n dX9_copy_23 1 rfl rfl ?_
      obtain ⟨h7, H⟩ := H
      refine ax_sheets h7 dX9_copy_24 ?_
      refine g_astore (L' := [(6, .ref (uq_ u (36 + (Int32.toNatClampNeg x1)))), (0, .ref (uq_ u 0)), (1, .int x1), (2, .int x2), (3, .int x3), (4, .int x4), (5, .int x5)]) dX9_copy_25 (by decide) rfl ?_
      refine g_aload_n dX9_copy_27 1 rfl rfl ?_
      refine gx_LinenHouse_sheets w_331 rfl dX9_copy_28 ?_
      refine g_iload_n dX9_copy_31 4 rfl rfl ?_
      obtain ⟨h8, H⟩ := H
      refine ax_sheets h8 dX9_copy_32 ?_
      refine g_astore (L' := [(7, .ref (uq_ u (36 + (Int32.toNatClampNeg x3)))), (6, .ref (uq_ u (36 + (Int32.toNatClampNeg x1)))), (0, .ref (uq_ u 0)), (1, .int x1), (2, .int x2), (3, .int x3), (4, .int x4), (5, .int x5)]) dX9_copy_33 (by decide) rfl ?_
      refine g_aload dX9_copy_35 1 rfl ?_
      refine gx_Sheet_form (vp_lt h7) w_311 rfl dX9_copy_37 ?_
      refine g_iconst (v := (iI_ (-1))) dX9_copy_40 (by decide) ?_
      refine g_icmp_eq 53 dX9_copy_41 (by decide) (fun c9 => ?_) (fun c9 => ?_)
      · replace H := H.1 c9
        refine g_aload_n dX9_copy_53 2 rfl rfl ?_
        refine g_iconst (v := (iI_ 1)) dX9_copy_54 (by decide) ?_
        refine k_X9_found w_478 rfl ⟨Nat.le_of_ble_eq_true rfl, Nat.le_of_ble_eq_true rfl⟩ (Nat.le_of_ble_eq_true rfl) dX9_copy_55 H (fun r11 σ10 H => ?_)
        exact g_iret rfl dX9_copy_58 ⟨_, rfl, H⟩
      · replace H := H.2 c9
        refine g_aload dX9_copy_44 0 rfl ?_
        refine gx_Sheet_form (vp_lt h8) w_311 rfl dX9_copy_46 ?_
        refine g_iconst (v := (iI_ (-1))) dX9_copy_49 (by decide) ?_
        refine g_icmp_ne 59 dX9_copy_50 (by decide) (fun c12 => ?_) (fun c12 => ?_)
        · replace H := H.1 c12
          refine g_aload dX9_copy_59 1 rfl ?_
          refine gx_Sheet_form (vp_lt h7) w_311 rfl dX9_copy_61 ?_
          refine g_aload dX9_copy_64 0 rfl ?_
          refine gx_Sheet_form (vp_lt h8) w_311 rfl dX9_copy_66 ?_
          refine g_icmp_eq 78 dX9_copy_69 (by decide) (fun c13 => ?_) (fun c13 => ?_)
          · replace H := H.1 c13
            refine g_aload dX9_copy_78 1 rfl ?_
            refine g_iload_n dX9_copy_80 4 rfl rfl ?_
            refine g_iload dX9_copy_81 7 rfl ?_
            refine k_X6_holds (vp_lt h7) w_754 rfl ⟨Nat.le_of_ble_eq_true rfl, Nat.le_of_ble_eq_true rfl⟩ (Nat.le_of_ble_eq_true rfl) dX9_copy_83 H (fun r15 σ14 H => ?_)
            refine g_if_eq 101 dX9_copy_86 (by decide) (fun c16 => ?_) (fun c16 => ?_)
            · replace H := H.1 c16
              refine g_aload_n dX9_copy_101 2 rfl rfl ?_
              refine g_iconst (v := (iI_ 2)) dX9_copy_102 (by decide) ?_
              refine k_X9_found w_478 rfl ⟨Nat.le_of_ble_eq_true rfl, Nat.le_of_ble_eq_true rfl⟩ (Nat.le_of_ble_eq_true rfl) dX9_copy_103 H (fun r18 σ17 H => ?_)
              exact g_iret rfl dX9_copy_106 ⟨_, rfl, H⟩
            · replace H := H.2 c16
              refine g_aload dX9_copy_89 0 rfl ?_
              refine g_iload dX9_copy_91 6 rfl ?_
              refine g_iload dX9_copy_93 7 rfl ?_
              refine k_X6_holds (vp_lt h8) w_754 rfl ⟨Nat.le_of_ble_eq_true rfl, Nat.le_of_ble_eq_true rfl⟩ (Nat.le_of_ble_eq_true rfl) dX9_copy_95 H (fun r20 σ19 H => ?_)
              refine g_if_ne 107 dX9_copy_98 (by decide) (fun c21 => ?_) (fun c21 => ?_)
              · replace H := H.1 c21
                refine g_aload dX9_copy_107 1 rfl ?_
                refine gx_Sheet_item (vp_lt h7) w_315 rfl dX9_copy_109 ?_
                refine g_iload_n dX9_copy_112 4 rfl rfl ?_
                refine g_aload dX9_copy_113 0 rfl ?_
                refine gx_Sheet_item (vp_lt h8) w_315 rfl dX9_copy_115 ?_
                refine g_iload dX9_copy_118 6 rfl ?_
                refine g_iload dX9_copy_120 7 rfl ?_
                obtain ⟨h23, h24, h25, h26, h27, H⟩ := H
                refine g_copy (vp_lt h7) (vp_lt h8) h23 h24 h25 h26 h27  w_758 rfl (Nat.le_of_ble_eq_true rfl) (Nat.le_of_ble_eq_true rfl) dX9_copy_122 ?_
                replace H := H _ rfl
                refine g_iconst (v := (iI_ 1)) dX9_copy_125 (by decide) ?_
                exact g_iret rfl dX9_copy_126 ⟨_, rfl, H⟩
              · replace H := H.2 c21
                refine g_aload_n dX9_copy_101 2 rfl rfl ?_
                refine g_iconst (v := (iI_ 2)) dX9_copy_102 (by decide) ?_
                refine k_X9_found w_478 rfl ⟨Nat.le_of_ble_eq_true rfl, Nat.le_of_ble_eq_true rfl⟩ (Nat.le_of_ble_eq_true rfl) dX9_copy_103 H (fun r29 σ28 H => ?_)
                exact g_iret rfl dX9_copy_106 ⟨_, rfl, H⟩
          · replace H := H.2 c13
            refine g_aload_n dX9_copy_72 2 rfl rfl ?_
            refine g_iconst (v := (iI_ 4)) dX9_copy_73 (by decide) ?_
            refine k_X9_found w_478 rfl ⟨Nat.le_of_ble_eq_true rfl, Nat.le_of_ble_eq_true rfl⟩ (Nat.le_of_ble_eq_true rfl) dX9_copy_74 H (fun r31 σ30 H => ?_)
            exact g_iret rfl dX9_copy_77 ⟨_, rfl, H⟩
        · replace H := H.2 c12
          refine g_aload_n dX9_copy_53 2 rfl rfl ?_
          refine g_iconst (v := (iI_ 1)) dX9_copy_54 (by decide) ?_
          refine k_X9_found w_478 rfl ⟨Nat.le_of_ble_eq_true rfl, Nat.le_of_ble_eq_true rfl⟩ (Nat.le_of_ble_eq_true rfl) dX9_copy_55 H (fun r33 σ32 H => ?_)
          exact g_iret rfl dX9_copy_58 ⟨_, rfl, H⟩
    · replace H := H.2 c6
      refine g_bipush (v := (iI_ (-2))) dX9_copy_16 (by decide) ?_
      exact g_iret rfl dX9_copy_18 ⟨_, rfl, H⟩
set_option maxHeartbeats 4000000 in
set_option maxRecDepth 100000 in
theorem bX9_write_47 (u : Ux_) {P : Int32 → St_ → Prop}  (σ : St_) (x1 : Int32) (x2 : Int32) (x3 : Int32) (H : ((x2 ≤ x3 → P x2 σ) ∧ (¬ x2 ≤ x3 → vp_in x1 4 ∧ MMi_ (zx_ u) mX9_carriedAsTold [.ref (uq_ u 0), .int x3] σ (fun r4 σ3 => MMv_ (zx_ u) mX6_set [.ref (uq_ u (36 + (Int32.toNatClampNeg x1))), .int x3, .int r4] σ3 (fun σ5 => GG_ (zx_ u) mX9_write (Pi_ P) 47 [(0, .ref (uq_ u 0)), (1, .int x1), (2, .int x2), (3, .int (x3 + (iI_ 1)))] [] σ5))))) : GG_ (zx_ u) mX9_write (Pi_ P) 47 [(0, .ref (uq_ u 0)), (1, .int x1), (2, .int x2), (3, .int x3)] [] σ := by
  refine g_iload_n dX9_write_47 3 rfl rfl ?_
  refine g_iload_n dX9_write_48 2 rfl rfl ?_
  refine g_icmp_ge 73 dX9_write_49 (by decide) (fun c1 => ?_) (fun c1 => ?_)
  · replace H := H.1 c1
    refine g_iload_n dX9_write_73 2 rfl rfl ?_
    exact g_iret rfl dX9_write_74 ⟨_, rfl, H⟩
  · replace H := H.2 c1
    refine g_aload_n dX9_write_52 0 rfl rfl ?_
    refine gx_LinenHouse_sheets w_331 rfl dX9_write_53 ?_
    refine g_iload_n dX9_write_56 1 rfl rfl ?_
    obtain ⟨h2, H⟩ := H
    refine ax_sheets h2 dX9_write_57 ?_
    refine g_iload_n dX9_write_58 3 rfl rfl ?_
    refine g_aload_n dX9_write_59 0 rfl rfl ?_
    refine g_iload_n dX9_write_60 3 rfl rfl ?_
    refine k_X9_carriedAsTold w_486 rfl ⟨Nat.le_of_ble_eq_true rfl, Nat.le_of_ble_eq_true rfl⟩ (Nat.le_of_ble_eq_true rfl) dX9_write_61 H (fun r4 σ3 H => ?_)
    refine k_X6_set (vp_lt h2) w_741 rfl ⟨Nat.le_of_ble_eq_true rfl, Nat.le_of_ble_eq_true rfl⟩ (Nat.le_of_ble_eq_true rfl) dX9_write_64 H (fun σ5 H => ?_)
    refine g_iinc (v := (x3 + (iI_ 1))) (L' := [(3, .int (x3 + (iI_ 1))), (0, .ref (uq_ u 0)), (1, .int x1), (2, .int x2)]) dX9_write_67 3 rfl rfl (by decide) rfl ?_
    refine g_goto 47 dX9_write_70 (by decide) ?_
    exact GG_.sub [1, 2, 3, 0] rfl H
set_option maxHeartbeats 4000000 in
set_option maxRecDepth 100000 in
theorem eX9_write (u : Ux_) {P : Int32 → St_ → Prop}  (σ : St_) (x1 : Int32) (H : MMi_ (zx_ u) mX9_within [.int x1, .int (iI_ 4)] σ (fun r2 σ1 => ((¬ r2 = iI_ 0 → vp_in x1 4 ∧ ((¬ (σ1 39 (Int32.toNatClampNeg x1)) = (iI_ (-1)) → vp_in x1 4 ∧ GG_ (zx_ u) mX9_write (Pi_ P) 47 [(0, .ref (uq_ u 0)), (1, .int x1), (2, .int (if (iI_ 10) < (σ1 40 (Int32.toNatClampNeg x1)) then (iI_ 10) else (σ1 40 (Int32.toNatClampNeg x1)))), (3, .int (iI_ 0))] [] σ1) ∧ ((σ1 39 (Int32.toNatClampNeg x1)) = (iI_ (-1)) → MMi_ (zx_ u) mX9_found [.ref (uq_ u 0), .int (iI_ 1)] σ1 (fun r8 σ7 => P r8 σ7)))) ∧ (r2 = iI_ 0 → P (iI_ (-2)) σ1)))) : MMi_ (zx_ u) mX9_write [.ref (uq_ u 0), .int x1] σ P := by
  refine MM_.of (L := [(0, .ref (uq_ u 0)), (1, .int x1)]) (by decide +kernel) (Nat.le_of_ble_eq_true rfl) rfl ?_
  refine g_iload_n dX9_write_0 1 rfl rfl ?_
  refine g_iconst (v := (iI_ 4)) dX9_write_1 (by decide) ?_
  refine k_X9_within w_370 rfl ⟨Nat.le_of_ble_eq_true rfl, Nat.le_of_ble_eq_true rfl⟩ (Nat.le_of_ble_eq_true rfl) dX9_write_2 H (fun r2 σ1 H => ?_)
  refine g_if_ne 11 dX9_write_5 (by decide) (fun c3 => ?_) (fun c3 => ?_)
  · replace H := H.1 c3
    refine g_aload_n dX9_write_11 0 rfl rfl ?_
    refine gx_LinenHouse_sheets w_331 rfl dX9_write_12 ?_
    refine g_iload_n dX9_write_15 1 rfl rfl ?_
    obtain ⟨h4, H⟩ := H
    refine ax_sheets h4 dX9_write_16 ?_
    refine gx_Sheet_form (vp_lt h4) w_311 rfl dX9_write_17 ?_
    refine g_iconst (v := (iI_ (-1))) dX9_write_20 (by decide) ?_
    refine g_icmp_ne 30 dX9_write_21 (by decide) (fun c5 => ?_) (fun c5 => ?_)
    · replace H := H.1 c5
      refine g_aload_n dX9_write_30 0 rfl rfl ?_
      refine gx_LinenHouse_sheets w_331 rfl dX9_write_31 ?_
      refine g_iload_n dX9_write_34 1 rfl rfl ?_
      obtain ⟨h6, H⟩ := H
      refine ax_sheets h6 dX9_write_35 ?_
      refine gx_Sheet_size (vp_lt h6) w_313 rfl dX9_write_36 ?_
      refine g_bipush (v := (iI_ 10)) dX9_write_39 (by decide) ?_
      refine g_min w_556 rfl (Nat.le_of_ble_eq_true rfl) (Nat.le_of_ble_eq_true rfl) dX9_write_41 ?_
      refine g_istore_n (L' := [(2, .int (if (iI_ 10) < (σ1 40 (Int32.toNatClampNeg x1)) then (iI_ 10) else (σ1 40 (Int32.toNatClampNeg x1)))), (0, .ref (uq_ u 0)), (1, .int x1)]) dX9_write_44 rfl (by decide) rfl ?_
      refine g_iconst (v := (iI_ 0)) dX9_write_45 (by decide) ?_
      refine g_istore_n (L' := [(3, .int (iI_ 0)), (2, .int (if (iI_ 10) < (σ1 40 (Int32.toNatClampNeg x1)) then (iI_ 10) else (σ1 40 (Int32.toNatClampNeg x1)))), (0, .ref (uq_ u 0)), (1, .int x1)]) dX9_write_46 rfl (by decide) rfl ?_
      exact GG_.sub [2, 3, 1, 0] rfl H
    · replace H := H.2 c5
      refine g_aload_n dX9_write_24 0 rfl rfl ?_
      refine g_iconst (v := (iI_ 1)) dX9_write_25 (by decide) ?_
      refine k_X9_found w_478 rfl ⟨Nat.le_of_ble_eq_true rfl, Nat.le_of_ble_eq_true rfl⟩ (Nat.le_of_ble_eq_true rfl) dX9_write_26 H (fun r8 σ7 H => ?_)
      exact g_iret rfl dX9_write_29 ⟨_, rfl, H⟩
  · replace H := H.2 c3
    refine g_bipush (v := (iI_ (-2))) dX9_write_8 (by decide) ?_
    exact g_iret rfl dX9_write_10 ⟨_, rfl, H⟩
set_option maxHeartbeats 4000000 in
set_option maxRecDepth 100000 in
theorem eX9_count (u : Ux_) {P : Int32 → St_ → Prop}  (σ : St_) (x1 : Int32) (H : ((x1 = iI_ 0 → P (σ 3 0) σ) ∧ (x1 = iI_ 1 → P (σ 9 0) σ) ∧ (x1 = iI_ 2 → P (σ 0 (Int32.toNatClampNeg (iI_ 0))) σ) ∧ (x1 = iI_ 3 → P (σ 0 (Int32.toNatClampNeg (iI_ 1))) σ) ∧ (x1 = iI_ 4 → P (σ 14 0) σ) ∧ (x1 = iI_ 5 → P (σ 18 0) σ) ∧ (x1 = iI_ 6 → MMi_ (zx_ u) mX4_weightOfAll [.ref (uq_ u 2)] σ (fun r2 σ1 => P r2 σ1)) ∧ (x1 = iI_ 7 → P (σ 20 0) σ) ∧ (x1 = iI_ 8 → P (σ 38 0) σ) ∧ ((∀ j : Nat, j < 9 → ¬ x1 = iI_ j) → P (iI_ (-2)) σ))) : MMi_ (zx_ u) mX9_count [.ref (uq_ u 0), .int x1] σ P := by
  refine MM_.of (L := [(0, .ref (uq_ u 0)), (1, .int x1)]) (by decide +kernel) (Nat.le_of_ble_eq_true rfl) rfl ?_
  refine g_iload_n dX9_count_0 1 rfl rfl ?_
  refine g_tab 9 [52, 60, 68, 78, 88, 96, 104, 112, 120] dX9_count_1 rfl (by decide) (by decide) rfl 125 (by decide) ?_ ?_
  · intro j t ht hx
    rcases j with _ | _ | _ | _ | _ | _ | _ | _ | _ | j
    · cases ht
      replace H := H.1 hx
      refine g_aload_n dX9_count_52 0 rfl rfl ?_
      refine gx_LinenHouse_roll w_324 rfl dX9_count_53 ?_
      refine gx_Roll_n w_105 rfl dX9_count_56 ?_
      exact g_iret rfl dX9_count_59 ⟨_, rfl, H⟩
    · cases ht
      replace H := H.2.1 hx
      refine g_aload_n dX9_count_60 0 rfl rfl ?_
      refine gx_LinenHouse_motions w_325 rfl dX9_count_61 ?_
      refine gx_Motions_n w_139 rfl dX9_count_64 ?_
      exact g_iret rfl dX9_count_67 ⟨_, rfl, H⟩
    · cases ht
      replace H := H.2.2.1 hx
      refine g_aload_n dX9_count_68 0 rfl rfl ?_
      refine gx_LinenHouse_texts w_323 rfl dX9_count_69 ?_
      refine g_iconst (v := (iI_ 0)) dX9_count_72 (by decide) ?_
      refine ax_texts (by unfold vp_in; decide) dX9_count_73 ?_
      refine gx_Text_n (by decide) w_299 rfl dX9_count_74 ?_
      exact g_iret rfl dX9_count_77 ⟨_, rfl, H⟩
    · cases ht
      replace H := H.2.2.2.1 hx
      refine g_aload_n dX9_count_78 0 rfl rfl ?_
      refine gx_LinenHouse_texts w_323 rfl dX9_count_79 ?_
      refine g_iconst (v := (iI_ 1)) dX9_count_82 (by decide) ?_
      refine ax_texts (by unfold vp_in; decide) dX9_count_83 ?_
      refine gx_Text_n (by decide) w_299 rfl dX9_count_84 ?_
      exact g_iret rfl dX9_count_87 ⟨_, rfl, H⟩
    · cases ht
      replace H := H.2.2.2.2.1 hx
      refine g_aload_n dX9_count_88 0 rfl rfl ?_
      refine gx_LinenHouse_folds w_326 rfl dX9_count_89 ?_
      refine gx_Folds_n w_170 rfl dX9_count_92 ?_
      exact g_iret rfl dX9_count_95 ⟨_, rfl, H⟩
    · cases ht
      replace H := H.2.2.2.2.2.1 hx
      refine g_aload_n dX9_count_96 0 rfl rfl ?_
      refine gx_LinenHouse_jars w_327 rfl dX9_count_97 ?_
      refine gx_Jars_n w_193 rfl dX9_count_100 ?_
      exact g_iret rfl dX9_count_103 ⟨_, rfl, H⟩
    · cases ht
      replace H := H.2.2.2.2.2.2.1 hx
      refine g_aload_n dX9_count_104 0 rfl rfl ?_
      refine gx_LinenHouse_roll w_324 rfl dX9_count_105 ?_
      refine k_X4_weightOfAll w_769 rfl ⟨Nat.le_of_ble_eq_true rfl, Nat.le_of_ble_eq_true rfl⟩ (Nat.le_of_ble_eq_true rfl) dX9_count_108 H (fun r2 σ1 H => ?_)
      exact g_iret rfl dX9_count_111 ⟨_, rfl, H⟩
    · cases ht
      replace H := H.2.2.2.2.2.2.2.1 hx
      refine g_aload_n dX9_count_112 0 rfl rfl ?_
      refine gx_LinenHouse_sightings w_328 rfl dX9_count_113 ?_
      refine gx_Sightings_n w_207 rfl dX9_count_116 ?_
      exact g_iret rfl dX9_count_119 ⟨_, rfl, H⟩
    · cases ht
      replace H := H.2.2.2.2.2.2.2.2.1 hx
      refine g_aload_n dX9_count_120 0 rfl rfl ?_
      refine gx_LinenHouse_latestFinding w_336 rfl dX9_count_121 ?_
      exact g_iret rfl dX9_count_124 ⟨_, rfl, H⟩
    · cases ht
  · intro hx
    replace H := H.2.2.2.2.2.2.2.2.2 hx
    refine g_bipush (v := (iI_ (-2))) dX9_count_125 (by decide) ?_
    exact g_iret rfl dX9_count_127 ⟨_, rfl, H⟩
set_option maxHeartbeats 4000000 in
set_option maxRecDepth 100000 in
theorem bX9_digest_6 (u : Ux_) {P : Int64 → St_ → Prop}  (σ : St_) (x1 : Int64) (x3 : Int32) (H : (((iI_ 7) < x3 → GG_ (zx_ u) mX9_digest (Pl_ P) 33 [(0, .ref (uq_ u 0)), (1, .long x1), (3, .int (iI_ 0))] [] σ) ∧ (¬ (iI_ 7) < x3 → MMi_ (zx_ u) mX9_count [.ref (uq_ u 0), .int x3] σ (fun r3 σ2 => GG_ (zx_ u) mX9_digest (Pl_ P) 6 [(0, .ref (uq_ u 0)), (1, .long (((iL_ 31) * x1) + (Int32.toInt64 r3))), (3, .int (x3 + (iI_ 1)))] [] σ2)))) : GG_ (zx_ u) mX9_digest (Pl_ P) 6 [(0, .ref (uq_ u 0)), (1, .long x1), (3, .int x3)] [] σ := by
  refine g_iload_n dX9_digest_6 2 rfl rfl ?_
  refine g_bipush (v := (iI_ 7)) dX9_digest_7 (by decide) ?_
  refine g_icmp_gt 31 dX9_digest_9 (by decide) (fun c1 => ?_) (fun c1 => ?_)
  · replace H := H.1 c1
    refine g_iconst (v := (iI_ 0)) dX9_digest_31 (by decide) ?_
    refine g_istore_n (L' := [(3, .int (iI_ 0)), (0, .ref (uq_ u 0)), (1, .long x1)]) dX9_digest_32 rfl (by decide) rfl ?_
    exact GG_.sub [1, 2, 0] rfl H
  · replace H := H.2 c1
    refine g_ldc2 (v := (iL_ 31)) (by decide) w_775 rfl dX9_digest_12 ?_
    refine g_lload_n dX9_digest_15 1 rfl rfl ?_
    refine g_lmul dX9_digest_16 ?_
    refine g_aload_n dX9_digest_17 0 rfl rfl ?_
    refine g_iload_n dX9_digest_18 2 rfl rfl ?_
    refine k_X9_count w_776 rfl ⟨Nat.le_of_ble_eq_true rfl, Nat.le_of_ble_eq_true rfl⟩ (Nat.le_of_ble_eq_true rfl) dX9_digest_19 H (fun r3 σ2 H => ?_)
    refine g_i2l dX9_digest_22 ?_
    refine g_ladd dX9_digest_23 ?_
    refine g_lstore_n (L' := [(1, .long (((iL_ 31) * x1) + (Int32.toInt64 r3))), (0, .ref (uq_ u 0)), (3, .int x3)]) dX9_digest_24 rfl (by decide) rfl ?_
    refine g_iinc (v := (x3 + (iI_ 1))) (L' := [(3, .int (x3 + (iI_ 1))), (1, .long (((iL_ 31) * x1) + (Int32.toInt64 r3))), (0, .ref (uq_ u 0))]) dX9_digest_25 2 rfl rfl (by decide) rfl ?_
    refine g_goto 6 dX9_digest_28 (by decide) ?_
    exact GG_.sub [2, 1, 0] rfl H
set_option maxHeartbeats 4000000 in
set_option maxRecDepth 100000 in
theorem bX9_digest_33 (u : Ux_) {P : Int64 → St_ → Prop}  (σ : St_) (x1 : Int64) (x3 : Int32) (H : (((iI_ 2) ≤ x3 → GG_ (zx_ u) mX9_digest (Pl_ P) 59 [(0, .ref (uq_ u 0)), (1, .long x1), (3, .int (iI_ 0))] [] σ) ∧ (¬ (iI_ 2) ≤ x3 → MMi_ (zx_ u) mX9_fault [.ref (uq_ u 0), .int x3] σ (fun r3 σ2 => GG_ (zx_ u) mX9_digest (Pl_ P) 33 [(0, .ref (uq_ u 0)), (1, .long (((iL_ 31) * x1) + (Int32.toInt64 r3))), (3, .int (x3 + (iI_ 1)))] [] σ2)))) : GG_ (zx_ u) mX9_digest (Pl_ P) 33 [(0, .ref (uq_ u 0)), (1, .long x1), (3, .int x3)] [] σ := by
  refine g_iload_n dX9_digest_33 2 rfl rfl ?_
  refine g_iconst (v := (iI_ 2)) dX9_digest_34 (by decide) ?_
  refine g_icmp_ge 57 dX9_digest_35 (by decide) (fun c1 => ?_) (fun c1 => ?_)
  · replace H := H.1 c1
    refine g_iconst (v := (iI_ 0)) dX9_digest_57 (by decide) ?_
    refine g_istore_n (L' := [(3, .int (iI_ 0)), (0, .ref (uq_ u 0)), (1, .long x1)]) dX9_digest_58 rfl (by decide) rfl ?_
    exact GG_.sub [1, 2, 0] rfl H
  · replace H := H.2 c1
    refine g_ldc2 (v := (iL_ 31)) (by decide) w_775 rfl dX9_digest_38 ?_
    refine g_lload_n dX9_digest_41 1 rfl rfl ?_
    refine g_lmul dX9_digest_42 ?_
    refine g_aload_n dX9_digest_43 0 rfl rfl ?_
    refine g_iload_n dX9_digest_44 2 rfl rfl ?_
    refine k_X9_fault w_777 rfl ⟨Nat.le_of_ble_eq_true rfl, Nat.le_of_ble_eq_true rfl⟩ (Nat.le_of_ble_eq_true rfl) dX9_digest_45 H (fun r3 σ2 H => ?_)
    refine g_i2l dX9_digest_48 ?_
    refine g_ladd dX9_digest_49 ?_
    refine g_lstore_n (L' := [(1, .long (((iL_ 31) * x1) + (Int32.toInt64 r3))), (0, .ref (uq_ u 0)), (3, .int x3)]) dX9_digest_50 rfl (by decide) rfl ?_
    refine g_iinc (v := (x3 + (iI_ 1))) (L' := [(3, .int (x3 + (iI_ 1))), (1, .long (((iL_ 31) * x1) + (Int32.toInt64 r3))), (0, .ref (uq_ u 0))]) dX9_digest_51 2 rfl rfl (by decide) rfl ?_
    refine g_goto 33 dX9_digest_54 (by decide) ?_
    exact GG_.sub [2, 1, 0] rfl H
set_option maxHeartbeats 4000000 in
set_option maxRecDepth 100000 in
theorem bX9_digest_59 (u : Ux_) {P : Int64 → St_ → Prop}  (σ : St_) (x1 : Int64) (x3 : Int32) (H : (((σ 3 0) ≤ x3 → GG_ (zx_ u) mX9_digest (Pl_ P) 85 [(0, .ref (uq_ u 0)), (1, .long x1), (3, .int (iI_ 0))] [] σ) ∧ (¬ (σ 3 0) ≤ x3 → MMl_ (zx_ u) mX9_digestMember [.ref (uq_ u 0), .long x1, .int x3] σ (fun r3 σ2 => GG_ (zx_ u) mX9_digest (Pl_ P) 59 [(0, .ref (uq_ u 0)), (1, .long r3), (3, .int (x3 + (iI_ 1)))] [] σ2)))) : GG_ (zx_ u) mX9_digest (Pl_ P) 59 [(0, .ref (uq_ u 0)), (1, .long x1), (3, .int x3)] [] σ := by
  refine g_iload_n dX9_digest_59 2 rfl rfl ?_
  refine g_aload_n dX9_digest_60 0 rfl rfl ?_
  refine gx_LinenHouse_roll w_324 rfl dX9_digest_61 ?_
  refine gx_Roll_n w_105 rfl dX9_digest_64 ?_
  refine g_icmp_ge 83 dX9_digest_67 (by decide) (fun c1 => ?_) (fun c1 => ?_)
  · replace H := H.1 c1
    refine g_iconst (v := (iI_ 0)) dX9_digest_83 (by decide) ?_
    refine g_istore_n (L' := [(3, .int (iI_ 0)), (0, .ref (uq_ u 0)), (1, .long x1)]) dX9_digest_84 rfl (by decide) rfl ?_
    exact GG_.sub [1, 2, 0] rfl H
  · replace H := H.2 c1
    refine g_aload_n dX9_digest_70 0 rfl rfl ?_
    refine g_lload_n dX9_digest_71 1 rfl rfl ?_
    refine g_iload_n dX9_digest_72 2 rfl rfl ?_
    refine k_X9_digestMember w_778 rfl ⟨Nat.le_of_ble_eq_true rfl, Nat.le_of_ble_eq_true rfl⟩ (Nat.le_of_ble_eq_true rfl) dX9_digest_73 H (fun r3 σ2 H => ?_)
    refine g_lstore_n (L' := [(1, .long r3), (0, .ref (uq_ u 0)), (3, .int x3)]) dX9_digest_76 rfl (by decide) rfl ?_
    refine g_iinc (v := (x3 + (iI_ 1))) (L' := [(3, .int (x3 + (iI_ 1))), (1, .long r3), (0, .ref (uq_ u 0))]) dX9_digest_77 2 rfl rfl (by decide) rfl ?_
    refine g_goto 59 dX9_digest_80 (by decide) ?_
    exact GG_.sub [2, 1, 0] rfl H
set_option maxHeartbeats 4000000 in
set_option maxRecDepth 100000 in
theorem bX9_digest_85 (u : Ux_) {P : Int64 → St_ → Prop}  (σ : St_) (x1 : Int64) (x3 : Int32) (H : (((iI_ 10) ≤ x3 → MMl_ (zx_ u) mX9_digestPlans [.ref (uq_ u 0), .long x1] σ (fun r3 σ2 => P r3 σ2)) ∧ (¬ (iI_ 10) ≤ x3 → MMl_ (zx_ u) mX9_digestNight [.ref (uq_ u 0), .long x1, .int x3] σ (fun r5 σ4 => GG_ (zx_ u) mX9_digest (Pl_ P) 85 [(0, .ref (uq_ u 0)), (1, .long r5), (3, .int (x3 + (iI_ 1)))] [] σ4)))) : GG_ (zx_ u) mX9_digest (Pl_ P) 85 [(0, .ref (uq_ u 0)), (1, .long x1), (3, .int x3)] [] σ := by
  refine g_iload_n dX9_digest_85 2 rfl rfl ?_
  refine g_bipush (v := (iI_ 10)) dX9_digest_86 (by decide) ?_
  refine g_icmp_ge 104 dX9_digest_88 (by decide) (fun c1 => ?_) (fun c1 => ?_)
  · replace H := H.1 c1
    refine g_aload_n dX9_digest_104 0 rfl rfl ?_
    refine g_lload_n dX9_digest_105 1 rfl rfl ?_
    refine k_X9_digestPlans w_796 rfl ⟨Nat.le_of_ble_eq_true rfl, Nat.le_of_ble_eq_true rfl⟩ (Nat.le_of_ble_eq_true rfl) dX9_digest_106 H (fun r3 σ2 H => ?_)
    exact g_lret rfl dX9_digest_109 ⟨_, rfl, H⟩
  · replace H := H.2 c1
    refine g_aload_n dX9_digest_91 0 rfl rfl ?_
    refine g_lload_n dX9_digest_92 1 rfl rfl ?_
    refine g_iload_n dX9_digest_93 2 rfl rfl ?_
    refine k_X9_digestNight w_788 rfl ⟨Nat.le_of_ble_eq_true rfl, Nat.le_of_ble_eq_true rfl⟩ (Nat.le_of_ble_eq_true rfl) dX9_digest_94 H (fun r5 σ4 H => ?_)
    refine g_lstore_n (L' := [(1, .long r5), (0, .ref (uq_ u 0)), (3, .int x3)]) dX9_digest_97 rfl (by decide) rfl ?_
    refine g_iinc (v := (x3 + (iI_ 1))) (L' := [(3, .int (x3 + (iI_ 1))), (1, .long r5), (0, .ref (uq_ u 0))]) dX9_digest_98 2 rfl rfl (by decide) rfl ?_
    refine g_goto 85 dX9_digest_101 (by decide) ?_
    exact GG_.sub [2, 1, 0] rfl H
set_option maxHeartbeats 4000000 in
set_option maxRecDepth 100000 in
theorem eX9_digest (u : Ux_) {P : Int64 → St_ → Prop}  (σ : St_)  (H : GG_ (zx_ u) mX9_digest (Pl_ P) 6 [(0, .ref (uq_ u 0)), (1, .long (iL_ 17)), (3, .int (iI_ 0))] [] σ) : MMl_ (zx_ u) mX9_digest [.ref (uq_ u 0)] σ P := by
  refine MM_.of (L := [(0, .ref (uq_ u 0))]) (by decide +kernel) (Nat.le_of_ble_eq_true rfl) rfl ?_
  refine g_ldc2 (v := (iL_ 17)) (by decide) w_774 rfl dX9_digest_0 ?_
  refine g_lstore_n (L' := [(1, .long (iL_ 17)), (0, .ref (uq_ u 0))]) dX9_digest_3 rfl (by decide) rfl ?_
  refine g_iconst (v := (iI_ 0)) dX9_digest_4 (by decide) ?_
  refine g_istore_n (L' := [(3, .int (iI_ 0)), (1, .long (iL_ 17)), (0, .ref (uq_ u 0))]) dX9_digest_5 rfl (by decide) rfl ?_
  exact GG_.sub [2, 1, 0] rfl H
set_option maxHeartbeats 4000000 in
set_option maxRecDepth 100000 in
theorem bX9_digestMember_6 (u : Ux_) {P : Int64 → St_ → Prop}  (σ : St_) (x3 : Int32) (x4 : Int64) (x6 : Int32) (H : (((iI_ 4) < x6 → GG_ (zx_ u) mX9_digestMember (Pl_ P) 48 [(0, .ref (uq_ u 0)), (3, .int x3), (4, .long x4), (6, .ref (us_ u 2)), (7, .int (iI_ 3)), (8, .int (iI_ 0))] [] σ) ∧ (¬ (iI_ 4) < x6 → MMi_ (zx_ u) mX9_member [.ref (uq_ u 0), .int x3, .int x6] σ (fun r3 σ2 => GG_ (zx_ u) mX9_digestMember (Pl_ P) 6 [(0, .ref (uq_ u 0)), (3, .int x3), (4, .long (((iL_ 31) * x4) + (Int32.toInt64 r3))), (6, .int (x6 + (iI_ 1)))] [] σ2)))) : GG_ (zx_ u) mX9_digestMember (Pl_ P) 6 [(0, .ref (uq_ u 0)), (3, .int x3), (4, .long x4), (6, .int x6)] [] σ := by
  refine g_iload dX9_digestMember_6 3 rfl ?_
  refine g_iconst (v := (iI_ 4)) dX9_digestMember_8 (by decide) ?_
  refine g_icmp_gt 35 dX9_digestMember_9 (by decide) (fun c1 => ?_) (fun c1 => ?_)
  · replace H := H.1 c1
    refine g_gets (tb_2 (u := u)) w_783 rfl dX9_digestMember_35 ?_
    refine g_astore (L' := [(6, .ref (us_ u 2)), (0, .ref (uq_ u 0)), (3, .int x3), (4, .long x4)]) dX9_digestMember_38 (by decide) rfl ?_
    refine g_aload dX9_digestMember_40 0 rfl ?_
    refine g_tlen (v := iI_ 3) (tb_2 (u := u)) (by decide) dX9_digestMember_42 ?_
    refine g_istore (L' := [(7, .int (iI_ 3)), (6, .ref (us_ u 2)), (0, .ref (uq_ u 0)), (3, .int x3), (4, .long x4)]) dX9_digestMember_43 (by decide) rfl ?_
    refine g_iconst (v := (iI_ 0)) dX9_digestMember_45 (by decide) ?_
    refine g_istore (L' := [(8, .int (iI_ 0)), (7, .int (iI_ 3)), (6, .ref (us_ u 2)), (0, .ref (uq_ u 0)), (3, .int x3), (4, .long x4)]) dX9_digestMember_46 (by decide) rfl ?_
    exact GG_.sub [3, 4, 5, 2, 1, 0] rfl H
  · replace H := H.2 c1
    refine g_ldc2 (v := (iL_ 31)) (by decide) w_775 rfl dX9_digestMember_12 ?_
    refine g_lload dX9_digestMember_15 2 rfl ?_
    refine g_lmul dX9_digestMember_17 ?_
    refine g_aload_n dX9_digestMember_18 0 rfl rfl ?_
    refine g_iload_n dX9_digestMember_19 1 rfl rfl ?_
    refine g_iload dX9_digestMember_20 3 rfl ?_
    refine k_X9_member w_782 rfl ⟨Nat.le_of_ble_eq_true rfl, Nat.le_of_ble_eq_true rfl⟩ (Nat.le_of_ble_eq_true rfl) dX9_digestMember_22 H (fun r3 σ2 H => ?_)
    refine g_i2l dX9_digestMember_25 ?_
    refine g_ladd dX9_digestMember_26 ?_
    refine g_lstore (L' := [(4, .long (((iL_ 31) * x4) + (Int32.toInt64 r3))), (0, .ref (uq_ u 0)), (3, .int x3), (6, .int x6)]) dX9_digestMember_27 (by decide) rfl ?_
    refine g_iinc (v := (x6 + (iI_ 1))) (L' := [(6, .int (x6 + (iI_ 1))), (4, .long (((iL_ 31) * x4) + (Int32.toInt64 r3))), (0, .ref (uq_ u 0)), (3, .int x3)]) dX9_digestMember_29 3 rfl rfl (by decide) rfl ?_
    refine g_goto 6 dX9_digestMember_32 (by decide) ?_
    exact GG_.sub [2, 3, 1, 0] rfl H
set_option maxHeartbeats 4000000 in
set_option maxRecDepth 100000 in
theorem bX9_digestMember_48 (u : Ux_) {P : Int64 → St_ → Prop}  (σ : St_) (x3 : Int32) (x4 : Int64) (x7 : Int32) (x8 : Int32) (H : ((x7 ≤ x8 → MMl_ (zx_ u) mX9_power [.ref (uq_ u 0), .int x3, .int (iI_ 0)] σ (fun r3 σ2 => MMl_ (zx_ u) mX9_power [.ref (uq_ u 0), .int x3, .int (iI_ 1)] σ2 (fun r5 σ4 => MMi_ (zx_ u) mX9_ordersSeenSo [.ref (uq_ u 0), .int x3] σ4 (fun r7 σ6 => MMi_ (zx_ u) mX9_nightToAsk [.ref (uq_ u 0), .int x3, .int r7] σ6 (fun r9 σ8 => P (((iL_ 31) * (((iL_ 31) * (((iL_ 31) * (((iL_ 31) * x4) + r3)) + r5)) + (Int32.toInt64 r7))) + (Int32.toInt64 r9)) σ8))))) ∧ (¬ x7 ≤ x8 → vp_in x8 3 ∧ GG_ (zx_ u) mX9_digestMember (Pl_ P) 65 [(0, .ref (uq_ u 0)), (3, .int x3), (4, .long x4), (6, .ref (us_ u 2)), (7, .int x7), (8, .int x8), (9, .int (tD_ (Int32.toNatClampNeg x8))), (10, .int (iI_ 0))] [] σ))) : GG_ (zx_ u) mX9_digestMember (Pl_ P) 48 [(0, .ref (uq_ u 0)), (3, .int x3), (4, .long x4), (6, .ref (us_ u 2)), (7, .int x7), (8, .int x8)] [] σ := by
  refine g_iload dX9_digestMember_48 5 rfl ?_
  refine g_iload dX9_digestMember_50 4 rfl ?_
  refine g_icmp_ge 119 dX9_digestMember_52 (by decide) (fun c1 => ?_) (fun c1 => ?_)
  · replace H := H.1 c1
    refine g_ldc2 (v := (iL_ 31)) (by decide) w_775 rfl dX9_digestMember_119 ?_
    refine g_lload dX9_digestMember_122 2 rfl ?_
    refine g_lmul dX9_digestMember_124 ?_
    refine g_aload_n dX9_digestMember_125 0 rfl rfl ?_
    refine g_iload_n dX9_digestMember_126 1 rfl rfl ?_
    refine g_iconst (v := (iI_ 0)) dX9_digestMember_127 (by decide) ?_
    refine k_X9_power w_787 rfl ⟨Nat.le_of_ble_eq_true rfl, Nat.le_of_ble_eq_true rfl⟩ (Nat.le_of_ble_eq_true rfl) dX9_digestMember_128 H (fun r3 σ2 H => ?_)
    refine g_ladd dX9_digestMember_131 ?_
    refine g_lstore (L' := [(4, .long (((iL_ 31) * x4) + r3)), (0, .ref (uq_ u 0)), (3, .int x3), (6, .ref (us_ u 2)), (7, .int x7), (8, .int x8)]) dX9_digestMember_132 (by decide) rfl ?_
    refine g_ldc2 (v := (iL_ 31)) (by decide) w_775 rfl dX9_digestMember_134 ?_
    refine g_lload dX9_digestMember_137 0 rfl ?_
    refine g_lmul dX9_digestMember_139 ?_
    refine g_aload_n dX9_digestMember_140 1 rfl rfl ?_
    refine g_iload_n dX9_digestMember_141 2 rfl rfl ?_
    refine g_iconst (v := (iI_ 1)) dX9_digestMember_142 (by decide) ?_
    refine k_X9_power w_787 rfl ⟨Nat.le_of_ble_eq_true rfl, Nat.le_of_ble_eq_true rfl⟩ (Nat.le_of_ble_eq_true rfl) dX9_digestMember_143 H (fun r5 σ4 H => ?_)
    refine g_ladd dX9_digestMember_146 ?_
    refine g_lstore (L' := [(4, .long (((iL_ 31) * (((iL_ 31) * x4) + r3)) + r5)), (0, .ref (uq_ u 0)), (3, .int x3), (6, .ref (us_ u 2)), (7, .int x7), (8, .int x8)]) dX9_digestMember_147 (by decide) rfl ?_
    refine g_aload_n dX9_digestMember_149 1 rfl rfl ?_
    refine g_iload_n dX9_digestMember_150 2 rfl rfl ?_
    refine k_X9_ordersSeenSo w_680 rfl ⟨Nat.le_of_ble_eq_true rfl, Nat.le_of_ble_eq_true rfl⟩ (Nat.le_of_ble_eq_true rfl) dX9_digestMember_151 H (fun r7 σ6 H => ?_)
    refine g_istore (L' := [(6, .int r7), (4, .long (((iL_ 31) * (((iL_ 31) * x4) + r3)) + r5)), (0, .ref (uq_ u 0)), (3, .int x3), (7, .int x7), (8, .int x8)]) dX9_digestMember_154 (by decide) rfl ?_
    refine g_ldc2 (v := (iL_ 31)) (by decide) w_775 rfl dX9_digestMember_156 ?_
    refine g_lload dX9_digestMember_159 1 rfl ?_
    refine g_lmul dX9_digestMember_161 ?_
    refine g_iload dX9_digestMember_162 0 rfl ?_
    refine g_i2l dX9_digestMember_164 ?_
    refine g_ladd dX9_digestMember_165 ?_
    refine g_lstore (L' := [(4, .long (((iL_ 31) * (((iL_ 31) * (((iL_ 31) * x4) + r3)) + r5)) + (Int32.toInt64 r7))), (6, .int r7), (0, .ref (uq_ u 0)), (3, .int x3), (7, .int x7), (8, .int x8)]) dX9_digestMember_166 (by decide) rfl ?_
    refine g_ldc2 (v := (iL_ 31)) (by decide) w_775 rfl dX9_digestMember_168 ?_
    refine g_lload dX9_digestMember_171 0 rfl ?_
    refine g_lmul dX9_digestMember_173 ?_
    refine g_aload_n dX9_digestMember_174 2 rfl rfl ?_
    refine g_iload_n dX9_digestMember_175 3 rfl rfl ?_
    refine g_iload dX9_digestMember_176 1 rfl ?_
    refine k_X9_nightToAsk w_692 rfl ⟨Nat.le_of_ble_eq_true rfl, Nat.le_of_ble_eq_true rfl⟩ (Nat.le_of_ble_eq_true rfl) dX9_digestMember_178 H (fun r9 σ8 H => ?_)
    refine g_i2l dX9_digestMember_181 ?_
    refine g_ladd dX9_digestMember_182 ?_
    exact g_lret rfl dX9_digestMember_183 ⟨_, rfl, H⟩
  · replace H := H.2 c1
    refine g_aload dX9_digestMember_55 3 rfl ?_
    refine g_iload dX9_digestMember_57 5 rfl ?_
    obtain ⟨h10, H⟩ := H
    refine g_tbl (tb_2 (u := u)) h10 dX9_digestMember_59 ?_
    refine g_istore (L' := [(9, .int (tD_ (Int32.toNatClampNeg x8))), (0, .ref (uq_ u 0)), (3, .int x3), (4, .long x4), (6, .ref (us_ u 2)), (7, .int x7), (8, .int x8)]) dX9_digestMember_60 (by decide) rfl ?_
    refine g_iconst (v := (iI_ 0)) dX9_digestMember_62 (by decide) ?_
    refine g_istore (L' := [(10, .int (iI_ 0)), (9, .int (tD_ (Int32.toNatClampNeg x8))), (0, .ref (uq_ u 0)), (3, .int x3), (4, .long x4), (6, .ref (us_ u 2)), (7, .int x7), (8, .int x8)]) dX9_digestMember_63 (by decide) rfl ?_
    exact GG_.sub [2, 3, 4, 5, 6, 7, 1, 0] rfl H
set_option maxHeartbeats 4000000 in
set_option maxRecDepth 100000 in
theorem bX9_digestMember_65 (u : Ux_) {P : Int64 → St_ → Prop}  (σ : St_) (x3 : Int32) (x4 : Int64) (x7 : Int32) (x8 : Int32) (x9 : Int32) (x10 : Int32) (H : (((iI_ 2) < x10 → MMi_ (zx_ u) mX9_sham [.ref (uq_ u 0), .int x9, .int x3] σ (fun r3 σ2 => GG_ (zx_ u) mX9_digestMember (Pl_ P) 48 [(0, .ref (uq_ u 0)), (3, .int x3), (4, .long (((iL_ 31) * x4) + (Int32.toInt64 r3))), (6, .ref (us_ u 2)), (7, .int x7), (8, .int (x8 + (iI_ 1)))] [] σ2)) ∧ (¬ (iI_ 2) < x10 → MMi_ (zx_ u) mX9_lies [.ref (uq_ u 0), .int x9, .int x3, .int x10] σ (fun r5 σ4 => GG_ (zx_ u) mX9_digestMember (Pl_ P) 65 [(0, .ref (uq_ u 0)), (3, .int x3), (4, .long (((iL_ 31) * x4) + (Int32.toInt64 r5))), (6, .ref (us_ u 2)), (7, .int x7), (8, .int x8), (9, .int x9), (10, .int (x10 + (iI_ 1)))] [] σ4)))) : GG_ (zx_ u) mX9_digestMember (Pl_ P) 65 [(0, .ref (uq_ u 0)), (3, .int x3), (4, .long x4), (6, .ref (us_ u 2)), (7, .int x7), (8, .int x8), (9, .int x9), (10, .int x10)] [] σ := by
  refine g_iload dX9_digestMember_65 7 rfl ?_
  refine g_iconst (v := (iI_ 2)) dX9_digestMember_67 (by decide) ?_
  refine g_icmp_gt 96 dX9_digestMember_68 (by decide) (fun c1 => ?_) (fun c1 => ?_)
  · replace H := H.1 c1
    refine g_ldc2 (v := (iL_ 31)) (by decide) w_775 rfl dX9_digestMember_96 ?_
    refine g_lload dX9_digestMember_99 2 rfl ?_
    refine g_lmul dX9_digestMember_101 ?_
    refine g_aload_n dX9_digestMember_102 0 rfl rfl ?_
    refine g_iload dX9_digestMember_103 6 rfl ?_
    refine g_iload_n dX9_digestMember_105 1 rfl rfl ?_
    refine k_X9_sham w_786 rfl ⟨Nat.le_of_ble_eq_true rfl, Nat.le_of_ble_eq_true rfl⟩ (Nat.le_of_ble_eq_true rfl) dX9_digestMember_106 H (fun r3 σ2 H => ?_)
    refine g_i2l dX9_digestMember_109 ?_
    refine g_ladd dX9_digestMember_110 ?_
    refine g_lstore (L' := [(4, .long (((iL_ 31) * x4) + (Int32.toInt64 r3))), (0, .ref (uq_ u 0)), (3, .int x3), (6, .ref (us_ u 2)), (7, .int x7), (8, .int x8), (9, .int x9), (10, .int x10)]) dX9_digestMember_111 (by decide) rfl ?_
    refine g_iinc (v := (x8 + (iI_ 1))) (L' := [(8, .int (x8 + (iI_ 1))), (4, .long (((iL_ 31) * x4) + (Int32.toInt64 r3))), (0, .ref (uq_ u 0)), (3, .int x3), (6, .ref (us_ u 2)), (7, .int x7), (9, .int x9), (10, .int x10)]) dX9_digestMember_113 5 rfl rfl (by decide) rfl ?_
    refine g_goto 48 dX9_digestMember_116 (by decide) ?_
    exact GG_.sub [2, 3, 1, 4, 5, 0] rfl H
  · replace H := H.2 c1
    refine g_ldc2 (v := (iL_ 31)) (by decide) w_775 rfl dX9_digestMember_71 ?_
    refine g_lload dX9_digestMember_74 2 rfl ?_
    refine g_lmul dX9_digestMember_76 ?_
    refine g_aload_n dX9_digestMember_77 0 rfl rfl ?_
    refine g_iload dX9_digestMember_78 6 rfl ?_
    refine g_iload_n dX9_digestMember_80 1 rfl rfl ?_
    refine g_iload dX9_digestMember_81 7 rfl ?_
    refine k_X9_lies w_785 rfl ⟨Nat.le_of_ble_eq_true rfl, Nat.le_of_ble_eq_true rfl⟩ (Nat.le_of_ble_eq_true rfl) dX9_digestMember_83 H (fun r5 σ4 H => ?_)
    refine g_i2l dX9_digestMember_86 ?_
    refine g_ladd dX9_digestMember_87 ?_
    refine g_lstore (L' := [(4, .long (((iL_ 31) * x4) + (Int32.toInt64 r5))), (0, .ref (uq_ u 0)), (3, .int x3), (6, .ref (us_ u 2)), (7, .int x7), (8, .int x8), (9, .int x9), (10, .int x10)]) dX9_digestMember_88 (by decide) rfl ?_
    refine g_iinc (v := (x10 + (iI_ 1))) (L' := [(10, .int (x10 + (iI_ 1))), (4, .long (((iL_ 31) * x4) + (Int32.toInt64 r5))), (0, .ref (uq_ u 0)), (3, .int x3), (6, .ref (us_ u 2)), (7, .int x7), (8, .int x8), (9, .int x9)]) dX9_digestMember_90 7 rfl rfl (by decide) rfl ?_
    refine g_goto 65 dX9_digestMember_93 (by decide) ?_
    exact GG_.sub [2, 3, 1, 4, 5, 6, 7, 0] rfl H
set_option maxHeartbeats 4000000 in
set_option maxRecDepth 100000 in
theorem eX9_digestMember (u : Ux_) {P : Int64 → St_ → Prop}  (σ : St_) (x1 : Int64) (x3 : Int32) (H : GG_ (zx_ u) mX9_digestMember (Pl_ P) 6 [(0, .ref (uq_ u 0)), (3, .int x3), (4, .long x1), (6, .int (iI_ 0))] [] σ) : MMl_ (zx_ u) mX9_digestMember [.ref (uq_ u 0), .long x1, .int x3] σ P := by
  refine MM_.of (L := [(0, .ref (uq_ u 0)), (1, .long x1), (3, .int x3)]) (by decide +kernel) (Nat.le_of_ble_eq_true rfl) rfl ?_
  refine g_lload_n dX9_digestMember_0 1 rfl rfl ?_
  refine g_lstore (L' := [(4, .long x1), (0, .ref (uq_ u 0)), (1, .long x1), (3, .int x3)]) dX9_digestMember_1 (by decide) rfl ?_
  refine g_iconst (v := (iI_ 0)) dX9_digestMember_3 (by decide) ?_
  refine g_istore (L' := [(6, .int (iI_ 0)), (4, .long x1), (0, .ref (uq_ u 0)), (1, .long x1), (3, .int x3)]) dX9_digestMember_4 (by decide) rfl ?_
  exact GG_.sub [2, 4, 1, 0] rfl H
set_option maxHeartbeats 4000000 in
set_option maxRecDepth 100000 in
theorem bX9_digestNight_6 (u : Ux_) {P : Int64 → St_ → Prop}  (σ : St_) (x3 : Int32) (x4 : Int64) (x6 : Int32) (H : (((iI_ 2) < x6 → GG_ (zx_ u) mX9_digestNight (Pl_ P) 38 [(0, .ref (uq_ u 0)), (3, .int x3), (4, .long x4), (6, .int (iI_ 0))] [] σ) ∧ (¬ (iI_ 2) < x6 → MMi_ (zx_ u) mX9_motion [.ref (uq_ u 0), .int x3, .int x6] σ (fun r3 σ2 => GG_ (zx_ u) mX9_digestNight (Pl_ P) 6 [(0, .ref (uq_ u 0)), (3, .int x3), (4, .long (((iL_ 31) * x4) + (Int32.toInt64 r3))), (6, .int (x6 + (iI_ 1)))] [] σ2)))) : GG_ (zx_ u) mX9_digestNight (Pl_ P) 6 [(0, .ref (uq_ u 0)), (3, .int x3), (4, .long x4), (6, .int x6)] [] σ := by
  refine g_iload dX9_digestNight_6 3 rfl ?_
  refine g_iconst (v := (iI_ 2)) dX9_digestNight_8 (by decide) ?_
  refine g_icmp_gt 35 dX9_digestNight_9 (by decide) (fun c1 => ?_) (fun c1 => ?_)
  · replace H := H.1 c1
    refine g_iconst (v := (iI_ 0)) dX9_digestNight_35 (by decide) ?_
    refine g_istore (L' := [(6, .int (iI_ 0)), (0, .ref (uq_ u 0)), (3, .int x3), (4, .long x4)]) dX9_digestNight_36 (by decide) rfl ?_
    exact GG_.sub [1, 2, 3, 0] rfl H
  · replace H := H.2 c1
    refine g_ldc2 (v := (iL_ 31)) (by decide) w_775 rfl dX9_digestNight_12 ?_
    refine g_lload dX9_digestNight_15 2 rfl ?_
    refine g_lmul dX9_digestNight_17 ?_
    refine g_aload_n dX9_digestNight_18 0 rfl rfl ?_
    refine g_iload_n dX9_digestNight_19 1 rfl rfl ?_
    refine g_iload dX9_digestNight_20 3 rfl ?_
    refine k_X9_motion w_792 rfl ⟨Nat.le_of_ble_eq_true rfl, Nat.le_of_ble_eq_true rfl⟩ (Nat.le_of_ble_eq_true rfl) dX9_digestNight_22 H (fun r3 σ2 H => ?_)
    refine g_i2l dX9_digestNight_25 ?_
    refine g_ladd dX9_digestNight_26 ?_
    refine g_lstore (L' := [(4, .long (((iL_ 31) * x4) + (Int32.toInt64 r3))), (0, .ref (uq_ u 0)), (3, .int x3), (6, .int x6)]) dX9_digestNight_27 (by decide) rfl ?_
    refine g_iinc (v := (x6 + (iI_ 1))) (L' := [(6, .int (x6 + (iI_ 1))), (4, .long (((iL_ 31) * x4) + (Int32.toInt64 r3))), (0, .ref (uq_ u 0)), (3, .int x3)]) dX9_digestNight_29 3 rfl rfl (by decide) rfl ?_
    refine g_goto 6 dX9_digestNight_32 (by decide) ?_
    exact GG_.sub [2, 3, 1, 0] rfl H
set_option maxHeartbeats 4000000 in
set_option maxRecDepth 100000 in
theorem bX9_digestNight_38 (u : Ux_) {P : Int64 → St_ → Prop}  (σ : St_) (x3 : Int32) (x4 : Int64) (x6 : Int32) (H : (((iI_ 3) < x6 → MMi_ (zx_ u) mX9_house [.ref (uq_ u 0), .int x3] σ (fun r3 σ2 => MMi_ (zx_ u) mX9_lift [.ref (uq_ u 0), .int x3, .int (iI_ (-1))] σ2 (fun r5 σ4 => MMi_ (zx_ u) mX9_lift [.ref (uq_ u 0), .int x3, .int (iI_ 0)] σ4 (fun r7 σ6 => P (((iL_ 31) * (((iL_ 31) * (((iL_ 31) * x4) + (Int32.toInt64 r3))) + (Int32.toInt64 r5))) + (Int32.toInt64 r7)) σ6)))) ∧ (¬ (iI_ 3) < x6 → MMi_ (zx_ u) mX9_vote [.ref (uq_ u 0), .int x3, .int x6] σ (fun r9 σ8 => GG_ (zx_ u) mX9_digestNight (Pl_ P) 38 [(0, .ref (uq_ u 0)), (3, .int x3), (4, .long (((iL_ 31) * x4) + (Int32.toInt64 r9))), (6, .int (x6 + (iI_ 1)))] [] σ8)))) : GG_ (zx_ u) mX9_digestNight (Pl_ P) 38 [(0, .ref (uq_ u 0)), (3, .int x3), (4, .long x4), (6, .int x6)] [] σ := by
  refine g_iload dX9_digestNight_38 3 rfl ?_
  refine g_iconst (v := (iI_ 3)) dX9_digestNight_40 (by decide) ?_
  refine g_icmp_gt 67 dX9_digestNight_41 (by decide) (fun c1 => ?_) (fun c1 => ?_)
  · replace H := H.1 c1
    refine g_ldc2 (v := (iL_ 31)) (by decide) w_775 rfl dX9_digestNight_67 ?_
    refine g_lload dX9_digestNight_70 2 rfl ?_
    refine g_lmul dX9_digestNight_72 ?_
    refine g_aload_n dX9_digestNight_73 0 rfl rfl ?_
    refine g_iload_n dX9_digestNight_74 1 rfl rfl ?_
    refine k_X9_house w_794 rfl ⟨Nat.le_of_ble_eq_true rfl, Nat.le_of_ble_eq_true rfl⟩ (Nat.le_of_ble_eq_true rfl) dX9_digestNight_75 H (fun r3 σ2 H => ?_)
    refine g_i2l dX9_digestNight_78 ?_
    refine g_ladd dX9_digestNight_79 ?_
    refine g_lstore (L' := [(4, .long (((iL_ 31) * x4) + (Int32.toInt64 r3))), (0, .ref (uq_ u 0)), (3, .int x3), (6, .int x6)]) dX9_digestNight_80 (by decide) rfl ?_
    refine g_ldc2 (v := (iL_ 31)) (by decide) w_775 rfl dX9_digestNight_82 ?_
    refine g_lload dX9_digestNight_85 0 rfl ?_
    refine g_lmul dX9_digestNight_87 ?_
    refine g_aload_n dX9_digestNight_88 1 rfl rfl ?_
    refine g_iload_n dX9_digestNight_89 2 rfl rfl ?_
    refine g_iconst (v := (iI_ (-1))) dX9_digestNight_90 (by decide) ?_
    refine k_X9_lift w_795 rfl ⟨Nat.le_of_ble_eq_true rfl, Nat.le_of_ble_eq_true rfl⟩ (Nat.le_of_ble_eq_true rfl) dX9_digestNight_91 H (fun r5 σ4 H => ?_)
    refine g_i2l dX9_digestNight_94 ?_
    refine g_ladd dX9_digestNight_95 ?_
    refine g_lstore (L' := [(4, .long (((iL_ 31) * (((iL_ 31) * x4) + (Int32.toInt64 r3))) + (Int32.toInt64 r5))), (0, .ref (uq_ u 0)), (3, .int x3), (6, .int x6)]) dX9_digestNight_96 (by decide) rfl ?_
    refine g_ldc2 (v := (iL_ 31)) (by decide) w_775 rfl dX9_digestNight_98 ?_
    refine g_lload dX9_digestNight_101 0 rfl ?_
    refine g_lmul dX9_digestNight_103 ?_
    refine g_aload_n dX9_digestNight_104 1 rfl rfl ?_
    refine g_iload_n dX9_digestNight_105 2 rfl rfl ?_
    refine g_iconst (v := (iI_ 0)) dX9_digestNight_106 (by decide) ?_
    refine k_X9_lift w_795 rfl ⟨Nat.le_of_ble_eq_true rfl, Nat.le_of_ble_eq_true rfl⟩ (Nat.le_of_ble_eq_true rfl) dX9_digestNight_107 H (fun r7 σ6 H => ?_)
    refine g_i2l dX9_digestNight_110 ?_
    refine g_ladd dX9_digestNight_111 ?_
    exact g_lret rfl dX9_digestNight_112 ⟨_, rfl, H⟩
  · replace H := H.2 c1
    refine g_ldc2 (v := (iL_ 31)) (by decide) w_775 rfl dX9_digestNight_44 ?_
    refine g_lload dX9_digestNight_47 2 rfl ?_
    refine g_lmul dX9_digestNight_49 ?_
    refine g_aload_n dX9_digestNight_50 0 rfl rfl ?_
    refine g_iload_n dX9_digestNight_51 1 rfl rfl ?_
    refine g_iload dX9_digestNight_52 3 rfl ?_
    refine k_X9_vote w_793 rfl ⟨Nat.le_of_ble_eq_true rfl, Nat.le_of_ble_eq_true rfl⟩ (Nat.le_of_ble_eq_true rfl) dX9_digestNight_54 H (fun r9 σ8 H => ?_)
    refine g_i2l dX9_digestNight_57 ?_
    refine g_ladd dX9_digestNight_58 ?_
    refine g_lstore (L' := [(4, .long (((iL_ 31) * x4) + (Int32.toInt64 r9))), (0, .ref (uq_ u 0)), (3, .int x3), (6, .int x6)]) dX9_digestNight_59 (by decide) rfl ?_
    refine g_iinc (v := (x6 + (iI_ 1))) (L' := [(6, .int (x6 + (iI_ 1))), (4, .long (((iL_ 31) * x4) + (Int32.toInt64 r9))), (0, .ref (uq_ u 0)), (3, .int x3)]) dX9_digestNight_61 3 rfl rfl (by decide) rfl ?_
    refine g_goto 38 dX9_digestNight_64 (by decide) ?_
    exact GG_.sub [2, 3, 1, 0] rfl H
set_option maxHeartbeats 4000000 in
set_option maxRecDepth 100000 in
theorem eX9_digestNight (u : Ux_) {P : Int64 → St_ → Prop}  (σ : St_) (x1 : Int64) (x3 : Int32) (H : GG_ (zx_ u) mX9_digestNight (Pl_ P) 6 [(0, .ref (uq_ u 0)), (3, .int x3), (4, .long x1), (6, .int (iI_ 0))] [] σ) : MMl_ (zx_ u) mX9_digestNight [.ref (uq_ u 0), .long x1, .int x3] σ P := by
  refine MM_.of (L := [(0, .ref (uq_ u 0)), (1, .long x1), (3, .int x3)]) (by decide +kernel) (Nat.le_of_ble_eq_true rfl) rfl ?_
  refine g_lload_n dX9_digestNight_0 1 rfl rfl ?_
  refine g_lstore (L' := [(4, .long x1), (0, .ref (uq_ u 0)), (1, .long x1), (3, .int x3)]) dX9_digestNight_1 (by decide) rfl ?_
  refine g_iconst (v := (iI_ 0)) dX9_digestNight_3 (by decide) ?_
  refine g_istore (L' := [(6, .int (iI_ 0)), (4, .long x1), (0, .ref (uq_ u 0)), (1, .long x1), (3, .int x3)]) dX9_digestNight_4 (by decide) rfl ?_
  exact GG_.sub [2, 4, 1, 0] rfl H
