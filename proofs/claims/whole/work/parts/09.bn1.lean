set_option maxHeartbeats 4000000 in
set_option maxRecDepth 100000 in
theorem bX3_take_24 (u : Ux_) {P : St_ → Prop} (t1 : Nat) (h1 : t1 < 2) (σ : St_) (x2 : Int32) (H : (((σ 0 t1) ≤ x2 → P σ) ∧ (¬ (σ 0 t1) ≤ x2 → (((iI_ 10) ≤ (σ 9 0) → P σ) ∧ (¬ (iI_ 10) ≤ (σ 9 0) → MMi_ (zx_ u) mX8_at [.ref (uq_ u (32 + t1)), .int x2] σ (fun r4 σ3 => vp_in (σ 9 0) 10 ∧ (∀ σ5, σ5 = su_ σ3 11 (Int32.toNatClampNeg (σ 9 0)) (r4 - (iI_ 97)) → MMi_ (zx_ u) mX8_at [.ref (uq_ u (32 + t1)), .int (x2 + (iI_ 1))] σ5 (fun r8 σ7 => vp_in (σ5 9 0) 10 ∧ (∀ σ9, σ9 = su_ σ7 12 (Int32.toNatClampNeg (σ5 9 0)) (r8 - (iI_ 97)) → MMi_ (zx_ u) mX8_at [.ref (uq_ u (32 + t1)), .int (x2 + (iI_ 2))] σ9 (fun r12 σ11 => vp_in (σ9 9 0) 10 ∧ (∀ σ13, σ13 = su_ σ11 13 (Int32.toNatClampNeg (σ9 9 0)) (r12 - (iI_ 48)) → (∀ σ15, σ15 = su_ σ13 9 0 ((σ13 9 0) + (iI_ 1)) → GG_ (zx_ u) mX3_take (Pv_ P) 24 [(0, .ref (uq_ u 7)), (1, .ref (uq_ u (32 + t1))), (2, .int (x2 + (iI_ 3)))] [] σ15)))))))))))) : GG_ (zx_ u) mX3_take (Pv_ P) 24 [(0, .ref (uq_ u 7)), (1, .ref (uq_ u (32 + t1))), (2, .int x2)] [] σ := by
  refine g_iload_n dX3_take_24 2 rfl rfl ?_
  refine g_aload_n dX3_take_25 1 rfl rfl ?_
  refine gx_Text_n h1 w_298 rfl dX3_take_26 ?_
  refine g_icmp_ge 112 dX3_take_29 (by decide) (fun c1 => ?_) (fun c1 => ?_)
  · replace H := H.1 c1
    exact g_vret rfl dX3_take_112 ⟨rfl, H⟩
  · replace H := H.2 c1
    refine g_aload_n dX3_take_32 0 rfl rfl ?_
    refine gx_Motions_n w_137 rfl dX3_take_33 ?_
    refine g_bipush (v := (iI_ 10)) dX3_take_36 (by decide) ?_
    refine g_icmp_ge 112 dX3_take_38 (by decide) (fun c2 => ?_) (fun c2 => ?_)
    · replace H := H.1 c2
      exact g_vret rfl dX3_take_112 ⟨rfl, H⟩
    · replace H := H.2 c2
      refine g_aload_n dX3_take_41 0 rfl rfl ?_
      refine gx_Motions_first w_142 rfl dX3_take_42 ?_
      refine g_aload_n dX3_take_45 0 rfl rfl ?_
      refine gx_Motions_n w_137 rfl dX3_take_46 ?_
      refine g_aload_n dX3_take_49 1 rfl rfl ?_
      refine g_iload_n dX3_take_50 2 rfl rfl ?_
      refine k_X8_at h1 w_413 rfl ⟨Nat.le_of_ble_eq_true rfl, Nat.le_of_ble_eq_true rfl⟩ (Nat.le_of_ble_eq_true rfl) dX3_take_51 H (fun r4 σ3 H => ?_)
      refine g_bipush (v := (iI_ 97)) dX3_take_54 (by decide) ?_
      refine g_isub dX3_take_56 ?_
      obtain ⟨h6, H⟩ := H
      refine sx_11 h6 dX3_take_57 ?_
      obtain ⟨σ5, e_σ5⟩ : ∃ q : St_, q = su_ σ3 11 (Int32.toNatClampNeg (σ 9 0)) (r4 - (iI_ 97)) := ⟨_, rfl⟩
      rw [← e_σ5]
      replace H := H σ5 e_σ5
      refine g_aload_n dX3_take_58 0 rfl rfl ?_
      refine gx_Motions_other w_145 rfl dX3_take_59 ?_
      refine g_aload_n dX3_take_62 0 rfl rfl ?_
      refine gx_Motions_n w_137 rfl dX3_take_63 ?_
      refine g_aload_n dX3_take_66 1 rfl rfl ?_
      refine g_iload_n dX3_take_67 2 rfl rfl ?_
      refine g_iconst (v := (iI_ 1)) dX3_take_68 (by decide) ?_
      refine g_iadd dX3_take_69 ?_
      refine k_X8_at h1 w_413 rfl ⟨Nat.le_of_ble_eq_true rfl, Nat.le_of_ble_eq_true rfl⟩ (Nat.le_of_ble_eq_true rfl) dX3_take_70 H (fun r8 σ7 H => ?_)
      refine g_bipush (v := (iI_ 97)) dX3_take_73 (by decide) ?_
      refine g_isub dX3_take_75 ?_
      obtain ⟨h10, H⟩ := H
      refine sx_12 h10 dX3_take_76 ?_
      obtain ⟨σ9, e_σ9⟩ : ∃ q : St_, q = su_ σ7 12 (Int32.toNatClampNeg (σ5 9 0)) (r8 - (iI_ 97)) := ⟨_, rfl⟩
      rw [← e_σ9]
      replace H := H σ9 e_σ9
      refine g_aload_n dX3_take_77 0 rfl rfl ?_
      refine gx_Motions_how w_148 rfl dX3_take_78 ?_
      refine g_aload_n dX3_take_81 0 rfl rfl ?_
      refine gx_Motions_n w_137 rfl dX3_take_82 ?_
      refine g_aload_n dX3_take_85 1 rfl rfl ?_
      refine g_iload_n dX3_take_86 2 rfl rfl ?_
      refine g_iconst (v := (iI_ 2)) dX3_take_87 (by decide) ?_
      refine g_iadd dX3_take_88 ?_
      refine k_X8_at h1 w_413 rfl ⟨Nat.le_of_ble_eq_true rfl, Nat.le_of_ble_eq_true rfl⟩ (Nat.le_of_ble_eq_true rfl) dX3_take_89 H (fun r12 σ11 H => ?_)
      refine g_bipush (v := (iI_ 48)) dX3_take_92 (by decide) ?_
      refine g_isub dX3_take_94 ?_
      obtain ⟨h14, H⟩ := H
      refine sx_13 h14 dX3_take_95 ?_
      obtain ⟨σ13, e_σ13⟩ : ∃ q : St_, q = su_ σ11 13 (Int32.toNatClampNeg (σ9 9 0)) (r12 - (iI_ 48)) := ⟨_, rfl⟩
      rw [← e_σ13]
      replace H := H σ13 e_σ13
      refine g_aload_n dX3_take_96 0 rfl rfl ?_
      refine g_dup dX3_take_97 rfl ?_
      refine gx_Motions_n w_137 rfl dX3_take_98 ?_
      refine g_iconst (v := (iI_ 1)) dX3_take_101 (by decide) ?_
      refine g_iadd dX3_take_102 ?_
      refine px_Motions_n w_137 rfl dX3_take_103 ?_
      obtain ⟨σ15, e_σ15⟩ : ∃ q : St_, q = su_ σ13 9 0 ((σ13 9 0) + (iI_ 1)) := ⟨_, rfl⟩
      rw [← e_σ15]
      replace H := H σ15 e_σ15
      refine g_iinc (v := (x2 + (iI_ 3))) (L' := [(2, .int (x2 + (iI_ 3))), (0, .ref (uq_ u 7)), (1, .ref (uq_ u (32 + t1)))]) dX3_take_106 2 rfl rfl (by decide) rfl ?_
      refine g_goto 24 dX3_take_109 (by decide) ?_
      exact GG_.sub [1, 2, 0] rfl H
set_option maxHeartbeats 4000000 in
set_option maxRecDepth 100000 in
theorem eX3_take (u : Ux_) {P : St_ → Prop} (t1 : Nat) (h1 : t1 < 2) (σ : St_)  (H : MMi_ (zx_ u) mX3_findFault [.ref (uq_ u (32 + t1))] σ (fun r2 σ1 => (∀ σ3, σ3 = su_ σ1 10 0 r2 → (∀ σ4, σ4 = su_ σ3 9 0 (iI_ 0) → (((σ4 10 0) = (iI_ (-1)) → GG_ (zx_ u) mX3_take (Pv_ P) 24 [(0, .ref (uq_ u 7)), (1, .ref (uq_ u (32 + t1))), (2, .int (iI_ 0))] [] σ4) ∧ (¬ (σ4 10 0) = (iI_ (-1)) → P σ4)))))) : MMv_ (zx_ u) mX3_take [.ref (uq_ u 7), .ref (uq_ u (32 + t1))] σ P := by
  refine MM_.of (L := [(0, .ref (uq_ u 7)), (1, .ref (uq_ u (32 + t1)))]) (by decide +kernel) (Nat.le_of_ble_eq_true rfl) rfl ?_
  refine g_aload_n dX3_take_0 0 rfl rfl ?_
  refine g_aload_n dX3_take_1 1 rfl rfl ?_
  refine k_X3_findFault w_407 rfl ⟨Nat.le_of_ble_eq_true rfl, Nat.le_of_ble_eq_true rfl⟩ (Nat.le_of_ble_eq_true rfl) dX3_take_2 H (fun r2 σ1 H => ?_)
  refine px_Motions_fault w_140 rfl dX3_take_5 ?_
  obtain ⟨σ3, e_σ3⟩ : ∃ q : St_, q = su_ σ1 10 0 r2 := ⟨_, rfl⟩
  rw [← e_σ3]
  replace H := H σ3 e_σ3
  refine g_aload_n dX3_take_8 0 rfl rfl ?_
  refine g_iconst (v := (iI_ 0)) dX3_take_9 (by decide) ?_
  refine px_Motions_n w_137 rfl dX3_take_10 ?_
  obtain ⟨σ4, e_σ4⟩ : ∃ q : St_, q = su_ σ3 9 0 (iI_ 0) := ⟨_, rfl⟩
  rw [← e_σ4]
  replace H := H σ4 e_σ4
  refine g_aload_n dX3_take_13 0 rfl rfl ?_
  refine gx_Motions_fault w_140 rfl dX3_take_14 ?_
  refine g_iconst (v := (iI_ (-1))) dX3_take_17 (by decide) ?_
  refine g_icmp_eq 22 dX3_take_18 (by decide) (fun c5 => ?_) (fun c5 => ?_)
  · replace H := H.1 c5
    refine g_iconst (v := (iI_ 0)) dX3_take_22 (by decide) ?_
    refine g_istore_n (L' := [(2, .int (iI_ 0)), (0, .ref (uq_ u 7)), (1, .ref (uq_ u (32 + t1)))]) dX3_take_23 rfl (by decide) rfl ?_
    exact GG_.sub [1, 2, 0] rfl H
  · replace H := H.2 c5
    exact g_vret rfl dX3_take_21 ⟨rfl, H⟩
set_option maxHeartbeats 4000000 in
set_option maxRecDepth 100000 in
theorem bX3_findFault_2 (u : Ux_) {P : Int32 → St_ → Prop} (t0 : Nat) (h0 : t0 < 2) (σ : St_) (x1 : Int32) (H : (((σ 0 t0) ≤ x1 → ((¬ ((σ 0 t0) - (σ 0 t0) / (iI_ 3) * (iI_ 3)) = iI_ 0 → P (σ 0 t0) σ) ∧ (((σ 0 t0) - (σ 0 t0) / (iI_ 3) * (iI_ 3)) = iI_ 0 → P (iI_ (-1)) σ))) ∧ (¬ (σ 0 t0) ≤ x1 → MMi_ (zx_ u) mX3_fits [.ref (uq_ u (32 + t0)), .int x1] σ (fun r4 σ3 => ((¬ r4 = iI_ 0 → GG_ (zx_ u) mX3_findFault (Pi_ P) 2 [(0, .ref (uq_ u (32 + t0))), (1, .int (x1 + (iI_ 1)))] [] σ3) ∧ (r4 = iI_ 0 → P x1 σ3)))))) : GG_ (zx_ u) mX3_findFault (Pi_ P) 2 [(0, .ref (uq_ u (32 + t0))), (1, .int x1)] [] σ := by
  refine g_iload_n dX3_findFault_2 1 rfl rfl ?_
  refine g_aload_n dX3_findFault_3 0 rfl rfl ?_
  refine gx_Text_n h0 w_298 rfl dX3_findFault_4 ?_
  refine g_icmp_ge 26 dX3_findFault_7 (by decide) (fun c1 => ?_) (fun c1 => ?_)
  · replace H := H.1 c1
    refine g_aload_n dX3_findFault_26 0 rfl rfl ?_
    refine gx_Text_n h0 w_298 rfl dX3_findFault_27 ?_
    refine g_iconst (v := (iI_ 3)) dX3_findFault_30 (by decide) ?_
    refine g_irem dX3_findFault_31 (by decide) ?_
    refine g_if_ne 39 dX3_findFault_32 (by decide) (fun c2 => ?_) (fun c2 => ?_)
    · replace H := H.1 c2
      refine g_aload_n dX3_findFault_39 0 rfl rfl ?_
      refine gx_Text_n h0 w_298 rfl dX3_findFault_40 ?_
      exact g_iret rfl dX3_findFault_43 ⟨_, rfl, H⟩
    · replace H := H.2 c2
      refine g_iconst (v := (iI_ (-1))) dX3_findFault_35 (by decide) ?_
      refine g_goto 43 dX3_findFault_36 (by decide) ?_
      exact g_iret rfl dX3_findFault_43 ⟨_, rfl, H⟩
  · replace H := H.2 c1
    refine g_aload_n dX3_findFault_10 0 rfl rfl ?_
    refine g_iload_n dX3_findFault_11 1 rfl rfl ?_
    refine k_X3_fits w_410 rfl ⟨Nat.le_of_ble_eq_true rfl, Nat.le_of_ble_eq_true rfl⟩ (Nat.le_of_ble_eq_true rfl) dX3_findFault_12 H (fun r4 σ3 H => ?_)
    refine g_if_ne 20 dX3_findFault_15 (by decide) (fun c5 => ?_) (fun c5 => ?_)
    · replace H := H.1 c5
      refine g_iinc (v := (x1 + (iI_ 1))) (L' := [(1, .int (x1 + (iI_ 1))), (0, .ref (uq_ u (32 + t0)))]) dX3_findFault_20 1 rfl rfl (by decide) rfl ?_
      refine g_goto 2 dX3_findFault_23 (by decide) ?_
      exact GG_.sub [1, 0] rfl H
    · replace H := H.2 c5
      refine g_iload_n dX3_findFault_18 1 rfl rfl ?_
      exact g_iret rfl dX3_findFault_19 ⟨_, rfl, H⟩
set_option maxHeartbeats 4000000 in
set_option maxRecDepth 100000 in
theorem eX3_findFault (u : Ux_) {P : Int32 → St_ → Prop} (t0 : Nat) (h0 : t0 < 2) (σ : St_)  (H : GG_ (zx_ u) mX3_findFault (Pi_ P) 2 [(0, .ref (uq_ u (32 + t0))), (1, .int (iI_ 0))] [] σ) : MMi_ (zx_ u) mX3_findFault [.ref (uq_ u (32 + t0))] σ P := by
  refine MM_.of (L := [(0, .ref (uq_ u (32 + t0)))]) (by decide +kernel) (Nat.le_of_ble_eq_true rfl) rfl ?_
  refine g_iconst (v := (iI_ 0)) dX3_findFault_0 (by decide) ?_
  refine g_istore_n (L' := [(1, .int (iI_ 0)), (0, .ref (uq_ u (32 + t0)))]) dX3_findFault_1 rfl (by decide) rfl ?_
  exact GG_.sub [1, 0] rfl H
set_option maxHeartbeats 4000000 in
set_option maxRecDepth 100000 in
theorem eX3_fits (u : Ux_) {P : Int32 → St_ → Prop} (t0 : Nat) (h0 : t0 < 2) (σ : St_) (x1 : Int32) (H : MMi_ (zx_ u) mX8_at [.ref (uq_ u (32 + t0)), .int x1] σ (fun r2 σ1 => (((x1 - x1 / (iI_ 3) * (iI_ 3)) = (iI_ 0) → MMi_ (zx_ u) mX8_isLetter [.ref (uq_ u (32 + t0)), .int x1] σ1 (fun r5 σ4 => (r5 = iI_ 0 ∨ r5 = iI_ 1) ∧ P r5 σ4)) ∧ ((x1 - x1 / (iI_ 3) * (iI_ 3)) = (iI_ 1) → MMi_ (zx_ u) mX8_isLetter [.ref (uq_ u (32 + t0)), .int x1] σ1 (fun r8 σ7 => ((r8 = iI_ 0 → P (iI_ 0) σ7) ∧ (¬ r8 = iI_ 0 → MMi_ (zx_ u) mX8_at [.ref (uq_ u (32 + t0)), .int (x1 - (iI_ 1))] σ7 (fun r11 σ10 => ((r2 = r11 → P (iI_ 0) σ10) ∧ (¬ r2 = r11 → P (iI_ 1) σ10))))))) ∧ (¬ (x1 - x1 / (iI_ 3) * (iI_ 3)) = (iI_ 0) → ¬ (x1 - x1 / (iI_ 3) * (iI_ 3)) = (iI_ 1) → ((r2 = (iI_ 49) → P (iI_ 1) σ1) ∧ (¬ r2 = (iI_ 49) → ((¬ r2 = (iI_ 50) → P (iI_ 0) σ1) ∧ (r2 = (iI_ 50) → P (iI_ 1) σ1)))))))) : MMi_ (zx_ u) mX3_fits [.ref (uq_ u (32 + t0)), .int x1] σ P := by
  refine MM_.of (L := [(0, .ref (uq_ u (32 + t0))), (1, .int x1)]) (by decide +kernel) (Nat.le_of_ble_eq_true rfl) rfl ?_
  refine g_aload_n dX3_fits_0 0 rfl rfl ?_
  refine g_iload_n dX3_fits_1 1 rfl rfl ?_
  refine k_X8_at h0 w_413 rfl ⟨Nat.le_of_ble_eq_true rfl, Nat.le_of_ble_eq_true rfl⟩ (Nat.le_of_ble_eq_true rfl) dX3_fits_2 H (fun r2 σ1 H => ?_)
  refine g_istore_n (L' := [(2, .int r2), (0, .ref (uq_ u (32 + t0))), (1, .int x1)]) dX3_fits_5 rfl (by decide) rfl ?_
  refine g_iload_n dX3_fits_6 2 rfl rfl ?_
  refine g_iconst (v := (iI_ 3)) dX3_fits_7 (by decide) ?_
  refine g_irem dX3_fits_8 (by decide) ?_
  by_cases c3 : (x1 - x1 / (iI_ 3) * (iI_ 3)) = (iI_ 0)
  · replace H := H.1 c3
    refine g_lookup (off := 27) dX3_fits_9 (by decide +kernel) 36 (by rw [c3] <;> rfl) (by decide) ?_
    refine g_aload_n dX3_fits_36 1 rfl rfl ?_
    refine g_iload_n dX3_fits_37 2 rfl rfl ?_
    refine k_X8_isLetter h0 w_414 rfl ⟨Nat.le_of_ble_eq_true rfl, Nat.le_of_ble_eq_true rfl⟩ (Nat.le_of_ble_eq_true rfl) dX3_fits_38 H (fun r5 σ4 H => ?_)
    obtain ⟨hz, H⟩ := H
    exact g_zret rfl hz dX3_fits_41 ⟨_, rfl, H⟩
  · skip
    by_cases c6 : (x1 - x1 / (iI_ 3) * (iI_ 3)) = (iI_ 1)
    · replace H := H.2.1 c6
      refine g_lookup (off := 33) dX3_fits_9 (by decide +kernel) 42 (by rw [c6] <;> rfl) (by decide) ?_
      refine g_aload_n dX3_fits_42 1 rfl rfl ?_
      refine g_iload_n dX3_fits_43 2 rfl rfl ?_
      refine k_X8_isLetter h0 w_414 rfl ⟨Nat.le_of_ble_eq_true rfl, Nat.le_of_ble_eq_true rfl⟩ (Nat.le_of_ble_eq_true rfl) dX3_fits_44 H (fun r8 σ7 H => ?_)
      refine g_if_eq 65 dX3_fits_47 (by decide) (fun c9 => ?_) (fun c9 => ?_)
      · replace H := H.1 c9
        refine g_iconst (v := (iI_ 0)) dX3_fits_65 (by decide) ?_
        exact g_zret rfl (by decide) dX3_fits_66 ⟨_, rfl, H⟩
      · replace H := H.2 c9
        refine g_iload_n dX3_fits_50 0 rfl rfl ?_
        refine g_aload_n dX3_fits_51 1 rfl rfl ?_
        refine g_iload_n dX3_fits_52 2 rfl rfl ?_
        refine g_iconst (v := (iI_ 1)) dX3_fits_53 (by decide) ?_
        refine g_isub dX3_fits_54 ?_
        refine k_X8_at h0 w_413 rfl ⟨Nat.le_of_ble_eq_true rfl, Nat.le_of_ble_eq_true rfl⟩ (Nat.le_of_ble_eq_true rfl) dX3_fits_55 H (fun r11 σ10 H => ?_)
        refine g_icmp_eq 65 dX3_fits_58 (by decide) (fun c12 => ?_) (fun c12 => ?_)
        · replace H := H.1 c12
          refine g_iconst (v := (iI_ 0)) dX3_fits_65 (by decide) ?_
          exact g_zret rfl (by decide) dX3_fits_66 ⟨_, rfl, H⟩
        · replace H := H.2 c12
          refine g_iconst (v := (iI_ 1)) dX3_fits_61 (by decide) ?_
          refine g_goto 66 dX3_fits_62 (by decide) ?_
          exact g_zret rfl (by decide) dX3_fits_66 ⟨_, rfl, H⟩
    · skip
      replace H := H.2.2 c3 c6
      refine g_lookup (off := 58) dX3_fits_9 (by decide +kernel) 67 (by show Op.lookupswitch.offset [(0, 27), (1, 33)] _ _ = _; rw [lv_osw c3 (by decide), lv_osw c6 (by decide)] <;> rfl) (by decide) ?_
      refine g_iload_n dX3_fits_67 0 rfl rfl ?_
      refine g_bipush (v := (iI_ 49)) dX3_fits_68 (by decide) ?_
      refine g_icmp_eq 79 dX3_fits_70 (by decide) (fun c13 => ?_) (fun c13 => ?_)
      · replace H := H.1 c13
        refine g_iconst (v := (iI_ 1)) dX3_fits_79 (by decide) ?_
        refine g_goto 84 dX3_fits_80 (by decide) ?_
        exact g_zret rfl (by decide) dX3_fits_84 ⟨_, rfl, H⟩
      · replace H := H.2 c13
        refine g_iload_n dX3_fits_73 0 rfl rfl ?_
        refine g_bipush (v := (iI_ 50)) dX3_fits_74 (by decide) ?_
        refine g_icmp_ne 83 dX3_fits_76 (by decide) (fun c14 => ?_) (fun c14 => ?_)
        · replace H := H.1 c14
          refine g_iconst (v := (iI_ 0)) dX3_fits_83 (by decide) ?_
          exact g_zret rfl (by decide) dX3_fits_84 ⟨_, rfl, H⟩
        · replace H := H.2 c14
          refine g_iconst (v := (iI_ 1)) dX3_fits_79 (by decide) ?_
          refine g_goto 84 dX3_fits_80 (by decide) ?_
          exact g_zret rfl (by decide) dX3_fits_84 ⟨_, rfl, H⟩
set_option maxHeartbeats 4000000 in
set_option maxRecDepth 100000 in
theorem bX4_take_24 (u : Ux_) {P : St_ → Prop} (t1 : Nat) (h1 : t1 < 2) (σ : St_) (x2 : Int32) (H : (((σ 0 t1) ≤ x2 → P σ) ∧ (¬ (σ 0 t1) ≤ x2 → (((iI_ 8) ≤ (σ 3 0) → P σ) ∧ (¬ (iI_ 8) ≤ (σ 3 0) → MMi_ (zx_ u) mX8_at [.ref (uq_ u (32 + t1)), .int x2] σ (fun r4 σ3 => MMi_ (zx_ u) mX4_sortOf [.int r4] σ3 (fun r6 σ5 => vp_in (σ 3 0) 8 ∧ (∀ σ7, σ7 = su_ σ5 5 (Int32.toNatClampNeg (σ 3 0)) r6 → MMi_ (zx_ u) mX8_at [.ref (uq_ u (32 + t1)), .int (x2 + (iI_ 1))] σ7 (fun r10 σ9 => vp_in (σ7 3 0) 8 ∧ (∀ σ11, σ11 = su_ σ9 6 (Int32.toNatClampNeg (σ7 3 0)) (r10 - (iI_ 48)) → MMi_ (zx_ u) mX8_at [.ref (uq_ u (32 + t1)), .int (x2 + (iI_ 3))] σ11 (fun r14 σ13 => MMi_ (zx_ u) mX8_at [.ref (uq_ u (32 + t1)), .int (x2 + (iI_ 4))] σ13 (fun r16 σ15 => MMi_ (zx_ u) mX8_at [.ref (uq_ u (32 + t1)), .int (x2 + (iI_ 2))] σ15 (fun r18 σ17 => ((r14 ≤ r16 → vp_in (σ15 3 0) 8 ∧ (∀ σ20, σ20 = su_ σ17 7 (Int32.toNatClampNeg (σ15 3 0)) (((iI_ 2) * (r18 - (iI_ 97))) + (iI_ 0)) → (∀ σ22, σ22 = su_ σ20 3 0 ((σ20 3 0) + (iI_ 1)) → GG_ (zx_ u) mX4_take (Pv_ P) 24 [(0, .ref (uq_ u 2)), (1, .ref (uq_ u (32 + t1))), (2, .int (x2 + (iI_ 6)))] [] σ22))) ∧ (¬ r14 ≤ r16 → vp_in (σ15 3 0) 8 ∧ (∀ σ23, σ23 = su_ σ17 7 (Int32.toNatClampNeg (σ15 3 0)) (((iI_ 2) * (r18 - (iI_ 97))) + (iI_ 1)) → (∀ σ25, σ25 = su_ σ23 3 0 ((σ23 3 0) + (iI_ 1)) → GG_ (zx_ u) mX4_take (Pv_ P) 24 [(0, .ref (uq_ u 2)), (1, .ref (uq_ u (32 + t1))), (2, .int (x2 + (iI_ 6)))] [] σ25))))))))))))))))) : GG_ (zx_ u) mX4_take (Pv_ P) 24 [(0, .ref (uq_ u 2)), (1, .ref (uq_ u (32 + t1))), (2, .int x2)] [] σ := by
  refine g_iload_n dX4_take_24 2 rfl rfl ?_
  refine g_aload_n dX4_take_25 1 rfl rfl ?_
  refine gx_Text_n h1 w_297 rfl dX4_take_26 ?_
  refine g_icmp_ge 143 dX4_take_29 (by decide) (fun c1 => ?_) (fun c1 => ?_)
  · replace H := H.1 c1
    exact g_vret rfl dX4_take_143 ⟨rfl, H⟩
  · replace H := H.2 c1
    refine g_aload_n dX4_take_32 0 rfl rfl ?_
    refine gx_Roll_n w_102 rfl dX4_take_33 ?_
    refine g_bipush (v := (iI_ 8)) dX4_take_36 (by decide) ?_
    refine g_icmp_ge 143 dX4_take_38 (by decide) (fun c2 => ?_) (fun c2 => ?_)
    · replace H := H.1 c2
      exact g_vret rfl dX4_take_143 ⟨rfl, H⟩
    · replace H := H.2 c2
      refine g_aload_n dX4_take_41 0 rfl rfl ?_
      refine gx_Roll_sort w_108 rfl dX4_take_42 ?_
      refine g_aload_n dX4_take_45 0 rfl rfl ?_
      refine gx_Roll_n w_102 rfl dX4_take_46 ?_
      refine g_aload_n dX4_take_49 1 rfl rfl ?_
      refine g_iload_n dX4_take_50 2 rfl rfl ?_
      refine k_X8_at h1 w_391 rfl ⟨Nat.le_of_ble_eq_true rfl, Nat.le_of_ble_eq_true rfl⟩ (Nat.le_of_ble_eq_true rfl) dX4_take_51 H (fun r4 σ3 H => ?_)
      refine k_X4_sortOf w_395 rfl ⟨Nat.le_of_ble_eq_true rfl, Nat.le_of_ble_eq_true rfl⟩ (Nat.le_of_ble_eq_true rfl) dX4_take_54 H (fun r6 σ5 H => ?_)
      obtain ⟨h8, H⟩ := H
      refine sx_5 h8 dX4_take_57 ?_
      obtain ⟨σ7, e_σ7⟩ : ∃ q : St_, q = su_ σ5 5 (Int32.toNatClampNeg (σ 3 0)) r6 := ⟨_, rfl⟩
      rw [← e_σ7]
      replace H := H σ7 e_σ7
      refine g_aload_n dX4_take_58 0 rfl rfl ?_
      refine gx_Roll_shelf w_110 rfl dX4_take_59 ?_
      refine g_aload_n dX4_take_62 0 rfl rfl ?_
      refine gx_Roll_n w_102 rfl dX4_take_63 ?_
      refine g_aload_n dX4_take_66 1 rfl rfl ?_
      refine g_iload_n dX4_take_67 2 rfl rfl ?_
      refine g_iconst (v := (iI_ 1)) dX4_take_68 (by decide) ?_
      refine g_iadd dX4_take_69 ?_
      refine k_X8_at h1 w_391 rfl ⟨Nat.le_of_ble_eq_true rfl, Nat.le_of_ble_eq_true rfl⟩ (Nat.le_of_ble_eq_true rfl) dX4_take_70 H (fun r10 σ9 H => ?_)
      refine g_bipush (v := (iI_ 48)) dX4_take_73 (by decide) ?_
      refine g_isub dX4_take_75 ?_
      obtain ⟨h12, H⟩ := H
      refine sx_6 h12 dX4_take_76 ?_
      obtain ⟨σ11, e_σ11⟩ : ∃ q : St_, q = su_ σ9 6 (Int32.toNatClampNeg (σ7 3 0)) (r10 - (iI_ 48)) := ⟨_, rfl⟩
      rw [← e_σ11]
      replace H := H σ11 e_σ11
      refine g_aload_n dX4_take_77 1 rfl rfl ?_
      refine g_iload_n dX4_take_78 2 rfl rfl ?_
      refine g_iconst (v := (iI_ 3)) dX4_take_79 (by decide) ?_
      refine g_iadd dX4_take_80 ?_
      refine k_X8_at h1 w_391 rfl ⟨Nat.le_of_ble_eq_true rfl, Nat.le_of_ble_eq_true rfl⟩ (Nat.le_of_ble_eq_true rfl) dX4_take_81 H (fun r14 σ13 H => ?_)
      refine g_istore_n (L' := [(3, .int r14), (0, .ref (uq_ u 2)), (1, .ref (uq_ u (32 + t1))), (2, .int x2)]) dX4_take_84 rfl (by decide) rfl ?_
      refine g_aload_n dX4_take_85 2 rfl rfl ?_
      refine g_iload_n dX4_take_86 3 rfl rfl ?_
      refine g_iconst (v := (iI_ 4)) dX4_take_87 (by decide) ?_
      refine g_iadd dX4_take_88 ?_
      refine k_X8_at h1 w_391 rfl ⟨Nat.le_of_ble_eq_true rfl, Nat.le_of_ble_eq_true rfl⟩ (Nat.le_of_ble_eq_true rfl) dX4_take_89 H (fun r16 σ15 H => ?_)
      refine g_istore (L' := [(4, .int r16), (3, .int r14), (0, .ref (uq_ u 2)), (1, .ref (uq_ u (32 + t1))), (2, .int x2)]) dX4_take_92 (by decide) rfl ?_
      refine g_aload_n dX4_take_94 2 rfl rfl ?_
      refine gx_Roll_order w_113 rfl dX4_take_95 ?_
      refine g_aload_n dX4_take_98 2 rfl rfl ?_
      refine gx_Roll_n w_102 rfl dX4_take_99 ?_
      refine g_iconst (v := (iI_ 2)) dX4_take_102 (by decide) ?_
      refine g_aload_n dX4_take_103 3 rfl rfl ?_
      refine g_iload_n dX4_take_104 4 rfl rfl ?_
      refine g_iconst (v := (iI_ 2)) dX4_take_105 (by decide) ?_
      refine g_iadd dX4_take_106 ?_
      refine k_X8_at h1 w_391 rfl ⟨Nat.le_of_ble_eq_true rfl, Nat.le_of_ble_eq_true rfl⟩ (Nat.le_of_ble_eq_true rfl) dX4_take_107 H (fun r18 σ17 H => ?_)
      refine g_bipush (v := (iI_ 97)) dX4_take_110 (by decide) ?_
      refine g_isub dX4_take_112 ?_
      refine g_imul dX4_take_113 ?_
      refine g_iload_n dX4_take_114 1 rfl rfl ?_
      refine g_iload dX4_take_115 0 rfl ?_
      refine g_icmp_le 124 dX4_take_117 (by decide) (fun c19 => ?_) (fun c19 => ?_)
      · replace H := H.1 c19
        refine g_iconst (v := (iI_ 0)) dX4_take_124 (by decide) ?_
        refine g_iadd dX4_take_125 ?_
        obtain ⟨h21, H⟩ := H
        refine sx_7 h21 dX4_take_126 ?_
        obtain ⟨σ20, e_σ20⟩ : ∃ q : St_, q = su_ σ17 7 (Int32.toNatClampNeg (σ15 3 0)) (((iI_ 2) * (r18 - (iI_ 97))) + (iI_ 0)) := ⟨_, rfl⟩
        rw [← e_σ20]
        replace H := H σ20 e_σ20
        refine g_aload_n dX4_take_127 2 rfl rfl ?_
        refine g_dup dX4_take_128 rfl ?_
        refine gx_Roll_n w_102 rfl dX4_take_129 ?_
        refine g_iconst (v := (iI_ 1)) dX4_take_132 (by decide) ?_
        refine g_iadd dX4_take_133 ?_
        refine px_Roll_n w_102 rfl dX4_take_134 ?_
        obtain ⟨σ22, e_σ22⟩ : ∃ q : St_, q = su_ σ20 3 0 ((σ20 3 0) + (iI_ 1)) := ⟨_, rfl⟩
        rw [← e_σ22]
        replace H := H σ22 e_σ22
        refine g_iinc (v := (x2 + (iI_ 6))) (L' := [(2, .int (x2 + (iI_ 6))), (4, .int r16), (3, .int r14), (0, .ref (uq_ u 2)), (1, .ref (uq_ u (32 + t1)))]) dX4_take_137 4 rfl rfl (by decide) rfl ?_
        refine g_goto 24 dX4_take_140 (by decide) ?_
        exact GG_.sub [3, 4, 0] rfl H
      · replace H := H.2 c19
        refine g_iconst (v := (iI_ 1)) dX4_take_120 (by decide) ?_
        refine g_goto 125 dX4_take_121 (by decide) ?_
        refine g_iadd dX4_take_125 ?_
        obtain ⟨h24, H⟩ := H
        refine sx_7 h24 dX4_take_126 ?_
        obtain ⟨σ23, e_σ23⟩ : ∃ q : St_, q = su_ σ17 7 (Int32.toNatClampNeg (σ15 3 0)) (((iI_ 2) * (r18 - (iI_ 97))) + (iI_ 1)) := ⟨_, rfl⟩
        rw [← e_σ23]
        replace H := H σ23 e_σ23
        refine g_aload_n dX4_take_127 2 rfl rfl ?_
        refine g_dup dX4_take_128 rfl ?_
        refine gx_Roll_n w_102 rfl dX4_take_129 ?_
        refine g_iconst (v := (iI_ 1)) dX4_take_132 (by decide) ?_
        refine g_iadd dX4_take_133 ?_
        refine px_Roll_n w_102 rfl dX4_take_134 ?_
        obtain ⟨σ25, e_σ25⟩ : ∃ q : St_, q = su_ σ23 3 0 ((σ23 3 0) + (iI_ 1)) := ⟨_, rfl⟩
        rw [← e_σ25]
        replace H := H σ25 e_σ25
        refine g_iinc (v := (x2 + (iI_ 6))) (L' := [(2, .int (x2 + (iI_ 6))), (4, .int r16), (3, .int r14), (0, .ref (uq_ u 2)), (1, .ref (uq_ u (32 + t1)))]) dX4_take_137 4 rfl rfl (by decide) rfl ?_
        refine g_goto 24 dX4_take_140 (by decide) ?_
        exact GG_.sub [3, 4, 0] rfl H
set_option maxHeartbeats 4000000 in
set_option maxRecDepth 100000 in
theorem eX4_take (u : Ux_) {P : St_ → Prop} (t1 : Nat) (h1 : t1 < 2) (σ : St_)  (H : MMi_ (zx_ u) mX4_findFault [.ref (uq_ u (32 + t1))] σ (fun r2 σ1 => (∀ σ3, σ3 = su_ σ1 4 0 r2 → (∀ σ4, σ4 = su_ σ3 3 0 (iI_ 0) → (((σ4 4 0) = (iI_ (-1)) → GG_ (zx_ u) mX4_take (Pv_ P) 24 [(0, .ref (uq_ u 2)), (1, .ref (uq_ u (32 + t1))), (2, .int (iI_ 0))] [] σ4) ∧ (¬ (σ4 4 0) = (iI_ (-1)) → P σ4)))))) : MMv_ (zx_ u) mX4_take [.ref (uq_ u 2), .ref (uq_ u (32 + t1))] σ P := by
  refine MM_.of (L := [(0, .ref (uq_ u 2)), (1, .ref (uq_ u (32 + t1)))]) (by decide +kernel) (Nat.le_of_ble_eq_true rfl) rfl ?_
  refine g_aload_n dX4_take_0 0 rfl rfl ?_
  refine g_aload_n dX4_take_1 1 rfl rfl ?_
  refine k_X4_findFault w_385 rfl ⟨Nat.le_of_ble_eq_true rfl, Nat.le_of_ble_eq_true rfl⟩ (Nat.le_of_ble_eq_true rfl) dX4_take_2 H (fun r2 σ1 H => ?_)
  refine px_Roll_fault w_106 rfl dX4_take_5 ?_
  obtain ⟨σ3, e_σ3⟩ : ∃ q : St_, q = su_ σ1 4 0 r2 := ⟨_, rfl⟩
  rw [← e_σ3]
  replace H := H σ3 e_σ3
  refine g_aload_n dX4_take_8 0 rfl rfl ?_
  refine g_iconst (v := (iI_ 0)) dX4_take_9 (by decide) ?_
  refine px_Roll_n w_102 rfl dX4_take_10 ?_
  obtain ⟨σ4, e_σ4⟩ : ∃ q : St_, q = su_ σ3 3 0 (iI_ 0) := ⟨_, rfl⟩
  rw [← e_σ4]
  replace H := H σ4 e_σ4
  refine g_aload_n dX4_take_13 0 rfl rfl ?_
  refine gx_Roll_fault w_106 rfl dX4_take_14 ?_
  refine g_iconst (v := (iI_ (-1))) dX4_take_17 (by decide) ?_
  refine g_icmp_eq 22 dX4_take_18 (by decide) (fun c5 => ?_) (fun c5 => ?_)
  · replace H := H.1 c5
    refine g_iconst (v := (iI_ 0)) dX4_take_22 (by decide) ?_
    refine g_istore_n (L' := [(2, .int (iI_ 0)), (0, .ref (uq_ u 2)), (1, .ref (uq_ u (32 + t1)))]) dX4_take_23 rfl (by decide) rfl ?_
    exact GG_.sub [1, 2, 0] rfl H
  · replace H := H.2 c5
    exact g_vret rfl dX4_take_21 ⟨rfl, H⟩
set_option maxHeartbeats 4000000 in
set_option maxRecDepth 100000 in
theorem bX4_findFault_2 (u : Ux_) {P : Int32 → St_ → Prop} (t0 : Nat) (h0 : t0 < 2) (σ : St_) (x1 : Int32) (H : (((σ 0 t0) ≤ x1 → (((σ 0 t0) = iI_ 0 → P (iI_ (-1)) σ) ∧ (¬ (σ 0 t0) = iI_ 0 → ((¬ ((σ 0 t0) - (σ 0 t0) / (iI_ 6) * (iI_ 6)) = (iI_ 5) → P (σ 0 t0) σ) ∧ (((σ 0 t0) - (σ 0 t0) / (iI_ 6) * (iI_ 6)) = (iI_ 5) → P (iI_ (-1)) σ))))) ∧ (¬ (σ 0 t0) ≤ x1 → MMi_ (zx_ u) mX4_fits [.ref (uq_ u (32 + t0)), .int x1] σ (fun r5 σ4 => ((¬ r5 = iI_ 0 → GG_ (zx_ u) mX4_findFault (Pi_ P) 2 [(0, .ref (uq_ u (32 + t0))), (1, .int (x1 + (iI_ 1)))] [] σ4) ∧ (r5 = iI_ 0 → P x1 σ4)))))) : GG_ (zx_ u) mX4_findFault (Pi_ P) 2 [(0, .ref (uq_ u (32 + t0))), (1, .int x1)] [] σ := by
  refine g_iload_n dX4_findFault_2 1 rfl rfl ?_
  refine g_aload_n dX4_findFault_3 0 rfl rfl ?_
  refine gx_Text_n h0 w_297 rfl dX4_findFault_4 ?_
  refine g_icmp_ge 26 dX4_findFault_7 (by decide) (fun c1 => ?_) (fun c1 => ?_)
  · replace H := H.1 c1
    refine g_aload_n dX4_findFault_26 0 rfl rfl ?_
    refine gx_Text_n h0 w_297 rfl dX4_findFault_27 ?_
    refine g_if_eq 44 dX4_findFault_30 (by decide) (fun c2 => ?_) (fun c2 => ?_)
    · replace H := H.1 c2
      refine g_iconst (v := (iI_ (-1))) dX4_findFault_44 (by decide) ?_
      refine g_goto 52 dX4_findFault_45 (by decide) ?_
      exact g_iret rfl dX4_findFault_52 ⟨_, rfl, H⟩
    · replace H := H.2 c2
      refine g_aload_n dX4_findFault_33 0 rfl rfl ?_
      refine gx_Text_n h0 w_297 rfl dX4_findFault_34 ?_
      refine g_bipush (v := (iI_ 6)) dX4_findFault_37 (by decide) ?_
      refine g_irem dX4_findFault_39 (by decide) ?_
      refine g_iconst (v := (iI_ 5)) dX4_findFault_40 (by decide) ?_
      refine g_icmp_ne 48 dX4_findFault_41 (by decide) (fun c3 => ?_) (fun c3 => ?_)
      · replace H := H.1 c3
        refine g_aload_n dX4_findFault_48 0 rfl rfl ?_
        refine gx_Text_n h0 w_297 rfl dX4_findFault_49 ?_
        exact g_iret rfl dX4_findFault_52 ⟨_, rfl, H⟩
      · replace H := H.2 c3
        refine g_iconst (v := (iI_ (-1))) dX4_findFault_44 (by decide) ?_
        refine g_goto 52 dX4_findFault_45 (by decide) ?_
        exact g_iret rfl dX4_findFault_52 ⟨_, rfl, H⟩
  · replace H := H.2 c1
    refine g_aload_n dX4_findFault_10 0 rfl rfl ?_
    refine g_iload_n dX4_findFault_11 1 rfl rfl ?_
    refine k_X4_fits w_388 rfl ⟨Nat.le_of_ble_eq_true rfl, Nat.le_of_ble_eq_true rfl⟩ (Nat.le_of_ble_eq_true rfl) dX4_findFault_12 H (fun r5 σ4 H => ?_)
    refine g_if_ne 20 dX4_findFault_15 (by decide) (fun c6 => ?_) (fun c6 => ?_)
    · replace H := H.1 c6
      refine g_iinc (v := (x1 + (iI_ 1))) (L' := [(1, .int (x1 + (iI_ 1))), (0, .ref (uq_ u (32 + t0)))]) dX4_findFault_20 1 rfl rfl (by decide) rfl ?_
      refine g_goto 2 dX4_findFault_23 (by decide) ?_
      exact GG_.sub [1, 0] rfl H
    · replace H := H.2 c6
      refine g_iload_n dX4_findFault_18 1 rfl rfl ?_
      exact g_iret rfl dX4_findFault_19 ⟨_, rfl, H⟩
set_option maxHeartbeats 4000000 in
set_option maxRecDepth 100000 in
theorem eX4_findFault (u : Ux_) {P : Int32 → St_ → Prop} (t0 : Nat) (h0 : t0 < 2) (σ : St_)  (H : GG_ (zx_ u) mX4_findFault (Pi_ P) 2 [(0, .ref (uq_ u (32 + t0))), (1, .int (iI_ 0))] [] σ) : MMi_ (zx_ u) mX4_findFault [.ref (uq_ u (32 + t0))] σ P := by
  refine MM_.of (L := [(0, .ref (uq_ u (32 + t0)))]) (by decide +kernel) (Nat.le_of_ble_eq_true rfl) rfl ?_
  refine g_iconst (v := (iI_ 0)) dX4_findFault_0 (by decide) ?_
  refine g_istore_n (L' := [(1, .int (iI_ 0)), (0, .ref (uq_ u (32 + t0)))]) dX4_findFault_1 rfl (by decide) rfl ?_
  exact GG_.sub [1, 0] rfl H
set_option maxHeartbeats 4000000 in
set_option maxRecDepth 100000 in
theorem eX4_fits (u : Ux_) {P : Int32 → St_ → Prop} (t0 : Nat) (h0 : t0 < 2) (σ : St_) (x1 : Int32) (H : MMi_ (zx_ u) mX8_at [.ref (uq_ u (32 + t0)), .int x1] σ (fun r2 σ1 => (((x1 - x1 / (iI_ 6) * (iI_ 6)) = iI_ 0 → (((iI_ 48) ≤ x1 → P (iI_ 0) σ1) ∧ (¬ (iI_ 48) ≤ x1 → MMi_ (zx_ u) mX4_sortOf [.int r2] σ1 (fun r5 σ4 => ((r5 = (iI_ (-1)) → P (iI_ 0) σ4) ∧ (¬ r5 = (iI_ (-1)) → P (iI_ 1) σ4)))))) ∧ ((x1 - x1 / (iI_ 6) * (iI_ 6)) = iI_ 1 → ((r2 < (iI_ 48) → P (iI_ 0) σ1) ∧ (¬ r2 < (iI_ 48) → (((iI_ 54) ≤ r2 → P (iI_ 0) σ1) ∧ (¬ (iI_ 54) ≤ r2 → P (iI_ 1) σ1))))) ∧ ((x1 - x1 / (iI_ 6) * (iI_ 6)) = iI_ 2 → MMi_ (zx_ u) mX8_isLetter [.ref (uq_ u (32 + t0)), .int x1] σ1 (fun r10 σ9 => (r10 = iI_ 0 ∨ r10 = iI_ 1) ∧ P r10 σ9)) ∧ ((x1 - x1 / (iI_ 6) * (iI_ 6)) = iI_ 3 → MMi_ (zx_ u) mX8_isLetter [.ref (uq_ u (32 + t0)), .int x1] σ1 (fun r12 σ11 => ((r12 = iI_ 0 → P (iI_ 0) σ11) ∧ (¬ r12 = iI_ 0 → MMi_ (zx_ u) mX8_at [.ref (uq_ u (32 + t0)), .int (x1 - (iI_ 1))] σ11 (fun r15 σ14 => ((r2 = r15 → P (iI_ 0) σ14) ∧ (¬ r2 = r15 → P (iI_ 1) σ14))))))) ∧ ((x1 - x1 / (iI_ 6) * (iI_ 6)) = iI_ 4 → MMi_ (zx_ u) mX8_isLetter [.ref (uq_ u (32 + t0)), .int x1] σ1 (fun r18 σ17 => ((r18 = iI_ 0 → P (iI_ 0) σ17) ∧ (¬ r18 = iI_ 0 → MMi_ (zx_ u) mX8_at [.ref (uq_ u (32 + t0)), .int (x1 - (iI_ 1))] σ17 (fun r21 σ20 => ((r2 = r21 → P (iI_ 0) σ20) ∧ (¬ r2 = r21 → MMi_ (zx_ u) mX8_at [.ref (uq_ u (32 + t0)), .int (x1 - (iI_ 2))] σ20 (fun r24 σ23 => ((r2 = r24 → P (iI_ 0) σ23) ∧ (¬ r2 = r24 → P (iI_ 1) σ23)))))))))) ∧ ((∀ j : Nat, j < 5 → ¬ (x1 - x1 / (iI_ 6) * (iI_ 6)) = iI_ j) → ((¬ r2 = (iI_ 59) → P (iI_ 0) σ1) ∧ (r2 = (iI_ 59) → P (iI_ 1) σ1)))))) : MMi_ (zx_ u) mX4_fits [.ref (uq_ u (32 + t0)), .int x1] σ P := by
  refine MM_.of (L := [(0, .ref (uq_ u (32 + t0))), (1, .int x1)]) (by decide +kernel) (Nat.le_of_ble_eq_true rfl) rfl ?_
  refine g_aload_n dX4_fits_0 0 rfl rfl ?_
  refine g_iload_n dX4_fits_1 1 rfl rfl ?_
  refine k_X8_at h0 w_391 rfl ⟨Nat.le_of_ble_eq_true rfl, Nat.le_of_ble_eq_true rfl⟩ (Nat.le_of_ble_eq_true rfl) dX4_fits_2 H (fun r2 σ1 H => ?_)
  refine g_istore_n (L' := [(2, .int r2), (0, .ref (uq_ u (32 + t0))), (1, .int x1)]) dX4_fits_5 rfl (by decide) rfl ?_
  refine g_iload_n dX4_fits_6 2 rfl rfl ?_
  refine g_bipush (v := (iI_ 6)) dX4_fits_7 (by decide) ?_
  refine g_irem dX4_fits_9 (by decide) ?_
  refine g_tab 5 [44, 64, 82, 88, 113] dX4_fits_10 rfl (by decide) (by decide) rfl 149 (by decide) ?_ ?_
  · intro j t ht hx
    rcases j with _ | _ | _ | _ | _ | j
    · cases ht
      replace H := H.1 hx
      refine g_iload_n dX4_fits_44 2 rfl rfl ?_
      refine g_bipush (v := (iI_ 48)) dX4_fits_45 (by decide) ?_
      refine g_icmp_ge 62 dX4_fits_47 (by decide) (fun c3 => ?_) (fun c3 => ?_)
      · replace H := H.1 c3
        refine g_iconst (v := (iI_ 0)) dX4_fits_62 (by decide) ?_
        exact g_zret rfl (by decide) dX4_fits_63 ⟨_, rfl, H⟩
      · replace H := H.2 c3
        refine g_iload_n dX4_fits_50 0 rfl rfl ?_
        refine k_X4_sortOf w_395 rfl ⟨Nat.le_of_ble_eq_true rfl, Nat.le_of_ble_eq_true rfl⟩ (Nat.le_of_ble_eq_true rfl) dX4_fits_51 H (fun r5 σ4 H => ?_)
        refine g_iconst (v := (iI_ (-1))) dX4_fits_54 (by decide) ?_
        refine g_icmp_eq 62 dX4_fits_55 (by decide) (fun c6 => ?_) (fun c6 => ?_)
        · replace H := H.1 c6
          refine g_iconst (v := (iI_ 0)) dX4_fits_62 (by decide) ?_
          exact g_zret rfl (by decide) dX4_fits_63 ⟨_, rfl, H⟩
        · replace H := H.2 c6
          refine g_iconst (v := (iI_ 1)) dX4_fits_58 (by decide) ?_
          refine g_goto 63 dX4_fits_59 (by decide) ?_
          exact g_zret rfl (by decide) dX4_fits_63 ⟨_, rfl, H⟩
    · cases ht
      replace H := H.2.1 hx
      refine g_iload_n dX4_fits_64 0 rfl rfl ?_
      refine g_bipush (v := (iI_ 48)) dX4_fits_65 (by decide) ?_
      refine g_icmp_lt 80 dX4_fits_67 (by decide) (fun c7 => ?_) (fun c7 => ?_)
      · replace H := H.1 c7
        refine g_iconst (v := (iI_ 0)) dX4_fits_80 (by decide) ?_
        exact g_zret rfl (by decide) dX4_fits_81 ⟨_, rfl, H⟩
      · replace H := H.2 c7
        refine g_iload_n dX4_fits_70 0 rfl rfl ?_
        refine g_bipush (v := (iI_ 54)) dX4_fits_71 (by decide) ?_
        refine g_icmp_ge 80 dX4_fits_73 (by decide) (fun c8 => ?_) (fun c8 => ?_)
        · replace H := H.1 c8
          refine g_iconst (v := (iI_ 0)) dX4_fits_80 (by decide) ?_
          exact g_zret rfl (by decide) dX4_fits_81 ⟨_, rfl, H⟩
        · replace H := H.2 c8
          refine g_iconst (v := (iI_ 1)) dX4_fits_76 (by decide) ?_
          refine g_goto 81 dX4_fits_77 (by decide) ?_
          exact g_zret rfl (by decide) dX4_fits_81 ⟨_, rfl, H⟩
    · cases ht
      replace H := H.2.2.1 hx
      refine g_aload_n dX4_fits_82 1 rfl rfl ?_
      refine g_iload_n dX4_fits_83 2 rfl rfl ?_
      refine k_X8_isLetter h0 w_398 rfl ⟨Nat.le_of_ble_eq_true rfl, Nat.le_of_ble_eq_true rfl⟩ (Nat.le_of_ble_eq_true rfl) dX4_fits_84 H (fun r10 σ9 H => ?_)
      obtain ⟨hz, H⟩ := H
      exact g_zret rfl hz dX4_fits_87 ⟨_, rfl, H⟩
    · cases ht
      replace H := H.2.2.2.1 hx
      refine g_aload_n dX4_fits_88 1 rfl rfl ?_
      refine g_iload_n dX4_fits_89 2 rfl rfl ?_
      refine k_X8_isLetter h0 w_398 rfl ⟨Nat.le_of_ble_eq_true rfl, Nat.le_of_ble_eq_true rfl⟩ (Nat.le_of_ble_eq_true rfl) dX4_fits_90 H (fun r12 σ11 H => ?_)
      refine g_if_eq 111 dX4_fits_93 (by decide) (fun c13 => ?_) (fun c13 => ?_)
      · replace H := H.1 c13
        refine g_iconst (v := (iI_ 0)) dX4_fits_111 (by decide) ?_
        exact g_zret rfl (by decide) dX4_fits_112 ⟨_, rfl, H⟩
      · replace H := H.2 c13
        refine g_iload_n dX4_fits_96 0 rfl rfl ?_
        refine g_aload_n dX4_fits_97 1 rfl rfl ?_
        refine g_iload_n dX4_fits_98 2 rfl rfl ?_
        refine g_iconst (v := (iI_ 1)) dX4_fits_99 (by decide) ?_
        refine g_isub dX4_fits_100 ?_
        refine k_X8_at h0 w_391 rfl ⟨Nat.le_of_ble_eq_true rfl, Nat.le_of_ble_eq_true rfl⟩ (Nat.le_of_ble_eq_true rfl) dX4_fits_101 H (fun r15 σ14 H => ?_)
        refine g_icmp_eq 111 dX4_fits_104 (by decide) (fun c16 => ?_) (fun c16 => ?_)
        · replace H := H.1 c16
          refine g_iconst (v := (iI_ 0)) dX4_fits_111 (by decide) ?_
          exact g_zret rfl (by decide) dX4_fits_112 ⟨_, rfl, H⟩
        · replace H := H.2 c16
          refine g_iconst (v := (iI_ 1)) dX4_fits_107 (by decide) ?_
          refine g_goto 112 dX4_fits_108 (by decide) ?_
          exact g_zret rfl (by decide) dX4_fits_112 ⟨_, rfl, H⟩
    · cases ht
      replace H := H.2.2.2.2.1 hx
      refine g_aload_n dX4_fits_113 1 rfl rfl ?_
      refine g_iload_n dX4_fits_114 2 rfl rfl ?_
      refine k_X8_isLetter h0 w_398 rfl ⟨Nat.le_of_ble_eq_true rfl, Nat.le_of_ble_eq_true rfl⟩ (Nat.le_of_ble_eq_true rfl) dX4_fits_115 H (fun r18 σ17 H => ?_)
      refine g_if_eq 147 dX4_fits_118 (by decide) (fun c19 => ?_) (fun c19 => ?_)
      · replace H := H.1 c19
        refine g_iconst (v := (iI_ 0)) dX4_fits_147 (by decide) ?_
        exact g_zret rfl (by decide) dX4_fits_148 ⟨_, rfl, H⟩
      · replace H := H.2 c19
        refine g_iload_n dX4_fits_121 0 rfl rfl ?_
        refine g_aload_n dX4_fits_122 1 rfl rfl ?_
        refine g_iload_n dX4_fits_123 2 rfl rfl ?_
        refine g_iconst (v := (iI_ 1)) dX4_fits_124 (by decide) ?_
        refine g_isub dX4_fits_125 ?_
        refine k_X8_at h0 w_391 rfl ⟨Nat.le_of_ble_eq_true rfl, Nat.le_of_ble_eq_true rfl⟩ (Nat.le_of_ble_eq_true rfl) dX4_fits_126 H (fun r21 σ20 H => ?_)
        refine g_icmp_eq 147 dX4_fits_129 (by decide) (fun c22 => ?_) (fun c22 => ?_)
        · replace H := H.1 c22
          refine g_iconst (v := (iI_ 0)) dX4_fits_147 (by decide) ?_
          exact g_zret rfl (by decide) dX4_fits_148 ⟨_, rfl, H⟩
        · replace H := H.2 c22
          refine g_iload_n dX4_fits_132 0 rfl rfl ?_
          refine g_aload_n dX4_fits_133 1 rfl rfl ?_
          refine g_iload_n dX4_fits_134 2 rfl rfl ?_
          refine g_iconst (v := (iI_ 2)) dX4_fits_135 (by decide) ?_
          refine g_isub dX4_fits_136 ?_
          refine k_X8_at h0 w_391 rfl ⟨Nat.le_of_ble_eq_true rfl, Nat.le_of_ble_eq_true rfl⟩ (Nat.le_of_ble_eq_true rfl) dX4_fits_137 H (fun r24 σ23 H => ?_)
          refine g_icmp_eq 147 dX4_fits_140 (by decide) (fun c25 => ?_) (fun c25 => ?_)
          · replace H := H.1 c25
            refine g_iconst (v := (iI_ 0)) dX4_fits_147 (by decide) ?_
            exact g_zret rfl (by decide) dX4_fits_148 ⟨_, rfl, H⟩
          · replace H := H.2 c25
            refine g_iconst (v := (iI_ 1)) dX4_fits_143 (by decide) ?_
            refine g_goto 148 dX4_fits_144 (by decide) ?_
            exact g_zret rfl (by decide) dX4_fits_148 ⟨_, rfl, H⟩
    · cases ht
  · intro hx
    replace H := H.2.2.2.2.2 hx
    refine g_iload_n dX4_fits_149 0 rfl rfl ?_
    refine g_bipush (v := (iI_ 59)) dX4_fits_150 (by decide) ?_
    refine g_icmp_ne 159 dX4_fits_152 (by decide) (fun c26 => ?_) (fun c26 => ?_)
    · replace H := H.1 c26
      refine g_iconst (v := (iI_ 0)) dX4_fits_159 (by decide) ?_
      exact g_zret rfl (by decide) dX4_fits_160 ⟨_, rfl, H⟩
    · replace H := H.2 c26
      refine g_iconst (v := (iI_ 1)) dX4_fits_155 (by decide) ?_
      refine g_goto 160 dX4_fits_156 (by decide) ?_
      exact g_zret rfl (by decide) dX4_fits_160 ⟨_, rfl, H⟩
set_option maxHeartbeats 4000000 in
set_option maxRecDepth 100000 in
theorem eX4_sortOf (u : Ux_) {P : Int32 → St_ → Prop}  (σ : St_) (x0 : Int32) (H : ((x0 = (iI_ 98) → P (iI_ 1) σ) ∧ (x0 = (iI_ 100) → P (iI_ 2) σ) ∧ (x0 = (iI_ 115) → P (iI_ 0) σ) ∧ (¬ x0 = (iI_ 98) → ¬ x0 = (iI_ 100) → ¬ x0 = (iI_ 115) → P (iI_ (-1)) σ))) : MMi_ (zx_ u) mX4_sortOf [.int x0] σ P := by
  refine MM_.of (L := [(0, .int x0)]) (by decide +kernel) (Nat.le_of_ble_eq_true rfl) rfl ?_
  refine g_iload_n dX4_sortOf_0 0 rfl rfl ?_
  by_cases c1 : x0 = (iI_ 98)
  · replace H := H.1 c1
    refine g_lookup (off := 37) dX4_sortOf_1 (by decide +kernel) 38 (by rw [c1] <;> rfl) (by decide) ?_
    refine g_iconst (v := (iI_ 1)) dX4_sortOf_38 (by decide) ?_
    exact g_iret rfl dX4_sortOf_39 ⟨_, rfl, H⟩
  · skip
    by_cases c2 : x0 = (iI_ 100)
    · replace H := H.2.1 c2
      refine g_lookup (off := 39) dX4_sortOf_1 (by decide +kernel) 40 (by rw [c2] <;> rfl) (by decide) ?_
      refine g_iconst (v := (iI_ 2)) dX4_sortOf_40 (by decide) ?_
      exact g_iret rfl dX4_sortOf_41 ⟨_, rfl, H⟩
    · skip
      by_cases c3 : x0 = (iI_ 115)
      · replace H := H.2.2.1 c3
        refine g_lookup (off := 35) dX4_sortOf_1 (by decide +kernel) 36 (by rw [c3] <;> rfl) (by decide) ?_
        refine g_iconst (v := (iI_ 0)) dX4_sortOf_36 (by decide) ?_
        exact g_iret rfl dX4_sortOf_37 ⟨_, rfl, H⟩
      · skip
        replace H := H.2.2.2 c1 c2 c3
        refine g_lookup (off := 41) dX4_sortOf_1 (by decide +kernel) 42 (by show Op.lookupswitch.offset [(98, 37), (100, 39), (115, 35)] _ _ = _; rw [lv_osw c1 (by decide), lv_osw c2 (by decide), lv_osw c3 (by decide)] <;> rfl) (by decide) ?_
        refine g_iconst (v := (iI_ (-1))) dX4_sortOf_42 (by decide) ?_
        exact g_iret rfl dX4_sortOf_43 ⟨_, rfl, H⟩
set_option maxHeartbeats 4000000 in
set_option maxRecDepth 100000 in
theorem eX4_weightOf (u : Ux_) {P : Int32 → St_ → Prop}  (σ : St_) (x1 : Int32) (H : ((x1 < iI_ 0 → P (iI_ 0) σ) ∧ (¬ x1 < iI_ 0 → (((σ 3 0) ≤ x1 → P (iI_ 0) σ) ∧ (¬ (σ 3 0) ≤ x1 → vp_in x1 8 ∧ (((σ 5 (Int32.toNatClampNeg x1)) < iI_ 0 → P (iI_ 0) σ) ∧ (¬ (σ 5 (Int32.toNatClampNeg x1)) < iI_ 0 → (((iI_ 3) ≤ (σ 5 (Int32.toNatClampNeg x1)) → P (iI_ 0) σ) ∧ (¬ (iI_ 3) ≤ (σ 5 (Int32.toNatClampNeg x1)) → vp_in (σ 5 (Int32.toNatClampNeg x1)) 3 ∧ P (σ 8 (Int32.toNatClampNeg (σ 5 (Int32.toNatClampNeg x1)))) σ))))))))) : MMi_ (zx_ u) mX4_weightOf [.ref (uq_ u 2), .int x1] σ P := by
  refine MM_.of (L := [(0, .ref (uq_ u 2)), (1, .int x1)]) (by decide +kernel) (Nat.le_of_ble_eq_true rfl) rfl ?_
  refine g_iload_n dX4_weightOf_0 1 rfl rfl ?_
  refine g_if_lt 21 dX4_weightOf_1 (by decide) (fun c1 => ?_) (fun c1 => ?_)
  · replace H := H.1 c1
    refine g_iconst (v := (iI_ (-1))) dX4_weightOf_21 (by decide) ?_
    refine g_istore_n (L' := [(2, .int (iI_ (-1))), (0, .ref (uq_ u 2)), (1, .int x1)]) dX4_weightOf_22 rfl (by decide) rfl ?_
    refine g_iload_n dX4_weightOf_23 0 rfl rfl ?_
    refine g_if_lt 41 dX4_weightOf_24 (by decide) (fun c2 => ?_) (fun c2 => ?_)
    · skip
      refine g_iconst (v := (iI_ 0)) dX4_weightOf_41 (by decide) ?_
      exact g_iret rfl dX4_weightOf_42 ⟨_, rfl, H⟩
    · first | exact absurd c2 (by decide) | exact absurd (by decide) c2
  · replace H := H.2 c1
    refine g_iload_n dX4_weightOf_4 1 rfl rfl ?_
    refine g_aload_n dX4_weightOf_5 0 rfl rfl ?_
    refine gx_Roll_n w_102 rfl dX4_weightOf_6 ?_
    refine g_icmp_ge 21 dX4_weightOf_9 (by decide) (fun c3 => ?_) (fun c3 => ?_)
    · replace H := H.1 c3
      refine g_iconst (v := (iI_ (-1))) dX4_weightOf_21 (by decide) ?_
      refine g_istore_n (L' := [(2, .int (iI_ (-1))), (0, .ref (uq_ u 2)), (1, .int x1)]) dX4_weightOf_22 rfl (by decide) rfl ?_
      refine g_iload_n dX4_weightOf_23 0 rfl rfl ?_
      refine g_if_lt 41 dX4_weightOf_24 (by decide) (fun c4 => ?_) (fun c4 => ?_)
      · skip
        refine g_iconst (v := (iI_ 0)) dX4_weightOf_41 (by decide) ?_
        exact g_iret rfl dX4_weightOf_42 ⟨_, rfl, H⟩
      · first | exact absurd c4 (by decide) | exact absurd (by decide) c4
    · replace H := H.2 c3
      refine g_aload_n dX4_weightOf_12 0 rfl rfl ?_
      refine gx_Roll_sort w_108 rfl dX4_weightOf_13 ?_
      refine g_iload_n dX4_weightOf_16 1 rfl rfl ?_
      obtain ⟨h5, H⟩ := H
      refine ax_5 h5 dX4_weightOf_17 ?_
      refine g_goto 22 dX4_weightOf_18 (by decide) ?_
      refine g_istore_n (L' := [(2, .int (σ 5 (Int32.toNatClampNeg x1))), (0, .ref (uq_ u 2)), (1, .int x1)]) dX4_weightOf_22 rfl (by decide) rfl ?_
      refine g_iload_n dX4_weightOf_23 0 rfl rfl ?_
      refine g_if_lt 41 dX4_weightOf_24 (by decide) (fun c6 => ?_) (fun c6 => ?_)
      · replace H := H.1 c6
        refine g_iconst (v := (iI_ 0)) dX4_weightOf_41 (by decide) ?_
        exact g_iret rfl dX4_weightOf_42 ⟨_, rfl, H⟩
      · replace H := H.2 c6
        refine g_iload_n dX4_weightOf_27 0 rfl rfl ?_
        refine g_iconst (v := (iI_ 3)) dX4_weightOf_28 (by decide) ?_
        refine g_icmp_ge 41 dX4_weightOf_29 (by decide) (fun c7 => ?_) (fun c7 => ?_)
        · replace H := H.1 c7
          refine g_iconst (v := (iI_ 0)) dX4_weightOf_41 (by decide) ?_
          exact g_iret rfl dX4_weightOf_42 ⟨_, rfl, H⟩
        · replace H := H.2 c7
          refine g_aload_n dX4_weightOf_32 1 rfl rfl ?_
          refine gx_Roll_weight w_115 rfl dX4_weightOf_33 ?_
          refine g_iload_n dX4_weightOf_36 0 rfl rfl ?_
          obtain ⟨h8, H⟩ := H
          refine ax_8 h8 dX4_weightOf_37 ?_
          refine g_goto 42 dX4_weightOf_38 (by decide) ?_
          exact g_iret rfl dX4_weightOf_42 ⟨_, rfl, H⟩
set_option maxHeartbeats 4000000 in
set_option maxRecDepth 100000 in
theorem bX4_weightOfAll_4 (u : Ux_) {P : Int32 → St_ → Prop}  (σ : St_) (x1 : Int32) (x2 : Int32) (H : (((σ 3 0) ≤ x2 → P x1 σ) ∧ (¬ (σ 3 0) ≤ x2 → MMi_ (zx_ u) mX4_weightOf [.ref (uq_ u 2), .int x2] σ (fun r3 σ2 => GG_ (zx_ u) mX4_weightOfAll (Pi_ P) 4 [(0, .ref (uq_ u 2)), (1, .int (x1 + r3)), (2, .int (x2 + (iI_ 1)))] [] σ2)))) : GG_ (zx_ u) mX4_weightOfAll (Pi_ P) 4 [(0, .ref (uq_ u 2)), (1, .int x1), (2, .int x2)] [] σ := by
  refine g_iload_n dX4_weightOfAll_4 2 rfl rfl ?_
  refine g_aload_n dX4_weightOfAll_5 0 rfl rfl ?_
  refine gx_Roll_n w_102 rfl dX4_weightOfAll_6 ?_
  refine g_icmp_ge 26 dX4_weightOfAll_9 (by decide) (fun c1 => ?_) (fun c1 => ?_)
  · replace H := H.1 c1
    refine g_iload_n dX4_weightOfAll_26 1 rfl rfl ?_
    exact g_iret rfl dX4_weightOfAll_27 ⟨_, rfl, H⟩
  · replace H := H.2 c1
    refine g_iload_n dX4_weightOfAll_12 1 rfl rfl ?_
    refine g_aload_n dX4_weightOfAll_13 0 rfl rfl ?_
    refine g_iload_n dX4_weightOfAll_14 2 rfl rfl ?_
    refine k_X4_weightOf w_626 rfl ⟨Nat.le_of_ble_eq_true rfl, Nat.le_of_ble_eq_true rfl⟩ (Nat.le_of_ble_eq_true rfl) dX4_weightOfAll_15 H (fun r3 σ2 H => ?_)
    refine g_iadd dX4_weightOfAll_18 ?_
    refine g_istore_n (L' := [(1, .int (x1 + r3)), (0, .ref (uq_ u 2)), (2, .int x2)]) dX4_weightOfAll_19 rfl (by decide) rfl ?_
    refine g_iinc (v := (x2 + (iI_ 1))) (L' := [(2, .int (x2 + (iI_ 1))), (1, .int (x1 + r3)), (0, .ref (uq_ u 2))]) dX4_weightOfAll_20 2 rfl rfl (by decide) rfl ?_
    refine g_goto 4 dX4_weightOfAll_23 (by decide) ?_
    exact GG_.sub [2, 1, 0] rfl H
set_option maxHeartbeats 4000000 in
set_option maxRecDepth 100000 in
theorem eX4_weightOfAll (u : Ux_) {P : Int32 → St_ → Prop}  (σ : St_)  (H : GG_ (zx_ u) mX4_weightOfAll (Pi_ P) 4 [(0, .ref (uq_ u 2)), (1, .int (iI_ 0)), (2, .int (iI_ 0))] [] σ) : MMi_ (zx_ u) mX4_weightOfAll [.ref (uq_ u 2)] σ P := by
  refine MM_.of (L := [(0, .ref (uq_ u 2))]) (by decide +kernel) (Nat.le_of_ble_eq_true rfl) rfl ?_
  refine g_iconst (v := (iI_ 0)) dX4_weightOfAll_0 (by decide) ?_
  refine g_istore_n (L' := [(1, .int (iI_ 0)), (0, .ref (uq_ u 2))]) dX4_weightOfAll_1 rfl (by decide) rfl ?_
  refine g_iconst (v := (iI_ 0)) dX4_weightOfAll_2 (by decide) ?_
  refine g_istore_n (L' := [(2, .int (iI_ 0)), (1, .int (iI_ 0)), (0, .ref (uq_ u 2))]) dX4_weightOfAll_3 rfl (by decide) rfl ?_
  exact GG_.sub [2, 1, 0] rfl H
set_option maxHeartbeats 4000000 in
set_option maxRecDepth 100000 in
theorem bX4_lead_5 (u : Ux_) {P : Int32 → St_ → Prop}  (σ : St_) (x1 : Int32) (x2 : Int32) (x3 : Int32) (x4 : Int32) (H : (((σ 3 0) ≤ x4 → P x3 σ) ∧ (¬ (σ 3 0) ≤ x4 → vp_in x4 8 ∧ MMi_ (zx_ u) mX9_rather [.int (σ 7 (Int32.toNatClampNeg x4)), .int x1, .int x2] σ (fun r4 σ3 => ((r4 = iI_ 0 → GG_ (zx_ u) mX4_lead (Pi_ P) 5 [(0, .ref (uq_ u 2)), (1, .int x1), (2, .int x2), (3, .int (x3 + (iI_ (-1)))), (4, .int (x4 + (iI_ 1)))] [] σ3) ∧ (¬ r4 = iI_ 0 → GG_ (zx_ u) mX4_lead (Pi_ P) 5 [(0, .ref (uq_ u 2)), (1, .int x1), (2, .int x2), (3, .int (x3 + (iI_ 1))), (4, .int (x4 + (iI_ 1)))] [] σ3)))))) : GG_ (zx_ u) mX4_lead (Pi_ P) 5 [(0, .ref (uq_ u 2)), (1, .int x1), (2, .int x2), (3, .int x3), (4, .int x4)] [] σ := by
  refine g_iload dX4_lead_5 4 rfl ?_
  refine g_aload_n dX4_lead_7 0 rfl rfl ?_
  refine gx_Roll_n w_102 rfl dX4_lead_8 ?_
  refine g_icmp_ge 43 dX4_lead_11 (by decide) (fun c1 => ?_) (fun c1 => ?_)
  · replace H := H.1 c1
    refine g_iload_n dX4_lead_43 3 rfl rfl ?_
    exact g_iret rfl dX4_lead_44 ⟨_, rfl, H⟩
  · replace H := H.2 c1
    refine g_iload_n dX4_lead_14 3 rfl rfl ?_
    refine g_aload_n dX4_lead_15 0 rfl rfl ?_
    refine gx_Roll_order w_113 rfl dX4_lead_16 ?_
    refine g_iload dX4_lead_19 4 rfl ?_
    obtain ⟨h2, H⟩ := H
    refine ax_7 h2 dX4_lead_21 ?_
    refine g_iload_n dX4_lead_22 1 rfl rfl ?_
    refine g_iload_n dX4_lead_23 2 rfl rfl ?_
    refine k_X9_ratherN (List.mem_of_getElem? (i := 4) rfl) rfl ⟨Nat.le_of_ble_eq_true rfl, Nat.le_of_ble_eq_true rfl⟩ (Nat.le_of_ble_eq_true rfl) dX4_lead_24 H (fun r4 σ3 H => ?_)
    refine g_if_eq 34 dX4_lead_27 (by decide) (fun c5 => ?_) (fun c5 => ?_)
    · replace H := H.1 c5
      refine g_iconst (v := (iI_ (-1))) dX4_lead_34 (by decide) ?_
      refine g_iadd dX4_lead_35 ?_
      refine g_istore_n (L' := [(3, .int (x3 + (iI_ (-1)))), (0, .ref (uq_ u 2)), (1, .int x1), (2, .int x2), (4, .int x4)]) dX4_lead_36 rfl (by decide) rfl ?_
      refine g_iinc (v := (x4 + (iI_ 1))) (L' := [(4, .int (x4 + (iI_ 1))), (3, .int (x3 + (iI_ (-1)))), (0, .ref (uq_ u 2)), (1, .int x1), (2, .int x2)]) dX4_lead_37 4 rfl rfl (by decide) rfl ?_
      refine g_goto 5 dX4_lead_40 (by decide) ?_
      exact GG_.sub [2, 3, 4, 1, 0] rfl H
    · replace H := H.2 c5
      refine g_iconst (v := (iI_ 1)) dX4_lead_30 (by decide) ?_
      refine g_goto 35 dX4_lead_31 (by decide) ?_
      refine g_iadd dX4_lead_35 ?_
      refine g_istore_n (L' := [(3, .int (x3 + (iI_ 1))), (0, .ref (uq_ u 2)), (1, .int x1), (2, .int x2), (4, .int x4)]) dX4_lead_36 rfl (by decide) rfl ?_
      refine g_iinc (v := (x4 + (iI_ 1))) (L' := [(4, .int (x4 + (iI_ 1))), (3, .int (x3 + (iI_ 1))), (0, .ref (uq_ u 2)), (1, .int x1), (2, .int x2)]) dX4_lead_37 4 rfl rfl (by decide) rfl ?_
      refine g_goto 5 dX4_lead_40 (by decide) ?_
      exact GG_.sub [2, 3, 4, 1, 0] rfl H
set_option maxHeartbeats 4000000 in
set_option maxRecDepth 100000 in
theorem eX4_lead (u : Ux_) {P : Int32 → St_ → Prop}  (σ : St_) (x1 : Int32) (x2 : Int32) (H : GG_ (zx_ u) mX4_lead (Pi_ P) 5 [(0, .ref (uq_ u 2)), (1, .int x1), (2, .int x2), (3, .int (iI_ 0)), (4, .int (iI_ 0))] [] σ) : MMi_ (zx_ u) mX4_lead [.ref (uq_ u 2), .int x1, .int x2] σ P := by
  refine MM_.of (L := [(0, .ref (uq_ u 2)), (1, .int x1), (2, .int x2)]) (by decide +kernel) (Nat.le_of_ble_eq_true rfl) rfl ?_
  refine g_iconst (v := (iI_ 0)) dX4_lead_0 (by decide) ?_
  refine g_istore_n (L' := [(3, .int (iI_ 0)), (0, .ref (uq_ u 2)), (1, .int x1), (2, .int x2)]) dX4_lead_1 rfl (by decide) rfl ?_
  refine g_iconst (v := (iI_ 0)) dX4_lead_2 (by decide) ?_
  refine g_istore (L' := [(4, .int (iI_ 0)), (3, .int (iI_ 0)), (0, .ref (uq_ u 2)), (1, .int x1), (2, .int x2)]) dX4_lead_3 (by decide) rfl ?_
  exact GG_.sub [2, 3, 4, 1, 0] rfl H
set_option maxHeartbeats 4000000 in
set_option maxRecDepth 100000 in
theorem bX5_turning_27 (u : Ux_) {P : Int32 → St_ → Prop}  (σ : St_) (x1 : Int32) (x2 : Int32) (x3 : Int32) (x4 : Int32) (x5 : Int32) (H : ((((iI_ 1) <<< ((σ 3 0) &&& 31)) ≤ x5 → P x4 σ) ∧ (¬ ((iI_ 1) <<< ((σ 3 0) &&& 31)) ≤ x5 → vp_in x5 256 ∧ ((¬ ((x5 >>> (x1 &&& 31)) &&& (iI_ 1)) = iI_ 0 → GG_ (zx_ u) mX5_turning (Pi_ P) 64 [(0, .ref (uq_ u 25)), (1, .int x1), (2, .int x2), (3, .int x3), (4, .int x4), (5, .int x5), (6, .int (σ 33 (Int32.toNatClampNeg x5)))] [.int (iI_ 0)] σ) ∧ (((x5 >>> (x1 &&& 31)) &&& (iI_ 1)) = iI_ 0 → GG_ (zx_ u) mX5_turning (Pi_ P) 64 [(0, .ref (uq_ u 25)), (1, .int x1), (2, .int x2), (3, .int x3), (4, .int x4), (5, .int x5), (6, .int (σ 33 (Int32.toNatClampNeg x5)))] [.int (iI_ 1)] σ))))) : GG_ (zx_ u) mX5_turning (Pi_ P) 27 [(0, .ref (uq_ u 25)), (1, .int x1), (2, .int x2), (3, .int x3), (4, .int x4), (5, .int x5)] [] σ := by
  refine g_iload dX5_turning_27 5 rfl ?_
  refine g_iconst (v := (iI_ 1)) dX5_turning_29 (by decide) ?_
  refine g_aload_n dX5_turning_30 0 rfl rfl ?_
  refine gx_Shares_roll w_278 rfl dX5_turning_31 ?_
  refine gx_Roll_n w_104 rfl dX5_turning_34 ?_
  refine g_ishl dX5_turning_37 ?_
  refine g_icmp_ge 128 dX5_turning_38 (by decide) (fun c1 => ?_) (fun c1 => ?_)
  · replace H := H.1 c1
    refine g_iload dX5_turning_128 4 rfl ?_
    exact g_iret rfl dX5_turning_130 ⟨_, rfl, H⟩
  · replace H := H.2 c1
    refine g_aload_n dX5_turning_41 0 rfl rfl ?_
    refine gx_Shares_weightOfSet w_279 rfl dX5_turning_42 ?_
    refine g_iload dX5_turning_45 5 rfl ?_
    obtain ⟨h2, H⟩ := H
    refine ax_33 h2 dX5_turning_47 ?_
    refine g_istore (L' := [(6, .int (σ 33 (Int32.toNatClampNeg x5))), (0, .ref (uq_ u 25)), (1, .int x1), (2, .int x2), (3, .int x3), (4, .int x4), (5, .int x5)]) dX5_turning_48 (by decide) rfl ?_
    refine g_iload dX5_turning_50 6 rfl ?_
    refine g_iload_n dX5_turning_52 2 rfl rfl ?_
    refine g_ishr dX5_turning_53 ?_
    refine g_iconst (v := (iI_ 1)) dX5_turning_54 (by decide) ?_
    refine g_iand dX5_turning_55 ?_
    refine g_if_ne 63 dX5_turning_56 (by decide) (fun c3 => ?_) (fun c3 => ?_)
    · replace H := H.1 c3
      refine g_iconst (v := (iI_ 0)) dX5_turning_63 (by decide) ?_
      exact GG_.sub [1, 2, 3, 4, 5, 6, 0] rfl H
    · replace H := H.2 c3
      refine g_iconst (v := (iI_ 1)) dX5_turning_59 (by decide) ?_
      refine g_goto 64 dX5_turning_60 (by decide) ?_
      exact GG_.sub [1, 2, 3, 4, 5, 6, 0] rfl H
set_option maxHeartbeats 4000000 in
set_option maxRecDepth 100000 in
theorem bX5_turning_64 (u : Ux_) {P : Int32 → St_ → Prop}  (σ : St_) (x1 : Int32) (x2 : Int32) (x3 : Int32) (x4 : Int32) (x5 : Int32) (x6 : Int32) (y0 : Int32) (H : ((y0 = iI_ 0 → GG_ (zx_ u) mX5_turning (Pi_ P) 27 [(0, .ref (uq_ u 25)), (1, .int x1), (2, .int x2), (3, .int x3), (4, .int x4), (5, .int (x5 + (iI_ 1)))] [] σ) ∧ (¬ y0 = iI_ 0 → ((x2 < ((iI_ 2) * x6) → GG_ (zx_ u) mX5_turning (Pi_ P) 27 [(0, .ref (uq_ u 25)), (1, .int x1), (2, .int x2), (3, .int x3), (4, .int x4), (5, .int (x5 + (iI_ 1)))] [] σ) ∧ (¬ x2 < ((iI_ 2) * x6) → ((((iI_ 2) * (x6 + x3)) ≤ x2 → GG_ (zx_ u) mX5_turning (Pi_ P) 27 [(0, .ref (uq_ u 25)), (1, .int x1), (2, .int x2), (3, .int x3), (4, .int x4), (5, .int (x5 + (iI_ 1)))] [] σ) ∧ (¬ ((iI_ 2) * (x6 + x3)) ≤ x2 → MMi_ (zx_ u) mJ6_bitCount_0f7a4 [.int x5] σ (fun r5 σ4 => MMi_ (zx_ u) mX9_factorial [.int r5] σ4 (fun r7 σ6 => MMi_ (zx_ u) mX9_factorial [.int (((σ6 3 0) - (iI_ 1)) - r5)] σ6 (fun r9 σ8 => GG_ (zx_ u) mX5_turning (Pi_ P) 27 [(0, .ref (uq_ u 25)), (1, .int x1), (2, .int x2), (3, .int x3), (4, .int (x4 + (r7 * r9))), (5, .int (x5 + (iI_ 1)))] [] σ8)))))))))) : GG_ (zx_ u) mX5_turning (Pi_ P) 64 [(0, .ref (uq_ u 25)), (1, .int x1), (2, .int x2), (3, .int x3), (4, .int x4), (5, .int x5), (6, .int x6)] [.int y0] σ := by
  refine g_istore (L' := [(7, .int y0), (0, .ref (uq_ u 25)), (1, .int x1), (2, .int x2), (3, .int x3), (4, .int x4), (5, .int x5), (6, .int x6)]) dX5_turning_64 (by decide) rfl ?_
  refine g_iload dX5_turning_66 0 rfl ?_
  refine g_if_eq 122 dX5_turning_68 (by decide) (fun c1 => ?_) (fun c1 => ?_)
  · replace H := H.1 c1
    refine g_iinc (v := (x5 + (iI_ 1))) (L' := [(5, .int (x5 + (iI_ 1))), (7, .int y0), (0, .ref (uq_ u 25)), (1, .int x1), (2, .int x2), (3, .int x3), (4, .int x4), (6, .int x6)]) dX5_turning_122 6 rfl rfl (by decide) rfl ?_
    refine g_goto 27 dX5_turning_125 (by decide) ?_
    exact GG_.sub [2, 3, 4, 5, 6, 0] rfl H
  · replace H := H.2 c1
    refine g_iconst (v := (iI_ 2)) dX5_turning_71 (by decide) ?_
    refine g_iload dX5_turning_72 7 rfl ?_
    refine g_imul dX5_turning_74 ?_
    refine g_iload_n dX5_turning_75 3 rfl rfl ?_
    refine g_icmp_gt 122 dX5_turning_76 (by decide) (fun c2 => ?_) (fun c2 => ?_)
    · replace H := H.1 c2
      refine g_iinc (v := (x5 + (iI_ 1))) (L' := [(5, .int (x5 + (iI_ 1))), (7, .int y0), (0, .ref (uq_ u 25)), (1, .int x1), (2, .int x2), (3, .int x3), (4, .int x4), (6, .int x6)]) dX5_turning_122 6 rfl rfl (by decide) rfl ?_
      refine g_goto 27 dX5_turning_125 (by decide) ?_
      exact GG_.sub [2, 3, 4, 5, 6, 0] rfl H
    · replace H := H.2 c2
      refine g_iconst (v := (iI_ 2)) dX5_turning_79 (by decide) ?_
      refine g_iload dX5_turning_80 7 rfl ?_
      refine g_iload_n dX5_turning_82 4 rfl rfl ?_
      refine g_iadd dX5_turning_83 ?_
      refine g_imul dX5_turning_84 ?_
      refine g_iload_n dX5_turning_85 3 rfl rfl ?_
      refine g_icmp_le 122 dX5_turning_86 (by decide) (fun c3 => ?_) (fun c3 => ?_)
      · replace H := H.1 c3
        refine g_iinc (v := (x5 + (iI_ 1))) (L' := [(5, .int (x5 + (iI_ 1))), (7, .int y0), (0, .ref (uq_ u 25)), (1, .int x1), (2, .int x2), (3, .int x3), (4, .int x4), (6, .int x6)]) dX5_turning_122 6 rfl rfl (by decide) rfl ?_
        refine g_goto 27 dX5_turning_125 (by decide) ?_
        exact GG_.sub [2, 3, 4, 5, 6, 0] rfl H
      · replace H := H.2 c3
        refine g_iload dX5_turning_89 6 rfl ?_
        refine k_J6_bitCount_0f7a4 w_627 rfl ⟨Nat.le_of_ble_eq_true rfl, Nat.le_of_ble_eq_true rfl⟩ (Nat.le_of_ble_eq_true rfl) dX5_turning_91 H (fun r5 σ4 H => ?_)
        refine g_istore (L' := [(8, .int r5), (7, .int y0), (0, .ref (uq_ u 25)), (1, .int x1), (2, .int x2), (3, .int x3), (4, .int x4), (5, .int x5), (6, .int x6)]) dX5_turning_94 (by decide) rfl ?_
        refine g_iload dX5_turning_96 6 rfl ?_
        refine g_iload dX5_turning_98 0 rfl ?_
        refine k_X9_factorialN (List.mem_of_getElem? (i := 3) rfl) rfl ⟨Nat.le_of_ble_eq_true rfl, Nat.le_of_ble_eq_true rfl⟩ (Nat.le_of_ble_eq_true rfl) dX5_turning_100 H (fun r7 σ6 H => ?_)
        refine g_aload_n dX5_turning_103 2 rfl rfl ?_
        refine gx_Shares_roll w_278 rfl dX5_turning_104 ?_
        refine gx_Roll_n w_104 rfl dX5_turning_107 ?_
        refine g_iconst (v := (iI_ 1)) dX5_turning_110 (by decide) ?_
        refine g_isub dX5_turning_111 ?_
        refine g_iload dX5_turning_112 0 rfl ?_
        refine g_isub dX5_turning_114 ?_
        refine k_X9_factorialN (List.mem_of_getElem? (i := 3) rfl) rfl ⟨Nat.le_of_ble_eq_true rfl, Nat.le_of_ble_eq_true rfl⟩ (Nat.le_of_ble_eq_true rfl) dX5_turning_115 H (fun r9 σ8 H => ?_)
        refine g_imul dX5_turning_118 ?_
        refine g_iadd dX5_turning_119 ?_
        refine g_istore (L' := [(4, .int (x4 + (r7 * r9))), (8, .int r5), (7, .int y0), (0, .ref (uq_ u 25)), (1, .int x1), (2, .int x2), (3, .int x3), (5, .int x5), (6, .int x6)]) dX5_turning_120 (by decide) rfl ?_
        refine g_iinc (v := (x5 + (iI_ 1))) (L' := [(5, .int (x5 + (iI_ 1))), (4, .int (x4 + (r7 * r9))), (8, .int r5), (7, .int y0), (0, .ref (uq_ u 25)), (1, .int x1), (2, .int x2), (3, .int x3), (6, .int x6)]) dX5_turning_122 7 rfl rfl (by decide) rfl ?_
        refine g_goto 27 dX5_turning_125 (by decide) ?_
        exact GG_.sub [4, 5, 6, 7, 1, 0] rfl H
set_option maxHeartbeats 4000000 in
set_option maxRecDepth 100000 in
theorem eX5_turning (u : Ux_) {P : Int32 → St_ → Prop}  (σ : St_) (x1 : Int32) (H : MMv_ (zx_ u) mX5_weighSets [.ref (uq_ u 25)] σ (fun σ1 => MMi_ (zx_ u) mX4_weightOfAll [.ref (uq_ u 2)] σ1 (fun r3 σ2 => MMi_ (zx_ u) mX4_weightOf [.ref (uq_ u 2), .int x1] σ2 (fun r5 σ4 => GG_ (zx_ u) mX5_turning (Pi_ P) 27 [(0, .ref (uq_ u 25)), (1, .int x1), (2, .int r3), (3, .int r5), (4, .int (iI_ 0)), (5, .int (iI_ 0))] [] σ4)))) : MMi_ (zx_ u) mX5_turning [.ref (uq_ u 25), .int x1] σ P := by
  refine MM_.of (L := [(0, .ref (uq_ u 25)), (1, .int x1)]) (by decide +kernel) (Nat.le_of_ble_eq_true rfl) rfl ?_
  refine g_aload_n dX5_turning_0 0 rfl rfl ?_
  refine k_X5_weighSets w_617 rfl ⟨Nat.le_of_ble_eq_true rfl, Nat.le_of_ble_eq_true rfl⟩ (Nat.le_of_ble_eq_true rfl) dX5_turning_1 H (fun σ1 H => ?_)
  refine g_aload_n dX5_turning_4 0 rfl rfl ?_
  refine gx_Shares_roll w_278 rfl dX5_turning_5 ?_
  refine k_X4_weightOfAll w_622 rfl ⟨Nat.le_of_ble_eq_true rfl, Nat.le_of_ble_eq_true rfl⟩ (Nat.le_of_ble_eq_true rfl) dX5_turning_8 H (fun r3 σ2 H => ?_)
  refine g_istore_n (L' := [(2, .int r3), (0, .ref (uq_ u 25)), (1, .int x1)]) dX5_turning_11 rfl (by decide) rfl ?_
  refine g_aload_n dX5_turning_12 1 rfl rfl ?_
  refine gx_Shares_roll w_278 rfl dX5_turning_13 ?_
  refine g_iload_n dX5_turning_16 2 rfl rfl ?_
  refine k_X4_weightOf w_621 rfl ⟨Nat.le_of_ble_eq_true rfl, Nat.le_of_ble_eq_true rfl⟩ (Nat.le_of_ble_eq_true rfl) dX5_turning_17 H (fun r5 σ4 H => ?_)
  refine g_istore_n (L' := [(3, .int r5), (2, .int r3), (0, .ref (uq_ u 25)), (1, .int x1)]) dX5_turning_20 rfl (by decide) rfl ?_
  refine g_iconst (v := (iI_ 0)) dX5_turning_21 (by decide) ?_
  refine g_istore (L' := [(4, .int (iI_ 0)), (3, .int r5), (2, .int r3), (0, .ref (uq_ u 25)), (1, .int x1)]) dX5_turning_22 (by decide) rfl ?_
  refine g_iconst (v := (iI_ 0)) dX5_turning_24 (by decide) ?_
  refine g_istore (L' := [(5, .int (iI_ 0)), (4, .int (iI_ 0)), (3, .int r5), (2, .int r3), (0, .ref (uq_ u 25)), (1, .int x1)]) dX5_turning_25 (by decide) rfl ?_
  exact GG_.sub [4, 5, 3, 2, 1, 0] rfl H
