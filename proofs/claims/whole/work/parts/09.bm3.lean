set_option maxHeartbeats 4000000 in
set_option maxRecDepth 100000 in
theorem bX10_pleasedNow_8 (u : Ux_) {P : Int32 → St_ → Prop}  (σ : St_) (x1 : Int32) (x2 : Int32) (H : (((σ 2 0) ≤ x2 → P x1 σ) ∧ (¬ (σ 2 0) ≤ x2 → ((x1 = (iI_ (-1)) → GG_ (zm_ u) mX10_pleasedNow (Pi_ P) 8 [(0, .ref (uq_ u 0)), (1, .int x2), (2, .int (x2 + (iI_ 1)))] [] σ) ∧ (¬ x1 = (iI_ (-1)) → MMi_ (zm_ u) mX10_pleasures [.ref (uq_ u 0), .int x2] σ (fun r4 σ3 => MMi_ (zm_ u) mX10_pleasures [.ref (uq_ u 0), .int x1] σ3 (fun r6 σ5 => ((r4 ≤ r6 → GG_ (zm_ u) mX10_pleasedNow (Pi_ P) 8 [(0, .ref (uq_ u 0)), (1, .int x1), (2, .int (x2 + (iI_ 1)))] [] σ5) ∧ (¬ r4 ≤ r6 → GG_ (zm_ u) mX10_pleasedNow (Pi_ P) 8 [(0, .ref (uq_ u 0)), (1, .int x2), (2, .int (x2 + (iI_ 1)))] [] σ5))))))))) : GG_ (zm_ u) mX10_pleasedNow (Pi_ P) 8 [(0, .ref (uq_ u 0)), (1, .int x1), (2, .int x2)] [] σ := by
  refine g_iload_n dX10_pleasedNow_8 2 rfl rfl ?_
  refine g_aload_n dX10_pleasedNow_9 0 rfl rfl ?_
  refine gm_LinenHouseModel_members w_815 rfl dX10_pleasedNow_10 ?_
  refine g_icmp_ge 46 dX10_pleasedNow_13 (by decide) (fun c1 => ?_) (fun c1 => ?_)
  · replace H := H.1 c1
    refine g_iload_n dX10_pleasedNow_46 1 rfl rfl ?_
    exact g_iret rfl dX10_pleasedNow_47 ⟨_, rfl, H⟩
  · replace H := H.2 c1
    refine g_iload_n dX10_pleasedNow_16 1 rfl rfl ?_
    refine g_iconst (v := (iI_ (-1))) dX10_pleasedNow_17 (by decide) ?_
    refine g_icmp_eq 34 dX10_pleasedNow_18 (by decide) (fun c2 => ?_) (fun c2 => ?_)
    · replace H := H.1 c2
      refine g_iload_n dX10_pleasedNow_34 2 rfl rfl ?_
      refine g_goto 39 dX10_pleasedNow_35 (by decide) ?_
      refine g_istore_n (L' := [(1, .int x2), (0, .ref (uq_ u 0)), (2, .int x2)]) dX10_pleasedNow_39 rfl (by decide) rfl ?_
      refine g_iinc (v := (x2 + (iI_ 1))) (L' := [(2, .int (x2 + (iI_ 1))), (1, .int x2), (0, .ref (uq_ u 0))]) dX10_pleasedNow_40 2 rfl rfl (by decide) rfl ?_
      refine g_goto 8 dX10_pleasedNow_43 (by decide) ?_
      exact GG_.sub [2, 1, 0] rfl H
    · replace H := H.2 c2
      refine g_aload_n dX10_pleasedNow_21 0 rfl rfl ?_
      refine g_iload_n dX10_pleasedNow_22 2 rfl rfl ?_
      refine k_X10_pleasures w_1131 rfl ⟨Nat.le_of_ble_eq_true rfl, Nat.le_of_ble_eq_true rfl⟩ (Nat.le_of_ble_eq_true rfl) dX10_pleasedNow_23 H (fun r4 σ3 H => ?_)
      refine g_aload_n dX10_pleasedNow_26 0 rfl rfl ?_
      refine g_iload_n dX10_pleasedNow_27 1 rfl rfl ?_
      refine k_X10_pleasures w_1131 rfl ⟨Nat.le_of_ble_eq_true rfl, Nat.le_of_ble_eq_true rfl⟩ (Nat.le_of_ble_eq_true rfl) dX10_pleasedNow_28 H (fun r6 σ5 H => ?_)
      refine g_icmp_le 38 dX10_pleasedNow_31 (by decide) (fun c7 => ?_) (fun c7 => ?_)
      · replace H := H.1 c7
        refine g_iload_n dX10_pleasedNow_38 1 rfl rfl ?_
        refine g_istore_n (L' := [(1, .int x1), (0, .ref (uq_ u 0)), (2, .int x2)]) dX10_pleasedNow_39 rfl (by decide) rfl ?_
        refine g_iinc (v := (x2 + (iI_ 1))) (L' := [(2, .int (x2 + (iI_ 1))), (1, .int x1), (0, .ref (uq_ u 0))]) dX10_pleasedNow_40 2 rfl rfl (by decide) rfl ?_
        refine g_goto 8 dX10_pleasedNow_43 (by decide) ?_
        exact GG_.sub [2, 1, 0] rfl H
      · replace H := H.2 c7
        refine g_iload_n dX10_pleasedNow_34 2 rfl rfl ?_
        refine g_goto 39 dX10_pleasedNow_35 (by decide) ?_
        refine g_istore_n (L' := [(1, .int x2), (0, .ref (uq_ u 0)), (2, .int x2)]) dX10_pleasedNow_39 rfl (by decide) rfl ?_
        refine g_iinc (v := (x2 + (iI_ 1))) (L' := [(2, .int (x2 + (iI_ 1))), (1, .int x2), (0, .ref (uq_ u 0))]) dX10_pleasedNow_40 2 rfl rfl (by decide) rfl ?_
        refine g_goto 8 dX10_pleasedNow_43 (by decide) ?_
        exact GG_.sub [2, 1, 0] rfl H
set_option maxHeartbeats 4000000 in
set_option maxRecDepth 100000 in
theorem eX10_pleasedNow (u : Ux_) {P : Int32 → St_ → Prop}  (σ : St_)  (H : MMv_ (zm_ u) mX10_runsTold [.ref (uq_ u 0)] σ (fun σ1 => GG_ (zm_ u) mX10_pleasedNow (Pi_ P) 8 [(0, .ref (uq_ u 0)), (1, .int (iI_ (-1))), (2, .int (iI_ 0))] [] σ1)) : MMi_ (zm_ u) mX10_pleasedNow [.ref (uq_ u 0)] σ P := by
  refine MM_.of (L := [(0, .ref (uq_ u 0))]) (by decide +kernel) (Nat.le_of_ble_eq_true rfl) rfl ?_
  refine g_aload_n dX10_pleasedNow_0 0 rfl rfl ?_
  refine k_X10_runsTold w_1059 rfl ⟨Nat.le_of_ble_eq_true rfl, Nat.le_of_ble_eq_true rfl⟩ (Nat.le_of_ble_eq_true rfl) dX10_pleasedNow_1 H (fun σ1 H => ?_)
  refine g_iconst (v := (iI_ (-1))) dX10_pleasedNow_4 (by decide) ?_
  refine g_istore_n (L' := [(1, .int (iI_ (-1))), (0, .ref (uq_ u 0))]) dX10_pleasedNow_5 rfl (by decide) rfl ?_
  refine g_iconst (v := (iI_ 0)) dX10_pleasedNow_6 (by decide) ?_
  refine g_istore_n (L' := [(2, .int (iI_ 0)), (1, .int (iI_ (-1))), (0, .ref (uq_ u 0))]) dX10_pleasedNow_7 rfl (by decide) rfl ?_
  exact GG_.sub [2, 1, 0] rfl H
set_option maxHeartbeats 4000000 in
set_option maxRecDepth 100000 in
theorem eX10_pleased (u : Ux_) {P : Int32 → St_ → Prop}  (σ : St_)  (H : MMi_ (zm_ u) mX10_pleasedNow [.ref (uq_ u 0)] σ (fun r2 σ1 => P r2 σ1)) : MMi_ (zm_ u) mX10_pleased [.ref (uq_ u 0)] σ P := by
  refine MM_.of (L := [(0, .ref (uq_ u 0))]) (by decide +kernel) (Nat.le_of_ble_eq_true rfl) rfl ?_
  refine g_aload_n dX10_pleased_0 0 rfl rfl ?_
  refine k_X10_pleasedNow w_1127 rfl ⟨Nat.le_of_ble_eq_true rfl, Nat.le_of_ble_eq_true rfl⟩ (Nat.le_of_ble_eq_true rfl) dX10_pleased_1 H (fun r2 σ1 H => ?_)
  exact g_iret rfl dX10_pleased_4 ⟨_, rfl, H⟩
set_option maxHeartbeats 4000000 in
set_option maxRecDepth 100000 in
theorem eX10_isTurned (u : Ux_) {P : Int32 → St_ → Prop}  (σ : St_) (x1 : Int32) (x2 : Int32) (x3 : Int32) (H : (∀ σ1, σ1 = su_ σ 24 0 x1 → (∀ σ2, σ2 = su_ σ1 25 0 x2 → MMv_ (zm_ u) mX10_runs [.ref (uq_ u 0)] σ2 (fun σ3 => vp_in x1 10 ∧ (((σ3 31 (Int32.toNatClampNeg x1)) = x3 → P (iI_ 0) σ3) ∧ (¬ (σ3 31 (Int32.toNatClampNeg x1)) = x3 → P (iI_ 1) σ3)))))) : MMi_ (zm_ u) mX10_isTurned [.ref (uq_ u 0), .int x1, .int x2, .int x3] σ P := by
  refine MM_.of (L := [(0, .ref (uq_ u 0)), (1, .int x1), (2, .int x2), (3, .int x3)]) (by decide +kernel) (Nat.le_of_ble_eq_true rfl) rfl ?_
  refine g_aload_n dX10_isTurned_0 0 rfl rfl ?_
  refine g_iload_n dX10_isTurned_1 1 rfl rfl ?_
  refine pm_LinenHouseModel_liftNight w_837 rfl dX10_isTurned_2 ?_
  obtain ⟨σ1, e_σ1⟩ : ∃ q : St_, q = su_ σ 24 0 x1 := ⟨_, rfl⟩
  rw [← e_σ1]
  replace H := H σ1 e_σ1
  refine g_aload_n dX10_isTurned_5 0 rfl rfl ?_
  refine g_iload_n dX10_isTurned_6 2 rfl rfl ?_
  refine pm_LinenHouseModel_liftBits w_838 rfl dX10_isTurned_7 ?_
  obtain ⟨σ2, e_σ2⟩ : ∃ q : St_, q = su_ σ1 25 0 x2 := ⟨_, rfl⟩
  rw [← e_σ2]
  replace H := H σ2 e_σ2
  refine g_aload_n dX10_isTurned_10 0 rfl rfl ?_
  refine k_X10_runs w_1067 rfl ⟨Nat.le_of_ble_eq_true rfl, Nat.le_of_ble_eq_true rfl⟩ (Nat.le_of_ble_eq_true rfl) dX10_isTurned_11 H (fun σ3 H => ?_)
  refine g_aload_n dX10_isTurned_14 0 rfl rfl ?_
  refine gm_LinenHouseModel_carried w_844 rfl dX10_isTurned_15 ?_
  refine g_iload_n dX10_isTurned_18 1 rfl rfl ?_
  obtain ⟨h4, H⟩ := H
  refine am_31 h4 dX10_isTurned_19 ?_
  refine g_iload_n dX10_isTurned_20 3 rfl rfl ?_
  refine g_icmp_eq 28 dX10_isTurned_21 (by decide) (fun c5 => ?_) (fun c5 => ?_)
  · replace H := H.1 c5
    refine g_iconst (v := (iI_ 0)) dX10_isTurned_28 (by decide) ?_
    exact g_zret rfl (by decide) dX10_isTurned_29 ⟨_, rfl, H⟩
  · replace H := H.2 c5
    refine g_iconst (v := (iI_ 1)) dX10_isTurned_24 (by decide) ?_
    refine g_goto 29 dX10_isTurned_25 (by decide) ?_
    exact g_zret rfl (by decide) dX10_isTurned_29 ⟨_, rfl, H⟩
set_option maxHeartbeats 4000000 in
set_option maxRecDepth 100000 in
theorem bX10_liftBy_20 (u : Ux_) {P : Int32 → St_ → Prop}  (σ : St_) (x1 : Int32) (x2 : Int32) (x3 : Int32) (H : (((σ 2 0) ≤ x3 → GG_ (zm_ u) mX10_liftBy (Pi_ P) 57 [(0, .ref (uq_ u 0)), (1, .int x1), (2, .int x2), (3, .int (iI_ 0))] [] σ) ∧ (¬ (σ 2 0) ≤ x3 → (∀ σ2, σ2 = su_ σ 32 (Int32.toNatClampNeg (iI_ 0)) x3 → MMi_ (zm_ u) mX10_isTurned [.ref (uq_ u 0), .int x1, .int ((iI_ 1) <<< (x3 &&& 31)), .int x2] σ2 (fun r4 σ3 => ((r4 = iI_ 0 → GG_ (zm_ u) mX10_liftBy (Pi_ P) 20 [(0, .ref (uq_ u 0)), (1, .int x1), (2, .int x2), (3, .int (x3 + (iI_ 1)))] [] σ3) ∧ (¬ r4 = iI_ 0 → P (iI_ 1) σ3))))))) : GG_ (zm_ u) mX10_liftBy (Pi_ P) 20 [(0, .ref (uq_ u 0)), (1, .int x1), (2, .int x2), (3, .int x3)] [] σ := by
  refine g_iload_n dX10_liftBy_20 3 rfl rfl ?_
  refine g_aload_n dX10_liftBy_21 0 rfl rfl ?_
  refine gm_LinenHouseModel_members w_815 rfl dX10_liftBy_22 ?_
  refine g_icmp_ge 55 dX10_liftBy_25 (by decide) (fun c1 => ?_) (fun c1 => ?_)
  · replace H := H.1 c1
    refine g_iconst (v := (iI_ 0)) dX10_liftBy_55 (by decide) ?_
    refine g_istore_n (L' := [(3, .int (iI_ 0)), (0, .ref (uq_ u 0)), (1, .int x1), (2, .int x2)]) dX10_liftBy_56 rfl (by decide) rfl ?_
    exact GG_.sub [1, 2, 3, 0] rfl H
  · replace H := H.2 c1
    refine g_aload_n dX10_liftBy_28 0 rfl rfl ?_
    refine gm_LinenHouseModel_planRow w_845 rfl dX10_liftBy_29 ?_
    refine g_iconst (v := (iI_ 0)) dX10_liftBy_32 (by decide) ?_
    refine g_iload_n dX10_liftBy_33 3 rfl rfl ?_
    refine sm_32 (by unfold vp_in; decide) dX10_liftBy_34 ?_
    obtain ⟨σ2, e_σ2⟩ : ∃ q : St_, q = su_ σ 32 (Int32.toNatClampNeg (iI_ 0)) x3 := ⟨_, rfl⟩
    rw [← e_σ2]
    replace H := H σ2 e_σ2
    refine g_aload_n dX10_liftBy_35 0 rfl rfl ?_
    refine g_iload_n dX10_liftBy_36 1 rfl rfl ?_
    refine g_iconst (v := (iI_ 1)) dX10_liftBy_37 (by decide) ?_
    refine g_iload_n dX10_liftBy_38 3 rfl rfl ?_
    refine g_ishl dX10_liftBy_39 ?_
    refine g_iload_n dX10_liftBy_40 2 rfl rfl ?_
    refine k_X10_isTurned w_1143 rfl ⟨Nat.le_of_ble_eq_true rfl, Nat.le_of_ble_eq_true rfl⟩ (Nat.le_of_ble_eq_true rfl) dX10_liftBy_41 H (fun r4 σ3 H => ?_)
    refine g_if_eq 49 dX10_liftBy_44 (by decide) (fun c5 => ?_) (fun c5 => ?_)
    · replace H := H.1 c5
      refine g_iinc (v := (x3 + (iI_ 1))) (L' := [(3, .int (x3 + (iI_ 1))), (0, .ref (uq_ u 0)), (1, .int x1), (2, .int x2)]) dX10_liftBy_49 3 rfl rfl (by decide) rfl ?_
      refine g_goto 20 dX10_liftBy_52 (by decide) ?_
      exact GG_.sub [1, 2, 3, 0] rfl H
    · replace H := H.2 c5
      refine g_iconst (v := (iI_ 1)) dX10_liftBy_47 (by decide) ?_
      exact g_iret rfl dX10_liftBy_48 ⟨_, rfl, H⟩
set_option maxHeartbeats 4000000 in
set_option maxRecDepth 100000 in
theorem bX10_liftBy_57 (u : Ux_) {P : Int32 → St_ → Prop}  (σ : St_) (x1 : Int32) (x2 : Int32) (x3 : Int32) (H : (((σ 2 0) ≤ x3 → P (iI_ (-1)) σ) ∧ (¬ (σ 2 0) ≤ x3 → GG_ (zm_ u) mX10_liftBy (Pi_ P) 70 [(0, .ref (uq_ u 0)), (1, .int x1), (2, .int x2), (3, .int x3), (4, .int (x3 + (iI_ 1)))] [] σ))) : GG_ (zm_ u) mX10_liftBy (Pi_ P) 57 [(0, .ref (uq_ u 0)), (1, .int x1), (2, .int x2), (3, .int x3)] [] σ := by
  refine g_iload_n dX10_liftBy_57 3 rfl rfl ?_
  refine g_aload_n dX10_liftBy_58 0 rfl rfl ?_
  refine gm_LinenHouseModel_members w_815 rfl dX10_liftBy_59 ?_
  refine g_icmp_ge 125 dX10_liftBy_62 (by decide) (fun c1 => ?_) (fun c1 => ?_)
  · replace H := H.1 c1
    refine g_iconst (v := (iI_ (-1))) dX10_liftBy_125 (by decide) ?_
    exact g_iret rfl dX10_liftBy_126 ⟨_, rfl, H⟩
  · replace H := H.2 c1
    refine g_iload_n dX10_liftBy_65 3 rfl rfl ?_
    refine g_iconst (v := (iI_ 1)) dX10_liftBy_66 (by decide) ?_
    refine g_iadd dX10_liftBy_67 ?_
    refine g_istore (L' := [(4, .int (x3 + (iI_ 1))), (0, .ref (uq_ u 0)), (1, .int x1), (2, .int x2), (3, .int x3)]) dX10_liftBy_68 (by decide) rfl ?_
    exact GG_.sub [1, 2, 3, 4, 0] rfl H
set_option maxHeartbeats 4000000 in
set_option maxRecDepth 100000 in
theorem bX10_liftBy_70 (u : Ux_) {P : Int32 → St_ → Prop}  (σ : St_) (x1 : Int32) (x2 : Int32) (x3 : Int32) (x4 : Int32) (H : (((σ 2 0) ≤ x4 → GG_ (zm_ u) mX10_liftBy (Pi_ P) 57 [(0, .ref (uq_ u 0)), (1, .int x1), (2, .int x2), (3, .int (x3 + (iI_ 1)))] [] σ) ∧ (¬ (σ 2 0) ≤ x4 → (∀ σ2, σ2 = su_ σ 32 (Int32.toNatClampNeg (iI_ 0)) x3 → (∀ σ3, σ3 = su_ σ2 32 (Int32.toNatClampNeg (iI_ 1)) x4 → MMi_ (zm_ u) mX10_isTurned [.ref (uq_ u 0), .int x1, .int (((iI_ 1) <<< (x3 &&& 31)) ||| ((iI_ 1) <<< (x4 &&& 31))), .int x2] σ3 (fun r5 σ4 => ((r5 = iI_ 0 → GG_ (zm_ u) mX10_liftBy (Pi_ P) 70 [(0, .ref (uq_ u 0)), (1, .int x1), (2, .int x2), (3, .int x3), (4, .int (x4 + (iI_ 1)))] [] σ4) ∧ (¬ r5 = iI_ 0 → P (iI_ 2) σ4)))))))) : GG_ (zm_ u) mX10_liftBy (Pi_ P) 70 [(0, .ref (uq_ u 0)), (1, .int x1), (2, .int x2), (3, .int x3), (4, .int x4)] [] σ := by
  refine g_iload dX10_liftBy_70 4 rfl ?_
  refine g_aload_n dX10_liftBy_72 0 rfl rfl ?_
  refine gm_LinenHouseModel_members w_815 rfl dX10_liftBy_73 ?_
  refine g_icmp_ge 119 dX10_liftBy_76 (by decide) (fun c1 => ?_) (fun c1 => ?_)
  · replace H := H.1 c1
    refine g_iinc (v := (x3 + (iI_ 1))) (L' := [(3, .int (x3 + (iI_ 1))), (0, .ref (uq_ u 0)), (1, .int x1), (2, .int x2), (4, .int x4)]) dX10_liftBy_119 3 rfl rfl (by decide) rfl ?_
    refine g_goto 57 dX10_liftBy_122 (by decide) ?_
    exact GG_.sub [1, 2, 3, 0] rfl H
  · replace H := H.2 c1
    refine g_aload_n dX10_liftBy_79 0 rfl rfl ?_
    refine gm_LinenHouseModel_planRow w_845 rfl dX10_liftBy_80 ?_
    refine g_iconst (v := (iI_ 0)) dX10_liftBy_83 (by decide) ?_
    refine g_iload_n dX10_liftBy_84 3 rfl rfl ?_
    refine sm_32 (by unfold vp_in; decide) dX10_liftBy_85 ?_
    obtain ⟨σ2, e_σ2⟩ : ∃ q : St_, q = su_ σ 32 (Int32.toNatClampNeg (iI_ 0)) x3 := ⟨_, rfl⟩
    rw [← e_σ2]
    replace H := H σ2 e_σ2
    refine g_aload_n dX10_liftBy_86 0 rfl rfl ?_
    refine gm_LinenHouseModel_planRow w_845 rfl dX10_liftBy_87 ?_
    refine g_iconst (v := (iI_ 1)) dX10_liftBy_90 (by decide) ?_
    refine g_iload dX10_liftBy_91 4 rfl ?_
    refine sm_32 (by unfold vp_in; decide) dX10_liftBy_93 ?_
    obtain ⟨σ3, e_σ3⟩ : ∃ q : St_, q = su_ σ2 32 (Int32.toNatClampNeg (iI_ 1)) x4 := ⟨_, rfl⟩
    rw [← e_σ3]
    replace H := H σ3 e_σ3
    refine g_aload_n dX10_liftBy_94 0 rfl rfl ?_
    refine g_iload_n dX10_liftBy_95 1 rfl rfl ?_
    refine g_iconst (v := (iI_ 1)) dX10_liftBy_96 (by decide) ?_
    refine g_iload_n dX10_liftBy_97 3 rfl rfl ?_
    refine g_ishl dX10_liftBy_98 ?_
    refine g_iconst (v := (iI_ 1)) dX10_liftBy_99 (by decide) ?_
    refine g_iload dX10_liftBy_100 4 rfl ?_
    refine g_ishl dX10_liftBy_102 ?_
    refine g_ior dX10_liftBy_103 ?_
    refine g_iload_n dX10_liftBy_104 2 rfl rfl ?_
    refine k_X10_isTurned w_1143 rfl ⟨Nat.le_of_ble_eq_true rfl, Nat.le_of_ble_eq_true rfl⟩ (Nat.le_of_ble_eq_true rfl) dX10_liftBy_105 H (fun r5 σ4 H => ?_)
    refine g_if_eq 113 dX10_liftBy_108 (by decide) (fun c6 => ?_) (fun c6 => ?_)
    · replace H := H.1 c6
      refine g_iinc (v := (x4 + (iI_ 1))) (L' := [(4, .int (x4 + (iI_ 1))), (0, .ref (uq_ u 0)), (1, .int x1), (2, .int x2), (3, .int x3)]) dX10_liftBy_113 4 rfl rfl (by decide) rfl ?_
      refine g_goto 70 dX10_liftBy_116 (by decide) ?_
      exact GG_.sub [1, 2, 3, 4, 0] rfl H
    · replace H := H.2 c6
      refine g_iconst (v := (iI_ 2)) dX10_liftBy_111 (by decide) ?_
      exact g_iret rfl dX10_liftBy_112 ⟨_, rfl, H⟩
set_option maxHeartbeats 4000000 in
set_option maxRecDepth 100000 in
theorem eX10_liftBy (u : Ux_) {P : Int32 → St_ → Prop}  (σ : St_) (x1 : Int32) (H : MMv_ (zm_ u) mX10_runsTold [.ref (uq_ u 0)] σ (fun σ1 => vp_in x1 10 ∧ ((¬ (σ1 31 (Int32.toNatClampNeg x1)) = (iI_ (-1)) → GG_ (zm_ u) mX10_liftBy (Pi_ P) 20 [(0, .ref (uq_ u 0)), (1, .int x1), (2, .int (σ1 31 (Int32.toNatClampNeg x1))), (3, .int (iI_ 0))] [] σ1) ∧ ((σ1 31 (Int32.toNatClampNeg x1)) = (iI_ (-1)) → P (iI_ (-1)) σ1)))) : MMi_ (zm_ u) mX10_liftBy [.ref (uq_ u 0), .int x1] σ P := by
  refine MM_.of (L := [(0, .ref (uq_ u 0)), (1, .int x1)]) (by decide +kernel) (Nat.le_of_ble_eq_true rfl) rfl ?_
  refine g_aload_n dX10_liftBy_0 0 rfl rfl ?_
  refine k_X10_runsTold w_1059 rfl ⟨Nat.le_of_ble_eq_true rfl, Nat.le_of_ble_eq_true rfl⟩ (Nat.le_of_ble_eq_true rfl) dX10_liftBy_1 H (fun σ1 H => ?_)
  refine g_aload_n dX10_liftBy_4 0 rfl rfl ?_
  refine gm_LinenHouseModel_carried w_844 rfl dX10_liftBy_5 ?_
  refine g_iload_n dX10_liftBy_8 1 rfl rfl ?_
  obtain ⟨h2, H⟩ := H
  refine am_31 h2 dX10_liftBy_9 ?_
  refine g_istore_n (L' := [(2, .int (σ1 31 (Int32.toNatClampNeg x1))), (0, .ref (uq_ u 0)), (1, .int x1)]) dX10_liftBy_10 rfl (by decide) rfl ?_
  refine g_iload_n dX10_liftBy_11 0 rfl rfl ?_
  refine g_iconst (v := (iI_ (-1))) dX10_liftBy_12 (by decide) ?_
  refine g_icmp_ne 18 dX10_liftBy_13 (by decide) (fun c3 => ?_) (fun c3 => ?_)
  · replace H := H.1 c3
    refine g_iconst (v := (iI_ 0)) dX10_liftBy_18 (by decide) ?_
    refine g_istore_n (L' := [(3, .int (iI_ 0)), (2, .int (σ1 31 (Int32.toNatClampNeg x1))), (0, .ref (uq_ u 0)), (1, .int x1)]) dX10_liftBy_19 rfl (by decide) rfl ?_
    exact GG_.sub [2, 3, 1, 0] rfl H
  · replace H := H.2 c3
    refine g_iconst (v := (iI_ (-1))) dX10_liftBy_16 (by decide) ?_
    exact g_iret rfl dX10_liftBy_17 ⟨_, rfl, H⟩
set_option maxHeartbeats 4000000 in
set_option maxRecDepth 100000 in
theorem eX10_ofRow (u : Ux_) {P : Int32 → St_ → Prop}  (σ : St_) (x1 : Int32) (x2 : Int32) (H : ((¬ x2 = (iI_ (-1)) → ((x1 ≤ x2 → P (iI_ (-1)) σ) ∧ (¬ x1 ≤ x2 → vp_in x2 2 ∧ P (σ 32 (Int32.toNatClampNeg x2)) σ))) ∧ (x2 = (iI_ (-1)) → P x1 σ))) : MMi_ (zm_ u) mX10_ofRow [.ref (uq_ u 0), .int x1, .int x2] σ P := by
  refine MM_.of (L := [(0, .ref (uq_ u 0)), (1, .int x1), (2, .int x2)]) (by decide +kernel) (Nat.le_of_ble_eq_true rfl) rfl ?_
  refine g_iload_n dX10_ofRow_0 2 rfl rfl ?_
  refine g_iconst (v := (iI_ (-1))) dX10_ofRow_1 (by decide) ?_
  refine g_icmp_ne 9 dX10_ofRow_2 (by decide) (fun c1 => ?_) (fun c1 => ?_)
  · replace H := H.1 c1
    refine g_iload_n dX10_ofRow_9 2 rfl rfl ?_
    refine g_iload_n dX10_ofRow_10 1 rfl rfl ?_
    refine g_icmp_ge 23 dX10_ofRow_11 (by decide) (fun c2 => ?_) (fun c2 => ?_)
    · replace H := H.1 c2
      refine g_iconst (v := (iI_ (-1))) dX10_ofRow_23 (by decide) ?_
      exact g_iret rfl dX10_ofRow_24 ⟨_, rfl, H⟩
    · replace H := H.2 c2
      refine g_aload_n dX10_ofRow_14 0 rfl rfl ?_
      refine gm_LinenHouseModel_planRow w_845 rfl dX10_ofRow_15 ?_
      refine g_iload_n dX10_ofRow_18 2 rfl rfl ?_
      obtain ⟨h3, H⟩ := H
      refine am_32 h3 dX10_ofRow_19 ?_
      refine g_goto 24 dX10_ofRow_20 (by decide) ?_
      exact g_iret rfl dX10_ofRow_24 ⟨_, rfl, H⟩
  · replace H := H.2 c1
    refine g_iload_n dX10_ofRow_5 1 rfl rfl ?_
    refine g_goto 24 dX10_ofRow_6 (by decide) ?_
    exact g_iret rfl dX10_ofRow_24 ⟨_, rfl, H⟩
set_option maxHeartbeats 4000000 in
set_option maxRecDepth 100000 in
theorem eX10_lift (u : Ux_) {P : Int32 → St_ → Prop}  (σ : St_) (x1 : Int32) (x2 : Int32) (H : MMi_ (zm_ u) mX10_isNight [.int x1] σ (fun r2 σ1 => ((r2 = iI_ 0 → P (iI_ (-2)) σ1) ∧ (¬ r2 = iI_ 0 → MMi_ (zm_ u) mX10_in [.int x2, .int (iI_ (-1)), .int (iI_ 1)] σ1 (fun r5 σ4 => ((r5 = iI_ 0 → P (iI_ (-2)) σ4) ∧ (¬ r5 = iI_ 0 → MMi_ (zm_ u) mX10_liftBy [.ref (uq_ u 0), .int x1] σ4 (fun r8 σ7 => MMi_ (zm_ u) mX10_ofRow [.ref (uq_ u 0), .int r8, .int x2] σ7 (fun r10 σ9 => P r10 σ9))))))))) : MMi_ (zm_ u) mX10_lift [.ref (uq_ u 0), .int x1, .int x2] σ P := by
  refine MM_.of (L := [(0, .ref (uq_ u 0)), (1, .int x1), (2, .int x2)]) (by decide +kernel) (Nat.le_of_ble_eq_true rfl) rfl ?_
  refine g_iload_n dX10_lift_0 1 rfl rfl ?_
  refine k_X10_isNight w_1016 rfl ⟨Nat.le_of_ble_eq_true rfl, Nat.le_of_ble_eq_true rfl⟩ (Nat.le_of_ble_eq_true rfl) dX10_lift_1 H (fun r2 σ1 H => ?_)
  refine g_if_eq 29 dX10_lift_4 (by decide) (fun c3 => ?_) (fun c3 => ?_)
  · replace H := H.1 c3
    refine g_bipush (v := (iI_ (-2))) dX10_lift_29 (by decide) ?_
    exact g_iret rfl dX10_lift_31 ⟨_, rfl, H⟩
  · replace H := H.2 c3
    refine g_iload_n dX10_lift_7 2 rfl rfl ?_
    refine g_iconst (v := (iI_ (-1))) dX10_lift_8 (by decide) ?_
    refine g_iconst (v := (iI_ 1)) dX10_lift_9 (by decide) ?_
    refine k_X10_in w_954 rfl ⟨Nat.le_of_ble_eq_true rfl, Nat.le_of_ble_eq_true rfl⟩ (Nat.le_of_ble_eq_true rfl) dX10_lift_10 H (fun r5 σ4 H => ?_)
    refine g_if_eq 29 dX10_lift_13 (by decide) (fun c6 => ?_) (fun c6 => ?_)
    · replace H := H.1 c6
      refine g_bipush (v := (iI_ (-2))) dX10_lift_29 (by decide) ?_
      exact g_iret rfl dX10_lift_31 ⟨_, rfl, H⟩
    · replace H := H.2 c6
      refine g_aload_n dX10_lift_16 0 rfl rfl ?_
      refine g_aload_n dX10_lift_17 0 rfl rfl ?_
      refine g_iload_n dX10_lift_18 1 rfl rfl ?_
      refine k_X10_liftBy w_1139 rfl ⟨Nat.le_of_ble_eq_true rfl, Nat.le_of_ble_eq_true rfl⟩ (Nat.le_of_ble_eq_true rfl) dX10_lift_19 H (fun r8 σ7 H => ?_)
      refine g_iload_n dX10_lift_22 2 rfl rfl ?_
      refine k_X10_ofRow w_1147 rfl ⟨Nat.le_of_ble_eq_true rfl, Nat.le_of_ble_eq_true rfl⟩ (Nat.le_of_ble_eq_true rfl) dX10_lift_23 H (fun r10 σ9 H => ?_)
      refine g_goto 31 dX10_lift_26 (by decide) ?_
      exact g_iret rfl dX10_lift_31 ⟨_, rfl, H⟩
set_option maxHeartbeats 4000000 in
set_option maxRecDepth 100000 in
theorem eX10_puts (u : Ux_) {P : Int32 → St_ → Prop}  (σ : St_) (x1 : Int32) (x2 : Int32) (H : MMv_ (zm_ u) mX10_leans [.ref (uq_ u 0), .int x1, .int x2] σ (fun σ1 => MMi_ (zm_ u) mX10_carries [.ref (uq_ u 0), .int x1, .int x2, .int (iI_ 1), .int (iI_ 0)] σ1 (fun r3 σ2 => P r3 σ2))) : MMi_ (zm_ u) mX10_puts [.ref (uq_ u 0), .int x1, .int x2] σ P := by
  refine MM_.of (L := [(0, .ref (uq_ u 0)), (1, .int x1), (2, .int x2)]) (by decide +kernel) (Nat.le_of_ble_eq_true rfl) rfl ?_
  refine g_aload_n dX10_puts_0 0 rfl rfl ?_
  refine g_iload_n dX10_puts_1 1 rfl rfl ?_
  refine g_iload_n dX10_puts_2 2 rfl rfl ?_
  refine k_X10_leans w_1075 rfl ⟨Nat.le_of_ble_eq_true rfl, Nat.le_of_ble_eq_true rfl⟩ (Nat.le_of_ble_eq_true rfl) dX10_puts_3 H (fun σ1 H => ?_)
  refine g_aload_n dX10_puts_6 0 rfl rfl ?_
  refine g_iload_n dX10_puts_7 1 rfl rfl ?_
  refine g_iload_n dX10_puts_8 2 rfl rfl ?_
  refine g_iconst (v := (iI_ 1)) dX10_puts_9 (by decide) ?_
  refine g_iconst (v := (iI_ 0)) dX10_puts_10 (by decide) ?_
  refine k_X10_carries w_1087 rfl ⟨Nat.le_of_ble_eq_true rfl, Nat.le_of_ble_eq_true rfl⟩ (Nat.le_of_ble_eq_true rfl) dX10_puts_11 H (fun r3 σ2 H => ?_)
  exact g_iret rfl dX10_puts_14 ⟨_, rfl, H⟩
set_option maxHeartbeats 4000000 in
set_option maxRecDepth 100000 in
theorem bX10_agendaOf_6 (u : Ux_) {P : Int32 → St_ → Prop}  (σ : St_) (x1 : Int32) (x2 : Int32) (H : (((σ 2 0) ≤ x2 → GG_ (zm_ u) mX10_agendaOf (Pi_ P) 48 [(0, .ref (uq_ u 0)), (1, .int x1), (2, .int (iI_ 0))] [] σ) ∧ (¬ (σ 2 0) ≤ x2 → vp_in x2 9 ∧ vp_in x2 8 ∧ (∀ σ3, σ3 = su_ σ 17 (Int32.toNatClampNeg x2) (σ 4 (Int32.toNatClampNeg x2)) → vp_in x2 9 ∧ vp_in x2 8 ∧ (∀ σ6, σ6 = su_ σ3 18 (Int32.toNatClampNeg x2) ((iI_ 5) - (σ3 4 (Int32.toNatClampNeg x2))) → GG_ (zm_ u) mX10_agendaOf (Pi_ P) 6 [(0, .ref (uq_ u 0)), (1, .int x1), (2, .int (x2 + (iI_ 1)))] [] σ6))))) : GG_ (zm_ u) mX10_agendaOf (Pi_ P) 6 [(0, .ref (uq_ u 0)), (1, .int x1), (2, .int x2)] [] σ := by
  refine g_iload_n dX10_agendaOf_6 2 rfl rfl ?_
  refine g_aload_n dX10_agendaOf_7 0 rfl rfl ?_
  refine gm_LinenHouseModel_members w_815 rfl dX10_agendaOf_8 ?_
  refine g_icmp_ge 46 dX10_agendaOf_11 (by decide) (fun c1 => ?_) (fun c1 => ?_)
  · replace H := H.1 c1
    refine g_iconst (v := (iI_ 0)) dX10_agendaOf_46 (by decide) ?_
    refine g_istore_n (L' := [(2, .int (iI_ 0)), (0, .ref (uq_ u 0)), (1, .int x1)]) dX10_agendaOf_47 rfl (by decide) rfl ?_
    exact GG_.sub [1, 2, 0] rfl H
  · replace H := H.2 c1
    refine g_aload_n dX10_agendaOf_14 0 rfl rfl ?_
    refine gm_LinenHouseModel_lieNow w_830 rfl dX10_agendaOf_15 ?_
    refine g_iload_n dX10_agendaOf_18 2 rfl rfl ?_
    refine g_aload_n dX10_agendaOf_19 0 rfl rfl ?_
    refine gm_LinenHouseModel_shelves w_817 rfl dX10_agendaOf_20 ?_
    refine g_iload_n dX10_agendaOf_23 2 rfl rfl ?_
    obtain ⟨h2, H⟩ := H
    refine am_4 h2 dX10_agendaOf_24 ?_
    obtain ⟨h4, H⟩ := H
    refine sm_17 h4 dX10_agendaOf_25 ?_
    obtain ⟨σ3, e_σ3⟩ : ∃ q : St_, q = su_ σ 17 (Int32.toNatClampNeg x2) (σ 4 (Int32.toNatClampNeg x2)) := ⟨_, rfl⟩
    rw [← e_σ3]
    replace H := H σ3 e_σ3
    refine g_aload_n dX10_agendaOf_26 0 rfl rfl ?_
    refine gm_LinenHouseModel_warmNow w_831 rfl dX10_agendaOf_27 ?_
    refine g_iload_n dX10_agendaOf_30 2 rfl rfl ?_
    refine g_iconst (v := (iI_ 5)) dX10_agendaOf_31 (by decide) ?_
    refine g_aload_n dX10_agendaOf_32 0 rfl rfl ?_
    refine gm_LinenHouseModel_shelves w_817 rfl dX10_agendaOf_33 ?_
    refine g_iload_n dX10_agendaOf_36 2 rfl rfl ?_
    obtain ⟨h5, H⟩ := H
    refine am_4 h5 dX10_agendaOf_37 ?_
    refine g_isub dX10_agendaOf_38 ?_
    obtain ⟨h7, H⟩ := H
    refine sm_18 h7 dX10_agendaOf_39 ?_
    obtain ⟨σ6, e_σ6⟩ : ∃ q : St_, q = su_ σ3 18 (Int32.toNatClampNeg x2) ((iI_ 5) - (σ3 4 (Int32.toNatClampNeg x2))) := ⟨_, rfl⟩
    rw [← e_σ6]
    replace H := H σ6 e_σ6
    refine g_iinc (v := (x2 + (iI_ 1))) (L' := [(2, .int (x2 + (iI_ 1))), (0, .ref (uq_ u 0)), (1, .int x1)]) dX10_agendaOf_40 2 rfl rfl (by decide) rfl ?_
    refine g_goto 6 dX10_agendaOf_43 (by decide) ?_
    exact GG_.sub [1, 2, 0] rfl H
set_option maxHeartbeats 4000000 in
set_option maxRecDepth 100000 in
theorem bX10_agendaOf_48 (u : Ux_) {P : Int32 → St_ → Prop}  (σ : St_) (x1 : Int32) (x2 : Int32) (H : (((iI_ 3) ≤ x2 → P (iI_ (-1)) σ) ∧ (¬ (iI_ 3) ≤ x2 → (((σ 2 0) ≤ iI_ 0 → P (iI_ (-1)) σ) ∧ (¬ (σ 2 0) ≤ iI_ 0 → ((¬ x2 = (iI_ 2) → GG_ (zm_ u) mX10_agendaOf (Pi_ P) 70 [(0, .ref (uq_ u 0)), (1, .int x1), (2, .int x2)] [.int (iI_ 0)] σ) ∧ (x2 = (iI_ 2) → GG_ (zm_ u) mX10_agendaOf (Pi_ P) 70 [(0, .ref (uq_ u 0)), (1, .int x1), (2, .int x2)] [.int (iI_ 1)] σ))))))) : GG_ (zm_ u) mX10_agendaOf (Pi_ P) 48 [(0, .ref (uq_ u 0)), (1, .int x1), (2, .int x2)] [] σ := by
  refine g_iload_n dX10_agendaOf_48 2 rfl rfl ?_
  refine g_iconst (v := (iI_ 3)) dX10_agendaOf_49 (by decide) ?_
  refine g_icmp_ge 115 dX10_agendaOf_50 (by decide) (fun c1 => ?_) (fun c1 => ?_)
  · replace H := H.1 c1
    refine g_iconst (v := (iI_ (-1))) dX10_agendaOf_115 (by decide) ?_
    exact g_iret rfl dX10_agendaOf_116 ⟨_, rfl, H⟩
  · replace H := H.2 c1
    refine g_aload_n dX10_agendaOf_53 0 rfl rfl ?_
    refine gm_LinenHouseModel_members w_815 rfl dX10_agendaOf_54 ?_
    refine g_if_le 115 dX10_agendaOf_57 (by decide) (fun c2 => ?_) (fun c2 => ?_)
    · replace H := H.1 c2
      refine g_iconst (v := (iI_ (-1))) dX10_agendaOf_115 (by decide) ?_
      exact g_iret rfl dX10_agendaOf_116 ⟨_, rfl, H⟩
    · replace H := H.2 c2
      refine g_iload_n dX10_agendaOf_60 2 rfl rfl ?_
      refine g_iconst (v := (iI_ 2)) dX10_agendaOf_61 (by decide) ?_
      refine g_icmp_ne 69 dX10_agendaOf_62 (by decide) (fun c3 => ?_) (fun c3 => ?_)
      · replace H := H.1 c3
        refine g_iconst (v := (iI_ 0)) dX10_agendaOf_69 (by decide) ?_
        exact GG_.sub [0, 1, 2] rfl H
      · replace H := H.2 c3
        refine g_iconst (v := (iI_ 1)) dX10_agendaOf_65 (by decide) ?_
        refine g_goto 70 dX10_agendaOf_66 (by decide) ?_
        exact GG_.sub [0, 1, 2] rfl H
set_option maxHeartbeats 4000000 in
set_option maxRecDepth 100000 in
theorem bX10_agendaOf_70 (u : Ux_) {P : Int32 → St_ → Prop}  (σ : St_) (x1 : Int32) (x2 : Int32) (y0 : Int32) (H : ((¬ x2 = iI_ 0 → MMi_ (zm_ u) mX10_puts [.ref (uq_ u 0), .int y0, .int (iI_ 2)] σ (fun r3 σ2 => MMi_ (zm_ u) mX10_puts [.ref (uq_ u 0), .int r3, .int (((iI_ 3) - y0) - (iI_ 2))] σ2 (fun r5 σ4 => ((¬ r5 = x1 → GG_ (zm_ u) mX10_agendaOf (Pi_ P) 48 [(0, .ref (uq_ u 0)), (1, .int x1), (2, .int (x2 + (iI_ 1)))] [] σ4) ∧ (r5 = x1 → P x2 σ4))))) ∧ (x2 = iI_ 0 → MMi_ (zm_ u) mX10_puts [.ref (uq_ u 0), .int y0, .int (iI_ 1)] σ (fun r8 σ7 => MMi_ (zm_ u) mX10_puts [.ref (uq_ u 0), .int r8, .int (((iI_ 3) - y0) - (iI_ 1))] σ7 (fun r10 σ9 => ((¬ r10 = x1 → GG_ (zm_ u) mX10_agendaOf (Pi_ P) 48 [(0, .ref (uq_ u 0)), (1, .int x1), (2, .int (x2 + (iI_ 1)))] [] σ9) ∧ (r10 = x1 → P x2 σ9))))))) : GG_ (zm_ u) mX10_agendaOf (Pi_ P) 70 [(0, .ref (uq_ u 0)), (1, .int x1), (2, .int x2)] [.int y0] σ := by
  refine g_istore_n (L' := [(3, .int y0), (0, .ref (uq_ u 0)), (1, .int x1), (2, .int x2)]) dX10_agendaOf_70 rfl (by decide) rfl ?_
  refine g_iload_n dX10_agendaOf_71 3 rfl rfl ?_
  refine g_if_ne 79 dX10_agendaOf_72 (by decide) (fun c1 => ?_) (fun c1 => ?_)
  · replace H := H.1 c1
    refine g_iconst (v := (iI_ 2)) dX10_agendaOf_79 (by decide) ?_
    refine g_istore (L' := [(4, .int (iI_ 2)), (3, .int y0), (0, .ref (uq_ u 0)), (1, .int x1), (2, .int x2)]) dX10_agendaOf_80 (by decide) rfl ?_
    refine g_aload_n dX10_agendaOf_82 2 rfl rfl ?_
    refine g_iload_n dX10_agendaOf_83 1 rfl rfl ?_
    refine g_iload dX10_agendaOf_84 0 rfl ?_
    refine k_X10_puts w_1159 rfl ⟨Nat.le_of_ble_eq_true rfl, Nat.le_of_ble_eq_true rfl⟩ (Nat.le_of_ble_eq_true rfl) dX10_agendaOf_86 H (fun r3 σ2 H => ?_)
    refine g_istore (L' := [(5, .int r3), (4, .int (iI_ 2)), (3, .int y0), (0, .ref (uq_ u 0)), (1, .int x1), (2, .int x2)]) dX10_agendaOf_89 (by decide) rfl ?_
    refine g_aload_n dX10_agendaOf_91 3 rfl rfl ?_
    refine g_iload dX10_agendaOf_92 0 rfl ?_
    refine g_iconst (v := (iI_ 3)) dX10_agendaOf_94 (by decide) ?_
    refine g_iload_n dX10_agendaOf_95 2 rfl rfl ?_
    refine g_isub dX10_agendaOf_96 ?_
    refine g_iload dX10_agendaOf_97 1 rfl ?_
    refine g_isub dX10_agendaOf_99 ?_
    refine k_X10_puts w_1159 rfl ⟨Nat.le_of_ble_eq_true rfl, Nat.le_of_ble_eq_true rfl⟩ (Nat.le_of_ble_eq_true rfl) dX10_agendaOf_100 H (fun r5 σ4 H => ?_)
    refine g_iload_n dX10_agendaOf_103 4 rfl rfl ?_
    refine g_icmp_ne 109 dX10_agendaOf_104 (by decide) (fun c6 => ?_) (fun c6 => ?_)
    · replace H := H.1 c6
      refine g_iinc (v := (x2 + (iI_ 1))) (L' := [(2, .int (x2 + (iI_ 1))), (5, .int r3), (4, .int (iI_ 2)), (3, .int y0), (0, .ref (uq_ u 0)), (1, .int x1)]) dX10_agendaOf_109 5 rfl rfl (by decide) rfl ?_
      refine g_goto 48 dX10_agendaOf_112 (by decide) ?_
      exact GG_.sub [4, 5, 0] rfl H
    · replace H := H.2 c6
      refine g_iload_n dX10_agendaOf_107 5 rfl rfl ?_
      exact g_iret rfl dX10_agendaOf_108 ⟨_, rfl, H⟩
  · replace H := H.2 c1
    refine g_iconst (v := (iI_ 1)) dX10_agendaOf_75 (by decide) ?_
    refine g_goto 80 dX10_agendaOf_76 (by decide) ?_
    refine g_istore (L' := [(4, .int (iI_ 1)), (3, .int y0), (0, .ref (uq_ u 0)), (1, .int x1), (2, .int x2)]) dX10_agendaOf_80 (by decide) rfl ?_
    refine g_aload_n dX10_agendaOf_82 2 rfl rfl ?_
    refine g_iload_n dX10_agendaOf_83 1 rfl rfl ?_
    refine g_iload dX10_agendaOf_84 0 rfl ?_
    refine k_X10_puts w_1159 rfl ⟨Nat.le_of_ble_eq_true rfl, Nat.le_of_ble_eq_true rfl⟩ (Nat.le_of_ble_eq_true rfl) dX10_agendaOf_86 H (fun r8 σ7 H => ?_)
    refine g_istore (L' := [(5, .int r8), (4, .int (iI_ 1)), (3, .int y0), (0, .ref (uq_ u 0)), (1, .int x1), (2, .int x2)]) dX10_agendaOf_89 (by decide) rfl ?_
    refine g_aload_n dX10_agendaOf_91 3 rfl rfl ?_
    refine g_iload dX10_agendaOf_92 0 rfl ?_
    refine g_iconst (v := (iI_ 3)) dX10_agendaOf_94 (by decide) ?_
    refine g_iload_n dX10_agendaOf_95 2 rfl rfl ?_
    refine g_isub dX10_agendaOf_96 ?_
    refine g_iload dX10_agendaOf_97 1 rfl ?_
    refine g_isub dX10_agendaOf_99 ?_
    refine k_X10_puts w_1159 rfl ⟨Nat.le_of_ble_eq_true rfl, Nat.le_of_ble_eq_true rfl⟩ (Nat.le_of_ble_eq_true rfl) dX10_agendaOf_100 H (fun r10 σ9 H => ?_)
    refine g_iload_n dX10_agendaOf_103 4 rfl rfl ?_
    refine g_icmp_ne 109 dX10_agendaOf_104 (by decide) (fun c11 => ?_) (fun c11 => ?_)
    · replace H := H.1 c11
      refine g_iinc (v := (x2 + (iI_ 1))) (L' := [(2, .int (x2 + (iI_ 1))), (5, .int r8), (4, .int (iI_ 1)), (3, .int y0), (0, .ref (uq_ u 0)), (1, .int x1)]) dX10_agendaOf_109 5 rfl rfl (by decide) rfl ?_
      refine g_goto 48 dX10_agendaOf_112 (by decide) ?_
      exact GG_.sub [4, 5, 0] rfl H
    · replace H := H.2 c11
      refine g_iload_n dX10_agendaOf_107 5 rfl rfl ?_
      exact g_iret rfl dX10_agendaOf_108 ⟨_, rfl, H⟩
set_option maxHeartbeats 4000000 in
set_option maxRecDepth 100000 in
theorem eX10_agendaOf (u : Ux_) {P : Int32 → St_ → Prop}  (σ : St_) (x1 : Int32) (H : MMv_ (zm_ u) mX10_reads [.ref (uq_ u 0)] σ (fun σ1 => GG_ (zm_ u) mX10_agendaOf (Pi_ P) 6 [(0, .ref (uq_ u 0)), (1, .int x1), (2, .int (iI_ 0))] [] σ1)) : MMi_ (zm_ u) mX10_agendaOf [.ref (uq_ u 0), .int x1] σ P := by
  refine MM_.of (L := [(0, .ref (uq_ u 0)), (1, .int x1)]) (by decide +kernel) (Nat.le_of_ble_eq_true rfl) rfl ?_
  refine g_aload_n dX10_agendaOf_0 0 rfl rfl ?_
  refine k_X10_reads w_1004 rfl ⟨Nat.le_of_ble_eq_true rfl, Nat.le_of_ble_eq_true rfl⟩ (Nat.le_of_ble_eq_true rfl) dX10_agendaOf_1 H (fun σ1 H => ?_)
  refine g_iconst (v := (iI_ 0)) dX10_agendaOf_4 (by decide) ?_
  refine g_istore_n (L' := [(2, .int (iI_ 0)), (0, .ref (uq_ u 0)), (1, .int x1)]) dX10_agendaOf_5 rfl (by decide) rfl ?_
  exact GG_.sub [1, 2, 0] rfl H
set_option maxHeartbeats 4000000 in
set_option maxRecDepth 100000 in
theorem eX10_agenda (u : Ux_) {P : Int32 → St_ → Prop}  (σ : St_) (x1 : Int32) (H : MMi_ (zm_ u) mX10_in [.int x1, .int (iI_ 0), .int (iI_ 2)] σ (fun r2 σ1 => ((r2 = iI_ 0 → P (iI_ (-2)) σ1) ∧ (¬ r2 = iI_ 0 → MMi_ (zm_ u) mX10_agendaOf [.ref (uq_ u 0), .int x1] σ1 (fun r5 σ4 => P r5 σ4))))) : MMi_ (zm_ u) mX10_agenda [.ref (uq_ u 0), .int x1] σ P := by
  refine MM_.of (L := [(0, .ref (uq_ u 0)), (1, .int x1)]) (by decide +kernel) (Nat.le_of_ble_eq_true rfl) rfl ?_
  refine g_iload_n dX10_agenda_0 1 rfl rfl ?_
  refine g_iconst (v := (iI_ 0)) dX10_agenda_1 (by decide) ?_
  refine g_iconst (v := (iI_ 2)) dX10_agenda_2 (by decide) ?_
  refine k_X10_in w_954 rfl ⟨Nat.le_of_ble_eq_true rfl, Nat.le_of_ble_eq_true rfl⟩ (Nat.le_of_ble_eq_true rfl) dX10_agenda_3 H (fun r2 σ1 H => ?_)
  refine g_if_eq 17 dX10_agenda_6 (by decide) (fun c3 => ?_) (fun c3 => ?_)
  · replace H := H.1 c3
    refine g_bipush (v := (iI_ (-2))) dX10_agenda_17 (by decide) ?_
    exact g_iret rfl dX10_agenda_19 ⟨_, rfl, H⟩
  · replace H := H.2 c3
    refine g_aload_n dX10_agenda_9 0 rfl rfl ?_
    refine g_iload_n dX10_agenda_10 1 rfl rfl ?_
    refine k_X10_agendaOf w_1155 rfl ⟨Nat.le_of_ble_eq_true rfl, Nat.le_of_ble_eq_true rfl⟩ (Nat.le_of_ble_eq_true rfl) dX10_agenda_11 H (fun r5 σ4 H => ?_)
    refine g_goto 19 dX10_agenda_14 (by decide) ?_
    exact g_iret rfl dX10_agenda_19 ⟨_, rfl, H⟩
set_option maxHeartbeats 4000000 in
set_option maxRecDepth 100000 in
theorem bX10_weightOf_4 (u : Ux_) {P : Int32 → St_ → Prop}  (σ : St_) (x1 : Int32) (x2 : Int32) (x3 : Int32) (H : (((σ 2 0) ≤ x3 → P x2 σ) ∧ (¬ (σ 2 0) ≤ x3 → MMi_ (zm_ u) mX10_isIn [.int x1, .int x3] σ (fun r3 σ2 => ((r3 = iI_ 0 → GG_ (zm_ u) mX10_weightOf (Pi_ P) 4 [(0, .ref (uq_ u 0)), (1, .int x1), (2, .int (x2 + (iI_ 0))), (3, .int (x3 + (iI_ 1)))] [] σ2) ∧ (¬ r3 = iI_ 0 → vp_in x3 9 ∧ vp_in (σ2 3 (Int32.toNatClampNeg x3)) 3 ∧ GG_ (zm_ u) mX10_weightOf (Pi_ P) 4 [(0, .ref (uq_ u 0)), (1, .int x1), (2, .int (x2 + (σ2 10 (Int32.toNatClampNeg (σ2 3 (Int32.toNatClampNeg x3)))))), (3, .int (x3 + (iI_ 1)))] [] σ2)))))) : GG_ (zm_ u) mX10_weightOf (Pi_ P) 4 [(0, .ref (uq_ u 0)), (1, .int x1), (2, .int x2), (3, .int x3)] [] σ := by
  refine g_iload_n dX10_weightOf_4 3 rfl rfl ?_
  refine g_aload_n dX10_weightOf_5 0 rfl rfl ?_
  refine gm_LinenHouseModel_members w_815 rfl dX10_weightOf_6 ?_
  refine g_icmp_ge 44 dX10_weightOf_9 (by decide) (fun c1 => ?_) (fun c1 => ?_)
  · replace H := H.1 c1
    refine g_iload_n dX10_weightOf_44 2 rfl rfl ?_
    exact g_iret rfl dX10_weightOf_45 ⟨_, rfl, H⟩
  · replace H := H.2 c1
    refine g_iload_n dX10_weightOf_12 2 rfl rfl ?_
    refine g_iload_n dX10_weightOf_13 1 rfl rfl ?_
    refine g_iload_n dX10_weightOf_14 3 rfl rfl ?_
    refine k_X10_isIn w_989 rfl ⟨Nat.le_of_ble_eq_true rfl, Nat.le_of_ble_eq_true rfl⟩ (Nat.le_of_ble_eq_true rfl) dX10_weightOf_15 H (fun r3 σ2 H => ?_)
    refine g_if_eq 35 dX10_weightOf_18 (by decide) (fun c4 => ?_) (fun c4 => ?_)
    · replace H := H.1 c4
      refine g_iconst (v := (iI_ 0)) dX10_weightOf_35 (by decide) ?_
      refine g_iadd dX10_weightOf_36 ?_
      refine g_istore_n (L' := [(2, .int (x2 + (iI_ 0))), (0, .ref (uq_ u 0)), (1, .int x1), (3, .int x3)]) dX10_weightOf_37 rfl (by decide) rfl ?_
      refine g_iinc (v := (x3 + (iI_ 1))) (L' := [(3, .int (x3 + (iI_ 1))), (2, .int (x2 + (iI_ 0))), (0, .ref (uq_ u 0)), (1, .int x1)]) dX10_weightOf_38 3 rfl rfl (by decide) rfl ?_
      refine g_goto 4 dX10_weightOf_41 (by decide) ?_
      exact GG_.sub [2, 3, 1, 0] rfl H
    · replace H := H.2 c4
      refine g_aload_n dX10_weightOf_21 0 rfl rfl ?_
      refine gm_LinenHouseModel_weights w_823 rfl dX10_weightOf_22 ?_
      refine g_aload_n dX10_weightOf_25 0 rfl rfl ?_
      refine gm_LinenHouseModel_sorts w_816 rfl dX10_weightOf_26 ?_
      refine g_iload_n dX10_weightOf_29 3 rfl rfl ?_
      obtain ⟨h5, H⟩ := H
      refine am_3 h5 dX10_weightOf_30 ?_
      obtain ⟨h6, H⟩ := H
      refine am_10 h6 dX10_weightOf_31 ?_
      refine g_goto 36 dX10_weightOf_32 (by decide) ?_
      refine g_iadd dX10_weightOf_36 ?_
      refine g_istore_n (L' := [(2, .int (x2 + (σ2 10 (Int32.toNatClampNeg (σ2 3 (Int32.toNatClampNeg x3)))))), (0, .ref (uq_ u 0)), (1, .int x1), (3, .int x3)]) dX10_weightOf_37 rfl (by decide) rfl ?_
      refine g_iinc (v := (x3 + (iI_ 1))) (L' := [(3, .int (x3 + (iI_ 1))), (2, .int (x2 + (σ2 10 (Int32.toNatClampNeg (σ2 3 (Int32.toNatClampNeg x3)))))), (0, .ref (uq_ u 0)), (1, .int x1)]) dX10_weightOf_38 3 rfl rfl (by decide) rfl ?_
      refine g_goto 4 dX10_weightOf_41 (by decide) ?_
      exact GG_.sub [2, 3, 1, 0] rfl H
set_option maxHeartbeats 4000000 in
set_option maxRecDepth 100000 in
theorem eX10_weightOf (u : Ux_) {P : Int32 → St_ → Prop}  (σ : St_) (x1 : Int32) (H : GG_ (zm_ u) mX10_weightOf (Pi_ P) 4 [(0, .ref (uq_ u 0)), (1, .int x1), (2, .int (iI_ 0)), (3, .int (iI_ 0))] [] σ) : MMi_ (zm_ u) mX10_weightOf [.ref (uq_ u 0), .int x1] σ P := by
  refine MM_.of (L := [(0, .ref (uq_ u 0)), (1, .int x1)]) (by decide +kernel) (Nat.le_of_ble_eq_true rfl) rfl ?_
  refine g_iconst (v := (iI_ 0)) dX10_weightOf_0 (by decide) ?_
  refine g_istore_n (L' := [(2, .int (iI_ 0)), (0, .ref (uq_ u 0)), (1, .int x1)]) dX10_weightOf_1 rfl (by decide) rfl ?_
  refine g_iconst (v := (iI_ 0)) dX10_weightOf_2 (by decide) ?_
  refine g_istore_n (L' := [(3, .int (iI_ 0)), (2, .int (iI_ 0)), (0, .ref (uq_ u 0)), (1, .int x1)]) dX10_weightOf_3 rfl (by decide) rfl ?_
  exact GG_.sub [2, 3, 1, 0] rfl H
set_option maxHeartbeats 4000000 in
set_option maxRecDepth 100000 in
theorem bX10_orders_4 (u : Ux_) {P : Int64 → St_ → Prop}  (σ : St_) (x0 : Int32) (x1 : Int64) (x3 : Int32) (H : ((x0 < x3 → P x1 σ) ∧ (¬ x0 < x3 → GG_ (zm_ u) mX10_orders (Pl_ P) 4 [(0, .int x0), (1, .long (x1 * (Int32.toInt64 x3))), (3, .int (x3 + (iI_ 1)))] [] σ))) : GG_ (zm_ u) mX10_orders (Pl_ P) 4 [(0, .int x0), (1, .long x1), (3, .int x3)] [] σ := by
  refine g_iload_n dX10_orders_4 2 rfl rfl ?_
  refine g_iload_n dX10_orders_5 0 rfl rfl ?_
  refine g_icmp_gt 20 dX10_orders_6 (by decide) (fun c1 => ?_) (fun c1 => ?_)
  · replace H := H.1 c1
    refine g_lload_n dX10_orders_20 1 rfl rfl ?_
    exact g_lret rfl dX10_orders_21 ⟨_, rfl, H⟩
  · replace H := H.2 c1
    refine g_lload_n dX10_orders_9 1 rfl rfl ?_
    refine g_iload_n dX10_orders_10 2 rfl rfl ?_
    refine g_i2l dX10_orders_11 ?_
    refine g_lmul dX10_orders_12 ?_
    refine g_lstore_n (L' := [(1, .long (x1 * (Int32.toInt64 x3))), (0, .int x0), (3, .int x3)]) dX10_orders_13 rfl (by decide) rfl ?_
    refine g_iinc (v := (x3 + (iI_ 1))) (L' := [(3, .int (x3 + (iI_ 1))), (1, .long (x1 * (Int32.toInt64 x3))), (0, .int x0)]) dX10_orders_14 2 rfl rfl (by decide) rfl ?_
    refine g_goto 4 dX10_orders_17 (by decide) ?_
    exact GG_.sub [2, 1, 0] rfl H
set_option maxHeartbeats 4000000 in
set_option maxRecDepth 100000 in
theorem eX10_orders (u : Ux_) {P : Int64 → St_ → Prop}  (σ : St_) (x0 : Int32) (H : GG_ (zm_ u) mX10_orders (Pl_ P) 4 [(0, .int x0), (1, .long (iL_ 1)), (3, .int (iI_ 2))] [] σ) : MMl_ (zm_ u) mX10_orders [.int x0] σ P := by
  refine MM_.of (L := [(0, .int x0)]) (by decide +kernel) (Nat.le_of_ble_eq_true rfl) rfl ?_
  refine g_lconst (v := (iL_ 1)) dX10_orders_0 (by decide) ?_
  refine g_lstore_n (L' := [(1, .long (iL_ 1)), (0, .int x0)]) dX10_orders_1 rfl (by decide) rfl ?_
  refine g_iconst (v := (iI_ 2)) dX10_orders_2 (by decide) ?_
  refine g_istore_n (L' := [(3, .int (iI_ 2)), (1, .long (iL_ 1)), (0, .int x0)]) dX10_orders_3 rfl (by decide) rfl ?_
  exact GG_.sub [2, 1, 0] rfl H
set_option maxHeartbeats 4000000 in
set_option maxRecDepth 100000 in
theorem bX10_powerOf_19 (u : Ux_) {P : Int64 → St_ → Prop}  (σ : St_) (x1 : Int32) (x2 : Int32) (x3 : Int32) (x4 : Int64) (x6 : Int32) (H : ((((iI_ 1) <<< ((σ 2 0) &&& 31)) ≤ x6 → MMl_ (zm_ u) mX10_orders [.int (σ 2 0)] σ (fun r3 σ2 => MMl_ (zm_ u) mX10_lowest [.long x4, .long r3, .int x2] σ2 (fun r5 σ4 => P r5 σ4))) ∧ (¬ ((iI_ 1) <<< ((σ 2 0) &&& 31)) ≤ x6 → MMi_ (zm_ u) mX10_weightOf [.ref (uq_ u 0), .int x6] σ (fun r7 σ6 => MMi_ (zm_ u) mX10_isIn [.int x6, .int x1] σ6 (fun r9 σ8 => ((¬ r9 = iI_ 0 → GG_ (zm_ u) mX10_powerOf (Pl_ P) 88 [(0, .ref (uq_ u 0)), (1, .int x1), (2, .int x2), (3, .int x3), (4, .long x4), (6, .int x6), (8, .int (iI_ 0)), (9, .int (iI_ 0)), (10, .int (iI_ 0))] [] σ8) ∧ (r9 = iI_ 0 → ((x3 < ((iI_ 2) * r7) → GG_ (zm_ u) mX10_powerOf (Pl_ P) 88 [(0, .ref (uq_ u 0)), (1, .int x1), (2, .int x2), (3, .int x3), (4, .long x4), (6, .int x6), (8, .int (iI_ 0)), (9, .int (iI_ 0)), (10, .int (iI_ 0))] [] σ8) ∧ (¬ x3 < ((iI_ 2) * r7) → vp_in x1 9 ∧ vp_in (σ8 3 (Int32.toNatClampNeg x1)) 3 ∧ ((((iI_ 2) * (r7 + (σ8 10 (Int32.toNatClampNeg (σ8 3 (Int32.toNatClampNeg x1)))))) ≤ x3 → GG_ (zm_ u) mX10_powerOf (Pl_ P) 88 [(0, .ref (uq_ u 0)), (1, .int x1), (2, .int x2), (3, .int x3), (4, .long x4), (6, .int x6), (8, .int (iI_ 0)), (9, .int (iI_ 0)), (10, .int (iI_ 0))] [] σ8) ∧ (¬ ((iI_ 2) * (r7 + (σ8 10 (Int32.toNatClampNeg (σ8 3 (Int32.toNatClampNeg x1)))))) ≤ x3 → GG_ (zm_ u) mX10_powerOf (Pl_ P) 88 [(0, .ref (uq_ u 0)), (1, .int x1), (2, .int x2), (3, .int x3), (4, .long x4), (6, .int x6), (8, .int (iI_ 1)), (9, .int (iI_ 0)), (10, .int (iI_ 0))] [] σ8))))))))))) : GG_ (zm_ u) mX10_powerOf (Pl_ P) 19 [(0, .ref (uq_ u 0)), (1, .int x1), (2, .int x2), (3, .int x3), (4, .long x4), (6, .int x6)] [] σ := by
  refine g_iload dX10_powerOf_19 5 rfl ?_
  refine g_iconst (v := (iI_ 1)) dX10_powerOf_21 (by decide) ?_
  refine g_aload_n dX10_powerOf_22 0 rfl rfl ?_
  refine gm_LinenHouseModel_members w_815 rfl dX10_powerOf_23 ?_
  refine g_ishl dX10_powerOf_26 ?_
  refine g_icmp_ge 153 dX10_powerOf_27 (by decide) (fun c1 => ?_) (fun c1 => ?_)
  · replace H := H.1 c1
    refine g_lload dX10_powerOf_153 4 rfl ?_
    refine g_aload_n dX10_powerOf_155 0 rfl rfl ?_
    refine gm_LinenHouseModel_members w_815 rfl dX10_powerOf_156 ?_
    refine k_X10_orders w_1175 rfl ⟨Nat.le_of_ble_eq_true rfl, Nat.le_of_ble_eq_true rfl⟩ (Nat.le_of_ble_eq_true rfl) dX10_powerOf_159 H (fun r3 σ2 H => ?_)
    refine g_iload_n dX10_powerOf_162 2 rfl rfl ?_
    refine k_X10_lowest w_1178 rfl ⟨Nat.le_of_ble_eq_true rfl, Nat.le_of_ble_eq_true rfl⟩ (Nat.le_of_ble_eq_true rfl) dX10_powerOf_163 H (fun r5 σ4 H => ?_)
    exact g_lret rfl dX10_powerOf_166 ⟨_, rfl, H⟩
  · replace H := H.2 c1
    refine g_aload_n dX10_powerOf_30 0 rfl rfl ?_
    refine g_iload dX10_powerOf_31 5 rfl ?_
    refine k_X10_weightOf w_1171 rfl ⟨Nat.le_of_ble_eq_true rfl, Nat.le_of_ble_eq_true rfl⟩ (Nat.le_of_ble_eq_true rfl) dX10_powerOf_33 H (fun r7 σ6 H => ?_)
    refine g_istore (L' := [(7, .int r7), (0, .ref (uq_ u 0)), (1, .int x1), (2, .int x2), (3, .int x3), (4, .long x4), (6, .int x6)]) dX10_powerOf_36 (by decide) rfl ?_
    refine g_iload dX10_powerOf_38 6 rfl ?_
    refine g_iload_n dX10_powerOf_40 2 rfl rfl ?_
    refine k_X10_isIn w_989 rfl ⟨Nat.le_of_ble_eq_true rfl, Nat.le_of_ble_eq_true rfl⟩ (Nat.le_of_ble_eq_true rfl) dX10_powerOf_41 H (fun r9 σ8 H => ?_)
    refine g_if_ne 79 dX10_powerOf_44 (by decide) (fun c10 => ?_) (fun c10 => ?_)
    · replace H := H.1 c10
      refine g_iconst (v := (iI_ 0)) dX10_powerOf_79 (by decide) ?_
      refine g_istore (L' := [(8, .int (iI_ 0)), (7, .int r7), (0, .ref (uq_ u 0)), (1, .int x1), (2, .int x2), (3, .int x3), (4, .long x4), (6, .int x6)]) dX10_powerOf_80 (by decide) rfl ?_
      refine g_iconst (v := (iI_ 0)) dX10_powerOf_82 (by decide) ?_
      refine g_istore (L' := [(9, .int (iI_ 0)), (8, .int (iI_ 0)), (7, .int r7), (0, .ref (uq_ u 0)), (1, .int x1), (2, .int x2), (3, .int x3), (4, .long x4), (6, .int x6)]) dX10_powerOf_83 (by decide) rfl ?_
      refine g_iconst (v := (iI_ 0)) dX10_powerOf_85 (by decide) ?_
      refine g_istore (L' := [(10, .int (iI_ 0)), (9, .int (iI_ 0)), (8, .int (iI_ 0)), (7, .int r7), (0, .ref (uq_ u 0)), (1, .int x1), (2, .int x2), (3, .int x3), (4, .long x4), (6, .int x6)]) dX10_powerOf_86 (by decide) rfl ?_
      exact GG_.sub [4, 5, 6, 7, 8, 9, 2, 1, 0] rfl H
    · replace H := H.2 c10
      refine g_iconst (v := (iI_ 2)) dX10_powerOf_47 (by decide) ?_
      refine g_iload dX10_powerOf_48 0 rfl ?_
      refine g_imul dX10_powerOf_50 ?_
      refine g_iload_n dX10_powerOf_51 4 rfl rfl ?_
      refine g_icmp_gt 79 dX10_powerOf_52 (by decide) (fun c11 => ?_) (fun c11 => ?_)
      · replace H := H.1 c11
        refine g_iconst (v := (iI_ 0)) dX10_powerOf_79 (by decide) ?_
        refine g_istore (L' := [(8, .int (iI_ 0)), (7, .int r7), (0, .ref (uq_ u 0)), (1, .int x1), (2, .int x2), (3, .int x3), (4, .long x4), (6, .int x6)]) dX10_powerOf_80 (by decide) rfl ?_
        refine g_iconst (v := (iI_ 0)) dX10_powerOf_82 (by decide) ?_
        refine g_istore (L' := [(9, .int (iI_ 0)), (8, .int (iI_ 0)), (7, .int r7), (0, .ref (uq_ u 0)), (1, .int x1), (2, .int x2), (3, .int x3), (4, .long x4), (6, .int x6)]) dX10_powerOf_83 (by decide) rfl ?_
        refine g_iconst (v := (iI_ 0)) dX10_powerOf_85 (by decide) ?_
        refine g_istore (L' := [(10, .int (iI_ 0)), (9, .int (iI_ 0)), (8, .int (iI_ 0)), (7, .int r7), (0, .ref (uq_ u 0)), (1, .int x1), (2, .int x2), (3, .int x3), (4, .long x4), (6, .int x6)]) dX10_powerOf_86 (by decide) rfl ?_
        exact GG_.sub [4, 5, 6, 7, 8, 9, 2, 1, 0] rfl H
      · replace H := H.2 c11
        refine g_iconst (v := (iI_ 2)) dX10_powerOf_55 (by decide) ?_
        refine g_iload dX10_powerOf_56 0 rfl ?_
        refine g_aload_n dX10_powerOf_58 1 rfl rfl ?_
        refine gm_LinenHouseModel_weights w_823 rfl dX10_powerOf_59 ?_
        refine g_aload_n dX10_powerOf_62 1 rfl rfl ?_
        refine gm_LinenHouseModel_sorts w_816 rfl dX10_powerOf_63 ?_
        refine g_iload_n dX10_powerOf_66 2 rfl rfl ?_
        obtain ⟨h12, H⟩ := H
        refine am_3 h12 dX10_powerOf_67 ?_
        obtain ⟨h13, H⟩ := H
        refine am_10 h13 dX10_powerOf_68 ?_
        refine g_iadd dX10_powerOf_69 ?_
        refine g_imul dX10_powerOf_70 ?_
        refine g_iload_n dX10_powerOf_71 4 rfl rfl ?_
        refine g_icmp_le 79 dX10_powerOf_72 (by decide) (fun c14 => ?_) (fun c14 => ?_)
        · replace H := H.1 c14
          refine g_iconst (v := (iI_ 0)) dX10_powerOf_79 (by decide) ?_
          refine g_istore (L' := [(8, .int (iI_ 0)), (7, .int r7), (0, .ref (uq_ u 0)), (1, .int x1), (2, .int x2), (3, .int x3), (4, .long x4), (6, .int x6)]) dX10_powerOf_80 (by decide) rfl ?_
          refine g_iconst (v := (iI_ 0)) dX10_powerOf_82 (by decide) ?_
          refine g_istore (L' := [(9, .int (iI_ 0)), (8, .int (iI_ 0)), (7, .int r7), (0, .ref (uq_ u 0)), (1, .int x1), (2, .int x2), (3, .int x3), (4, .long x4), (6, .int x6)]) dX10_powerOf_83 (by decide) rfl ?_
          refine g_iconst (v := (iI_ 0)) dX10_powerOf_85 (by decide) ?_
          refine g_istore (L' := [(10, .int (iI_ 0)), (9, .int (iI_ 0)), (8, .int (iI_ 0)), (7, .int r7), (0, .ref (uq_ u 0)), (1, .int x1), (2, .int x2), (3, .int x3), (4, .long x4), (6, .int x6)]) dX10_powerOf_86 (by decide) rfl ?_
          exact GG_.sub [4, 5, 6, 7, 8, 9, 2, 1, 0] rfl H
        · replace H := H.2 c14
          refine g_iconst (v := (iI_ 1)) dX10_powerOf_75 (by decide) ?_
          refine g_goto 80 dX10_powerOf_76 (by decide) ?_
          refine g_istore (L' := [(8, .int (iI_ 1)), (7, .int r7), (0, .ref (uq_ u 0)), (1, .int x1), (2, .int x2), (3, .int x3), (4, .long x4), (6, .int x6)]) dX10_powerOf_80 (by decide) rfl ?_
          refine g_iconst (v := (iI_ 0)) dX10_powerOf_82 (by decide) ?_
          refine g_istore (L' := [(9, .int (iI_ 0)), (8, .int (iI_ 1)), (7, .int r7), (0, .ref (uq_ u 0)), (1, .int x1), (2, .int x2), (3, .int x3), (4, .long x4), (6, .int x6)]) dX10_powerOf_83 (by decide) rfl ?_
          refine g_iconst (v := (iI_ 0)) dX10_powerOf_85 (by decide) ?_
          refine g_istore (L' := [(10, .int (iI_ 0)), (9, .int (iI_ 0)), (8, .int (iI_ 1)), (7, .int r7), (0, .ref (uq_ u 0)), (1, .int x1), (2, .int x2), (3, .int x3), (4, .long x4), (6, .int x6)]) dX10_powerOf_86 (by decide) rfl ?_
          exact GG_.sub [4, 5, 6, 7, 8, 9, 2, 1, 0] rfl H
set_option maxHeartbeats 4000000 in
set_option maxRecDepth 100000 in
theorem bX10_powerOf_88 (u : Ux_) {P : Int64 → St_ → Prop}  (σ : St_) (x1 : Int32) (x2 : Int32) (x3 : Int32) (x4 : Int64) (x6 : Int32) (x8 : Int32) (x9 : Int32) (x10 : Int32) (H : (((σ 2 0) ≤ x10 → ((x8 = iI_ 0 → GG_ (zm_ u) mX10_powerOf (Pl_ P) 19 [(0, .ref (uq_ u 0)), (1, .int x1), (2, .int x2), (3, .int x3), (4, .long (x4 + (iL_ 0))), (6, .int (x6 + (iI_ 1)))] [] σ) ∧ (¬ x8 = iI_ 0 → MMl_ (zm_ u) mX10_orders [.int x9] σ (fun r4 σ3 => MMl_ (zm_ u) mX10_orders [.int (((σ3 2 0) - (iI_ 1)) - x9)] σ3 (fun r6 σ5 => GG_ (zm_ u) mX10_powerOf (Pl_ P) 19 [(0, .ref (uq_ u 0)), (1, .int x1), (2, .int x2), (3, .int x3), (4, .long (x4 + (r4 * r6))), (6, .int (x6 + (iI_ 1)))] [] σ5))))) ∧ (¬ (σ 2 0) ≤ x10 → GG_ (zm_ u) mX10_powerOf (Pl_ P) 88 [(0, .ref (uq_ u 0)), (1, .int x1), (2, .int x2), (3, .int x3), (4, .long x4), (6, .int x6), (8, .int x8), (9, .int (x9 + ((x6 >>> (x10 &&& 31)) &&& (iI_ 1)))), (10, .int (x10 + (iI_ 1)))] [] σ))) : GG_ (zm_ u) mX10_powerOf (Pl_ P) 88 [(0, .ref (uq_ u 0)), (1, .int x1), (2, .int x2), (3, .int x3), (4, .long x4), (6, .int x6), (8, .int x8), (9, .int x9), (10, .int x10)] [] σ := by
  refine g_iload dX10_powerOf_88 8 rfl ?_
  refine g_aload_n dX10_powerOf_90 0 rfl rfl ?_
  refine gm_LinenHouseModel_members w_815 rfl dX10_powerOf_91 ?_
  refine g_icmp_ge 115 dX10_powerOf_94 (by decide) (fun c1 => ?_) (fun c1 => ?_)
  · replace H := H.1 c1
    refine g_lload dX10_powerOf_115 4 rfl ?_
    refine g_iload dX10_powerOf_117 6 rfl ?_
    refine g_if_eq 143 dX10_powerOf_119 (by decide) (fun c2 => ?_) (fun c2 => ?_)
    · replace H := H.1 c2
      refine g_lconst (v := (iL_ 0)) dX10_powerOf_143 (by decide) ?_
      refine g_ladd dX10_powerOf_144 ?_
      refine g_lstore (L' := [(4, .long (x4 + (iL_ 0))), (0, .ref (uq_ u 0)), (1, .int x1), (2, .int x2), (3, .int x3), (6, .int x6), (8, .int x8), (9, .int x9), (10, .int x10)]) dX10_powerOf_145 (by decide) rfl ?_
      refine g_iinc (v := (x6 + (iI_ 1))) (L' := [(6, .int (x6 + (iI_ 1))), (4, .long (x4 + (iL_ 0))), (0, .ref (uq_ u 0)), (1, .int x1), (2, .int x2), (3, .int x3), (8, .int x8), (9, .int x9), (10, .int x10)]) dX10_powerOf_147 5 rfl rfl (by decide) rfl ?_
      refine g_goto 19 dX10_powerOf_150 (by decide) ?_
      exact GG_.sub [2, 3, 4, 5, 1, 0] rfl H
    · replace H := H.2 c2
      refine g_iload dX10_powerOf_122 7 rfl ?_
      refine k_X10_orders w_1175 rfl ⟨Nat.le_of_ble_eq_true rfl, Nat.le_of_ble_eq_true rfl⟩ (Nat.le_of_ble_eq_true rfl) dX10_powerOf_124 H (fun r4 σ3 H => ?_)
      refine g_aload_n dX10_powerOf_127 0 rfl rfl ?_
      refine gm_LinenHouseModel_members w_815 rfl dX10_powerOf_128 ?_
      refine g_iconst (v := (iI_ 1)) dX10_powerOf_131 (by decide) ?_
      refine g_isub dX10_powerOf_132 ?_
      refine g_iload dX10_powerOf_133 7 rfl ?_
      refine g_isub dX10_powerOf_135 ?_
      refine k_X10_orders w_1175 rfl ⟨Nat.le_of_ble_eq_true rfl, Nat.le_of_ble_eq_true rfl⟩ (Nat.le_of_ble_eq_true rfl) dX10_powerOf_136 H (fun r6 σ5 H => ?_)
      refine g_lmul dX10_powerOf_139 ?_
      refine g_goto 144 dX10_powerOf_140 (by decide) ?_
      refine g_ladd dX10_powerOf_144 ?_
      refine g_lstore (L' := [(4, .long (x4 + (r4 * r6))), (0, .ref (uq_ u 0)), (1, .int x1), (2, .int x2), (3, .int x3), (6, .int x6), (8, .int x8), (9, .int x9), (10, .int x10)]) dX10_powerOf_145 (by decide) rfl ?_
      refine g_iinc (v := (x6 + (iI_ 1))) (L' := [(6, .int (x6 + (iI_ 1))), (4, .long (x4 + (r4 * r6))), (0, .ref (uq_ u 0)), (1, .int x1), (2, .int x2), (3, .int x3), (8, .int x8), (9, .int x9), (10, .int x10)]) dX10_powerOf_147 5 rfl rfl (by decide) rfl ?_
      refine g_goto 19 dX10_powerOf_150 (by decide) ?_
      exact GG_.sub [2, 3, 4, 5, 1, 0] rfl H
  · replace H := H.2 c1
    refine g_iload dX10_powerOf_97 7 rfl ?_
    refine g_iload dX10_powerOf_99 5 rfl ?_
    refine g_iload dX10_powerOf_101 8 rfl ?_
    refine g_ishr dX10_powerOf_103 ?_
    refine g_iconst (v := (iI_ 1)) dX10_powerOf_104 (by decide) ?_
    refine g_iand dX10_powerOf_105 ?_
    refine g_iadd dX10_powerOf_106 ?_
    refine g_istore (L' := [(9, .int (x9 + ((x6 >>> (x10 &&& 31)) &&& (iI_ 1)))), (0, .ref (uq_ u 0)), (1, .int x1), (2, .int x2), (3, .int x3), (4, .long x4), (6, .int x6), (8, .int x8), (10, .int x10)]) dX10_powerOf_107 (by decide) rfl ?_
    refine g_iinc (v := (x10 + (iI_ 1))) (L' := [(10, .int (x10 + (iI_ 1))), (9, .int (x9 + ((x6 >>> (x10 &&& 31)) &&& (iI_ 1)))), (0, .ref (uq_ u 0)), (1, .int x1), (2, .int x2), (3, .int x3), (4, .long x4), (6, .int x6), (8, .int x8)]) dX10_powerOf_109 8 rfl rfl (by decide) rfl ?_
    refine g_goto 88 dX10_powerOf_112 (by decide) ?_
    exact GG_.sub [2, 3, 4, 5, 6, 7, 8, 1, 0] rfl H
set_option maxHeartbeats 4000000 in
set_option maxRecDepth 100000 in
theorem eX10_powerOf (u : Ux_) {P : Int64 → St_ → Prop}  (σ : St_) (x1 : Int32) (x2 : Int32) (H : MMi_ (zm_ u) mX10_weightOf [.ref (uq_ u 0), .int (((iI_ 1) <<< ((σ 2 0) &&& 31)) - (iI_ 1))] σ (fun r2 σ1 => GG_ (zm_ u) mX10_powerOf (Pl_ P) 19 [(0, .ref (uq_ u 0)), (1, .int x1), (2, .int x2), (3, .int r2), (4, .long (iL_ 0)), (6, .int (iI_ 0))] [] σ1)) : MMl_ (zm_ u) mX10_powerOf [.ref (uq_ u 0), .int x1, .int x2] σ P := by
  refine MM_.of (L := [(0, .ref (uq_ u 0)), (1, .int x1), (2, .int x2)]) (by decide +kernel) (Nat.le_of_ble_eq_true rfl) rfl ?_
  refine g_aload_n dX10_powerOf_0 0 rfl rfl ?_
  refine g_iconst (v := (iI_ 1)) dX10_powerOf_1 (by decide) ?_
  refine g_aload_n dX10_powerOf_2 0 rfl rfl ?_
  refine gm_LinenHouseModel_members w_815 rfl dX10_powerOf_3 ?_
  refine g_ishl dX10_powerOf_6 ?_
  refine g_iconst (v := (iI_ 1)) dX10_powerOf_7 (by decide) ?_
  refine g_isub dX10_powerOf_8 ?_
  refine k_X10_weightOf w_1171 rfl ⟨Nat.le_of_ble_eq_true rfl, Nat.le_of_ble_eq_true rfl⟩ (Nat.le_of_ble_eq_true rfl) dX10_powerOf_9 H (fun r2 σ1 H => ?_)
  refine g_istore_n (L' := [(3, .int r2), (0, .ref (uq_ u 0)), (1, .int x1), (2, .int x2)]) dX10_powerOf_12 rfl (by decide) rfl ?_
  refine g_lconst (v := (iL_ 0)) dX10_powerOf_13 (by decide) ?_
  refine g_lstore (L' := [(4, .long (iL_ 0)), (3, .int r2), (0, .ref (uq_ u 0)), (1, .int x1), (2, .int x2)]) dX10_powerOf_14 (by decide) rfl ?_
  refine g_iconst (v := (iI_ 0)) dX10_powerOf_16 (by decide) ?_
  refine g_istore (L' := [(6, .int (iI_ 0)), (4, .long (iL_ 0)), (3, .int r2), (0, .ref (uq_ u 0)), (1, .int x1), (2, .int x2)]) dX10_powerOf_17 (by decide) rfl ?_
  exact GG_.sub [3, 4, 5, 2, 1, 0] rfl H
set_option maxHeartbeats 4000000 in
set_option maxRecDepth 100000 in
theorem eX10_power (u : Ux_) {P : Int64 → St_ → Prop}  (σ : St_) (x1 : Int32) (x2 : Int32) (H : MMi_ (zm_ u) mX10_isMember [.ref (uq_ u 0), .int x1] σ (fun r2 σ1 => ((r2 = iI_ 0 → MMl_ (zm_ u) mX10_no [.int (iI_ (-2))] σ1 (fun r5 σ4 => P r5 σ4)) ∧ (¬ r2 = iI_ 0 → MMi_ (zm_ u) mX10_in [.int x2, .int (iI_ 0), .int (iI_ 1)] σ1 (fun r7 σ6 => ((r7 = iI_ 0 → MMl_ (zm_ u) mX10_no [.int (iI_ (-2))] σ6 (fun r10 σ9 => P r10 σ9)) ∧ (¬ r7 = iI_ 0 → MMl_ (zm_ u) mX10_powerOf [.ref (uq_ u 0), .int x1, .int x2] σ6 (fun r12 σ11 => P r12 σ11)))))))) : MMl_ (zm_ u) mX10_power [.ref (uq_ u 0), .int x1, .int x2] σ P := by
  refine MM_.of (L := [(0, .ref (uq_ u 0)), (1, .int x1), (2, .int x2)]) (by decide +kernel) (Nat.le_of_ble_eq_true rfl) rfl ?_
  refine g_aload_n dX10_power_0 0 rfl rfl ?_
  refine g_iload_n dX10_power_1 1 rfl rfl ?_
  refine k_X10_isMember w_1000 rfl ⟨Nat.le_of_ble_eq_true rfl, Nat.le_of_ble_eq_true rfl⟩ (Nat.le_of_ble_eq_true rfl) dX10_power_2 H (fun r2 σ1 H => ?_)
  refine g_if_eq 26 dX10_power_5 (by decide) (fun c3 => ?_) (fun c3 => ?_)
  · replace H := H.1 c3
    refine g_bipush (v := (iI_ (-2))) dX10_power_26 (by decide) ?_
    refine k_X10_no w_1181 rfl ⟨Nat.le_of_ble_eq_true rfl, Nat.le_of_ble_eq_true rfl⟩ (Nat.le_of_ble_eq_true rfl) dX10_power_28 H (fun r5 σ4 H => ?_)
    exact g_lret rfl dX10_power_31 ⟨_, rfl, H⟩
  · replace H := H.2 c3
    refine g_iload_n dX10_power_8 2 rfl rfl ?_
    refine g_iconst (v := (iI_ 0)) dX10_power_9 (by decide) ?_
    refine g_iconst (v := (iI_ 1)) dX10_power_10 (by decide) ?_
    refine k_X10_in w_954 rfl ⟨Nat.le_of_ble_eq_true rfl, Nat.le_of_ble_eq_true rfl⟩ (Nat.le_of_ble_eq_true rfl) dX10_power_11 H (fun r7 σ6 H => ?_)
    refine g_if_eq 26 dX10_power_14 (by decide) (fun c8 => ?_) (fun c8 => ?_)
    · replace H := H.1 c8
      refine g_bipush (v := (iI_ (-2))) dX10_power_26 (by decide) ?_
      refine k_X10_no w_1181 rfl ⟨Nat.le_of_ble_eq_true rfl, Nat.le_of_ble_eq_true rfl⟩ (Nat.le_of_ble_eq_true rfl) dX10_power_28 H (fun r10 σ9 H => ?_)
      exact g_lret rfl dX10_power_31 ⟨_, rfl, H⟩
    · replace H := H.2 c8
      refine g_aload_n dX10_power_17 0 rfl rfl ?_
      refine g_iload_n dX10_power_18 1 rfl rfl ?_
      refine g_iload_n dX10_power_19 2 rfl rfl ?_
      refine k_X10_powerOf w_1167 rfl ⟨Nat.le_of_ble_eq_true rfl, Nat.le_of_ble_eq_true rfl⟩ (Nat.le_of_ble_eq_true rfl) dX10_power_20 H (fun r12 σ11 H => ?_)
      refine g_goto 31 dX10_power_23 (by decide) ?_
      exact g_lret rfl dX10_power_31 ⟨_, rfl, H⟩
set_option maxHeartbeats 4000000 in
set_option maxRecDepth 100000 in
theorem bX10_beats_5 (u : Ux_) {P : Int32 → St_ → Prop}  (σ : St_) (x1 : Int32) (x2 : Int32) (x3 : Int32) (x4 : Int32) (H : (((σ 2 0) ≤ x4 → ((x3 ≤ iI_ 0 → P (iI_ 0) σ) ∧ (¬ x3 ≤ iI_ 0 → P (iI_ 1) σ))) ∧ (¬ (σ 2 0) ≤ x4 → MMi_ (zm_ u) mX10_isOther [.ref (uq_ u 0), .int x4, .int x1, .int x2] σ (fun r4 σ3 => ((r4 = iI_ 0 → GG_ (zm_ u) mX10_beats (Pi_ P) 5 [(0, .ref (uq_ u 0)), (1, .int x1), (2, .int x2), (3, .int (x3 + (iI_ 1))), (4, .int (x4 + (iI_ 1)))] [] σ3) ∧ (¬ r4 = iI_ 0 → GG_ (zm_ u) mX10_beats (Pi_ P) 5 [(0, .ref (uq_ u 0)), (1, .int x1), (2, .int x2), (3, .int (x3 + (iI_ (-1)))), (4, .int (x4 + (iI_ 1)))] [] σ3)))))) : GG_ (zm_ u) mX10_beats (Pi_ P) 5 [(0, .ref (uq_ u 0)), (1, .int x1), (2, .int x2), (3, .int x3), (4, .int x4)] [] σ := by
  refine g_iload dX10_beats_5 4 rfl ?_
  refine g_aload_n dX10_beats_7 0 rfl rfl ?_
  refine gm_LinenHouseModel_members w_815 rfl dX10_beats_8 ?_
  refine g_icmp_ge 39 dX10_beats_11 (by decide) (fun c1 => ?_) (fun c1 => ?_)
  · replace H := H.1 c1
    refine g_iload_n dX10_beats_39 3 rfl rfl ?_
    refine g_if_le 47 dX10_beats_40 (by decide) (fun c2 => ?_) (fun c2 => ?_)
    · replace H := H.1 c2
      refine g_iconst (v := (iI_ 0)) dX10_beats_47 (by decide) ?_
      exact g_zret rfl (by decide) dX10_beats_48 ⟨_, rfl, H⟩
    · replace H := H.2 c2
      refine g_iconst (v := (iI_ 1)) dX10_beats_43 (by decide) ?_
      refine g_goto 48 dX10_beats_44 (by decide) ?_
      exact g_zret rfl (by decide) dX10_beats_48 ⟨_, rfl, H⟩
  · replace H := H.2 c1
    refine g_iload_n dX10_beats_14 3 rfl rfl ?_
    refine g_aload_n dX10_beats_15 0 rfl rfl ?_
    refine g_iload dX10_beats_16 4 rfl ?_
    refine g_iload_n dX10_beats_18 1 rfl rfl ?_
    refine g_iload_n dX10_beats_19 2 rfl rfl ?_
    refine k_X10_isOther w_1083 rfl ⟨Nat.le_of_ble_eq_true rfl, Nat.le_of_ble_eq_true rfl⟩ (Nat.le_of_ble_eq_true rfl) dX10_beats_20 H (fun r4 σ3 H => ?_)
    refine g_if_eq 30 dX10_beats_23 (by decide) (fun c5 => ?_) (fun c5 => ?_)
    · replace H := H.1 c5
      refine g_iconst (v := (iI_ 1)) dX10_beats_30 (by decide) ?_
      refine g_iadd dX10_beats_31 ?_
      refine g_istore_n (L' := [(3, .int (x3 + (iI_ 1))), (0, .ref (uq_ u 0)), (1, .int x1), (2, .int x2), (4, .int x4)]) dX10_beats_32 rfl (by decide) rfl ?_
      refine g_iinc (v := (x4 + (iI_ 1))) (L' := [(4, .int (x4 + (iI_ 1))), (3, .int (x3 + (iI_ 1))), (0, .ref (uq_ u 0)), (1, .int x1), (2, .int x2)]) dX10_beats_33 4 rfl rfl (by decide) rfl ?_
      refine g_goto 5 dX10_beats_36 (by decide) ?_
      exact GG_.sub [2, 3, 4, 1, 0] rfl H
    · replace H := H.2 c5
      refine g_iconst (v := (iI_ (-1))) dX10_beats_26 (by decide) ?_
      refine g_goto 31 dX10_beats_27 (by decide) ?_
      refine g_iadd dX10_beats_31 ?_
      refine g_istore_n (L' := [(3, .int (x3 + (iI_ (-1)))), (0, .ref (uq_ u 0)), (1, .int x1), (2, .int x2), (4, .int x4)]) dX10_beats_32 rfl (by decide) rfl ?_
      refine g_iinc (v := (x4 + (iI_ 1))) (L' := [(4, .int (x4 + (iI_ 1))), (3, .int (x3 + (iI_ (-1)))), (0, .ref (uq_ u 0)), (1, .int x1), (2, .int x2)]) dX10_beats_33 4 rfl rfl (by decide) rfl ?_
      refine g_goto 5 dX10_beats_36 (by decide) ?_
      exact GG_.sub [2, 3, 4, 1, 0] rfl H
set_option maxHeartbeats 4000000 in
set_option maxRecDepth 100000 in
theorem eX10_beats (u : Ux_) {P : Int32 → St_ → Prop}  (σ : St_) (x1 : Int32) (x2 : Int32) (H : GG_ (zm_ u) mX10_beats (Pi_ P) 5 [(0, .ref (uq_ u 0)), (1, .int x1), (2, .int x2), (3, .int (iI_ 0)), (4, .int (iI_ 0))] [] σ) : MMi_ (zm_ u) mX10_beats [.ref (uq_ u 0), .int x1, .int x2] σ P := by
  refine MM_.of (L := [(0, .ref (uq_ u 0)), (1, .int x1), (2, .int x2)]) (by decide +kernel) (Nat.le_of_ble_eq_true rfl) rfl ?_
  refine g_iconst (v := (iI_ 0)) dX10_beats_0 (by decide) ?_
  refine g_istore_n (L' := [(3, .int (iI_ 0)), (0, .ref (uq_ u 0)), (1, .int x1), (2, .int x2)]) dX10_beats_1 rfl (by decide) rfl ?_
  refine g_iconst (v := (iI_ 0)) dX10_beats_2 (by decide) ?_
  refine g_istore (L' := [(4, .int (iI_ 0)), (3, .int (iI_ 0)), (0, .ref (uq_ u 0)), (1, .int x1), (2, .int x2)]) dX10_beats_3 (by decide) rfl ?_
  exact GG_.sub [2, 3, 4, 1, 0] rfl H
set_option maxHeartbeats 4000000 in
set_option maxRecDepth 100000 in
theorem eX10_ringNow (u : Ux_) {P : Int32 → St_ → Prop}  (σ : St_)  (H : MMv_ (zm_ u) mX10_reads [.ref (uq_ u 0)] σ (fun σ1 => MMi_ (zm_ u) mX10_beats [.ref (uq_ u 0), .int (iI_ 0), .int (iI_ 1)] σ1 (fun r3 σ2 => ((r3 = iI_ 0 → MMi_ (zm_ u) mX10_beats [.ref (uq_ u 0), .int (iI_ 1), .int (iI_ 0)] σ2 (fun r6 σ5 => ((r6 = iI_ 0 → P (iI_ 0) σ5) ∧ (¬ r6 = iI_ 0 → MMi_ (zm_ u) mX10_beats [.ref (uq_ u 0), .int (iI_ 2), .int (iI_ 1)] σ5 (fun r9 σ8 => ((r9 = iI_ 0 → P (iI_ 0) σ8) ∧ (¬ r9 = iI_ 0 → MMi_ (zm_ u) mX10_beats [.ref (uq_ u 0), .int (iI_ 0), .int (iI_ 2)] σ8 (fun r12 σ11 => ((r12 = iI_ 0 → P (iI_ 0) σ11) ∧ (¬ r12 = iI_ 0 → P (iI_ 2) σ11)))))))))) ∧ (¬ r3 = iI_ 0 → MMi_ (zm_ u) mX10_beats [.ref (uq_ u 0), .int (iI_ 1), .int (iI_ 2)] σ2 (fun r15 σ14 => ((r15 = iI_ 0 → MMi_ (zm_ u) mX10_beats [.ref (uq_ u 0), .int (iI_ 1), .int (iI_ 0)] σ14 (fun r18 σ17 => ((r18 = iI_ 0 → P (iI_ 0) σ17) ∧ (¬ r18 = iI_ 0 → MMi_ (zm_ u) mX10_beats [.ref (uq_ u 0), .int (iI_ 2), .int (iI_ 1)] σ17 (fun r21 σ20 => ((r21 = iI_ 0 → P (iI_ 0) σ20) ∧ (¬ r21 = iI_ 0 → MMi_ (zm_ u) mX10_beats [.ref (uq_ u 0), .int (iI_ 0), .int (iI_ 2)] σ20 (fun r24 σ23 => ((r24 = iI_ 0 → P (iI_ 0) σ23) ∧ (¬ r24 = iI_ 0 → P (iI_ 2) σ23)))))))))) ∧ (¬ r15 = iI_ 0 → MMi_ (zm_ u) mX10_beats [.ref (uq_ u 0), .int (iI_ 2), .int (iI_ 0)] σ14 (fun r27 σ26 => ((r27 = iI_ 0 → MMi_ (zm_ u) mX10_beats [.ref (uq_ u 0), .int (iI_ 1), .int (iI_ 0)] σ26 (fun r30 σ29 => ((r30 = iI_ 0 → P (iI_ 0) σ29) ∧ (¬ r30 = iI_ 0 → MMi_ (zm_ u) mX10_beats [.ref (uq_ u 0), .int (iI_ 2), .int (iI_ 1)] σ29 (fun r33 σ32 => ((r33 = iI_ 0 → P (iI_ 0) σ32) ∧ (¬ r33 = iI_ 0 → MMi_ (zm_ u) mX10_beats [.ref (uq_ u 0), .int (iI_ 0), .int (iI_ 2)] σ32 (fun r36 σ35 => ((r36 = iI_ 0 → P (iI_ 0) σ35) ∧ (¬ r36 = iI_ 0 → P (iI_ 2) σ35)))))))))) ∧ (¬ r27 = iI_ 0 → P (iI_ 1) σ26))))))))))) : MMi_ (zm_ u) mX10_ringNow [.ref (uq_ u 0)] σ P := by
  refine MM_.of (L := [(0, .ref (uq_ u 0))]) (by decide +kernel) (Nat.le_of_ble_eq_true rfl) rfl ?_
  refine g_aload_n dX10_ringNow_0 0 rfl rfl ?_
  refine k_X10_reads w_1004 rfl ⟨Nat.le_of_ble_eq_true rfl, Nat.le_of_ble_eq_true rfl⟩ (Nat.le_of_ble_eq_true rfl) dX10_ringNow_1 H (fun σ1 H => ?_)
  refine g_aload_n dX10_ringNow_4 0 rfl rfl ?_
  refine g_iconst (v := (iI_ 0)) dX10_ringNow_5 (by decide) ?_
  refine g_iconst (v := (iI_ 1)) dX10_ringNow_6 (by decide) ?_
  refine k_X10_beats w_1193 rfl ⟨Nat.le_of_ble_eq_true rfl, Nat.le_of_ble_eq_true rfl⟩ (Nat.le_of_ble_eq_true rfl) dX10_ringNow_7 H (fun r3 σ2 H => ?_)
  refine g_if_eq 35 dX10_ringNow_10 (by decide) (fun c4 => ?_) (fun c4 => ?_)
  · replace H := H.1 c4
    refine g_aload_n dX10_ringNow_35 0 rfl rfl ?_
    refine g_iconst (v := (iI_ 1)) dX10_ringNow_36 (by decide) ?_
    refine g_iconst (v := (iI_ 0)) dX10_ringNow_37 (by decide) ?_
    refine k_X10_beats w_1193 rfl ⟨Nat.le_of_ble_eq_true rfl, Nat.le_of_ble_eq_true rfl⟩ (Nat.le_of_ble_eq_true rfl) dX10_ringNow_38 H (fun r6 σ5 H => ?_)
    refine g_if_eq 66 dX10_ringNow_41 (by decide) (fun c7 => ?_) (fun c7 => ?_)
    · replace H := H.1 c7
      refine g_iconst (v := (iI_ 0)) dX10_ringNow_66 (by decide) ?_
      exact g_iret rfl dX10_ringNow_67 ⟨_, rfl, H⟩
    · replace H := H.2 c7
      refine g_aload_n dX10_ringNow_44 0 rfl rfl ?_
      refine g_iconst (v := (iI_ 2)) dX10_ringNow_45 (by decide) ?_
      refine g_iconst (v := (iI_ 1)) dX10_ringNow_46 (by decide) ?_
      refine k_X10_beats w_1193 rfl ⟨Nat.le_of_ble_eq_true rfl, Nat.le_of_ble_eq_true rfl⟩ (Nat.le_of_ble_eq_true rfl) dX10_ringNow_47 H (fun r9 σ8 H => ?_)
      refine g_if_eq 66 dX10_ringNow_50 (by decide) (fun c10 => ?_) (fun c10 => ?_)
      · replace H := H.1 c10
        refine g_iconst (v := (iI_ 0)) dX10_ringNow_66 (by decide) ?_
        exact g_iret rfl dX10_ringNow_67 ⟨_, rfl, H⟩
      · replace H := H.2 c10
        refine g_aload_n dX10_ringNow_53 0 rfl rfl ?_
        refine g_iconst (v := (iI_ 0)) dX10_ringNow_54 (by decide) ?_
        refine g_iconst (v := (iI_ 2)) dX10_ringNow_55 (by decide) ?_
        refine k_X10_beats w_1193 rfl ⟨Nat.le_of_ble_eq_true rfl, Nat.le_of_ble_eq_true rfl⟩ (Nat.le_of_ble_eq_true rfl) dX10_ringNow_56 H (fun r12 σ11 H => ?_)
        refine g_if_eq 66 dX10_ringNow_59 (by decide) (fun c13 => ?_) (fun c13 => ?_)
        · replace H := H.1 c13
          refine g_iconst (v := (iI_ 0)) dX10_ringNow_66 (by decide) ?_
          exact g_iret rfl dX10_ringNow_67 ⟨_, rfl, H⟩
        · replace H := H.2 c13
          refine g_iconst (v := (iI_ 2)) dX10_ringNow_62 (by decide) ?_
          refine g_goto 67 dX10_ringNow_63 (by decide) ?_
          exact g_iret rfl dX10_ringNow_67 ⟨_, rfl, H⟩
  · replace H := H.2 c4
    refine g_aload_n dX10_ringNow_13 0 rfl rfl ?_
    refine g_iconst (v := (iI_ 1)) dX10_ringNow_14 (by decide) ?_
    refine g_iconst (v := (iI_ 2)) dX10_ringNow_15 (by decide) ?_
    refine k_X10_beats w_1193 rfl ⟨Nat.le_of_ble_eq_true rfl, Nat.le_of_ble_eq_true rfl⟩ (Nat.le_of_ble_eq_true rfl) dX10_ringNow_16 H (fun r15 σ14 H => ?_)
    refine g_if_eq 35 dX10_ringNow_19 (by decide) (fun c16 => ?_) (fun c16 => ?_)
    · replace H := H.1 c16
      refine g_aload_n dX10_ringNow_35 0 rfl rfl ?_
      refine g_iconst (v := (iI_ 1)) dX10_ringNow_36 (by decide) ?_
      refine g_iconst (v := (iI_ 0)) dX10_ringNow_37 (by decide) ?_
      refine k_X10_beats w_1193 rfl ⟨Nat.le_of_ble_eq_true rfl, Nat.le_of_ble_eq_true rfl⟩ (Nat.le_of_ble_eq_true rfl) dX10_ringNow_38 H (fun r18 σ17 H => ?_)
      refine g_if_eq 66 dX10_ringNow_41 (by decide) (fun c19 => ?_) (fun c19 => ?_)
      · replace H := H.1 c19
        refine g_iconst (v := (iI_ 0)) dX10_ringNow_66 (by decide) ?_
        exact g_iret rfl dX10_ringNow_67 ⟨_, rfl, H⟩
      · replace H := H.2 c19
        refine g_aload_n dX10_ringNow_44 0 rfl rfl ?_
        refine g_iconst (v := (iI_ 2)) dX10_ringNow_45 (by decide) ?_
        refine g_iconst (v := (iI_ 1)) dX10_ringNow_46 (by decide) ?_
        refine k_X10_beats w_1193 rfl ⟨Nat.le_of_ble_eq_true rfl, Nat.le_of_ble_eq_true rfl⟩ (Nat.le_of_ble_eq_true rfl) dX10_ringNow_47 H (fun r21 σ20 H => ?_)
        refine g_if_eq 66 dX10_ringNow_50 (by decide) (fun c22 => ?_) (fun c22 => ?_)
        · replace H := H.1 c22
          refine g_iconst (v := (iI_ 0)) dX10_ringNow_66 (by decide) ?_
          exact g_iret rfl dX10_ringNow_67 ⟨_, rfl, H⟩
        · replace H := H.2 c22
          refine g_aload_n dX10_ringNow_53 0 rfl rfl ?_
          refine g_iconst (v := (iI_ 0)) dX10_ringNow_54 (by decide) ?_
          refine g_iconst (v := (iI_ 2)) dX10_ringNow_55 (by decide) ?_
          refine k_X10_beats w_1193 rfl ⟨Nat.le_of_ble_eq_true rfl, Nat.le_of_ble_eq_true rfl⟩ (Nat.le_of_ble_eq_true rfl) dX10_ringNow_56 H (fun r24 σ23 H => ?_)
          refine g_if_eq 66 dX10_ringNow_59 (by decide) (fun c25 => ?_) (fun c25 => ?_)
          · replace H := H.1 c25
            refine g_iconst (v := (iI_ 0)) dX10_ringNow_66 (by decide) ?_
            exact g_iret rfl dX10_ringNow_67 ⟨_, rfl, H⟩
          · replace H := H.2 c25
            refine g_iconst (v := (iI_ 2)) dX10_ringNow_62 (by decide) ?_
            refine g_goto 67 dX10_ringNow_63 (by decide) ?_
            exact g_iret rfl dX10_ringNow_67 ⟨_, rfl, H⟩
    · replace H := H.2 c16
      refine g_aload_n dX10_ringNow_22 0 rfl rfl ?_
      refine g_iconst (v := (iI_ 2)) dX10_ringNow_23 (by decide) ?_
      refine g_iconst (v := (iI_ 0)) dX10_ringNow_24 (by decide) ?_
      refine k_X10_beats w_1193 rfl ⟨Nat.le_of_ble_eq_true rfl, Nat.le_of_ble_eq_true rfl⟩ (Nat.le_of_ble_eq_true rfl) dX10_ringNow_25 H (fun r27 σ26 H => ?_)
      refine g_if_eq 35 dX10_ringNow_28 (by decide) (fun c28 => ?_) (fun c28 => ?_)
      · replace H := H.1 c28
        refine g_aload_n dX10_ringNow_35 0 rfl rfl ?_
        refine g_iconst (v := (iI_ 1)) dX10_ringNow_36 (by decide) ?_
        refine g_iconst (v := (iI_ 0)) dX10_ringNow_37 (by decide) ?_
        refine k_X10_beats w_1193 rfl ⟨Nat.le_of_ble_eq_true rfl, Nat.le_of_ble_eq_true rfl⟩ (Nat.le_of_ble_eq_true rfl) dX10_ringNow_38 H (fun r30 σ29 H => ?_)
        refine g_if_eq 66 dX10_ringNow_41 (by decide) (fun c31 => ?_) (fun c31 => ?_)
        · replace H := H.1 c31
          refine g_iconst (v := (iI_ 0)) dX10_ringNow_66 (by decide) ?_
          exact g_iret rfl dX10_ringNow_67 ⟨_, rfl, H⟩
        · replace H := H.2 c31
          refine g_aload_n dX10_ringNow_44 0 rfl rfl ?_
          refine g_iconst (v := (iI_ 2)) dX10_ringNow_45 (by decide) ?_
          refine g_iconst (v := (iI_ 1)) dX10_ringNow_46 (by decide) ?_
          refine k_X10_beats w_1193 rfl ⟨Nat.le_of_ble_eq_true rfl, Nat.le_of_ble_eq_true rfl⟩ (Nat.le_of_ble_eq_true rfl) dX10_ringNow_47 H (fun r33 σ32 H => ?_)
          refine g_if_eq 66 dX10_ringNow_50 (by decide) (fun c34 => ?_) (fun c34 => ?_)
          · replace H := H.1 c34
            refine g_iconst (v := (iI_ 0)) dX10_ringNow_66 (by decide) ?_
            exact g_iret rfl dX10_ringNow_67 ⟨_, rfl, H⟩
          · replace H := H.2 c34
            refine g_aload_n dX10_ringNow_53 0 rfl rfl ?_
            refine g_iconst (v := (iI_ 0)) dX10_ringNow_54 (by decide) ?_
            refine g_iconst (v := (iI_ 2)) dX10_ringNow_55 (by decide) ?_
            refine k_X10_beats w_1193 rfl ⟨Nat.le_of_ble_eq_true rfl, Nat.le_of_ble_eq_true rfl⟩ (Nat.le_of_ble_eq_true rfl) dX10_ringNow_56 H (fun r36 σ35 H => ?_)
            refine g_if_eq 66 dX10_ringNow_59 (by decide) (fun c37 => ?_) (fun c37 => ?_)
            · replace H := H.1 c37
              refine g_iconst (v := (iI_ 0)) dX10_ringNow_66 (by decide) ?_
              exact g_iret rfl dX10_ringNow_67 ⟨_, rfl, H⟩
            · replace H := H.2 c37
              refine g_iconst (v := (iI_ 2)) dX10_ringNow_62 (by decide) ?_
              refine g_goto 67 dX10_ringNow_63 (by decide) ?_
              exact g_iret rfl dX10_ringNow_67 ⟨_, rfl, H⟩
      · replace H := H.2 c28
        refine g_iconst (v := (iI_ 1)) dX10_ringNow_31 (by decide) ?_
        refine g_goto 67 dX10_ringNow_32 (by decide) ?_
        exact g_iret rfl dX10_ringNow_67 ⟨_, rfl, H⟩
