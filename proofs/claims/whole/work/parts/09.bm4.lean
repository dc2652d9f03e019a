set_option maxHeartbeats 4000000 in
set_option maxRecDepth 100000 in
theorem eX10_ring (u : Ux_) {P : Int32 → St_ → Prop}  (σ : St_)  (H : MMi_ (zm_ u) mX10_ringNow [.ref (uq_ u 0)] σ (fun r2 σ1 => P r2 σ1)) : MMi_ (zm_ u) mX10_ring [.ref (uq_ u 0)] σ P := by
  refine MM_.of (L := [(0, .ref (uq_ u 0))]) (by decide +kernel) (Nat.le_of_ble_eq_true rfl) rfl ?_
  refine g_aload_n dX10_ring_0 0 rfl rfl ?_
  refine k_X10_ringNow w_1189 rfl ⟨Nat.le_of_ble_eq_true rfl, Nat.le_of_ble_eq_true rfl⟩ (Nat.le_of_ble_eq_true rfl) dX10_ring_1 H (fun r2 σ1 H => ?_)
  exact g_iret rfl dX10_ring_4 ⟨_, rfl, H⟩
set_option maxHeartbeats 4000000 in
set_option maxRecDepth 100000 in
theorem eX10_shamOf (u : Ux_) {P : Int32 → St_ → Prop}  (σ : St_) (x1 : Int32) (x2 : Int32) (H : MMv_ (zm_ u) mX10_runsTold [.ref (uq_ u 0)] σ (fun σ1 => ((x1 < (σ1 6 0) → vp_in x1 10 ∧ (∀ σ4, σ4 = su_ σ1 19 0 (σ1 28 (Int32.toNatClampNeg x1)) → vp_in x1 10 ∧ (∀ σ6, σ6 = su_ σ4 21 0 (σ4 30 (Int32.toNatClampNeg x1)) → vp_in x1 10 ∧ vp_in x1 11 ∧ vp_in x1 11 ∧ vp_in x1 11 ∧ MMi_ (zm_ u) mX10_carries [.ref (uq_ u 0), .int (σ6 7 (Int32.toNatClampNeg x1)), .int (σ6 8 (Int32.toNatClampNeg x1)), .int (σ6 9 (Int32.toNatClampNeg x1)), .int ((iI_ 1) <<< (x2 &&& 31))] σ6 (fun r12 σ11 => ((r12 = (σ6 31 (Int32.toNatClampNeg x1)) → P (iI_ 0) σ11) ∧ (¬ r12 = (σ6 31 (Int32.toNatClampNeg x1)) → MMi_ (zm_ u) mX10_isOther [.ref (uq_ u 0), .int x2, .int (σ6 31 (Int32.toNatClampNeg x1)), .int r12] σ11 (fun r15 σ14 => ((r15 = iI_ 0 → P (iI_ 0) σ14) ∧ (¬ r15 = iI_ 0 → P (iI_ 1) σ14))))))))) ∧ (¬ x1 < (σ1 6 0) → P (iI_ (-1)) σ1)))) : MMi_ (zm_ u) mX10_shamOf [.ref (uq_ u 0), .int x1, .int x2] σ P := by
  refine MM_.of (L := [(0, .ref (uq_ u 0)), (1, .int x1), (2, .int x2)]) (by decide +kernel) (Nat.le_of_ble_eq_true rfl) rfl ?_
  refine g_aload_n dX10_shamOf_0 0 rfl rfl ?_
  refine k_X10_runsTold w_1059 rfl ⟨Nat.le_of_ble_eq_true rfl, Nat.le_of_ble_eq_true rfl⟩ (Nat.le_of_ble_eq_true rfl) dX10_shamOf_1 H (fun σ1 H => ?_)
  refine g_iload_n dX10_shamOf_4 1 rfl rfl ?_
  refine g_aload_n dX10_shamOf_5 0 rfl rfl ?_
  refine gm_LinenHouseModel_motions w_819 rfl dX10_shamOf_6 ?_
  refine g_icmp_lt 14 dX10_shamOf_9 (by decide) (fun c2 => ?_) (fun c2 => ?_)
  · replace H := H.1 c2
    refine g_aload_n dX10_shamOf_14 0 rfl rfl ?_
    refine g_aload_n dX10_shamOf_15 0 rfl rfl ?_
    refine gm_LinenHouseModel_votesAt w_841 rfl dX10_shamOf_16 ?_
    refine g_iload_n dX10_shamOf_19 1 rfl rfl ?_
    obtain ⟨h3, H⟩ := H
    refine am_28 h3 dX10_shamOf_20 ?_
    refine pm_LinenHouseModel_votesNow w_832 rfl dX10_shamOf_21 ?_
    obtain ⟨σ4, e_σ4⟩ : ∃ q : St_, q = su_ σ1 19 0 (σ1 28 (Int32.toNatClampNeg x1)) := ⟨_, rfl⟩
    rw [← e_σ4]
    replace H := H σ4 e_σ4
    refine g_aload_n dX10_shamOf_24 0 rfl rfl ?_
    refine g_aload_n dX10_shamOf_25 0 rfl rfl ?_
    refine gm_LinenHouseModel_speakerAt w_843 rfl dX10_shamOf_26 ?_
    refine g_iload_n dX10_shamOf_29 1 rfl rfl ?_
    obtain ⟨h5, H⟩ := H
    refine am_30 h5 dX10_shamOf_30 ?_
    refine pm_LinenHouseModel_speakerNow w_834 rfl dX10_shamOf_31 ?_
    obtain ⟨σ6, e_σ6⟩ : ∃ q : St_, q = su_ σ4 21 0 (σ4 30 (Int32.toNatClampNeg x1)) := ⟨_, rfl⟩
    rw [← e_σ6]
    replace H := H σ6 e_σ6
    refine g_aload_n dX10_shamOf_34 0 rfl rfl ?_
    refine gm_LinenHouseModel_carried w_844 rfl dX10_shamOf_35 ?_
    refine g_iload_n dX10_shamOf_38 1 rfl rfl ?_
    obtain ⟨h7, H⟩ := H
    refine am_31 h7 dX10_shamOf_39 ?_
    refine g_istore_n (L' := [(3, .int (σ6 31 (Int32.toNatClampNeg x1))), (0, .ref (uq_ u 0)), (1, .int x1), (2, .int x2)]) dX10_shamOf_40 rfl (by decide) rfl ?_
    refine g_aload_n dX10_shamOf_41 1 rfl rfl ?_
    refine g_aload_n dX10_shamOf_42 1 rfl rfl ?_
    refine gm_LinenHouseModel_firsts w_820 rfl dX10_shamOf_43 ?_
    refine g_iload_n dX10_shamOf_46 2 rfl rfl ?_
    obtain ⟨h8, H⟩ := H
    refine am_7 h8 dX10_shamOf_47 ?_
    refine g_aload_n dX10_shamOf_48 1 rfl rfl ?_
    refine gm_LinenHouseModel_others w_821 rfl dX10_shamOf_49 ?_
    refine g_iload_n dX10_shamOf_52 2 rfl rfl ?_
    obtain ⟨h9, H⟩ := H
    refine am_8 h9 dX10_shamOf_53 ?_
    refine g_aload_n dX10_shamOf_54 1 rfl rfl ?_
    refine gm_LinenHouseModel_hows w_822 rfl dX10_shamOf_55 ?_
    refine g_iload_n dX10_shamOf_58 2 rfl rfl ?_
    obtain ⟨h10, H⟩ := H
    refine am_9 h10 dX10_shamOf_59 ?_
    refine g_iconst (v := (iI_ 1)) dX10_shamOf_60 (by decide) ?_
    refine g_iload_n dX10_shamOf_61 3 rfl rfl ?_
    refine g_ishl dX10_shamOf_62 ?_
    refine k_X10_carries w_1087 rfl ⟨Nat.le_of_ble_eq_true rfl, Nat.le_of_ble_eq_true rfl⟩ (Nat.le_of_ble_eq_true rfl) dX10_shamOf_63 H (fun r12 σ11 H => ?_)
    refine g_istore (L' := [(4, .int r12), (3, .int (σ6 31 (Int32.toNatClampNeg x1))), (0, .ref (uq_ u 0)), (1, .int x1), (2, .int x2)]) dX10_shamOf_66 (by decide) rfl ?_
    refine g_iload dX10_shamOf_68 0 rfl ?_
    refine g_iload_n dX10_shamOf_70 1 rfl rfl ?_
    refine g_icmp_eq 89 dX10_shamOf_71 (by decide) (fun c13 => ?_) (fun c13 => ?_)
    · replace H := H.1 c13
      refine g_iconst (v := (iI_ 0)) dX10_shamOf_89 (by decide) ?_
      exact g_iret rfl dX10_shamOf_90 ⟨_, rfl, H⟩
    · replace H := H.2 c13
      refine g_aload_n dX10_shamOf_74 2 rfl rfl ?_
      refine g_iload_n dX10_shamOf_75 4 rfl rfl ?_
      refine g_iload_n dX10_shamOf_76 1 rfl rfl ?_
      refine g_iload dX10_shamOf_77 0 rfl ?_
      refine k_X10_isOther w_1083 rfl ⟨Nat.le_of_ble_eq_true rfl, Nat.le_of_ble_eq_true rfl⟩ (Nat.le_of_ble_eq_true rfl) dX10_shamOf_79 H (fun r15 σ14 H => ?_)
      refine g_if_eq 89 dX10_shamOf_82 (by decide) (fun c16 => ?_) (fun c16 => ?_)
      · replace H := H.1 c16
        refine g_iconst (v := (iI_ 0)) dX10_shamOf_89 (by decide) ?_
        exact g_iret rfl dX10_shamOf_90 ⟨_, rfl, H⟩
      · replace H := H.2 c16
        refine g_iconst (v := (iI_ 1)) dX10_shamOf_85 (by decide) ?_
        refine g_goto 90 dX10_shamOf_86 (by decide) ?_
        exact g_iret rfl dX10_shamOf_90 ⟨_, rfl, H⟩
  · replace H := H.2 c2
    refine g_iconst (v := (iI_ (-1))) dX10_shamOf_12 (by decide) ?_
    exact g_iret rfl dX10_shamOf_13 ⟨_, rfl, H⟩
set_option maxHeartbeats 4000000 in
set_option maxRecDepth 100000 in
theorem eX10_sham (u : Ux_) {P : Int32 → St_ → Prop}  (σ : St_) (x1 : Int32) (x2 : Int32) (H : MMi_ (zm_ u) mX10_isNight [.int x1] σ (fun r2 σ1 => ((r2 = iI_ 0 → P (iI_ (-2)) σ1) ∧ (¬ r2 = iI_ 0 → MMi_ (zm_ u) mX10_isMember [.ref (uq_ u 0), .int x2] σ1 (fun r5 σ4 => ((r5 = iI_ 0 → P (iI_ (-2)) σ4) ∧ (¬ r5 = iI_ 0 → MMi_ (zm_ u) mX10_shamOf [.ref (uq_ u 0), .int x1, .int x2] σ4 (fun r8 σ7 => P r8 σ7)))))))) : MMi_ (zm_ u) mX10_sham [.ref (uq_ u 0), .int x1, .int x2] σ P := by
  refine MM_.of (L := [(0, .ref (uq_ u 0)), (1, .int x1), (2, .int x2)]) (by decide +kernel) (Nat.le_of_ble_eq_true rfl) rfl ?_
  refine g_iload_n dX10_sham_0 1 rfl rfl ?_
  refine k_X10_isNight w_1016 rfl ⟨Nat.le_of_ble_eq_true rfl, Nat.le_of_ble_eq_true rfl⟩ (Nat.le_of_ble_eq_true rfl) dX10_sham_1 H (fun r2 σ1 H => ?_)
  refine g_if_eq 24 dX10_sham_4 (by decide) (fun c3 => ?_) (fun c3 => ?_)
  · replace H := H.1 c3
    refine g_bipush (v := (iI_ (-2))) dX10_sham_24 (by decide) ?_
    exact g_iret rfl dX10_sham_26 ⟨_, rfl, H⟩
  · replace H := H.2 c3
    refine g_aload_n dX10_sham_7 0 rfl rfl ?_
    refine g_iload_n dX10_sham_8 2 rfl rfl ?_
    refine k_X10_isMember w_1000 rfl ⟨Nat.le_of_ble_eq_true rfl, Nat.le_of_ble_eq_true rfl⟩ (Nat.le_of_ble_eq_true rfl) dX10_sham_9 H (fun r5 σ4 H => ?_)
    refine g_if_eq 24 dX10_sham_12 (by decide) (fun c6 => ?_) (fun c6 => ?_)
    · replace H := H.1 c6
      refine g_bipush (v := (iI_ (-2))) dX10_sham_24 (by decide) ?_
      exact g_iret rfl dX10_sham_26 ⟨_, rfl, H⟩
    · replace H := H.2 c6
      refine g_aload_n dX10_sham_15 0 rfl rfl ?_
      refine g_iload_n dX10_sham_16 1 rfl rfl ?_
      refine g_iload_n dX10_sham_17 2 rfl rfl ?_
      refine k_X10_shamOf w_1201 rfl ⟨Nat.le_of_ble_eq_true rfl, Nat.le_of_ble_eq_true rfl⟩ (Nat.le_of_ble_eq_true rfl) dX10_sham_18 H (fun r8 σ7 H => ?_)
      refine g_goto 26 dX10_sham_21 (by decide) ?_
      exact g_iret rfl dX10_sham_26 ⟨_, rfl, H⟩
set_option maxHeartbeats 4000000 in
set_option maxRecDepth 100000 in
theorem eX10_seen (u : Ux_) {P : Int32 → St_ → Prop}  (σ : St_) (x1 : Int32) (x2 : Int32) (H : MMi_ (zm_ u) mX10_isNight [.int x1] σ (fun r2 σ1 => ((r2 = iI_ 0 → P (iI_ (-2)) σ1) ∧ (¬ r2 = iI_ 0 → MMi_ (zm_ u) mX10_in [.int x2, .int (iI_ 0), .int (iI_ 3)] σ1 (fun r5 σ4 => ((¬ r5 = iI_ 0 → ((¬ (σ4 33 0) = (iI_ 8) → vp_in (σ4 33 0) 8 ∧ (∀ σ8, σ8 = su_ σ4 34 (Int32.toNatClampNeg (σ4 33 0)) x1 → vp_in (σ8 33 0) 8 ∧ (∀ σ10, σ10 = su_ σ8 35 (Int32.toNatClampNeg (σ8 33 0)) x2 → (∀ σ12, σ12 = su_ σ10 33 0 ((σ10 33 0) + (iI_ 1)) → P (σ12 33 0) σ12)))) ∧ ((σ4 33 0) = (iI_ 8) → P (iI_ (-4)) σ4))) ∧ (r5 = iI_ 0 → P (iI_ (-2)) σ4))))))) : MMi_ (zm_ u) mX10_seen [.ref (uq_ u 0), .int x1, .int x2] σ P := by
  refine MM_.of (L := [(0, .ref (uq_ u 0)), (1, .int x1), (2, .int x2)]) (by decide +kernel) (Nat.le_of_ble_eq_true rfl) rfl ?_
  refine g_iload_n dX10_seen_0 1 rfl rfl ?_
  refine k_X10_isNight w_1016 rfl ⟨Nat.le_of_ble_eq_true rfl, Nat.le_of_ble_eq_true rfl⟩ (Nat.le_of_ble_eq_true rfl) dX10_seen_1 H (fun r2 σ1 H => ?_)
  refine g_if_eq 16 dX10_seen_4 (by decide) (fun c3 => ?_) (fun c3 => ?_)
  · replace H := H.1 c3
    refine g_bipush (v := (iI_ (-2))) dX10_seen_16 (by decide) ?_
    exact g_iret rfl dX10_seen_18 ⟨_, rfl, H⟩
  · replace H := H.2 c3
    refine g_iload_n dX10_seen_7 2 rfl rfl ?_
    refine g_iconst (v := (iI_ 0)) dX10_seen_8 (by decide) ?_
    refine g_iconst (v := (iI_ 3)) dX10_seen_9 (by decide) ?_
    refine k_X10_in w_954 rfl ⟨Nat.le_of_ble_eq_true rfl, Nat.le_of_ble_eq_true rfl⟩ (Nat.le_of_ble_eq_true rfl) dX10_seen_10 H (fun r5 σ4 H => ?_)
    refine g_if_ne 19 dX10_seen_13 (by decide) (fun c6 => ?_) (fun c6 => ?_)
    · replace H := H.1 c6
      refine g_aload_n dX10_seen_19 0 rfl rfl ?_
      refine gm_LinenHouseModel_seens w_846 rfl dX10_seen_20 ?_
      refine g_bipush (v := (iI_ 8)) dX10_seen_23 (by decide) ?_
      refine g_icmp_ne 31 dX10_seen_25 (by decide) (fun c7 => ?_) (fun c7 => ?_)
      · replace H := H.1 c7
        refine g_aload_n dX10_seen_31 0 rfl rfl ?_
        refine gm_LinenHouseModel_seenNight w_847 rfl dX10_seen_32 ?_
        refine g_aload_n dX10_seen_35 0 rfl rfl ?_
        refine gm_LinenHouseModel_seens w_846 rfl dX10_seen_36 ?_
        refine g_iload_n dX10_seen_39 1 rfl rfl ?_
        obtain ⟨h9, H⟩ := H
        refine sm_34 h9 dX10_seen_40 ?_
        obtain ⟨σ8, e_σ8⟩ : ∃ q : St_, q = su_ σ4 34 (Int32.toNatClampNeg (σ4 33 0)) x1 := ⟨_, rfl⟩
        rw [← e_σ8]
        replace H := H σ8 e_σ8
        refine g_aload_n dX10_seen_41 0 rfl rfl ?_
        refine gm_LinenHouseModel_seenOne w_848 rfl dX10_seen_42 ?_
        refine g_aload_n dX10_seen_45 0 rfl rfl ?_
        refine gm_LinenHouseModel_seens w_846 rfl dX10_seen_46 ?_
        refine g_iload_n dX10_seen_49 2 rfl rfl ?_
        obtain ⟨h11, H⟩ := H
        refine sm_35 h11 dX10_seen_50 ?_
        obtain ⟨σ10, e_σ10⟩ : ∃ q : St_, q = su_ σ8 35 (Int32.toNatClampNeg (σ8 33 0)) x2 := ⟨_, rfl⟩
        rw [← e_σ10]
        replace H := H σ10 e_σ10
        refine g_aload_n dX10_seen_51 0 rfl rfl ?_
        refine g_dup dX10_seen_52 rfl ?_
        refine gm_LinenHouseModel_seens w_846 rfl dX10_seen_53 ?_
        refine g_iconst (v := (iI_ 1)) dX10_seen_56 (by decide) ?_
        refine g_iadd dX10_seen_57 ?_
        refine pm_LinenHouseModel_seens w_846 rfl dX10_seen_58 ?_
        obtain ⟨σ12, e_σ12⟩ : ∃ q : St_, q = su_ σ10 33 0 ((σ10 33 0) + (iI_ 1)) := ⟨_, rfl⟩
        rw [← e_σ12]
        replace H := H σ12 e_σ12
        refine g_aload_n dX10_seen_61 0 rfl rfl ?_
        refine gm_LinenHouseModel_seens w_846 rfl dX10_seen_62 ?_
        exact g_iret rfl dX10_seen_65 ⟨_, rfl, H⟩
      · replace H := H.2 c7
        refine g_bipush (v := (iI_ (-4))) dX10_seen_28 (by decide) ?_
        exact g_iret rfl dX10_seen_30 ⟨_, rfl, H⟩
    · replace H := H.2 c6
      refine g_bipush (v := (iI_ (-2))) dX10_seen_16 (by decide) ?_
      exact g_iret rfl dX10_seen_18 ⟨_, rfl, H⟩
set_option maxHeartbeats 4000000 in
set_option maxRecDepth 100000 in
theorem eX10_forget (u : Ux_) {P : Int32 → St_ → Prop}  (σ : St_)  (H : (∀ σ1, σ1 = su_ σ 33 0 (iI_ 0) → P (σ 33 0) σ1)) : MMi_ (zm_ u) mX10_forget [.ref (uq_ u 0)] σ P := by
  refine MM_.of (L := [(0, .ref (uq_ u 0))]) (by decide +kernel) (Nat.le_of_ble_eq_true rfl) rfl ?_
  refine g_aload_n dX10_forget_0 0 rfl rfl ?_
  refine gm_LinenHouseModel_seens w_846 rfl dX10_forget_1 ?_
  refine g_istore_n (L' := [(1, .int (σ 33 0)), (0, .ref (uq_ u 0))]) dX10_forget_4 rfl (by decide) rfl ?_
  refine g_aload_n dX10_forget_5 1 rfl rfl ?_
  refine g_iconst (v := (iI_ 0)) dX10_forget_6 (by decide) ?_
  refine pm_LinenHouseModel_seens w_846 rfl dX10_forget_7 ?_
  obtain ⟨σ1, e_σ1⟩ : ∃ q : St_, q = su_ σ 33 0 (iI_ 0) := ⟨_, rfl⟩
  rw [← e_σ1]
  replace H := H σ1 e_σ1
  refine g_iload_n dX10_forget_10 0 rfl rfl ?_
  exact g_iret rfl dX10_forget_11 ⟨_, rfl, H⟩
set_option maxHeartbeats 4000000 in
set_option maxRecDepth 100000 in
theorem bX10_isSeen_8 (u : Ux_) {P : Int32 → St_ → Prop}  (σ : St_) (x1 : Int32) (x2 : Int32) (H : (((σ 33 0) ≤ x2 → (x1 = iI_ 0 ∨ x1 = iI_ 1) ∧ P x1 σ) ∧ (¬ (σ 33 0) ≤ x2 → ((x1 = iI_ 0 → (x1 = iI_ 0 ∨ x1 = iI_ 1) ∧ P x1 σ) ∧ (¬ x1 = iI_ 0 → vp_in x2 8 ∧ vp_in (σ 34 (Int32.toNatClampNeg x2)) 10 ∧ ((¬ (σ 31 (Int32.toNatClampNeg (σ 34 (Int32.toNatClampNeg x2)))) = (iI_ (-1)) → vp_in x2 8 ∧ ((¬ (σ 31 (Int32.toNatClampNeg (σ 34 (Int32.toNatClampNeg x2)))) = (σ 35 (Int32.toNatClampNeg x2)) → GG_ (zm_ u) mX10_isSeen (Pi_ P) 8 [(0, .ref (uq_ u 0)), (1, .int (iI_ 0)), (2, .int (x2 + (iI_ 1)))] [] σ) ∧ ((σ 31 (Int32.toNatClampNeg (σ 34 (Int32.toNatClampNeg x2)))) = (σ 35 (Int32.toNatClampNeg x2)) → GG_ (zm_ u) mX10_isSeen (Pi_ P) 8 [(0, .ref (uq_ u 0)), (1, .int (iI_ 1)), (2, .int (x2 + (iI_ 1)))] [] σ))) ∧ ((σ 31 (Int32.toNatClampNeg (σ 34 (Int32.toNatClampNeg x2)))) = (iI_ (-1)) → vp_in x2 8 ∧ ((¬ (iI_ 3) = (σ 35 (Int32.toNatClampNeg x2)) → GG_ (zm_ u) mX10_isSeen (Pi_ P) 8 [(0, .ref (uq_ u 0)), (1, .int (iI_ 0)), (2, .int (x2 + (iI_ 1)))] [] σ) ∧ ((iI_ 3) = (σ 35 (Int32.toNatClampNeg x2)) → GG_ (zm_ u) mX10_isSeen (Pi_ P) 8 [(0, .ref (uq_ u 0)), (1, .int (iI_ 1)), (2, .int (x2 + (iI_ 1)))] [] σ))))))))) : GG_ (zm_ u) mX10_isSeen (Pi_ P) 8 [(0, .ref (uq_ u 0)), (1, .int x1), (2, .int x2)] [] σ := by
  refine g_iload_n dX10_isSeen_8 2 rfl rfl ?_
  refine g_aload_n dX10_isSeen_9 0 rfl rfl ?_
  refine gm_LinenHouseModel_seens w_846 rfl dX10_isSeen_10 ?_
  refine g_icmp_ge 63 dX10_isSeen_13 (by decide) (fun c1 => ?_) (fun c1 => ?_)
  · replace H := H.1 c1
    refine g_iload_n dX10_isSeen_63 1 rfl rfl ?_
    obtain ⟨hz, H⟩ := H
    exact g_zret rfl hz dX10_isSeen_64 ⟨_, rfl, H⟩
  · replace H := H.2 c1
    refine g_iload_n dX10_isSeen_16 1 rfl rfl ?_
    refine g_if_eq 63 dX10_isSeen_17 (by decide) (fun c2 => ?_) (fun c2 => ?_)
    · replace H := H.1 c2
      refine g_iload_n dX10_isSeen_63 1 rfl rfl ?_
      obtain ⟨hz, H⟩ := H
      exact g_zret rfl hz dX10_isSeen_64 ⟨_, rfl, H⟩
    · replace H := H.2 c2
      refine g_aload_n dX10_isSeen_20 0 rfl rfl ?_
      refine gm_LinenHouseModel_carried w_844 rfl dX10_isSeen_21 ?_
      refine g_aload_n dX10_isSeen_24 0 rfl rfl ?_
      refine gm_LinenHouseModel_seenNight w_847 rfl dX10_isSeen_25 ?_
      refine g_iload_n dX10_isSeen_28 2 rfl rfl ?_
      obtain ⟨h3, H⟩ := H
      refine am_34 h3 dX10_isSeen_29 ?_
      obtain ⟨h4, H⟩ := H
      refine am_31 h4 dX10_isSeen_30 ?_
      refine g_istore_n (L' := [(3, .int (σ 31 (Int32.toNatClampNeg (σ 34 (Int32.toNatClampNeg x2))))), (0, .ref (uq_ u 0)), (1, .int x1), (2, .int x2)]) dX10_isSeen_31 rfl (by decide) rfl ?_
      refine g_iload_n dX10_isSeen_32 0 rfl rfl ?_
      refine g_iconst (v := (iI_ (-1))) dX10_isSeen_33 (by decide) ?_
      refine g_icmp_ne 41 dX10_isSeen_34 (by decide) (fun c5 => ?_) (fun c5 => ?_)
      · replace H := H.1 c5
        refine g_iload_n dX10_isSeen_41 0 rfl rfl ?_
        refine g_aload_n dX10_isSeen_42 1 rfl rfl ?_
        refine gm_LinenHouseModel_seenOne w_848 rfl dX10_isSeen_43 ?_
        refine g_iload_n dX10_isSeen_46 3 rfl rfl ?_
        obtain ⟨h6, H⟩ := H
        refine am_35 h6 dX10_isSeen_47 ?_
        refine g_icmp_ne 55 dX10_isSeen_48 (by decide) (fun c7 => ?_) (fun c7 => ?_)
        · replace H := H.1 c7
          refine g_iconst (v := (iI_ 0)) dX10_isSeen_55 (by decide) ?_
          refine g_istore_n (L' := [(1, .int (iI_ 0)), (3, .int (σ 31 (Int32.toNatClampNeg (σ 34 (Int32.toNatClampNeg x2))))), (0, .ref (uq_ u 0)), (2, .int x2)]) dX10_isSeen_56 rfl (by decide) rfl ?_
          refine g_iinc (v := (x2 + (iI_ 1))) (L' := [(2, .int (x2 + (iI_ 1))), (1, .int (iI_ 0)), (3, .int (σ 31 (Int32.toNatClampNeg (σ 34 (Int32.toNatClampNeg x2))))), (0, .ref (uq_ u 0))]) dX10_isSeen_57 3 rfl rfl (by decide) rfl ?_
          refine g_goto 8 dX10_isSeen_60 (by decide) ?_
          exact GG_.sub [3, 1, 0] rfl H
        · replace H := H.2 c7
          refine g_iconst (v := (iI_ 1)) dX10_isSeen_51 (by decide) ?_
          refine g_goto 56 dX10_isSeen_52 (by decide) ?_
          refine g_istore_n (L' := [(1, .int (iI_ 1)), (3, .int (σ 31 (Int32.toNatClampNeg (σ 34 (Int32.toNatClampNeg x2))))), (0, .ref (uq_ u 0)), (2, .int x2)]) dX10_isSeen_56 rfl (by decide) rfl ?_
          refine g_iinc (v := (x2 + (iI_ 1))) (L' := [(2, .int (x2 + (iI_ 1))), (1, .int (iI_ 1)), (3, .int (σ 31 (Int32.toNatClampNeg (σ 34 (Int32.toNatClampNeg x2))))), (0, .ref (uq_ u 0))]) dX10_isSeen_57 3 rfl rfl (by decide) rfl ?_
          refine g_goto 8 dX10_isSeen_60 (by decide) ?_
          exact GG_.sub [3, 1, 0] rfl H
      · replace H := H.2 c5
        refine g_iconst (v := (iI_ 3)) dX10_isSeen_37 (by decide) ?_
        refine g_goto 42 dX10_isSeen_38 (by decide) ?_
        refine g_aload_n dX10_isSeen_42 1 rfl rfl ?_
        refine gm_LinenHouseModel_seenOne w_848 rfl dX10_isSeen_43 ?_
        refine g_iload_n dX10_isSeen_46 3 rfl rfl ?_
        obtain ⟨h8, H⟩ := H
        refine am_35 h8 dX10_isSeen_47 ?_
        refine g_icmp_ne 55 dX10_isSeen_48 (by decide) (fun c9 => ?_) (fun c9 => ?_)
        · replace H := H.1 c9
          refine g_iconst (v := (iI_ 0)) dX10_isSeen_55 (by decide) ?_
          refine g_istore_n (L' := [(1, .int (iI_ 0)), (3, .int (σ 31 (Int32.toNatClampNeg (σ 34 (Int32.toNatClampNeg x2))))), (0, .ref (uq_ u 0)), (2, .int x2)]) dX10_isSeen_56 rfl (by decide) rfl ?_
          refine g_iinc (v := (x2 + (iI_ 1))) (L' := [(2, .int (x2 + (iI_ 1))), (1, .int (iI_ 0)), (3, .int (σ 31 (Int32.toNatClampNeg (σ 34 (Int32.toNatClampNeg x2))))), (0, .ref (uq_ u 0))]) dX10_isSeen_57 3 rfl rfl (by decide) rfl ?_
          refine g_goto 8 dX10_isSeen_60 (by decide) ?_
          exact GG_.sub [3, 1, 0] rfl H
        · replace H := H.2 c9
          refine g_iconst (v := (iI_ 1)) dX10_isSeen_51 (by decide) ?_
          refine g_goto 56 dX10_isSeen_52 (by decide) ?_
          refine g_istore_n (L' := [(1, .int (iI_ 1)), (3, .int (σ 31 (Int32.toNatClampNeg (σ 34 (Int32.toNatClampNeg x2))))), (0, .ref (uq_ u 0)), (2, .int x2)]) dX10_isSeen_56 rfl (by decide) rfl ?_
          refine g_iinc (v := (x2 + (iI_ 1))) (L' := [(2, .int (x2 + (iI_ 1))), (1, .int (iI_ 1)), (3, .int (σ 31 (Int32.toNatClampNeg (σ 34 (Int32.toNatClampNeg x2))))), (0, .ref (uq_ u 0))]) dX10_isSeen_57 3 rfl rfl (by decide) rfl ?_
          refine g_goto 8 dX10_isSeen_60 (by decide) ?_
          exact GG_.sub [3, 1, 0] rfl H
set_option maxHeartbeats 4000000 in
set_option maxRecDepth 100000 in
theorem eX10_isSeen (u : Ux_) {P : Int32 → St_ → Prop}  (σ : St_)  (H : MMv_ (zm_ u) mX10_runs [.ref (uq_ u 0)] σ (fun σ1 => GG_ (zm_ u) mX10_isSeen (Pi_ P) 8 [(0, .ref (uq_ u 0)), (1, .int (iI_ 1)), (2, .int (iI_ 0))] [] σ1)) : MMi_ (zm_ u) mX10_isSeen [.ref (uq_ u 0)] σ P := by
  refine MM_.of (L := [(0, .ref (uq_ u 0))]) (by decide +kernel) (Nat.le_of_ble_eq_true rfl) rfl ?_
  refine g_aload_n dX10_isSeen_0 0 rfl rfl ?_
  refine k_X10_runs w_1067 rfl ⟨Nat.le_of_ble_eq_true rfl, Nat.le_of_ble_eq_true rfl⟩ (Nat.le_of_ble_eq_true rfl) dX10_isSeen_1 H (fun σ1 H => ?_)
  refine g_iconst (v := (iI_ 1)) dX10_isSeen_4 (by decide) ?_
  refine g_istore_n (L' := [(1, .int (iI_ 1)), (0, .ref (uq_ u 0))]) dX10_isSeen_5 rfl (by decide) rfl ?_
  refine g_iconst (v := (iI_ 0)) dX10_isSeen_6 (by decide) ?_
  refine g_istore_n (L' := [(2, .int (iI_ 0)), (1, .int (iI_ 1)), (0, .ref (uq_ u 0))]) dX10_isSeen_7 rfl (by decide) rfl ?_
  exact GG_.sub [2, 1, 0] rfl H
set_option maxHeartbeats 4000000 in
set_option maxRecDepth 100000 in
theorem bX10_neverNow_8 (u : Ux_) {P : Int32 → St_ → Prop}  (σ : St_) (x1 : Int32) (x2 : Int32) (H : (((σ 11 0) ≤ x2 → P x1 σ) ∧ (¬ (σ 11 0) ≤ x2 → (∀ σ2, σ2 = su_ σ 22 0 ((iI_ 1) <<< (x2 &&& 31)) → MMi_ (zm_ u) mX10_isSeen [.ref (uq_ u 0)] σ2 (fun r4 σ3 => ((r4 = iI_ 0 → GG_ (zm_ u) mX10_neverNow (Pi_ P) 8 [(0, .ref (uq_ u 0)), (1, .int (x1 ||| (iI_ 0))), (2, .int (x2 + (iI_ 1)))] [] σ3) ∧ (¬ r4 = iI_ 0 → GG_ (zm_ u) mX10_neverNow (Pi_ P) 8 [(0, .ref (uq_ u 0)), (1, .int (x1 ||| ((iI_ 1) <<< (x2 &&& 31)))), (2, .int (x2 + (iI_ 1)))] [] σ3))))))) : GG_ (zm_ u) mX10_neverNow (Pi_ P) 8 [(0, .ref (uq_ u 0)), (1, .int x1), (2, .int x2)] [] σ := by
  refine g_iload_n dX10_neverNow_8 2 rfl rfl ?_
  refine g_aload_n dX10_neverNow_9 0 rfl rfl ?_
  refine gm_LinenHouseModel_folds w_824 rfl dX10_neverNow_10 ?_
  refine g_icmp_ge 46 dX10_neverNow_13 (by decide) (fun c1 => ?_) (fun c1 => ?_)
  · replace H := H.1 c1
    refine g_iload_n dX10_neverNow_46 1 rfl rfl ?_
    exact g_iret rfl dX10_neverNow_47 ⟨_, rfl, H⟩
  · replace H := H.2 c1
    refine g_aload_n dX10_neverNow_16 0 rfl rfl ?_
    refine g_iconst (v := (iI_ 1)) dX10_neverNow_17 (by decide) ?_
    refine g_iload_n dX10_neverNow_18 2 rfl rfl ?_
    refine g_ishl dX10_neverNow_19 ?_
    refine pm_LinenHouseModel_notFolds w_835 rfl dX10_neverNow_20 ?_
    obtain ⟨σ2, e_σ2⟩ : ∃ q : St_, q = su_ σ 22 0 ((iI_ 1) <<< (x2 &&& 31)) := ⟨_, rfl⟩
    rw [← e_σ2]
    replace H := H σ2 e_σ2
    refine g_iload_n dX10_neverNow_23 1 rfl rfl ?_
    refine g_aload_n dX10_neverNow_24 0 rfl rfl ?_
    refine k_X10_isSeen w_1221 rfl ⟨Nat.le_of_ble_eq_true rfl, Nat.le_of_ble_eq_true rfl⟩ (Nat.le_of_ble_eq_true rfl) dX10_neverNow_25 H (fun r4 σ3 H => ?_)
    refine g_if_eq 37 dX10_neverNow_28 (by decide) (fun c5 => ?_) (fun c5 => ?_)
    · replace H := H.1 c5
      refine g_iconst (v := (iI_ 0)) dX10_neverNow_37 (by decide) ?_
      refine g_ior dX10_neverNow_38 ?_
      refine g_istore_n (L' := [(1, .int (x1 ||| (iI_ 0))), (0, .ref (uq_ u 0)), (2, .int x2)]) dX10_neverNow_39 rfl (by decide) rfl ?_
      refine g_iinc (v := (x2 + (iI_ 1))) (L' := [(2, .int (x2 + (iI_ 1))), (1, .int (x1 ||| (iI_ 0))), (0, .ref (uq_ u 0))]) dX10_neverNow_40 2 rfl rfl (by decide) rfl ?_
      refine g_goto 8 dX10_neverNow_43 (by decide) ?_
      exact GG_.sub [2, 1, 0] rfl H
    · replace H := H.2 c5
      refine g_iconst (v := (iI_ 1)) dX10_neverNow_31 (by decide) ?_
      refine g_iload_n dX10_neverNow_32 2 rfl rfl ?_
      refine g_ishl dX10_neverNow_33 ?_
      refine g_goto 38 dX10_neverNow_34 (by decide) ?_
      refine g_ior dX10_neverNow_38 ?_
      refine g_istore_n (L' := [(1, .int (x1 ||| ((iI_ 1) <<< (x2 &&& 31)))), (0, .ref (uq_ u 0)), (2, .int x2)]) dX10_neverNow_39 rfl (by decide) rfl ?_
      refine g_iinc (v := (x2 + (iI_ 1))) (L' := [(2, .int (x2 + (iI_ 1))), (1, .int (x1 ||| ((iI_ 1) <<< (x2 &&& 31)))), (0, .ref (uq_ u 0))]) dX10_neverNow_40 2 rfl rfl (by decide) rfl ?_
      refine g_goto 8 dX10_neverNow_43 (by decide) ?_
      exact GG_.sub [2, 1, 0] rfl H
set_option maxHeartbeats 4000000 in
set_option maxRecDepth 100000 in
theorem eX10_neverNow (u : Ux_) {P : Int32 → St_ → Prop}  (σ : St_)  (H : MMv_ (zm_ u) mX10_asTold [.ref (uq_ u 0)] σ (fun σ1 => GG_ (zm_ u) mX10_neverNow (Pi_ P) 8 [(0, .ref (uq_ u 0)), (1, .int (iI_ 0)), (2, .int (iI_ 0))] [] σ1)) : MMi_ (zm_ u) mX10_neverNow [.ref (uq_ u 0)] σ P := by
  refine MM_.of (L := [(0, .ref (uq_ u 0))]) (by decide +kernel) (Nat.le_of_ble_eq_true rfl) rfl ?_
  refine g_aload_n dX10_neverNow_0 0 rfl rfl ?_
  refine k_X10_asTold w_1063 rfl ⟨Nat.le_of_ble_eq_true rfl, Nat.le_of_ble_eq_true rfl⟩ (Nat.le_of_ble_eq_true rfl) dX10_neverNow_1 H (fun σ1 H => ?_)
  refine g_iconst (v := (iI_ 0)) dX10_neverNow_4 (by decide) ?_
  refine g_istore_n (L' := [(1, .int (iI_ 0)), (0, .ref (uq_ u 0))]) dX10_neverNow_5 rfl (by decide) rfl ?_
  refine g_iconst (v := (iI_ 0)) dX10_neverNow_6 (by decide) ?_
  refine g_istore_n (L' := [(2, .int (iI_ 0)), (1, .int (iI_ 0)), (0, .ref (uq_ u 0))]) dX10_neverNow_7 rfl (by decide) rfl ?_
  exact GG_.sub [2, 1, 0] rfl H
set_option maxHeartbeats 4000000 in
set_option maxRecDepth 100000 in
theorem eX10_never (u : Ux_) {P : Int32 → St_ → Prop}  (σ : St_)  (H : MMi_ (zm_ u) mX10_neverNow [.ref (uq_ u 0)] σ (fun r2 σ1 => P r2 σ1)) : MMi_ (zm_ u) mX10_never [.ref (uq_ u 0)] σ P := by
  refine MM_.of (L := [(0, .ref (uq_ u 0))]) (by decide +kernel) (Nat.le_of_ble_eq_true rfl) rfl ?_
  refine g_aload_n dX10_never_0 0 rfl rfl ?_
  refine k_X10_neverNow w_1217 rfl ⟨Nat.le_of_ble_eq_true rfl, Nat.le_of_ble_eq_true rfl⟩ (Nat.le_of_ble_eq_true rfl) dX10_never_1 H (fun r2 σ1 H => ?_)
  exact g_iret rfl dX10_never_4 ⟨_, rfl, H⟩
set_option maxHeartbeats 4000000 in
set_option maxRecDepth 100000 in
theorem bX10_takesOrder_25 (u : Ux_) {P : St_ → Prop}  (σ : St_) (x1 : Int32) (x2 : Int32) (x3 : Int32) (x4 : Int32) (y0 : Int32) (H : vp_in ((iI_ 3) * x1) 27 ∧ (∀ σ1, σ1 = su_ σ 5 (Int32.toNatClampNeg ((iI_ 3) * x1)) x3 → ((¬ (x2 - x2 / (iI_ 2) * (iI_ 2)) = iI_ 0 → vp_in (((iI_ 3) * x1) + (iI_ 1)) 27 ∧ (∀ σ4, σ4 = su_ σ1 5 (Int32.toNatClampNeg (((iI_ 3) * x1) + (iI_ 1))) y0 → ((¬ (x2 - x2 / (iI_ 2) * (iI_ 2)) = iI_ 0 → vp_in (((iI_ 3) * x1) + (iI_ 2)) 27 ∧ (∀ σ7, σ7 = su_ σ4 5 (Int32.toNatClampNeg (((iI_ 3) * x1) + (iI_ 2))) x4 → P σ7)) ∧ ((x2 - x2 / (iI_ 2) * (iI_ 2)) = iI_ 0 → vp_in (((iI_ 3) * x1) + (iI_ 2)) 27 ∧ (∀ σ9, σ9 = su_ σ4 5 (Int32.toNatClampNeg (((iI_ 3) * x1) + (iI_ 2))) y0 → P σ9))))) ∧ ((x2 - x2 / (iI_ 2) * (iI_ 2)) = iI_ 0 → vp_in (((iI_ 3) * x1) + (iI_ 1)) 27 ∧ (∀ σ11, σ11 = su_ σ1 5 (Int32.toNatClampNeg (((iI_ 3) * x1) + (iI_ 1))) x4 → ((¬ (x2 - x2 / (iI_ 2) * (iI_ 2)) = iI_ 0 → vp_in (((iI_ 3) * x1) + (iI_ 2)) 27 ∧ (∀ σ14, σ14 = su_ σ11 5 (Int32.toNatClampNeg (((iI_ 3) * x1) + (iI_ 2))) x4 → P σ14)) ∧ ((x2 - x2 / (iI_ 2) * (iI_ 2)) = iI_ 0 → vp_in (((iI_ 3) * x1) + (iI_ 2)) 27 ∧ (∀ σ16, σ16 = su_ σ11 5 (Int32.toNatClampNeg (((iI_ 3) * x1) + (iI_ 2))) y0 → P σ16)))))))) : GG_ (zm_ u) mX10_takesOrder (Pv_ P) 25 [(0, .ref (uq_ u 0)), (1, .int x1), (2, .int x2), (3, .int x3), (4, .int x4)] [.int y0] σ := by
  refine g_istore (L' := [(5, .int y0), (0, .ref (uq_ u 0)), (1, .int x1), (2, .int x2), (3, .int x3), (4, .int x4)]) dX10_takesOrder_25 (by decide) rfl ?_
  refine g_aload_n dX10_takesOrder_27 1 rfl rfl ?_
  refine gm_LinenHouseModel_wants w_818 rfl dX10_takesOrder_28 ?_
  refine g_iconst (v := (iI_ 3)) dX10_takesOrder_31 (by decide) ?_
  refine g_iload_n dX10_takesOrder_32 2 rfl rfl ?_
  refine g_imul dX10_takesOrder_33 ?_
  refine g_iload_n dX10_takesOrder_34 4 rfl rfl ?_
  obtain ⟨h2, H⟩ := H
  refine sm_5 h2 dX10_takesOrder_35 ?_
  obtain ⟨σ1, e_σ1⟩ : ∃ q : St_, q = su_ σ 5 (Int32.toNatClampNeg ((iI_ 3) * x1)) x3 := ⟨_, rfl⟩
  rw [← e_σ1]
  replace H := H σ1 e_σ1
  refine g_aload_n dX10_takesOrder_36 1 rfl rfl ?_
  refine gm_LinenHouseModel_wants w_818 rfl dX10_takesOrder_37 ?_
  refine g_iconst (v := (iI_ 3)) dX10_takesOrder_40 (by decide) ?_
  refine g_iload_n dX10_takesOrder_41 2 rfl rfl ?_
  refine g_imul dX10_takesOrder_42 ?_
  refine g_iconst (v := (iI_ 1)) dX10_takesOrder_43 (by decide) ?_
  refine g_iadd dX10_takesOrder_44 ?_
  refine g_iload_n dX10_takesOrder_45 3 rfl rfl ?_
  refine g_iconst (v := (iI_ 2)) dX10_takesOrder_46 (by decide) ?_
  refine g_irem dX10_takesOrder_47 (by decide) ?_
  refine g_if_ne 56 dX10_takesOrder_48 (by decide) (fun c3 => ?_) (fun c3 => ?_)
  · replace H := H.1 c3
    refine g_iload dX10_takesOrder_56 0 rfl ?_
    obtain ⟨h5, H⟩ := H
    refine sm_5 h5 dX10_takesOrder_58 ?_
    obtain ⟨σ4, e_σ4⟩ : ∃ q : St_, q = su_ σ1 5 (Int32.toNatClampNeg (((iI_ 3) * x1) + (iI_ 1))) y0 := ⟨_, rfl⟩
    rw [← e_σ4]
    replace H := H σ4 e_σ4
    refine g_aload_n dX10_takesOrder_59 1 rfl rfl ?_
    refine gm_LinenHouseModel_wants w_818 rfl dX10_takesOrder_60 ?_
    refine g_iconst (v := (iI_ 3)) dX10_takesOrder_63 (by decide) ?_
    refine g_iload_n dX10_takesOrder_64 2 rfl rfl ?_
    refine g_imul dX10_takesOrder_65 ?_
    refine g_iconst (v := (iI_ 2)) dX10_takesOrder_66 (by decide) ?_
    refine g_iadd dX10_takesOrder_67 ?_
    refine g_iload_n dX10_takesOrder_68 3 rfl rfl ?_
    refine g_iconst (v := (iI_ 2)) dX10_takesOrder_69 (by decide) ?_
    refine g_irem dX10_takesOrder_70 (by decide) ?_
    refine g_if_ne 79 dX10_takesOrder_71 (by decide) (fun c6 => ?_) (fun c6 => ?_)
    · replace H := H.1 c6
      refine g_iload dX10_takesOrder_79 5 rfl ?_
      obtain ⟨h8, H⟩ := H
      refine sm_5 h8 dX10_takesOrder_81 ?_
      obtain ⟨σ7, e_σ7⟩ : ∃ q : St_, q = su_ σ4 5 (Int32.toNatClampNeg (((iI_ 3) * x1) + (iI_ 2))) x4 := ⟨_, rfl⟩
      rw [← e_σ7]
      replace H := H σ7 e_σ7
      exact g_vret rfl dX10_takesOrder_82 ⟨rfl, H⟩
    · replace H := H.2 c6
      refine g_iload dX10_takesOrder_74 0 rfl ?_
      refine g_goto 81 dX10_takesOrder_76 (by decide) ?_
      obtain ⟨h10, H⟩ := H
      refine sm_5 h10 dX10_takesOrder_81 ?_
      obtain ⟨σ9, e_σ9⟩ : ∃ q : St_, q = su_ σ4 5 (Int32.toNatClampNeg (((iI_ 3) * x1) + (iI_ 2))) y0 := ⟨_, rfl⟩
      rw [← e_σ9]
      replace H := H σ9 e_σ9
      exact g_vret rfl dX10_takesOrder_82 ⟨rfl, H⟩
  · replace H := H.2 c3
    refine g_iload dX10_takesOrder_51 5 rfl ?_
    refine g_goto 58 dX10_takesOrder_53 (by decide) ?_
    obtain ⟨h12, H⟩ := H
    refine sm_5 h12 dX10_takesOrder_58 ?_
    obtain ⟨σ11, e_σ11⟩ : ∃ q : St_, q = su_ σ1 5 (Int32.toNatClampNeg (((iI_ 3) * x1) + (iI_ 1))) x4 := ⟨_, rfl⟩
    rw [← e_σ11]
    replace H := H σ11 e_σ11
    refine g_aload_n dX10_takesOrder_59 1 rfl rfl ?_
    refine gm_LinenHouseModel_wants w_818 rfl dX10_takesOrder_60 ?_
    refine g_iconst (v := (iI_ 3)) dX10_takesOrder_63 (by decide) ?_
    refine g_iload_n dX10_takesOrder_64 2 rfl rfl ?_
    refine g_imul dX10_takesOrder_65 ?_
    refine g_iconst (v := (iI_ 2)) dX10_takesOrder_66 (by decide) ?_
    refine g_iadd dX10_takesOrder_67 ?_
    refine g_iload_n dX10_takesOrder_68 3 rfl rfl ?_
    refine g_iconst (v := (iI_ 2)) dX10_takesOrder_69 (by decide) ?_
    refine g_irem dX10_takesOrder_70 (by decide) ?_
    refine g_if_ne 79 dX10_takesOrder_71 (by decide) (fun c13 => ?_) (fun c13 => ?_)
    · replace H := H.1 c13
      refine g_iload dX10_takesOrder_79 5 rfl ?_
      obtain ⟨h15, H⟩ := H
      refine sm_5 h15 dX10_takesOrder_81 ?_
      obtain ⟨σ14, e_σ14⟩ : ∃ q : St_, q = su_ σ11 5 (Int32.toNatClampNeg (((iI_ 3) * x1) + (iI_ 2))) x4 := ⟨_, rfl⟩
      rw [← e_σ14]
      replace H := H σ14 e_σ14
      exact g_vret rfl dX10_takesOrder_82 ⟨rfl, H⟩
    · replace H := H.2 c13
      refine g_iload dX10_takesOrder_74 0 rfl ?_
      refine g_goto 81 dX10_takesOrder_76 (by decide) ?_
      obtain ⟨h17, H⟩ := H
      refine sm_5 h17 dX10_takesOrder_81 ?_
      obtain ⟨σ16, e_σ16⟩ : ∃ q : St_, q = su_ σ11 5 (Int32.toNatClampNeg (((iI_ 3) * x1) + (iI_ 2))) y0 := ⟨_, rfl⟩
      rw [← e_σ16]
      replace H := H σ16 e_σ16
      exact g_vret rfl dX10_takesOrder_82 ⟨rfl, H⟩
set_option maxHeartbeats 4000000 in
set_option maxRecDepth 100000 in
theorem eX10_takesOrder (u : Ux_) {P : St_ → Prop}  (σ : St_) (x1 : Int32) (x2 : Int32) (H : ((¬ (x2 / (iI_ 2)) = iI_ 0 → ((¬ (x2 / (iI_ 2)) = (iI_ 2) → GG_ (zm_ u) mX10_takesOrder (Pv_ P) 25 [(0, .ref (uq_ u 0)), (1, .int x1), (2, .int x2), (3, .int (x2 / (iI_ 2))), (4, .int (iI_ 0))] [.int (iI_ 2)] σ) ∧ ((x2 / (iI_ 2)) = (iI_ 2) → GG_ (zm_ u) mX10_takesOrder (Pv_ P) 25 [(0, .ref (uq_ u 0)), (1, .int x1), (2, .int x2), (3, .int (x2 / (iI_ 2))), (4, .int (iI_ 0))] [.int (iI_ 1)] σ))) ∧ ((x2 / (iI_ 2)) = iI_ 0 → ((¬ (x2 / (iI_ 2)) = (iI_ 2) → GG_ (zm_ u) mX10_takesOrder (Pv_ P) 25 [(0, .ref (uq_ u 0)), (1, .int x1), (2, .int x2), (3, .int (x2 / (iI_ 2))), (4, .int (iI_ 1))] [.int (iI_ 2)] σ) ∧ ((x2 / (iI_ 2)) = (iI_ 2) → GG_ (zm_ u) mX10_takesOrder (Pv_ P) 25 [(0, .ref (uq_ u 0)), (1, .int x1), (2, .int x2), (3, .int (x2 / (iI_ 2))), (4, .int (iI_ 1))] [.int (iI_ 1)] σ))))) : MMv_ (zm_ u) mX10_takesOrder [.ref (uq_ u 0), .int x1, .int x2] σ P := by
  refine MM_.of (L := [(0, .ref (uq_ u 0)), (1, .int x1), (2, .int x2)]) (by decide +kernel) (Nat.le_of_ble_eq_true rfl) rfl ?_
  refine g_iload_n dX10_takesOrder_0 2 rfl rfl ?_
  refine g_iconst (v := (iI_ 2)) dX10_takesOrder_1 (by decide) ?_
  refine g_idiv dX10_takesOrder_2 (by decide) ?_
  refine g_istore_n (L' := [(3, .int (x2 / (iI_ 2))), (0, .ref (uq_ u 0)), (1, .int x1), (2, .int x2)]) dX10_takesOrder_3 rfl (by decide) rfl ?_
  refine g_iload_n dX10_takesOrder_4 0 rfl rfl ?_
  refine g_if_ne 12 dX10_takesOrder_5 (by decide) (fun c1 => ?_) (fun c1 => ?_)
  · replace H := H.1 c1
    refine g_iconst (v := (iI_ 0)) dX10_takesOrder_12 (by decide) ?_
    refine g_istore (L' := [(4, .int (iI_ 0)), (3, .int (x2 / (iI_ 2))), (0, .ref (uq_ u 0)), (1, .int x1), (2, .int x2)]) dX10_takesOrder_13 (by decide) rfl ?_
    refine g_iload_n dX10_takesOrder_15 1 rfl rfl ?_
    refine g_iconst (v := (iI_ 2)) dX10_takesOrder_16 (by decide) ?_
    refine g_icmp_ne 24 dX10_takesOrder_17 (by decide) (fun c2 => ?_) (fun c2 => ?_)
    · replace H := H.1 c2
      refine g_iconst (v := (iI_ 2)) dX10_takesOrder_24 (by decide) ?_
      exact GG_.sub [2, 3, 4, 1, 0] rfl H
    · replace H := H.2 c2
      refine g_iconst (v := (iI_ 1)) dX10_takesOrder_20 (by decide) ?_
      refine g_goto 25 dX10_takesOrder_21 (by decide) ?_
      exact GG_.sub [2, 3, 4, 1, 0] rfl H
  · replace H := H.2 c1
    refine g_iconst (v := (iI_ 1)) dX10_takesOrder_8 (by decide) ?_
    refine g_goto 13 dX10_takesOrder_9 (by decide) ?_
    refine g_istore (L' := [(4, .int (iI_ 1)), (3, .int (x2 / (iI_ 2))), (0, .ref (uq_ u 0)), (1, .int x1), (2, .int x2)]) dX10_takesOrder_13 (by decide) rfl ?_
    refine g_iload_n dX10_takesOrder_15 1 rfl rfl ?_
    refine g_iconst (v := (iI_ 2)) dX10_takesOrder_16 (by decide) ?_
    refine g_icmp_ne 24 dX10_takesOrder_17 (by decide) (fun c3 => ?_) (fun c3 => ?_)
    · replace H := H.1 c3
      refine g_iconst (v := (iI_ 2)) dX10_takesOrder_24 (by decide) ?_
      exact GG_.sub [2, 3, 4, 1, 0] rfl H
    · replace H := H.2 c3
      refine g_iconst (v := (iI_ 1)) dX10_takesOrder_20 (by decide) ?_
      refine g_goto 25 dX10_takesOrder_21 (by decide) ?_
      exact GG_.sub [2, 3, 4, 1, 0] rfl H
set_option maxHeartbeats 4000000 in
set_option maxRecDepth 100000 in
theorem bX10_wouldBy_42 (u : Ux_) {P : Int32 → St_ → Prop}  (σ : St_) (x1 : Int32) (x2 : Int32) (x3 : Int32) (x4 : Int32) (x5 : Int32) (x6 : Int32) (H : (((iI_ 6) ≤ x6 → vp_in ((iI_ 3) * x1) 27 ∧ (∀ σ2, σ2 = su_ σ 5 (Int32.toNatClampNeg ((iI_ 3) * x1)) x2 → vp_in (((iI_ 3) * x1) + (iI_ 1)) 27 ∧ (∀ σ4, σ4 = su_ σ2 5 (Int32.toNatClampNeg (((iI_ 3) * x1) + (iI_ 1))) x3 → vp_in (((iI_ 3) * x1) + (iI_ 2)) 27 ∧ (∀ σ6, σ6 = su_ σ4 5 (Int32.toNatClampNeg (((iI_ 3) * x1) + (iI_ 2))) x4 → P x5 σ6)))) ∧ (¬ (iI_ 6) ≤ x6 → MMv_ (zm_ u) mX10_takesOrder [.ref (uq_ u 0), .int x1, .int x6] σ (fun σ8 => MMi_ (zm_ u) mX10_isSeen [.ref (uq_ u 0)] σ8 (fun r10 σ9 => ((r10 = iI_ 0 → GG_ (zm_ u) mX10_wouldBy (Pi_ P) 79 [(0, .ref (uq_ u 0)), (1, .int x1), (2, .int x2), (3, .int x3), (4, .int x4), (5, .int (x5 ||| (iI_ 0))), (6, .int x6), (7, .int (iI_ 0))] [] σ9) ∧ (¬ r10 = iI_ 0 → GG_ (zm_ u) mX10_wouldBy (Pi_ P) 79 [(0, .ref (uq_ u 0)), (1, .int x1), (2, .int x2), (3, .int x3), (4, .int x4), (5, .int (x5 ||| ((iI_ 1) <<< (x6 &&& 31)))), (6, .int x6), (7, .int (iI_ 0))] [] σ9))))))) : GG_ (zm_ u) mX10_wouldBy (Pi_ P) 42 [(0, .ref (uq_ u 0)), (1, .int x1), (2, .int x2), (3, .int x3), (4, .int x4), (5, .int x5), (6, .int x6)] [] σ := by
  refine g_iload dX10_wouldBy_42 6 rfl ?_
  refine g_bipush (v := (iI_ 6)) dX10_wouldBy_44 (by decide) ?_
  refine g_icmp_ge 118 dX10_wouldBy_46 (by decide) (fun c1 => ?_) (fun c1 => ?_)
  · replace H := H.1 c1
    refine g_aload_n dX10_wouldBy_118 0 rfl rfl ?_
    refine gm_LinenHouseModel_wants w_818 rfl dX10_wouldBy_119 ?_
    refine g_iconst (v := (iI_ 3)) dX10_wouldBy_122 (by decide) ?_
    refine g_iload_n dX10_wouldBy_123 1 rfl rfl ?_
    refine g_imul dX10_wouldBy_124 ?_
    refine g_iload_n dX10_wouldBy_125 2 rfl rfl ?_
    obtain ⟨h3, H⟩ := H
    refine sm_5 h3 dX10_wouldBy_126 ?_
    obtain ⟨σ2, e_σ2⟩ : ∃ q : St_, q = su_ σ 5 (Int32.toNatClampNeg ((iI_ 3) * x1)) x2 := ⟨_, rfl⟩
    rw [← e_σ2]
    replace H := H σ2 e_σ2
    refine g_aload_n dX10_wouldBy_127 0 rfl rfl ?_
    refine gm_LinenHouseModel_wants w_818 rfl dX10_wouldBy_128 ?_
    refine g_iconst (v := (iI_ 3)) dX10_wouldBy_131 (by decide) ?_
    refine g_iload_n dX10_wouldBy_132 1 rfl rfl ?_
    refine g_imul dX10_wouldBy_133 ?_
    refine g_iconst (v := (iI_ 1)) dX10_wouldBy_134 (by decide) ?_
    refine g_iadd dX10_wouldBy_135 ?_
    refine g_iload_n dX10_wouldBy_136 3 rfl rfl ?_
    obtain ⟨h5, H⟩ := H
    refine sm_5 h5 dX10_wouldBy_137 ?_
    obtain ⟨σ4, e_σ4⟩ : ∃ q : St_, q = su_ σ2 5 (Int32.toNatClampNeg (((iI_ 3) * x1) + (iI_ 1))) x3 := ⟨_, rfl⟩
    rw [← e_σ4]
    replace H := H σ4 e_σ4
    refine g_aload_n dX10_wouldBy_138 0 rfl rfl ?_
    refine gm_LinenHouseModel_wants w_818 rfl dX10_wouldBy_139 ?_
    refine g_iconst (v := (iI_ 3)) dX10_wouldBy_142 (by decide) ?_
    refine g_iload_n dX10_wouldBy_143 1 rfl rfl ?_
    refine g_imul dX10_wouldBy_144 ?_
    refine g_iconst (v := (iI_ 2)) dX10_wouldBy_145 (by decide) ?_
    refine g_iadd dX10_wouldBy_146 ?_
    refine g_iload dX10_wouldBy_147 4 rfl ?_
    obtain ⟨h7, H⟩ := H
    refine sm_5 h7 dX10_wouldBy_149 ?_
    obtain ⟨σ6, e_σ6⟩ : ∃ q : St_, q = su_ σ4 5 (Int32.toNatClampNeg (((iI_ 3) * x1) + (iI_ 2))) x4 := ⟨_, rfl⟩
    rw [← e_σ6]
    replace H := H σ6 e_σ6
    refine g_iload dX10_wouldBy_150 5 rfl ?_
    exact g_iret rfl dX10_wouldBy_152 ⟨_, rfl, H⟩
  · replace H := H.2 c1
    refine g_aload_n dX10_wouldBy_49 0 rfl rfl ?_
    refine g_iload_n dX10_wouldBy_50 1 rfl rfl ?_
    refine g_iload dX10_wouldBy_51 6 rfl ?_
    refine k_X10_takesOrder w_1233 rfl ⟨Nat.le_of_ble_eq_true rfl, Nat.le_of_ble_eq_true rfl⟩ (Nat.le_of_ble_eq_true rfl) dX10_wouldBy_53 H (fun σ8 H => ?_)
    refine g_iload dX10_wouldBy_56 5 rfl ?_
    refine g_aload_n dX10_wouldBy_58 0 rfl rfl ?_
    refine k_X10_isSeen w_1221 rfl ⟨Nat.le_of_ble_eq_true rfl, Nat.le_of_ble_eq_true rfl⟩ (Nat.le_of_ble_eq_true rfl) dX10_wouldBy_59 H (fun r10 σ9 H => ?_)
    refine g_if_eq 72 dX10_wouldBy_62 (by decide) (fun c11 => ?_) (fun c11 => ?_)
    · replace H := H.1 c11
      refine g_iconst (v := (iI_ 0)) dX10_wouldBy_72 (by decide) ?_
      refine g_ior dX10_wouldBy_73 ?_
      refine g_istore (L' := [(5, .int (x5 ||| (iI_ 0))), (0, .ref (uq_ u 0)), (1, .int x1), (2, .int x2), (3, .int x3), (4, .int x4), (6, .int x6)]) dX10_wouldBy_74 (by decide) rfl ?_
      refine g_iconst (v := (iI_ 0)) dX10_wouldBy_76 (by decide) ?_
      refine g_istore (L' := [(7, .int (iI_ 0)), (5, .int (x5 ||| (iI_ 0))), (0, .ref (uq_ u 0)), (1, .int x1), (2, .int x2), (3, .int x3), (4, .int x4), (6, .int x6)]) dX10_wouldBy_77 (by decide) rfl ?_
      exact GG_.sub [2, 3, 4, 5, 6, 1, 7, 0] rfl H
    · replace H := H.2 c11
      refine g_iconst (v := (iI_ 1)) dX10_wouldBy_65 (by decide) ?_
      refine g_iload dX10_wouldBy_66 6 rfl ?_
      refine g_ishl dX10_wouldBy_68 ?_
      refine g_goto 73 dX10_wouldBy_69 (by decide) ?_
      refine g_ior dX10_wouldBy_73 ?_
      refine g_istore (L' := [(5, .int (x5 ||| ((iI_ 1) <<< (x6 &&& 31)))), (0, .ref (uq_ u 0)), (1, .int x1), (2, .int x2), (3, .int x3), (4, .int x4), (6, .int x6)]) dX10_wouldBy_74 (by decide) rfl ?_
      refine g_iconst (v := (iI_ 0)) dX10_wouldBy_76 (by decide) ?_
      refine g_istore (L' := [(7, .int (iI_ 0)), (5, .int (x5 ||| ((iI_ 1) <<< (x6 &&& 31)))), (0, .ref (uq_ u 0)), (1, .int x1), (2, .int x2), (3, .int x3), (4, .int x4), (6, .int x6)]) dX10_wouldBy_77 (by decide) rfl ?_
      exact GG_.sub [2, 3, 4, 5, 6, 1, 7, 0] rfl H
set_option maxHeartbeats 4000000 in
set_option maxRecDepth 100000 in
theorem bX10_wouldBy_79 (u : Ux_) {P : Int32 → St_ → Prop}  (σ : St_) (x1 : Int32) (x2 : Int32) (x3 : Int32) (x4 : Int32) (x5 : Int32) (x6 : Int32) (x7 : Int32) (H : (((iI_ 10) ≤ x7 → GG_ (zm_ u) mX10_wouldBy (Pi_ P) 42 [(0, .ref (uq_ u 0)), (1, .int x1), (2, .int x2), (3, .int x3), (4, .int x4), (5, .int x5), (6, .int (x6 + (iI_ 1)))] [] σ) ∧ (¬ (iI_ 10) ≤ x7 → vp_in x7 10 ∧ vp_in (((iI_ 10) * x6) + x7) 60 ∧ (∀ σ3, σ3 = su_ σ 36 (Int32.toNatClampNeg (((iI_ 10) * x6) + x7)) (σ 31 (Int32.toNatClampNeg x7)) → GG_ (zm_ u) mX10_wouldBy (Pi_ P) 79 [(0, .ref (uq_ u 0)), (1, .int x1), (2, .int x2), (3, .int x3), (4, .int x4), (5, .int x5), (6, .int x6), (7, .int (x7 + (iI_ 1)))] [] σ3)))) : GG_ (zm_ u) mX10_wouldBy (Pi_ P) 79 [(0, .ref (uq_ u 0)), (1, .int x1), (2, .int x2), (3, .int x3), (4, .int x4), (5, .int x5), (6, .int x6), (7, .int x7)] [] σ := by
  refine g_iload dX10_wouldBy_79 7 rfl ?_
  refine g_bipush (v := (iI_ 10)) dX10_wouldBy_81 (by decide) ?_
  refine g_icmp_ge 112 dX10_wouldBy_83 (by decide) (fun c1 => ?_) (fun c1 => ?_)
  · replace H := H.1 c1
    refine g_iinc (v := (x6 + (iI_ 1))) (L' := [(6, .int (x6 + (iI_ 1))), (0, .ref (uq_ u 0)), (1, .int x1), (2, .int x2), (3, .int x3), (4, .int x4), (5, .int x5), (7, .int x7)]) dX10_wouldBy_112 6 rfl rfl (by decide) rfl ?_
    refine g_goto 42 dX10_wouldBy_115 (by decide) ?_
    exact GG_.sub [1, 2, 3, 4, 5, 6, 0] rfl H
  · replace H := H.2 c1
    refine g_aload_n dX10_wouldBy_86 0 rfl rfl ?_
    refine gm_LinenHouseModel_carriedBy w_849 rfl dX10_wouldBy_87 ?_
    refine g_bipush (v := (iI_ 10)) dX10_wouldBy_90 (by decide) ?_
    refine g_iload dX10_wouldBy_92 6 rfl ?_
    refine g_imul dX10_wouldBy_94 ?_
    refine g_iload dX10_wouldBy_95 7 rfl ?_
    refine g_iadd dX10_wouldBy_97 ?_
    refine g_aload_n dX10_wouldBy_98 0 rfl rfl ?_
    refine gm_LinenHouseModel_carried w_844 rfl dX10_wouldBy_99 ?_
    refine g_iload dX10_wouldBy_102 7 rfl ?_
    obtain ⟨h2, H⟩ := H
    refine am_31 h2 dX10_wouldBy_104 ?_
    obtain ⟨h4, H⟩ := H
    refine sm_36 h4 dX10_wouldBy_105 ?_
    obtain ⟨σ3, e_σ3⟩ : ∃ q : St_, q = su_ σ 36 (Int32.toNatClampNeg (((iI_ 10) * x6) + x7)) (σ 31 (Int32.toNatClampNeg x7)) := ⟨_, rfl⟩
    rw [← e_σ3]
    replace H := H σ3 e_σ3
    refine g_iinc (v := (x7 + (iI_ 1))) (L' := [(7, .int (x7 + (iI_ 1))), (0, .ref (uq_ u 0)), (1, .int x1), (2, .int x2), (3, .int x3), (4, .int x4), (5, .int x5), (6, .int x6)]) dX10_wouldBy_106 7 rfl rfl (by decide) rfl ?_
    refine g_goto 79 dX10_wouldBy_109 (by decide) ?_
    exact GG_.sub [1, 2, 3, 4, 5, 6, 7, 0] rfl H
set_option maxHeartbeats 4000000 in
set_option maxRecDepth 100000 in
theorem eX10_wouldBy (u : Ux_) {P : Int32 → St_ → Prop}  (σ : St_) (x1 : Int32) (H : MMv_ (zm_ u) mX10_asTold [.ref (uq_ u 0)] σ (fun σ1 => vp_in ((iI_ 3) * x1) 27 ∧ vp_in (((iI_ 3) * x1) + (iI_ 1)) 27 ∧ vp_in (((iI_ 3) * x1) + (iI_ 2)) 27 ∧ GG_ (zm_ u) mX10_wouldBy (Pi_ P) 42 [(0, .ref (uq_ u 0)), (1, .int x1), (2, .int (σ1 5 (Int32.toNatClampNeg ((iI_ 3) * x1)))), (3, .int (σ1 5 (Int32.toNatClampNeg (((iI_ 3) * x1) + (iI_ 1))))), (4, .int (σ1 5 (Int32.toNatClampNeg (((iI_ 3) * x1) + (iI_ 2))))), (5, .int (iI_ 0)), (6, .int (iI_ 0))] [] σ1)) : MMi_ (zm_ u) mX10_wouldBy [.ref (uq_ u 0), .int x1] σ P := by
  refine MM_.of (L := [(0, .ref (uq_ u 0)), (1, .int x1)]) (by decide +kernel) (Nat.le_of_ble_eq_true rfl) rfl ?_
  refine g_aload_n dX10_wouldBy_0 0 rfl rfl ?_
  refine k_X10_asTold w_1063 rfl ⟨Nat.le_of_ble_eq_true rfl, Nat.le_of_ble_eq_true rfl⟩ (Nat.le_of_ble_eq_true rfl) dX10_wouldBy_1 H (fun σ1 H => ?_)
  refine g_aload_n dX10_wouldBy_4 0 rfl rfl ?_
  refine gm_LinenHouseModel_wants w_818 rfl dX10_wouldBy_5 ?_
  refine g_iconst (v := (iI_ 3)) dX10_wouldBy_8 (by decide) ?_
  refine g_iload_n dX10_wouldBy_9 1 rfl rfl ?_
  refine g_imul dX10_wouldBy_10 ?_
  obtain ⟨h2, H⟩ := H
  refine am_5 h2 dX10_wouldBy_11 ?_
  refine g_istore_n (L' := [(2, .int (σ1 5 (Int32.toNatClampNeg ((iI_ 3) * x1)))), (0, .ref (uq_ u 0)), (1, .int x1)]) dX10_wouldBy_12 rfl (by decide) rfl ?_
  refine g_aload_n dX10_wouldBy_13 1 rfl rfl ?_
  refine gm_LinenHouseModel_wants w_818 rfl dX10_wouldBy_14 ?_
  refine g_iconst (v := (iI_ 3)) dX10_wouldBy_17 (by decide) ?_
  refine g_iload_n dX10_wouldBy_18 2 rfl rfl ?_
  refine g_imul dX10_wouldBy_19 ?_
  refine g_iconst (v := (iI_ 1)) dX10_wouldBy_20 (by decide) ?_
  refine g_iadd dX10_wouldBy_21 ?_
  obtain ⟨h3, H⟩ := H
  refine am_5 h3 dX10_wouldBy_22 ?_
  refine g_istore_n (L' := [(3, .int (σ1 5 (Int32.toNatClampNeg (((iI_ 3) * x1) + (iI_ 1))))), (2, .int (σ1 5 (Int32.toNatClampNeg ((iI_ 3) * x1)))), (0, .ref (uq_ u 0)), (1, .int x1)]) dX10_wouldBy_23 rfl (by decide) rfl ?_
  refine g_aload_n dX10_wouldBy_24 2 rfl rfl ?_
  refine gm_LinenHouseModel_wants w_818 rfl dX10_wouldBy_25 ?_
  refine g_iconst (v := (iI_ 3)) dX10_wouldBy_28 (by decide) ?_
  refine g_iload_n dX10_wouldBy_29 3 rfl rfl ?_
  refine g_imul dX10_wouldBy_30 ?_
  refine g_iconst (v := (iI_ 2)) dX10_wouldBy_31 (by decide) ?_
  refine g_iadd dX10_wouldBy_32 ?_
  obtain ⟨h4, H⟩ := H
  refine am_5 h4 dX10_wouldBy_33 ?_
  refine g_istore (L' := [(4, .int (σ1 5 (Int32.toNatClampNeg (((iI_ 3) * x1) + (iI_ 2))))), (3, .int (σ1 5 (Int32.toNatClampNeg (((iI_ 3) * x1) + (iI_ 1))))), (2, .int (σ1 5 (Int32.toNatClampNeg ((iI_ 3) * x1)))), (0, .ref (uq_ u 0)), (1, .int x1)]) dX10_wouldBy_34 (by decide) rfl ?_
  refine g_iconst (v := (iI_ 0)) dX10_wouldBy_36 (by decide) ?_
  refine g_istore (L' := [(5, .int (iI_ 0)), (4, .int (σ1 5 (Int32.toNatClampNeg (((iI_ 3) * x1) + (iI_ 2))))), (3, .int (σ1 5 (Int32.toNatClampNeg (((iI_ 3) * x1) + (iI_ 1))))), (2, .int (σ1 5 (Int32.toNatClampNeg ((iI_ 3) * x1)))), (0, .ref (uq_ u 0)), (1, .int x1)]) dX10_wouldBy_37 (by decide) rfl ?_
  refine g_iconst (v := (iI_ 0)) dX10_wouldBy_39 (by decide) ?_
  refine g_istore (L' := [(6, .int (iI_ 0)), (5, .int (iI_ 0)), (4, .int (σ1 5 (Int32.toNatClampNeg (((iI_ 3) * x1) + (iI_ 2))))), (3, .int (σ1 5 (Int32.toNatClampNeg (((iI_ 3) * x1) + (iI_ 1))))), (2, .int (σ1 5 (Int32.toNatClampNeg ((iI_ 3) * x1)))), (0, .ref (uq_ u 0)), (1, .int x1)]) dX10_wouldBy_40 (by decide) rfl ?_
  exact GG_.sub [5, 6, 4, 3, 2, 1, 0] rfl H
set_option maxHeartbeats 4000000 in
set_option maxRecDepth 100000 in
theorem eX10_would (u : Ux_) {P : Int32 → St_ → Prop}  (σ : St_) (x1 : Int32) (H : MMi_ (zm_ u) mX10_isMember [.ref (uq_ u 0), .int x1] σ (fun r2 σ1 => ((r2 = iI_ 0 → P (iI_ (-2)) σ1) ∧ (¬ r2 = iI_ 0 → MMi_ (zm_ u) mX10_wouldBy [.ref (uq_ u 0), .int x1] σ1 (fun r5 σ4 => P r5 σ4))))) : MMi_ (zm_ u) mX10_would [.ref (uq_ u 0), .int x1] σ P := by
  refine MM_.of (L := [(0, .ref (uq_ u 0)), (1, .int x1)]) (by decide +kernel) (Nat.le_of_ble_eq_true rfl) rfl ?_
  refine g_aload_n dX10_would_0 0 rfl rfl ?_
  refine g_iload_n dX10_would_1 1 rfl rfl ?_
  refine k_X10_isMember w_1000 rfl ⟨Nat.le_of_ble_eq_true rfl, Nat.le_of_ble_eq_true rfl⟩ (Nat.le_of_ble_eq_true rfl) dX10_would_2 H (fun r2 σ1 H => ?_)
  refine g_if_eq 16 dX10_would_5 (by decide) (fun c3 => ?_) (fun c3 => ?_)
  · replace H := H.1 c3
    refine g_bipush (v := (iI_ (-2))) dX10_would_16 (by decide) ?_
    exact g_iret rfl dX10_would_18 ⟨_, rfl, H⟩
  · replace H := H.2 c3
    refine g_aload_n dX10_would_8 0 rfl rfl ?_
    refine g_iload_n dX10_would_9 1 rfl rfl ?_
    refine k_X10_wouldBy w_1229 rfl ⟨Nat.le_of_ble_eq_true rfl, Nat.le_of_ble_eq_true rfl⟩ (Nat.le_of_ble_eq_true rfl) dX10_would_10 H (fun r5 σ4 H => ?_)
    refine g_goto 18 dX10_would_13 (by decide) ?_
    exact g_iret rfl dX10_would_18 ⟨_, rfl, H⟩
set_option maxHeartbeats 4000000 in
set_option maxRecDepth 100000 in
theorem bX10_askOf_14 (u : Ux_) {P : Int32 → St_ → Prop}  (σ : St_) (x2 : Int32) (x3 : Int32) (x4 : Int32) (x5 : Int32) (H : (((iI_ 10) ≤ x5 → P x3 σ) ∧ (¬ (iI_ 10) ≤ x5 → GG_ (zm_ u) mX10_askOf (Pi_ P) 27 [(0, .ref (uq_ u 0)), (2, .int x2), (3, .int x3), (4, .int x4), (5, .int x5), (6, .int (iI_ 0)), (7, .int (iI_ 0))] [] σ))) : GG_ (zm_ u) mX10_askOf (Pi_ P) 14 [(0, .ref (uq_ u 0)), (2, .int x2), (3, .int x3), (4, .int x4), (5, .int x5)] [] σ := by
  refine g_iload dX10_askOf_14 4 rfl ?_
  refine g_bipush (v := (iI_ 10)) dX10_askOf_16 (by decide) ?_
  refine g_icmp_ge 183 dX10_askOf_18 (by decide) (fun c1 => ?_) (fun c1 => ?_)
  · replace H := H.1 c1
    refine g_iload_n dX10_askOf_183 2 rfl rfl ?_
    exact g_iret rfl dX10_askOf_184 ⟨_, rfl, H⟩
  · replace H := H.2 c1
    refine g_iconst (v := (iI_ 0)) dX10_askOf_21 (by decide) ?_
    refine g_istore (L' := [(6, .int (iI_ 0)), (0, .ref (uq_ u 0)), (2, .int x2), (3, .int x3), (4, .int x4), (5, .int x5)]) dX10_askOf_22 (by decide) rfl ?_
    refine g_iconst (v := (iI_ 0)) dX10_askOf_24 (by decide) ?_
    refine g_istore (L' := [(7, .int (iI_ 0)), (6, .int (iI_ 0)), (0, .ref (uq_ u 0)), (2, .int x2), (3, .int x3), (4, .int x4), (5, .int x5)]) dX10_askOf_25 (by decide) rfl ?_
    exact GG_.sub [2, 3, 4, 5, 6, 1, 0] rfl H
set_option maxHeartbeats 4000000 in
set_option maxRecDepth 100000 in
theorem bX10_askOf_27 (u : Ux_) {P : Int32 → St_ → Prop}  (σ : St_) (x2 : Int32) (x3 : Int32) (x4 : Int32) (x5 : Int32) (x6 : Int32) (x7 : Int32) (H : (((iI_ 6) ≤ x7 → ((x3 = (iI_ (-1)) → GG_ (zm_ u) mX10_askOf (Pi_ P) 144 [(0, .ref (uq_ u 0)), (2, .int x2), (3, .int x3), (4, .int x4), (5, .int x5), (6, .int x6)] [] σ) ∧ (¬ x3 = (iI_ (-1)) → ((x4 ≤ x6 → GG_ (zm_ u) mX10_askOf (Pi_ P) 14 [(0, .ref (uq_ u 0)), (2, .int x2), (3, .int x3), (4, .int x4), (5, .int (x5 + (iI_ 1)))] [] σ) ∧ (¬ x4 ≤ x6 → GG_ (zm_ u) mX10_askOf (Pi_ P) 144 [(0, .ref (uq_ u 0)), (2, .int x2), (3, .int x3), (4, .int x4), (5, .int x5), (6, .int x6)] [] σ))))) ∧ (¬ (iI_ 6) ≤ x7 → GG_ (zm_ u) mX10_askOf (Pi_ P) 40 [(0, .ref (uq_ u 0)), (2, .int x2), (3, .int x3), (4, .int x4), (5, .int x5), (6, .int x6), (7, .int x7), (8, .int (iI_ 0)), (9, .int (iI_ 0))] [] σ))) : GG_ (zm_ u) mX10_askOf (Pi_ P) 27 [(0, .ref (uq_ u 0)), (2, .int x2), (3, .int x3), (4, .int x4), (5, .int x5), (6, .int x6), (7, .int x7)] [] σ := by
  refine g_iload dX10_askOf_27 6 rfl ?_
  refine g_bipush (v := (iI_ 6)) dX10_askOf_29 (by decide) ?_
  refine g_icmp_ge 132 dX10_askOf_31 (by decide) (fun c1 => ?_) (fun c1 => ?_)
  · replace H := H.1 c1
    refine g_iload_n dX10_askOf_132 2 rfl rfl ?_
    refine g_iconst (v := (iI_ (-1))) dX10_askOf_133 (by decide) ?_
    refine g_icmp_eq 144 dX10_askOf_134 (by decide) (fun c2 => ?_) (fun c2 => ?_)
    · replace H := H.1 c2
      exact GG_.sub [0, 1, 2, 3, 4, 5] rfl H
    · replace H := H.2 c2
      refine g_iload dX10_askOf_137 5 rfl ?_
      refine g_iload dX10_askOf_139 3 rfl ?_
      refine g_icmp_ge 148 dX10_askOf_141 (by decide) (fun c3 => ?_) (fun c3 => ?_)
      · replace H := H.1 c3
        refine g_iconst (v := (iI_ 0)) dX10_askOf_148 (by decide) ?_
        refine g_istore (L' := [(7, .int (iI_ 0)), (0, .ref (uq_ u 0)), (2, .int x2), (3, .int x3), (4, .int x4), (5, .int x5), (6, .int x6)]) dX10_askOf_149 (by decide) rfl ?_
        refine g_iload dX10_askOf_151 0 rfl ?_
        refine g_if_eq 161 dX10_askOf_153 (by decide) (fun c4 => ?_) (fun c4 => ?_)
        · skip
          refine g_iload_n dX10_askOf_161 3 rfl rfl ?_
          refine g_istore_n (L' := [(3, .int x3), (7, .int (iI_ 0)), (0, .ref (uq_ u 0)), (2, .int x2), (4, .int x4), (5, .int x5), (6, .int x6)]) dX10_askOf_162 rfl (by decide) rfl ?_
          refine g_iload dX10_askOf_163 1 rfl ?_
          refine g_if_eq 173 dX10_askOf_165 (by decide) (fun c5 => ?_) (fun c5 => ?_)
          · skip
            refine g_iload dX10_askOf_173 4 rfl ?_
            refine g_istore (L' := [(4, .int x4), (3, .int x3), (7, .int (iI_ 0)), (0, .ref (uq_ u 0)), (2, .int x2), (5, .int x5), (6, .int x6)]) dX10_askOf_175 (by decide) rfl ?_
            refine g_iinc (v := (x5 + (iI_ 1))) (L' := [(5, .int (x5 + (iI_ 1))), (4, .int x4), (3, .int x3), (7, .int (iI_ 0)), (0, .ref (uq_ u 0)), (2, .int x2), (6, .int x6)]) dX10_askOf_177 5 rfl rfl (by decide) rfl ?_
            refine g_goto 14 dX10_askOf_180 (by decide) ?_
            exact GG_.sub [4, 5, 2, 1, 0] rfl H
          · first | exact absurd c5 (by decide) | exact absurd (by decide) c5
        · first | exact absurd c4 (by decide) | exact absurd (by decide) c4
      · replace H := H.2 c3
        exact GG_.sub [0, 1, 2, 3, 4, 5] rfl H
  · replace H := H.2 c1
    refine g_iconst (v := (iI_ 0)) dX10_askOf_34 (by decide) ?_
    refine g_istore (L' := [(8, .int (iI_ 0)), (0, .ref (uq_ u 0)), (2, .int x2), (3, .int x3), (4, .int x4), (5, .int x5), (6, .int x6), (7, .int x7)]) dX10_askOf_35 (by decide) rfl ?_
    refine g_iconst (v := (iI_ 0)) dX10_askOf_37 (by decide) ?_
    refine g_istore (L' := [(9, .int (iI_ 0)), (8, .int (iI_ 0)), (0, .ref (uq_ u 0)), (2, .int x2), (3, .int x3), (4, .int x4), (5, .int x5), (6, .int x6), (7, .int x7)]) dX10_askOf_38 (by decide) rfl ?_
    exact GG_.sub [2, 3, 4, 5, 6, 7, 8, 1, 0] rfl H
set_option maxHeartbeats 4000000 in
set_option maxRecDepth 100000 in
theorem bX10_askOf_40 (u : Ux_) {P : Int32 → St_ → Prop}  (σ : St_) (x2 : Int32) (x3 : Int32) (x4 : Int32) (x5 : Int32) (x6 : Int32) (x7 : Int32) (x8 : Int32) (x9 : Int32) (H : (((iI_ 6) ≤ x9 → ((x8 ≤ x6 → GG_ (zm_ u) mX10_askOf (Pi_ P) 27 [(0, .ref (uq_ u 0)), (2, .int x2), (3, .int x3), (4, .int x4), (5, .int x5), (6, .int x6), (7, .int (x7 + (iI_ 1)))] [] σ) ∧ (¬ x8 ≤ x6 → GG_ (zm_ u) mX10_askOf (Pi_ P) 27 [(0, .ref (uq_ u 0)), (2, .int x2), (3, .int x3), (4, .int x4), (5, .int x5), (6, .int x8), (7, .int (x7 + (iI_ 1)))] [] σ))) ∧ (¬ (iI_ 6) ≤ x9 → MMi_ (zm_ u) mX10_isIn [.int x2, .int x7] σ (fun r4 σ3 => ((r4 = iI_ 0 → GG_ (zm_ u) mX10_askOf (Pi_ P) 40 [(0, .ref (uq_ u 0)), (2, .int x2), (3, .int x3), (4, .int x4), (5, .int x5), (6, .int x6), (7, .int x7), (8, .int (x8 + (iI_ 0))), (9, .int (x9 + (iI_ 1)))] [] σ3) ∧ (¬ r4 = iI_ 0 → MMi_ (zm_ u) mX10_isIn [.int x2, .int x9] σ3 (fun r7 σ6 => ((r7 = iI_ 0 → GG_ (zm_ u) mX10_askOf (Pi_ P) 40 [(0, .ref (uq_ u 0)), (2, .int x2), (3, .int x3), (4, .int x4), (5, .int x5), (6, .int x6), (7, .int x7), (8, .int (x8 + (iI_ 0))), (9, .int (x9 + (iI_ 1)))] [] σ6) ∧ (¬ r7 = iI_ 0 → vp_in (((iI_ 10) * x7) + x5) 60 ∧ vp_in (((iI_ 10) * x9) + x5) 60 ∧ ((¬ (σ6 36 (Int32.toNatClampNeg (((iI_ 10) * x7) + x5))) = (σ6 36 (Int32.toNatClampNeg (((iI_ 10) * x9) + x5))) → GG_ (zm_ u) mX10_askOf (Pi_ P) 40 [(0, .ref (uq_ u 0)), (2, .int x2), (3, .int x3), (4, .int x4), (5, .int x5), (6, .int x6), (7, .int x7), (8, .int (x8 + (iI_ 0))), (9, .int (x9 + (iI_ 1)))] [] σ6) ∧ ((σ6 36 (Int32.toNatClampNeg (((iI_ 10) * x7) + x5))) = (σ6 36 (Int32.toNatClampNeg (((iI_ 10) * x9) + x5))) → GG_ (zm_ u) mX10_askOf (Pi_ P) 40 [(0, .ref (uq_ u 0)), (2, .int x2), (3, .int x3), (4, .int x4), (5, .int x5), (6, .int x6), (7, .int x7), (8, .int (x8 + (iI_ 1))), (9, .int (x9 + (iI_ 1)))] [] σ6))))))))))) : GG_ (zm_ u) mX10_askOf (Pi_ P) 40 [(0, .ref (uq_ u 0)), (2, .int x2), (3, .int x3), (4, .int x4), (5, .int x5), (6, .int x6), (7, .int x7), (8, .int x8), (9, .int x9)] [] σ := by
  refine g_iload dX10_askOf_40 8 rfl ?_
  refine g_bipush (v := (iI_ 6)) dX10_askOf_42 (by decide) ?_
  refine g_icmp_ge 110 dX10_askOf_44 (by decide) (fun c1 => ?_) (fun c1 => ?_)
  · replace H := H.1 c1
    refine g_iload dX10_askOf_110 7 rfl ?_
    refine g_iload dX10_askOf_112 5 rfl ?_
    refine g_icmp_le 122 dX10_askOf_114 (by decide) (fun c2 => ?_) (fun c2 => ?_)
    · replace H := H.1 c2
      refine g_iload dX10_askOf_122 5 rfl ?_
      refine g_istore (L' := [(6, .int x6), (0, .ref (uq_ u 0)), (2, .int x2), (3, .int x3), (4, .int x4), (5, .int x5), (7, .int x7), (8, .int x8), (9, .int x9)]) dX10_askOf_124 (by decide) rfl ?_
      refine g_iinc (v := (x7 + (iI_ 1))) (L' := [(7, .int (x7 + (iI_ 1))), (6, .int x6), (0, .ref (uq_ u 0)), (2, .int x2), (3, .int x3), (4, .int x4), (5, .int x5), (8, .int x8), (9, .int x9)]) dX10_askOf_126 6 rfl rfl (by decide) rfl ?_
      refine g_goto 27 dX10_askOf_129 (by decide) ?_
      exact GG_.sub [2, 3, 4, 5, 6, 1, 0] rfl H
    · replace H := H.2 c2
      refine g_iload dX10_askOf_117 7 rfl ?_
      refine g_goto 124 dX10_askOf_119 (by decide) ?_
      refine g_istore (L' := [(6, .int x8), (0, .ref (uq_ u 0)), (2, .int x2), (3, .int x3), (4, .int x4), (5, .int x5), (7, .int x7), (8, .int x8), (9, .int x9)]) dX10_askOf_124 (by decide) rfl ?_
      refine g_iinc (v := (x7 + (iI_ 1))) (L' := [(7, .int (x7 + (iI_ 1))), (6, .int x8), (0, .ref (uq_ u 0)), (2, .int x2), (3, .int x3), (4, .int x4), (5, .int x5), (8, .int x8), (9, .int x9)]) dX10_askOf_126 6 rfl rfl (by decide) rfl ?_
      refine g_goto 27 dX10_askOf_129 (by decide) ?_
      exact GG_.sub [2, 3, 4, 5, 6, 1, 0] rfl H
  · replace H := H.2 c1
    refine g_iload dX10_askOf_47 7 rfl ?_
    refine g_iload_n dX10_askOf_49 1 rfl rfl ?_
    refine g_iload dX10_askOf_50 6 rfl ?_
    refine k_X10_isIn w_989 rfl ⟨Nat.le_of_ble_eq_true rfl, Nat.le_of_ble_eq_true rfl⟩ (Nat.le_of_ble_eq_true rfl) dX10_askOf_52 H (fun r4 σ3 H => ?_)
    refine g_if_eq 100 dX10_askOf_55 (by decide) (fun c5 => ?_) (fun c5 => ?_)
    · replace H := H.1 c5
      refine g_iconst (v := (iI_ 0)) dX10_askOf_100 (by decide) ?_
      refine g_iadd dX10_askOf_101 ?_
      refine g_istore (L' := [(8, .int (x8 + (iI_ 0))), (0, .ref (uq_ u 0)), (2, .int x2), (3, .int x3), (4, .int x4), (5, .int x5), (6, .int x6), (7, .int x7), (9, .int x9)]) dX10_askOf_102 (by decide) rfl ?_
      refine g_iinc (v := (x9 + (iI_ 1))) (L' := [(9, .int (x9 + (iI_ 1))), (8, .int (x8 + (iI_ 0))), (0, .ref (uq_ u 0)), (2, .int x2), (3, .int x3), (4, .int x4), (5, .int x5), (6, .int x6), (7, .int x7)]) dX10_askOf_104 8 rfl rfl (by decide) rfl ?_
      refine g_goto 40 dX10_askOf_107 (by decide) ?_
      exact GG_.sub [2, 3, 4, 5, 6, 7, 8, 1, 0] rfl H
    · replace H := H.2 c5
      refine g_iload_n dX10_askOf_58 1 rfl rfl ?_
      refine g_iload dX10_askOf_59 8 rfl ?_
      refine k_X10_isIn w_989 rfl ⟨Nat.le_of_ble_eq_true rfl, Nat.le_of_ble_eq_true rfl⟩ (Nat.le_of_ble_eq_true rfl) dX10_askOf_61 H (fun r7 σ6 H => ?_)
      refine g_if_eq 100 dX10_askOf_64 (by decide) (fun c8 => ?_) (fun c8 => ?_)
      · replace H := H.1 c8
        refine g_iconst (v := (iI_ 0)) dX10_askOf_100 (by decide) ?_
        refine g_iadd dX10_askOf_101 ?_
        refine g_istore (L' := [(8, .int (x8 + (iI_ 0))), (0, .ref (uq_ u 0)), (2, .int x2), (3, .int x3), (4, .int x4), (5, .int x5), (6, .int x6), (7, .int x7), (9, .int x9)]) dX10_askOf_102 (by decide) rfl ?_
        refine g_iinc (v := (x9 + (iI_ 1))) (L' := [(9, .int (x9 + (iI_ 1))), (8, .int (x8 + (iI_ 0))), (0, .ref (uq_ u 0)), (2, .int x2), (3, .int x3), (4, .int x4), (5, .int x5), (6, .int x6), (7, .int x7)]) dX10_askOf_104 8 rfl rfl (by decide) rfl ?_
        refine g_goto 40 dX10_askOf_107 (by decide) ?_
        exact GG_.sub [2, 3, 4, 5, 6, 7, 8, 1, 0] rfl H
      · replace H := H.2 c8
        refine g_aload_n dX10_askOf_67 0 rfl rfl ?_
        refine gm_LinenHouseModel_carriedBy w_849 rfl dX10_askOf_68 ?_
        refine g_bipush (v := (iI_ 10)) dX10_askOf_71 (by decide) ?_
        refine g_iload dX10_askOf_73 6 rfl ?_
        refine g_imul dX10_askOf_75 ?_
        refine g_iload dX10_askOf_76 4 rfl ?_
        refine g_iadd dX10_askOf_78 ?_
        obtain ⟨h9, H⟩ := H
        refine am_36 h9 dX10_askOf_79 ?_
        refine g_aload_n dX10_askOf_80 0 rfl rfl ?_
        refine gm_LinenHouseModel_carriedBy w_849 rfl dX10_askOf_81 ?_
        refine g_bipush (v := (iI_ 10)) dX10_askOf_84 (by decide) ?_
        refine g_iload dX10_askOf_86 8 rfl ?_
        refine g_imul dX10_askOf_88 ?_
        refine g_iload dX10_askOf_89 4 rfl ?_
        refine g_iadd dX10_askOf_91 ?_
        obtain ⟨h10, H⟩ := H
        refine am_36 h10 dX10_askOf_92 ?_
        refine g_icmp_ne 100 dX10_askOf_93 (by decide) (fun c11 => ?_) (fun c11 => ?_)
        · replace H := H.1 c11
          refine g_iconst (v := (iI_ 0)) dX10_askOf_100 (by decide) ?_
          refine g_iadd dX10_askOf_101 ?_
          refine g_istore (L' := [(8, .int (x8 + (iI_ 0))), (0, .ref (uq_ u 0)), (2, .int x2), (3, .int x3), (4, .int x4), (5, .int x5), (6, .int x6), (7, .int x7), (9, .int x9)]) dX10_askOf_102 (by decide) rfl ?_
          refine g_iinc (v := (x9 + (iI_ 1))) (L' := [(9, .int (x9 + (iI_ 1))), (8, .int (x8 + (iI_ 0))), (0, .ref (uq_ u 0)), (2, .int x2), (3, .int x3), (4, .int x4), (5, .int x5), (6, .int x6), (7, .int x7)]) dX10_askOf_104 8 rfl rfl (by decide) rfl ?_
          refine g_goto 40 dX10_askOf_107 (by decide) ?_
          exact GG_.sub [2, 3, 4, 5, 6, 7, 8, 1, 0] rfl H
        · replace H := H.2 c11
          refine g_iconst (v := (iI_ 1)) dX10_askOf_96 (by decide) ?_
          refine g_goto 101 dX10_askOf_97 (by decide) ?_
          refine g_iadd dX10_askOf_101 ?_
          refine g_istore (L' := [(8, .int (x8 + (iI_ 1))), (0, .ref (uq_ u 0)), (2, .int x2), (3, .int x3), (4, .int x4), (5, .int x5), (6, .int x6), (7, .int x7), (9, .int x9)]) dX10_askOf_102 (by decide) rfl ?_
          refine g_iinc (v := (x9 + (iI_ 1))) (L' := [(9, .int (x9 + (iI_ 1))), (8, .int (x8 + (iI_ 1))), (0, .ref (uq_ u 0)), (2, .int x2), (3, .int x3), (4, .int x4), (5, .int x5), (6, .int x6), (7, .int x7)]) dX10_askOf_104 8 rfl rfl (by decide) rfl ?_
          refine g_goto 40 dX10_askOf_107 (by decide) ?_
          exact GG_.sub [2, 3, 4, 5, 6, 7, 8, 1, 0] rfl H
set_option maxHeartbeats 4000000 in
set_option maxRecDepth 100000 in
theorem bX10_askOf_144 (u : Ux_) {P : Int32 → St_ → Prop}  (σ : St_) (x2 : Int32) (x3 : Int32) (x4 : Int32) (x5 : Int32) (x6 : Int32) (H : GG_ (zm_ u) mX10_askOf (Pi_ P) 14 [(0, .ref (uq_ u 0)), (2, .int x2), (3, .int x5), (4, .int x6), (5, .int (x5 + (iI_ 1)))] [] σ) : GG_ (zm_ u) mX10_askOf (Pi_ P) 144 [(0, .ref (uq_ u 0)), (2, .int x2), (3, .int x3), (4, .int x4), (5, .int x5), (6, .int x6)] [] σ := by
  refine g_iconst (v := (iI_ 1)) dX10_askOf_144 (by decide) ?_
  refine g_goto 149 dX10_askOf_145 (by decide) ?_
  refine g_istore (L' := [(7, .int (iI_ 1)), (0, .ref (uq_ u 0)), (2, .int x2), (3, .int x3), (4, .int x4), (5, .int x5), (6, .int x6)]) dX10_askOf_149 (by decide) rfl ?_
  refine g_iload dX10_askOf_151 0 rfl ?_
  refine g_if_eq 161 dX10_askOf_153 (by decide) (fun c1 => ?_) (fun c1 => ?_)
  · first | exact absurd c1 (by decide) | exact absurd (by decide) c1
  · skip
    refine g_iload dX10_askOf_156 5 rfl ?_
    refine g_goto 162 dX10_askOf_158 (by decide) ?_
    refine g_istore_n (L' := [(3, .int x5), (7, .int (iI_ 1)), (0, .ref (uq_ u 0)), (2, .int x2), (4, .int x4), (5, .int x5), (6, .int x6)]) dX10_askOf_162 rfl (by decide) rfl ?_
    refine g_iload dX10_askOf_163 1 rfl ?_
    refine g_if_eq 173 dX10_askOf_165 (by decide) (fun c2 => ?_) (fun c2 => ?_)
    · first | exact absurd c2 (by decide) | exact absurd (by decide) c2
    · skip
      refine g_iload dX10_askOf_168 6 rfl ?_
      refine g_goto 175 dX10_askOf_170 (by decide) ?_
      refine g_istore (L' := [(4, .int x6), (3, .int x5), (7, .int (iI_ 1)), (0, .ref (uq_ u 0)), (2, .int x2), (5, .int x5), (6, .int x6)]) dX10_askOf_175 (by decide) rfl ?_
      refine g_iinc (v := (x5 + (iI_ 1))) (L' := [(5, .int (x5 + (iI_ 1))), (4, .int x6), (3, .int x5), (7, .int (iI_ 1)), (0, .ref (uq_ u 0)), (2, .int x2), (6, .int x6)]) dX10_askOf_177 5 rfl rfl (by decide) rfl ?_
      refine g_goto 14 dX10_askOf_180 (by decide) ?_
      exact GG_.sub [4, 5, 2, 1, 0] rfl H
set_option maxHeartbeats 4000000 in
set_option maxRecDepth 100000 in
theorem eX10_askOf (u : Ux_) {P : Int32 → St_ → Prop}  (σ : St_) (x1 : Int32) (H : MMi_ (zm_ u) mX10_wouldBy [.ref (uq_ u 0), .int x1] σ (fun r2 σ1 => GG_ (zm_ u) mX10_askOf (Pi_ P) 14 [(0, .ref (uq_ u 0)), (2, .int r2), (3, .int (iI_ (-1))), (4, .int (iI_ 0)), (5, .int (iI_ 0))] [] σ1)) : MMi_ (zm_ u) mX10_askOf [.ref (uq_ u 0), .int x1] σ P := by
  refine MM_.of (L := [(0, .ref (uq_ u 0)), (1, .int x1)]) (by decide +kernel) (Nat.le_of_ble_eq_true rfl) rfl ?_
  refine g_aload_n dX10_askOf_0 0 rfl rfl ?_
  refine g_iload_n dX10_askOf_1 1 rfl rfl ?_
  refine k_X10_wouldBy w_1229 rfl ⟨Nat.le_of_ble_eq_true rfl, Nat.le_of_ble_eq_true rfl⟩ (Nat.le_of_ble_eq_true rfl) dX10_askOf_2 H (fun r2 σ1 H => ?_)
  refine g_istore_n (L' := [(2, .int r2), (0, .ref (uq_ u 0)), (1, .int x1)]) dX10_askOf_5 rfl (by decide) rfl ?_
  refine g_iconst (v := (iI_ (-1))) dX10_askOf_6 (by decide) ?_
  refine g_istore_n (L' := [(3, .int (iI_ (-1))), (2, .int r2), (0, .ref (uq_ u 0)), (1, .int x1)]) dX10_askOf_7 rfl (by decide) rfl ?_
  refine g_iconst (v := (iI_ 0)) dX10_askOf_8 (by decide) ?_
  refine g_istore (L' := [(4, .int (iI_ 0)), (3, .int (iI_ (-1))), (2, .int r2), (0, .ref (uq_ u 0)), (1, .int x1)]) dX10_askOf_9 (by decide) rfl ?_
  refine g_iconst (v := (iI_ 0)) dX10_askOf_11 (by decide) ?_
  refine g_istore (L' := [(5, .int (iI_ 0)), (4, .int (iI_ 0)), (3, .int (iI_ (-1))), (2, .int r2), (0, .ref (uq_ u 0)), (1, .int x1)]) dX10_askOf_12 (by decide) rfl ?_
  exact GG_.sub [4, 3, 2, 1, 0] rfl H
set_option maxHeartbeats 4000000 in
set_option maxRecDepth 100000 in
theorem eX10_ask (u : Ux_) {P : Int32 → St_ → Prop}  (σ : St_) (x1 : Int32) (H : MMi_ (zm_ u) mX10_isMember [.ref (uq_ u 0), .int x1] σ (fun r2 σ1 => ((r2 = iI_ 0 → P (iI_ (-2)) σ1) ∧ (¬ r2 = iI_ 0 → MMi_ (zm_ u) mX10_askOf [.ref (uq_ u 0), .int x1] σ1 (fun r5 σ4 => P r5 σ4))))) : MMi_ (zm_ u) mX10_ask [.ref (uq_ u 0), .int x1] σ P := by
  refine MM_.of (L := [(0, .ref (uq_ u 0)), (1, .int x1)]) (by decide +kernel) (Nat.le_of_ble_eq_true rfl) rfl ?_
  refine g_aload_n dX10_ask_0 0 rfl rfl ?_
  refine g_iload_n dX10_ask_1 1 rfl rfl ?_
  refine k_X10_isMember w_1000 rfl ⟨Nat.le_of_ble_eq_true rfl, Nat.le_of_ble_eq_true rfl⟩ (Nat.le_of_ble_eq_true rfl) dX10_ask_2 H (fun r2 σ1 H => ?_)
  refine g_if_eq 16 dX10_ask_5 (by decide) (fun c3 => ?_) (fun c3 => ?_)
  · replace H := H.1 c3
    refine g_bipush (v := (iI_ (-2))) dX10_ask_16 (by decide) ?_
    exact g_iret rfl dX10_ask_18 ⟨_, rfl, H⟩
  · replace H := H.2 c3
    refine g_aload_n dX10_ask_8 0 rfl rfl ?_
    refine g_iload_n dX10_ask_9 1 rfl rfl ?_
    refine k_X10_askOf w_1241 rfl ⟨Nat.le_of_ble_eq_true rfl, Nat.le_of_ble_eq_true rfl⟩ (Nat.le_of_ble_eq_true rfl) dX10_ask_10 H (fun r5 σ4 H => ?_)
    refine g_goto 18 dX10_ask_13 (by decide) ?_
    exact g_iret rfl dX10_ask_18 ⟨_, rfl, H⟩
