set_option maxHeartbeats 4000000 in
set_option maxRecDepth 100000 in
theorem bX10_asTold_26 (u : Ux_) {P : St_ → Prop}  (σ : St_) (x1 : Int32) (H : (((σ 15 0) ≤ x1 → P σ) ∧ (¬ (σ 15 0) ≤ x1 → vp_in x1 6 ∧ (∀ σ3, σ3 = su_ σ 23 0 ((σ 23 0) ||| ((iI_ 1) <<< ((σ 16 (Int32.toNatClampNeg x1)) &&& 31))) → GG_ (zm_ u) mX10_asTold (Pv_ P) 26 [(0, .ref (uq_ u 0)), (1, .int (x1 + (iI_ 1)))] [] σ3)))) : GG_ (zm_ u) mX10_asTold (Pv_ P) 26 [(0, .ref (uq_ u 0)), (1, .int x1)] [] σ := by
  refine g_iload_n dX10_asTold_26 1 rfl rfl ?_
  refine g_aload_n dX10_asTold_27 0 rfl rfl ?_
  refine gm_LinenHouseModel_jars w_828 rfl dX10_asTold_28 ?_
  refine g_icmp_ge 57 dX10_asTold_31 (by decide) (fun c1 => ?_) (fun c1 => ?_)
  · replace H := H.1 c1
    exact g_vret rfl dX10_asTold_57 ⟨rfl, H⟩
  · replace H := H.2 c1
    refine g_aload_n dX10_asTold_34 0 rfl rfl ?_
    refine g_dup dX10_asTold_35 rfl ?_
    refine gm_LinenHouseModel_jarBits w_836 rfl dX10_asTold_36 ?_
    refine g_iconst (v := (iI_ 1)) dX10_asTold_39 (by decide) ?_
    refine g_aload_n dX10_asTold_40 0 rfl rfl ?_
    refine gm_LinenHouseModel_jarNight w_829 rfl dX10_asTold_41 ?_
    refine g_iload_n dX10_asTold_44 1 rfl rfl ?_
    obtain ⟨h2, H⟩ := H
    refine am_16 h2 dX10_asTold_45 ?_
    refine g_ishl dX10_asTold_46 ?_
    refine g_ior dX10_asTold_47 ?_
    refine pm_LinenHouseModel_jarBits w_836 rfl dX10_asTold_48 ?_
    obtain ⟨σ3, e_σ3⟩ : ∃ q : St_, q = su_ σ 23 0 ((σ 23 0) ||| ((iI_ 1) <<< ((σ 16 (Int32.toNatClampNeg x1)) &&& 31))) := ⟨_, rfl⟩
    rw [← e_σ3]
    replace H := H σ3 e_σ3
    refine g_iinc (v := (x1 + (iI_ 1))) (L' := [(1, .int (x1 + (iI_ 1))), (0, .ref (uq_ u 0))]) dX10_asTold_51 1 rfl rfl (by decide) rfl ?_
    refine g_goto 26 dX10_asTold_54 (by decide) ?_
    exact GG_.sub [1, 0] rfl H
set_option maxHeartbeats 4000000 in
set_option maxRecDepth 100000 in
theorem eX10_asTold (u : Ux_) {P : St_ → Prop}  (σ : St_)  (H : MMv_ (zm_ u) mX10_reads [.ref (uq_ u 0)] σ (fun σ1 => (∀ σ2, σ2 = su_ σ1 22 0 (iI_ 0) → (∀ σ3, σ3 = su_ σ2 24 0 (iI_ (-1)) → (∀ σ4, σ4 = su_ σ3 25 0 (iI_ 0) → (∀ σ5, σ5 = su_ σ4 23 0 (iI_ 0) → GG_ (zm_ u) mX10_asTold (Pv_ P) 26 [(0, .ref (uq_ u 0)), (1, .int (iI_ 0))] [] σ5)))))) : MMv_ (zm_ u) mX10_asTold [.ref (uq_ u 0)] σ P := by
  refine MM_.of (L := [(0, .ref (uq_ u 0))]) (by decide +kernel) (Nat.le_of_ble_eq_true rfl) rfl ?_
  refine g_aload_n dX10_asTold_0 0 rfl rfl ?_
  refine k_X10_reads w_1004 rfl ⟨Nat.le_of_ble_eq_true rfl, Nat.le_of_ble_eq_true rfl⟩ (Nat.le_of_ble_eq_true rfl) dX10_asTold_1 H (fun σ1 H => ?_)
  refine g_aload_n dX10_asTold_4 0 rfl rfl ?_
  refine g_iconst (v := (iI_ 0)) dX10_asTold_5 (by decide) ?_
  refine pm_LinenHouseModel_notFolds w_835 rfl dX10_asTold_6 ?_
  obtain ⟨σ2, e_σ2⟩ : ∃ q : St_, q = su_ σ1 22 0 (iI_ 0) := ⟨_, rfl⟩
  rw [← e_σ2]
  replace H := H σ2 e_σ2
  refine g_aload_n dX10_asTold_9 0 rfl rfl ?_
  refine g_iconst (v := (iI_ (-1))) dX10_asTold_10 (by decide) ?_
  refine pm_LinenHouseModel_liftNight w_837 rfl dX10_asTold_11 ?_
  obtain ⟨σ3, e_σ3⟩ : ∃ q : St_, q = su_ σ2 24 0 (iI_ (-1)) := ⟨_, rfl⟩
  rw [← e_σ3]
  replace H := H σ3 e_σ3
  refine g_aload_n dX10_asTold_14 0 rfl rfl ?_
  refine g_iconst (v := (iI_ 0)) dX10_asTold_15 (by decide) ?_
  refine pm_LinenHouseModel_liftBits w_838 rfl dX10_asTold_16 ?_
  obtain ⟨σ4, e_σ4⟩ : ∃ q : St_, q = su_ σ3 25 0 (iI_ 0) := ⟨_, rfl⟩
  rw [← e_σ4]
  replace H := H σ4 e_σ4
  refine g_aload_n dX10_asTold_19 0 rfl rfl ?_
  refine g_iconst (v := (iI_ 0)) dX10_asTold_20 (by decide) ?_
  refine pm_LinenHouseModel_jarBits w_836 rfl dX10_asTold_21 ?_
  obtain ⟨σ5, e_σ5⟩ : ∃ q : St_, q = su_ σ4 23 0 (iI_ 0) := ⟨_, rfl⟩
  rw [← e_σ5]
  replace H := H σ5 e_σ5
  refine g_iconst (v := (iI_ 0)) dX10_asTold_24 (by decide) ?_
  refine g_istore_n (L' := [(1, .int (iI_ 0)), (0, .ref (uq_ u 0))]) dX10_asTold_25 rfl (by decide) rfl ?_
  exact GG_.sub [1, 0] rfl H
set_option maxHeartbeats 4000000 in
set_option maxRecDepth 100000 in
theorem bX10_laysOut_2 (u : Ux_) {P : St_ → Prop}  (σ : St_) (x1 : Int32) (x2 : Int32) (H : (((σ 2 0) ≤ x2 → P σ) ∧ (¬ (σ 2 0) ≤ x2 → GG_ (zm_ u) mX10_laysOut (Pv_ P) 12 [(0, .ref (uq_ u 0)), (1, .int x1), (2, .int x2), (3, .int (iI_ 0))] [] σ))) : GG_ (zm_ u) mX10_laysOut (Pv_ P) 2 [(0, .ref (uq_ u 0)), (1, .int x1), (2, .int x2)] [] σ := by
  refine g_iload_n dX10_laysOut_2 2 rfl rfl ?_
  refine g_aload_n dX10_laysOut_3 0 rfl rfl ?_
  refine gm_LinenHouseModel_members w_815 rfl dX10_laysOut_4 ?_
  refine g_icmp_ge 151 dX10_laysOut_7 (by decide) (fun c1 => ?_) (fun c1 => ?_)
  · replace H := H.1 c1
    exact g_vret rfl dX10_laysOut_151 ⟨rfl, H⟩
  · replace H := H.2 c1
    refine g_iconst (v := (iI_ 0)) dX10_laysOut_10 (by decide) ?_
    refine g_istore_n (L' := [(3, .int (iI_ 0)), (0, .ref (uq_ u 0)), (1, .int x1), (2, .int x2)]) dX10_laysOut_11 rfl (by decide) rfl ?_
    exact GG_.sub [1, 2, 3, 0] rfl H
set_option maxHeartbeats 4000000 in
set_option maxRecDepth 100000 in
theorem bX10_laysOut_12 (u : Ux_) {P : St_ → Prop}  (σ : St_) (x1 : Int32) (x2 : Int32) (x3 : Int32) (H : (((σ 11 0) ≤ x3 → ((¬ (σ 24 0) = x1 → vp_in x2 8 ∧ GG_ (zm_ u) mX10_laysOut (Pv_ P) 103 [(0, .ref (uq_ u 0)), (1, .int x1), (2, .int x2)] [.int (σ 17 (Int32.toNatClampNeg x2)), .int x2, .ref (uq_ u 14)] σ) ∧ ((σ 24 0) = x1 → MMi_ (zm_ u) mX10_isIn [.int (σ 25 0), .int x2] σ (fun r5 σ4 => ((r5 = iI_ 0 → vp_in x2 8 ∧ GG_ (zm_ u) mX10_laysOut (Pv_ P) 103 [(0, .ref (uq_ u 0)), (1, .int x1), (2, .int x2)] [.int (σ4 17 (Int32.toNatClampNeg x2)), .int x2, .ref (uq_ u 14)] σ4) ∧ (¬ r5 = iI_ 0 → GG_ (zm_ u) mX10_laysOut (Pv_ P) 103 [(0, .ref (uq_ u 0)), (1, .int x1), (2, .int x2)] [.int (iI_ 0), .int x2, .ref (uq_ u 14)] σ4)))))) ∧ (¬ (σ 11 0) ≤ x3 → vp_in x3 8 ∧ ((¬ (σ 12 (Int32.toNatClampNeg x3)) = x1 → GG_ (zm_ u) mX10_laysOut (Pv_ P) 12 [(0, .ref (uq_ u 0)), (1, .int x1), (2, .int x2), (3, .int (x3 + (iI_ 1)))] [] σ) ∧ ((σ 12 (Int32.toNatClampNeg x3)) = x1 → vp_in x3 8 ∧ ((¬ (σ 13 (Int32.toNatClampNeg x3)) = x2 → GG_ (zm_ u) mX10_laysOut (Pv_ P) 12 [(0, .ref (uq_ u 0)), (1, .int x1), (2, .int x2), (3, .int (x3 + (iI_ 1)))] [] σ) ∧ ((σ 13 (Int32.toNatClampNeg x3)) = x2 → MMi_ (zm_ u) mX10_isIn [.int (σ 22 0), .int x3] σ (fun r13 σ12 => ((¬ r13 = iI_ 0 → GG_ (zm_ u) mX10_laysOut (Pv_ P) 12 [(0, .ref (uq_ u 0)), (1, .int x1), (2, .int x2), (3, .int (x3 + (iI_ 1)))] [] σ12) ∧ (r13 = iI_ 0 → vp_in x3 8 ∧ vp_in x2 8 ∧ (∀ σ16, σ16 = su_ σ12 17 (Int32.toNatClampNeg x2) (σ12 14 (Int32.toNatClampNeg x3)) → GG_ (zm_ u) mX10_laysOut (Pv_ P) 12 [(0, .ref (uq_ u 0)), (1, .int x1), (2, .int x2), (3, .int (x3 + (iI_ 1)))] [] σ16))))))))))) : GG_ (zm_ u) mX10_laysOut (Pv_ P) 12 [(0, .ref (uq_ u 0)), (1, .int x1), (2, .int x2), (3, .int x3)] [] σ := by
  refine g_iload_n dX10_laysOut_12 3 rfl rfl ?_
  refine g_aload_n dX10_laysOut_13 0 rfl rfl ?_
  refine gm_LinenHouseModel_folds w_824 rfl dX10_laysOut_14 ?_
  refine g_icmp_ge 69 dX10_laysOut_17 (by decide) (fun c1 => ?_) (fun c1 => ?_)
  · replace H := H.1 c1
    refine g_aload_n dX10_laysOut_69 0 rfl rfl ?_
    refine gm_LinenHouseModel_lieNow w_830 rfl dX10_laysOut_70 ?_
    refine g_iload_n dX10_laysOut_73 2 rfl rfl ?_
    refine g_aload_n dX10_laysOut_74 0 rfl rfl ?_
    refine gm_LinenHouseModel_liftNight w_837 rfl dX10_laysOut_75 ?_
    refine g_iload_n dX10_laysOut_78 1 rfl rfl ?_
    refine g_icmp_ne 97 dX10_laysOut_79 (by decide) (fun c2 => ?_) (fun c2 => ?_)
    · replace H := H.1 c2
      refine g_aload_n dX10_laysOut_97 0 rfl rfl ?_
      refine gm_LinenHouseModel_lieNow w_830 rfl dX10_laysOut_98 ?_
      refine g_iload_n dX10_laysOut_101 2 rfl rfl ?_
      obtain ⟨h3, H⟩ := H
      refine am_17 h3 dX10_laysOut_102 ?_
      exact GG_.sub [0, 1, 2] rfl H
    · replace H := H.2 c2
      refine g_aload_n dX10_laysOut_82 0 rfl rfl ?_
      refine gm_LinenHouseModel_liftBits w_838 rfl dX10_laysOut_83 ?_
      refine g_iload_n dX10_laysOut_86 2 rfl rfl ?_
      refine k_X10_isIn w_989 rfl ⟨Nat.le_of_ble_eq_true rfl, Nat.le_of_ble_eq_true rfl⟩ (Nat.le_of_ble_eq_true rfl) dX10_laysOut_87 H (fun r5 σ4 H => ?_)
      refine g_if_eq 97 dX10_laysOut_90 (by decide) (fun c6 => ?_) (fun c6 => ?_)
      · replace H := H.1 c6
        refine g_aload_n dX10_laysOut_97 0 rfl rfl ?_
        refine gm_LinenHouseModel_lieNow w_830 rfl dX10_laysOut_98 ?_
        refine g_iload_n dX10_laysOut_101 2 rfl rfl ?_
        obtain ⟨h7, H⟩ := H
        refine am_17 h7 dX10_laysOut_102 ?_
        exact GG_.sub [0, 1, 2] rfl H
      · replace H := H.2 c6
        refine g_iconst (v := (iI_ 0)) dX10_laysOut_93 (by decide) ?_
        refine g_goto 103 dX10_laysOut_94 (by decide) ?_
        exact GG_.sub [0, 1, 2] rfl H
  · replace H := H.2 c1
    refine g_aload_n dX10_laysOut_20 0 rfl rfl ?_
    refine gm_LinenHouseModel_foldNight w_825 rfl dX10_laysOut_21 ?_
    refine g_iload_n dX10_laysOut_24 3 rfl rfl ?_
    obtain ⟨h8, H⟩ := H
    refine am_12 h8 dX10_laysOut_25 ?_
    refine g_iload_n dX10_laysOut_26 1 rfl rfl ?_
    refine g_icmp_ne 63 dX10_laysOut_27 (by decide) (fun c9 => ?_) (fun c9 => ?_)
    · replace H := H.1 c9
      refine g_iinc (v := (x3 + (iI_ 1))) (L' := [(3, .int (x3 + (iI_ 1))), (0, .ref (uq_ u 0)), (1, .int x1), (2, .int x2)]) dX10_laysOut_63 3 rfl rfl (by decide) rfl ?_
      refine g_goto 12 dX10_laysOut_66 (by decide) ?_
      exact GG_.sub [1, 2, 3, 0] rfl H
    · replace H := H.2 c9
      refine g_aload_n dX10_laysOut_30 0 rfl rfl ?_
      refine gm_LinenHouseModel_foldWho w_826 rfl dX10_laysOut_31 ?_
      refine g_iload_n dX10_laysOut_34 3 rfl rfl ?_
      obtain ⟨h10, H⟩ := H
      refine am_13 h10 dX10_laysOut_35 ?_
      refine g_iload_n dX10_laysOut_36 2 rfl rfl ?_
      refine g_icmp_ne 63 dX10_laysOut_37 (by decide) (fun c11 => ?_) (fun c11 => ?_)
      · replace H := H.1 c11
        refine g_iinc (v := (x3 + (iI_ 1))) (L' := [(3, .int (x3 + (iI_ 1))), (0, .ref (uq_ u 0)), (1, .int x1), (2, .int x2)]) dX10_laysOut_63 3 rfl rfl (by decide) rfl ?_
        refine g_goto 12 dX10_laysOut_66 (by decide) ?_
        exact GG_.sub [1, 2, 3, 0] rfl H
      · replace H := H.2 c11
        refine g_aload_n dX10_laysOut_40 0 rfl rfl ?_
        refine gm_LinenHouseModel_notFolds w_835 rfl dX10_laysOut_41 ?_
        refine g_iload_n dX10_laysOut_44 3 rfl rfl ?_
        refine k_X10_isIn w_989 rfl ⟨Nat.le_of_ble_eq_true rfl, Nat.le_of_ble_eq_true rfl⟩ (Nat.le_of_ble_eq_true rfl) dX10_laysOut_45 H (fun r13 σ12 H => ?_)
        refine g_if_ne 63 dX10_laysOut_48 (by decide) (fun c14 => ?_) (fun c14 => ?_)
        · replace H := H.1 c14
          refine g_iinc (v := (x3 + (iI_ 1))) (L' := [(3, .int (x3 + (iI_ 1))), (0, .ref (uq_ u 0)), (1, .int x1), (2, .int x2)]) dX10_laysOut_63 3 rfl rfl (by decide) rfl ?_
          refine g_goto 12 dX10_laysOut_66 (by decide) ?_
          exact GG_.sub [1, 2, 3, 0] rfl H
        · replace H := H.2 c14
          refine g_aload_n dX10_laysOut_51 0 rfl rfl ?_
          refine gm_LinenHouseModel_lieNow w_830 rfl dX10_laysOut_52 ?_
          refine g_iload_n dX10_laysOut_55 2 rfl rfl ?_
          refine g_aload_n dX10_laysOut_56 0 rfl rfl ?_
          refine gm_LinenHouseModel_foldShelf w_827 rfl dX10_laysOut_57 ?_
          refine g_iload_n dX10_laysOut_60 3 rfl rfl ?_
          obtain ⟨h15, H⟩ := H
          refine am_14 h15 dX10_laysOut_61 ?_
          obtain ⟨h17, H⟩ := H
          refine sm_17 h17 dX10_laysOut_62 ?_
          obtain ⟨σ16, e_σ16⟩ : ∃ q : St_, q = su_ σ12 17 (Int32.toNatClampNeg x2) (σ12 14 (Int32.toNatClampNeg x3)) := ⟨_, rfl⟩
          rw [← e_σ16]
          replace H := H σ16 e_σ16
          refine g_iinc (v := (x3 + (iI_ 1))) (L' := [(3, .int (x3 + (iI_ 1))), (0, .ref (uq_ u 0)), (1, .int x1), (2, .int x2)]) dX10_laysOut_63 3 rfl rfl (by decide) rfl ?_
          refine g_goto 12 dX10_laysOut_66 (by decide) ?_
          exact GG_.sub [1, 2, 3, 0] rfl H
set_option maxHeartbeats 4000000 in
set_option maxRecDepth 100000 in
theorem bX10_laysOut_103 (u : Ux_) {P : St_ → Prop}  (σ : St_) (x1 : Int32) (x2 : Int32) (y0 : Int32) (y1 : Int32) (H : vp_in y1 8 ∧ (∀ σ1, σ1 = su_ σ 17 (Int32.toNatClampNeg y1) y0 → vp_in x2 8 ∧ MMi_ (zm_ u) mX10_isIn [.int (σ1 23 0), .int x1] σ1 (fun r5 σ4 => ((r5 = iI_ 0 → (((((iI_ 5) - (σ1 17 (Int32.toNatClampNeg x2))) - (iI_ 0)) ≤ iI_ 0 → vp_in x2 8 ∧ (∀ σ8, σ8 = su_ σ4 18 (Int32.toNatClampNeg x2) (iI_ 0) → GG_ (zm_ u) mX10_laysOut (Pv_ P) 2 [(0, .ref (uq_ u 0)), (1, .int x1), (2, .int (x2 + (iI_ 1)))] [] σ8)) ∧ (¬ (((iI_ 5) - (σ1 17 (Int32.toNatClampNeg x2))) - (iI_ 0)) ≤ iI_ 0 → vp_in x2 8 ∧ (∀ σ10, σ10 = su_ σ4 18 (Int32.toNatClampNeg x2) (((iI_ 5) - (σ1 17 (Int32.toNatClampNeg x2))) - (iI_ 0)) → GG_ (zm_ u) mX10_laysOut (Pv_ P) 2 [(0, .ref (uq_ u 0)), (1, .int x1), (2, .int (x2 + (iI_ 1)))] [] σ10)))) ∧ (¬ r5 = iI_ 0 → (((((iI_ 5) - (σ1 17 (Int32.toNatClampNeg x2))) - (iI_ 3)) ≤ iI_ 0 → vp_in x2 8 ∧ (∀ σ13, σ13 = su_ σ4 18 (Int32.toNatClampNeg x2) (iI_ 0) → GG_ (zm_ u) mX10_laysOut (Pv_ P) 2 [(0, .ref (uq_ u 0)), (1, .int x1), (2, .int (x2 + (iI_ 1)))] [] σ13)) ∧ (¬ (((iI_ 5) - (σ1 17 (Int32.toNatClampNeg x2))) - (iI_ 3)) ≤ iI_ 0 → vp_in x2 8 ∧ (∀ σ15, σ15 = su_ σ4 18 (Int32.toNatClampNeg x2) (((iI_ 5) - (σ1 17 (Int32.toNatClampNeg x2))) - (iI_ 3)) → GG_ (zm_ u) mX10_laysOut (Pv_ P) 2 [(0, .ref (uq_ u 0)), (1, .int x1), (2, .int (x2 + (iI_ 1)))] [] σ15)))))))) : GG_ (zm_ u) mX10_laysOut (Pv_ P) 103 [(0, .ref (uq_ u 0)), (1, .int x1), (2, .int x2)] [.int y0, .int y1, .ref (uq_ u 14)] σ := by
  obtain ⟨h2, H⟩ := H
  refine sm_17 h2 dX10_laysOut_103 ?_
  obtain ⟨σ1, e_σ1⟩ : ∃ q : St_, q = su_ σ 17 (Int32.toNatClampNeg y1) y0 := ⟨_, rfl⟩
  rw [← e_σ1]
  replace H := H σ1 e_σ1
  refine g_iconst (v := (iI_ 5)) dX10_laysOut_104 (by decide) ?_
  refine g_aload_n dX10_laysOut_105 0 rfl rfl ?_
  refine gm_LinenHouseModel_lieNow w_830 rfl dX10_laysOut_106 ?_
  refine g_iload_n dX10_laysOut_109 2 rfl rfl ?_
  obtain ⟨h3, H⟩ := H
  refine am_17 h3 dX10_laysOut_110 ?_
  refine g_isub dX10_laysOut_111 ?_
  refine g_aload_n dX10_laysOut_112 0 rfl rfl ?_
  refine gm_LinenHouseModel_jarBits w_836 rfl dX10_laysOut_113 ?_
  refine g_iload_n dX10_laysOut_116 1 rfl rfl ?_
  refine k_X10_isIn w_989 rfl ⟨Nat.le_of_ble_eq_true rfl, Nat.le_of_ble_eq_true rfl⟩ (Nat.le_of_ble_eq_true rfl) dX10_laysOut_117 H (fun r5 σ4 H => ?_)
  refine g_if_eq 127 dX10_laysOut_120 (by decide) (fun c6 => ?_) (fun c6 => ?_)
  · replace H := H.1 c6
    refine g_iconst (v := (iI_ 0)) dX10_laysOut_127 (by decide) ?_
    refine g_isub dX10_laysOut_128 ?_
    refine g_istore_n (L' := [(3, .int (((iI_ 5) - (σ1 17 (Int32.toNatClampNeg x2))) - (iI_ 0))), (0, .ref (uq_ u 0)), (1, .int x1), (2, .int x2)]) dX10_laysOut_129 rfl (by decide) rfl ?_
    refine g_aload_n dX10_laysOut_130 1 rfl rfl ?_
    refine gm_LinenHouseModel_warmNow w_831 rfl dX10_laysOut_131 ?_
    refine g_iload_n dX10_laysOut_134 3 rfl rfl ?_
    refine g_iload_n dX10_laysOut_135 0 rfl rfl ?_
    refine g_if_le 143 dX10_laysOut_136 (by decide) (fun c7 => ?_) (fun c7 => ?_)
    · replace H := H.1 c7
      refine g_iconst (v := (iI_ 0)) dX10_laysOut_143 (by decide) ?_
      obtain ⟨h9, H⟩ := H
      refine sm_18 h9 dX10_laysOut_144 ?_
      obtain ⟨σ8, e_σ8⟩ : ∃ q : St_, q = su_ σ4 18 (Int32.toNatClampNeg x2) (iI_ 0) := ⟨_, rfl⟩
      rw [← e_σ8]
      replace H := H σ8 e_σ8
      refine g_iinc (v := (x2 + (iI_ 1))) (L' := [(2, .int (x2 + (iI_ 1))), (3, .int (((iI_ 5) - (σ1 17 (Int32.toNatClampNeg x2))) - (iI_ 0))), (0, .ref (uq_ u 0)), (1, .int x1)]) dX10_laysOut_145 3 rfl rfl (by decide) rfl ?_
      refine g_goto 2 dX10_laysOut_148 (by decide) ?_
      exact GG_.sub [2, 3, 0] rfl H
    · replace H := H.2 c7
      refine g_iload_n dX10_laysOut_139 0 rfl rfl ?_
      refine g_goto 144 dX10_laysOut_140 (by decide) ?_
      obtain ⟨h11, H⟩ := H
      refine sm_18 h11 dX10_laysOut_144 ?_
      obtain ⟨σ10, e_σ10⟩ : ∃ q : St_, q = su_ σ4 18 (Int32.toNatClampNeg x2) (((iI_ 5) - (σ1 17 (Int32.toNatClampNeg x2))) - (iI_ 0)) := ⟨_, rfl⟩
      rw [← e_σ10]
      replace H := H σ10 e_σ10
      refine g_iinc (v := (x2 + (iI_ 1))) (L' := [(2, .int (x2 + (iI_ 1))), (3, .int (((iI_ 5) - (σ1 17 (Int32.toNatClampNeg x2))) - (iI_ 0))), (0, .ref (uq_ u 0)), (1, .int x1)]) dX10_laysOut_145 3 rfl rfl (by decide) rfl ?_
      refine g_goto 2 dX10_laysOut_148 (by decide) ?_
      exact GG_.sub [2, 3, 0] rfl H
  · replace H := H.2 c6
    refine g_iconst (v := (iI_ 3)) dX10_laysOut_123 (by decide) ?_
    refine g_goto 128 dX10_laysOut_124 (by decide) ?_
    refine g_isub dX10_laysOut_128 ?_
    refine g_istore_n (L' := [(3, .int (((iI_ 5) - (σ1 17 (Int32.toNatClampNeg x2))) - (iI_ 3))), (0, .ref (uq_ u 0)), (1, .int x1), (2, .int x2)]) dX10_laysOut_129 rfl (by decide) rfl ?_
    refine g_aload_n dX10_laysOut_130 1 rfl rfl ?_
    refine gm_LinenHouseModel_warmNow w_831 rfl dX10_laysOut_131 ?_
    refine g_iload_n dX10_laysOut_134 3 rfl rfl ?_
    refine g_iload_n dX10_laysOut_135 0 rfl rfl ?_
    refine g_if_le 143 dX10_laysOut_136 (by decide) (fun c12 => ?_) (fun c12 => ?_)
    · replace H := H.1 c12
      refine g_iconst (v := (iI_ 0)) dX10_laysOut_143 (by decide) ?_
      obtain ⟨h14, H⟩ := H
      refine sm_18 h14 dX10_laysOut_144 ?_
      obtain ⟨σ13, e_σ13⟩ : ∃ q : St_, q = su_ σ4 18 (Int32.toNatClampNeg x2) (iI_ 0) := ⟨_, rfl⟩
      rw [← e_σ13]
      replace H := H σ13 e_σ13
      refine g_iinc (v := (x2 + (iI_ 1))) (L' := [(2, .int (x2 + (iI_ 1))), (3, .int (((iI_ 5) - (σ1 17 (Int32.toNatClampNeg x2))) - (iI_ 3))), (0, .ref (uq_ u 0)), (1, .int x1)]) dX10_laysOut_145 3 rfl rfl (by decide) rfl ?_
      refine g_goto 2 dX10_laysOut_148 (by decide) ?_
      exact GG_.sub [2, 3, 0] rfl H
    · replace H := H.2 c12
      refine g_iload_n dX10_laysOut_139 0 rfl rfl ?_
      refine g_goto 144 dX10_laysOut_140 (by decide) ?_
      obtain ⟨h16, H⟩ := H
      refine sm_18 h16 dX10_laysOut_144 ?_
      obtain ⟨σ15, e_σ15⟩ : ∃ q : St_, q = su_ σ4 18 (Int32.toNatClampNeg x2) (((iI_ 5) - (σ1 17 (Int32.toNatClampNeg x2))) - (iI_ 3)) := ⟨_, rfl⟩
      rw [← e_σ15]
      replace H := H σ15 e_σ15
      refine g_iinc (v := (x2 + (iI_ 1))) (L' := [(2, .int (x2 + (iI_ 1))), (3, .int (((iI_ 5) - (σ1 17 (Int32.toNatClampNeg x2))) - (iI_ 3))), (0, .ref (uq_ u 0)), (1, .int x1)]) dX10_laysOut_145 3 rfl rfl (by decide) rfl ?_
      refine g_goto 2 dX10_laysOut_148 (by decide) ?_
      exact GG_.sub [2, 3, 0] rfl H
set_option maxHeartbeats 4000000 in
set_option maxRecDepth 100000 in
theorem eX10_laysOut (u : Ux_) {P : St_ → Prop}  (σ : St_) (x1 : Int32) (H : GG_ (zm_ u) mX10_laysOut (Pv_ P) 2 [(0, .ref (uq_ u 0)), (1, .int x1), (2, .int (iI_ 0))] [] σ) : MMv_ (zm_ u) mX10_laysOut [.ref (uq_ u 0), .int x1] σ P := by
  refine MM_.of (L := [(0, .ref (uq_ u 0)), (1, .int x1)]) (by decide +kernel) (Nat.le_of_ble_eq_true rfl) rfl ?_
  refine g_iconst (v := (iI_ 0)) dX10_laysOut_0 (by decide) ?_
  refine g_istore_n (L' := [(2, .int (iI_ 0)), (0, .ref (uq_ u 0)), (1, .int x1)]) dX10_laysOut_1 rfl (by decide) rfl ?_
  exact GG_.sub [1, 2, 0] rfl H
set_option maxHeartbeats 4000000 in
set_option maxRecDepth 100000 in
theorem bX10_runs_2 (u : Ux_) {P : St_ → Prop}  (σ : St_) (x1 : Int32) (H : (((σ 2 0) ≤ x1 → GG_ (zm_ u) mX10_runs (Pv_ P) 30 [(0, .ref (uq_ u 0)), (1, .int (iI_ 0))] [] σ) ∧ (¬ (σ 2 0) ≤ x1 → vp_in x1 9 ∧ vp_in x1 8 ∧ (∀ σ3, σ3 = su_ σ 17 (Int32.toNatClampNeg x1) (σ 4 (Int32.toNatClampNeg x1)) → GG_ (zm_ u) mX10_runs (Pv_ P) 2 [(0, .ref (uq_ u 0)), (1, .int (x1 + (iI_ 1)))] [] σ3)))) : GG_ (zm_ u) mX10_runs (Pv_ P) 2 [(0, .ref (uq_ u 0)), (1, .int x1)] [] σ := by
  refine g_iload_n dX10_runs_2 1 rfl rfl ?_
  refine g_aload_n dX10_runs_3 0 rfl rfl ?_
  refine gm_LinenHouseModel_members w_815 rfl dX10_runs_4 ?_
  refine g_icmp_ge 28 dX10_runs_7 (by decide) (fun c1 => ?_) (fun c1 => ?_)
  · replace H := H.1 c1
    refine g_iconst (v := (iI_ 0)) dX10_runs_28 (by decide) ?_
    refine g_istore_n (L' := [(1, .int (iI_ 0)), (0, .ref (uq_ u 0))]) dX10_runs_29 rfl (by decide) rfl ?_
    exact GG_.sub [1, 0] rfl H
  · replace H := H.2 c1
    refine g_aload_n dX10_runs_10 0 rfl rfl ?_
    refine gm_LinenHouseModel_lieNow w_830 rfl dX10_runs_11 ?_
    refine g_iload_n dX10_runs_14 1 rfl rfl ?_
    refine g_aload_n dX10_runs_15 0 rfl rfl ?_
    refine gm_LinenHouseModel_shelves w_817 rfl dX10_runs_16 ?_
    refine g_iload_n dX10_runs_19 1 rfl rfl ?_
    obtain ⟨h2, H⟩ := H
    refine am_4 h2 dX10_runs_20 ?_
    obtain ⟨h4, H⟩ := H
    refine sm_17 h4 dX10_runs_21 ?_
    obtain ⟨σ3, e_σ3⟩ : ∃ q : St_, q = su_ σ 17 (Int32.toNatClampNeg x1) (σ 4 (Int32.toNatClampNeg x1)) := ⟨_, rfl⟩
    rw [← e_σ3]
    replace H := H σ3 e_σ3
    refine g_iinc (v := (x1 + (iI_ 1))) (L' := [(1, .int (x1 + (iI_ 1))), (0, .ref (uq_ u 0))]) dX10_runs_22 1 rfl rfl (by decide) rfl ?_
    refine g_goto 2 dX10_runs_25 (by decide) ?_
    exact GG_.sub [1, 0] rfl H
set_option maxHeartbeats 4000000 in
set_option maxRecDepth 100000 in
theorem bX10_runs_30 (u : Ux_) {P : St_ → Prop}  (σ : St_) (x1 : Int32) (H : (((iI_ 10) ≤ x1 → P σ) ∧ (¬ (iI_ 10) ≤ x1 → MMv_ (zm_ u) mX10_laysOut [.ref (uq_ u 0), .int x1] σ (fun σ2 => GG_ (zm_ u) mX10_runs (Pv_ P) 43 [(0, .ref (uq_ u 0)), (1, .int x1), (2, .int (iI_ 0))] [] σ2)))) : GG_ (zm_ u) mX10_runs (Pv_ P) 30 [(0, .ref (uq_ u 0)), (1, .int x1)] [] σ := by
  refine g_iload_n dX10_runs_30 1 rfl rfl ?_
  refine g_bipush (v := (iI_ 10)) dX10_runs_31 (by decide) ?_
  refine g_icmp_ge 187 dX10_runs_33 (by decide) (fun c1 => ?_) (fun c1 => ?_)
  · replace H := H.1 c1
    exact g_vret rfl dX10_runs_187 ⟨rfl, H⟩
  · replace H := H.2 c1
    refine g_aload_n dX10_runs_36 0 rfl rfl ?_
    refine g_iload_n dX10_runs_37 1 rfl rfl ?_
    refine k_X10_laysOut w_1071 rfl ⟨Nat.le_of_ble_eq_true rfl, Nat.le_of_ble_eq_true rfl⟩ (Nat.le_of_ble_eq_true rfl) dX10_runs_38 H (fun σ2 H => ?_)
    refine g_iconst (v := (iI_ 0)) dX10_runs_41 (by decide) ?_
    refine g_istore_n (L' := [(2, .int (iI_ 0)), (0, .ref (uq_ u 0)), (1, .int x1)]) dX10_runs_42 rfl (by decide) rfl ?_
    exact GG_.sub [1, 2, 0] rfl H
set_option maxHeartbeats 4000000 in
set_option maxRecDepth 100000 in
theorem bX10_runs_43 (u : Ux_) {P : St_ → Prop}  (σ : St_) (x1 : Int32) (x2 : Int32) (H : (((σ 2 0) ≤ x2 → vp_in x1 10 ∧ (∀ σ2, σ2 = su_ σ 31 (Int32.toNatClampNeg x1) (iI_ (-1)) → (((σ2 6 0) ≤ x1 → GG_ (zm_ u) mX10_runs (Pv_ P) 30 [(0, .ref (uq_ u 0)), (1, .int (x1 + (iI_ 1)))] [] σ2) ∧ (¬ (σ2 6 0) ≤ x1 → vp_in x1 11 ∧ vp_in x1 11 ∧ MMv_ (zm_ u) mX10_leans [.ref (uq_ u 0), .int (σ2 7 (Int32.toNatClampNeg x1)), .int (σ2 8 (Int32.toNatClampNeg x1))] σ2 (fun σ7 => vp_in x1 11 ∧ vp_in x1 11 ∧ vp_in x1 11 ∧ MMi_ (zm_ u) mX10_carries [.ref (uq_ u 0), .int (σ7 7 (Int32.toNatClampNeg x1)), .int (σ7 8 (Int32.toNatClampNeg x1)), .int (σ7 9 (Int32.toNatClampNeg x1)), .int (iI_ 0)] σ7 (fun r12 σ11 => vp_in x1 10 ∧ (∀ σ13, σ13 = su_ σ11 31 (Int32.toNatClampNeg x1) r12 → vp_in x1 10 ∧ (∀ σ15, σ15 = su_ σ13 28 (Int32.toNatClampNeg x1) (σ13 19 0) → vp_in x1 10 ∧ (∀ σ17, σ17 = su_ σ15 29 (Int32.toNatClampNeg x1) (σ15 20 0) → vp_in x1 10 ∧ (∀ σ19, σ19 = su_ σ17 30 (Int32.toNatClampNeg x1) (σ17 21 0) → GG_ (zm_ u) mX10_runs (Pv_ P) 30 [(0, .ref (uq_ u 0)), (1, .int (x1 + (iI_ 1)))] [] σ19)))))))))) ∧ (¬ (σ 2 0) ≤ x2 → vp_in x2 8 ∧ vp_in (((iI_ 8) * x1) + x2) 80 ∧ (∀ σ22, σ22 = su_ σ 26 (Int32.toNatClampNeg (((iI_ 8) * x1) + x2)) (σ 17 (Int32.toNatClampNeg x2)) → vp_in x2 8 ∧ vp_in (((iI_ 8) * x1) + x2) 80 ∧ (∀ σ25, σ25 = su_ σ22 27 (Int32.toNatClampNeg (((iI_ 8) * x1) + x2)) (σ22 18 (Int32.toNatClampNeg x2)) → GG_ (zm_ u) mX10_runs (Pv_ P) 43 [(0, .ref (uq_ u 0)), (1, .int x1), (2, .int (x2 + (iI_ 1)))] [] σ25))))) : GG_ (zm_ u) mX10_runs (Pv_ P) 43 [(0, .ref (uq_ u 0)), (1, .int x1), (2, .int x2)] [] σ := by
  refine g_iload_n dX10_runs_43 2 rfl rfl ?_
  refine g_aload_n dX10_runs_44 0 rfl rfl ?_
  refine gm_LinenHouseModel_members w_815 rfl dX10_runs_45 ?_
  refine g_icmp_ge 91 dX10_runs_48 (by decide) (fun c1 => ?_) (fun c1 => ?_)
  · replace H := H.1 c1
    refine g_aload_n dX10_runs_91 0 rfl rfl ?_
    refine gm_LinenHouseModel_carried w_844 rfl dX10_runs_92 ?_
    refine g_iload_n dX10_runs_95 1 rfl rfl ?_
    refine g_iconst (v := (iI_ (-1))) dX10_runs_96 (by decide) ?_
    obtain ⟨h3, H⟩ := H
    refine sm_31 h3 dX10_runs_97 ?_
    obtain ⟨σ2, e_σ2⟩ : ∃ q : St_, q = su_ σ 31 (Int32.toNatClampNeg x1) (iI_ (-1)) := ⟨_, rfl⟩
    rw [← e_σ2]
    replace H := H σ2 e_σ2
    refine g_iload_n dX10_runs_98 1 rfl rfl ?_
    refine g_aload_n dX10_runs_99 0 rfl rfl ?_
    refine gm_LinenHouseModel_motions w_819 rfl dX10_runs_100 ?_
    refine g_icmp_ge 181 dX10_runs_103 (by decide) (fun c4 => ?_) (fun c4 => ?_)
    · replace H := H.1 c4
      refine g_iinc (v := (x1 + (iI_ 1))) (L' := [(1, .int (x1 + (iI_ 1))), (0, .ref (uq_ u 0)), (2, .int x2)]) dX10_runs_181 1 rfl rfl (by decide) rfl ?_
      refine g_goto 30 dX10_runs_184 (by decide) ?_
      exact GG_.sub [1, 0] rfl H
    · replace H := H.2 c4
      refine g_aload_n dX10_runs_106 0 rfl rfl ?_
      refine g_aload_n dX10_runs_107 0 rfl rfl ?_
      refine gm_LinenHouseModel_firsts w_820 rfl dX10_runs_108 ?_
      refine g_iload_n dX10_runs_111 1 rfl rfl ?_
      obtain ⟨h5, H⟩ := H
      refine am_7 h5 dX10_runs_112 ?_
      refine g_aload_n dX10_runs_113 0 rfl rfl ?_
      refine gm_LinenHouseModel_others w_821 rfl dX10_runs_114 ?_
      refine g_iload_n dX10_runs_117 1 rfl rfl ?_
      obtain ⟨h6, H⟩ := H
      refine am_8 h6 dX10_runs_118 ?_
      refine k_X10_leans w_1075 rfl ⟨Nat.le_of_ble_eq_true rfl, Nat.le_of_ble_eq_true rfl⟩ (Nat.le_of_ble_eq_true rfl) dX10_runs_119 H (fun σ7 H => ?_)
      refine g_aload_n dX10_runs_122 0 rfl rfl ?_
      refine gm_LinenHouseModel_carried w_844 rfl dX10_runs_123 ?_
      refine g_iload_n dX10_runs_126 1 rfl rfl ?_
      refine g_aload_n dX10_runs_127 0 rfl rfl ?_
      refine g_aload_n dX10_runs_128 0 rfl rfl ?_
      refine gm_LinenHouseModel_firsts w_820 rfl dX10_runs_129 ?_
      refine g_iload_n dX10_runs_132 1 rfl rfl ?_
      obtain ⟨h8, H⟩ := H
      refine am_7 h8 dX10_runs_133 ?_
      refine g_aload_n dX10_runs_134 0 rfl rfl ?_
      refine gm_LinenHouseModel_others w_821 rfl dX10_runs_135 ?_
      refine g_iload_n dX10_runs_138 1 rfl rfl ?_
      obtain ⟨h9, H⟩ := H
      refine am_8 h9 dX10_runs_139 ?_
      refine g_aload_n dX10_runs_140 0 rfl rfl ?_
      refine gm_LinenHouseModel_hows w_822 rfl dX10_runs_141 ?_
      refine g_iload_n dX10_runs_144 1 rfl rfl ?_
      obtain ⟨h10, H⟩ := H
      refine am_9 h10 dX10_runs_145 ?_
      refine g_iconst (v := (iI_ 0)) dX10_runs_146 (by decide) ?_
      refine k_X10_carries w_1087 rfl ⟨Nat.le_of_ble_eq_true rfl, Nat.le_of_ble_eq_true rfl⟩ (Nat.le_of_ble_eq_true rfl) dX10_runs_147 H (fun r12 σ11 H => ?_)
      obtain ⟨h14, H⟩ := H
      refine sm_31 h14 dX10_runs_150 ?_
      obtain ⟨σ13, e_σ13⟩ : ∃ q : St_, q = su_ σ11 31 (Int32.toNatClampNeg x1) r12 := ⟨_, rfl⟩
      rw [← e_σ13]
      replace H := H σ13 e_σ13
      refine g_aload_n dX10_runs_151 0 rfl rfl ?_
      refine gm_LinenHouseModel_votesAt w_841 rfl dX10_runs_152 ?_
      refine g_iload_n dX10_runs_155 1 rfl rfl ?_
      refine g_aload_n dX10_runs_156 0 rfl rfl ?_
      refine gm_LinenHouseModel_votesNow w_832 rfl dX10_runs_157 ?_
      obtain ⟨h16, H⟩ := H
      refine sm_28 h16 dX10_runs_160 ?_
      obtain ⟨σ15, e_σ15⟩ : ∃ q : St_, q = su_ σ13 28 (Int32.toNatClampNeg x1) (σ13 19 0) := ⟨_, rfl⟩
      rw [← e_σ15]
      replace H := H σ15 e_σ15
      refine g_aload_n dX10_runs_161 0 rfl rfl ?_
      refine gm_LinenHouseModel_apartAt w_842 rfl dX10_runs_162 ?_
      refine g_iload_n dX10_runs_165 1 rfl rfl ?_
      refine g_aload_n dX10_runs_166 0 rfl rfl ?_
      refine gm_LinenHouseModel_apartNow w_833 rfl dX10_runs_167 ?_
      obtain ⟨h18, H⟩ := H
      refine sm_29 h18 dX10_runs_170 ?_
      obtain ⟨σ17, e_σ17⟩ : ∃ q : St_, q = su_ σ15 29 (Int32.toNatClampNeg x1) (σ15 20 0) := ⟨_, rfl⟩
      rw [← e_σ17]
      replace H := H σ17 e_σ17
      refine g_aload_n dX10_runs_171 0 rfl rfl ?_
      refine gm_LinenHouseModel_speakerAt w_843 rfl dX10_runs_172 ?_
      refine g_iload_n dX10_runs_175 1 rfl rfl ?_
      refine g_aload_n dX10_runs_176 0 rfl rfl ?_
      refine gm_LinenHouseModel_speakerNow w_834 rfl dX10_runs_177 ?_
      obtain ⟨h20, H⟩ := H
      refine sm_30 h20 dX10_runs_180 ?_
      obtain ⟨σ19, e_σ19⟩ : ∃ q : St_, q = su_ σ17 30 (Int32.toNatClampNeg x1) (σ17 21 0) := ⟨_, rfl⟩
      rw [← e_σ19]
      replace H := H σ19 e_σ19
      refine g_iinc (v := (x1 + (iI_ 1))) (L' := [(1, .int (x1 + (iI_ 1))), (0, .ref (uq_ u 0)), (2, .int x2)]) dX10_runs_181 1 rfl rfl (by decide) rfl ?_
      refine g_goto 30 dX10_runs_184 (by decide) ?_
      exact GG_.sub [1, 0] rfl H
  · replace H := H.2 c1
    refine g_aload_n dX10_runs_51 0 rfl rfl ?_
    refine gm_LinenHouseModel_lieAt w_839 rfl dX10_runs_52 ?_
    refine g_bipush (v := (iI_ 8)) dX10_runs_55 (by decide) ?_
    refine g_iload_n dX10_runs_57 1 rfl rfl ?_
    refine g_imul dX10_runs_58 ?_
    refine g_iload_n dX10_runs_59 2 rfl rfl ?_
    refine g_iadd dX10_runs_60 ?_
    refine g_aload_n dX10_runs_61 0 rfl rfl ?_
    refine gm_LinenHouseModel_lieNow w_830 rfl dX10_runs_62 ?_
    refine g_iload_n dX10_runs_65 2 rfl rfl ?_
    obtain ⟨h21, H⟩ := H
    refine am_17 h21 dX10_runs_66 ?_
    obtain ⟨h23, H⟩ := H
    refine sm_26 h23 dX10_runs_67 ?_
    obtain ⟨σ22, e_σ22⟩ : ∃ q : St_, q = su_ σ 26 (Int32.toNatClampNeg (((iI_ 8) * x1) + x2)) (σ 17 (Int32.toNatClampNeg x2)) := ⟨_, rfl⟩
    rw [← e_σ22]
    replace H := H σ22 e_σ22
    refine g_aload_n dX10_runs_68 0 rfl rfl ?_
    refine gm_LinenHouseModel_warmAt w_840 rfl dX10_runs_69 ?_
    refine g_bipush (v := (iI_ 8)) dX10_runs_72 (by decide) ?_
    refine g_iload_n dX10_runs_74 1 rfl rfl ?_
    refine g_imul dX10_runs_75 ?_
    refine g_iload_n dX10_runs_76 2 rfl rfl ?_
    refine g_iadd dX10_runs_77 ?_
    refine g_aload_n dX10_runs_78 0 rfl rfl ?_
    refine gm_LinenHouseModel_warmNow w_831 rfl dX10_runs_79 ?_
    refine g_iload_n dX10_runs_82 2 rfl rfl ?_
    obtain ⟨h24, H⟩ := H
    refine am_18 h24 dX10_runs_83 ?_
    obtain ⟨h26, H⟩ := H
    refine sm_27 h26 dX10_runs_84 ?_
    obtain ⟨σ25, e_σ25⟩ : ∃ q : St_, q = su_ σ22 27 (Int32.toNatClampNeg (((iI_ 8) * x1) + x2)) (σ22 18 (Int32.toNatClampNeg x2)) := ⟨_, rfl⟩
    rw [← e_σ25]
    replace H := H σ25 e_σ25
    refine g_iinc (v := (x2 + (iI_ 1))) (L' := [(2, .int (x2 + (iI_ 1))), (0, .ref (uq_ u 0)), (1, .int x1)]) dX10_runs_85 2 rfl rfl (by decide) rfl ?_
    refine g_goto 43 dX10_runs_88 (by decide) ?_
    exact GG_.sub [1, 2, 0] rfl H
set_option maxHeartbeats 4000000 in
set_option maxRecDepth 100000 in
theorem eX10_runs (u : Ux_) {P : St_ → Prop}  (σ : St_)  (H : GG_ (zm_ u) mX10_runs (Pv_ P) 2 [(0, .ref (uq_ u 0)), (1, .int (iI_ 0))] [] σ) : MMv_ (zm_ u) mX10_runs [.ref (uq_ u 0)] σ P := by
  refine MM_.of (L := [(0, .ref (uq_ u 0))]) (by decide +kernel) (Nat.le_of_ble_eq_true rfl) rfl ?_
  refine g_iconst (v := (iI_ 0)) dX10_runs_0 (by decide) ?_
  refine g_istore_n (L' := [(1, .int (iI_ 0)), (0, .ref (uq_ u 0))]) dX10_runs_1 rfl (by decide) rfl ?_
  exact GG_.sub [1, 0] rfl H
set_option maxHeartbeats 4000000 in
set_option maxRecDepth 100000 in
theorem eX10_runsTold (u : Ux_) {P : St_ → Prop}  (σ : St_)  (H : MMv_ (zm_ u) mX10_asTold [.ref (uq_ u 0)] σ (fun σ1 => MMv_ (zm_ u) mX10_runs [.ref (uq_ u 0)] σ1 (fun σ2 => P σ2))) : MMv_ (zm_ u) mX10_runsTold [.ref (uq_ u 0)] σ P := by
  refine MM_.of (L := [(0, .ref (uq_ u 0))]) (by decide +kernel) (Nat.le_of_ble_eq_true rfl) rfl ?_
  refine g_aload_n dX10_runsTold_0 0 rfl rfl ?_
  refine k_X10_asTold w_1063 rfl ⟨Nat.le_of_ble_eq_true rfl, Nat.le_of_ble_eq_true rfl⟩ (Nat.le_of_ble_eq_true rfl) dX10_runsTold_1 H (fun σ1 H => ?_)
  refine g_aload_n dX10_runsTold_4 0 rfl rfl ?_
  refine k_X10_runs w_1067 rfl ⟨Nat.le_of_ble_eq_true rfl, Nat.le_of_ble_eq_true rfl⟩ (Nat.le_of_ble_eq_true rfl) dX10_runsTold_5 H (fun σ2 H => ?_)
  exact g_vret rfl dX10_runsTold_8 ⟨rfl, H⟩
set_option maxHeartbeats 4000000 in
set_option maxRecDepth 100000 in
theorem eX10_liesOf (u : Ux_) {P : Int32 → St_ → Prop}  (σ : St_) (x1 : Int32) (x2 : Int32) (x3 : Int32) (H : MMv_ (zm_ u) mX10_runsTold [.ref (uq_ u 0)] σ (fun σ1 => ((¬ x3 = iI_ 0 → ((¬ x3 = (iI_ 1) → ((x1 < (σ1 6 0) → vp_in x1 10 ∧ MMi_ (zm_ u) mX10_isIn [.int (σ1 28 (Int32.toNatClampNeg x1)), .int x2] σ1 (fun r7 σ6 => ((r7 = iI_ 0 → P (iI_ 0) σ6) ∧ (¬ r7 = iI_ 0 → P (iI_ 1) σ6)))) ∧ (¬ x1 < (σ1 6 0) → P (iI_ (-1)) σ1))) ∧ (x3 = (iI_ 1) → vp_in (((iI_ 8) * x1) + x2) 80 ∧ P (σ1 27 (Int32.toNatClampNeg (((iI_ 8) * x1) + x2))) σ1))) ∧ (x3 = iI_ 0 → vp_in (((iI_ 8) * x1) + x2) 80 ∧ P (σ1 26 (Int32.toNatClampNeg (((iI_ 8) * x1) + x2))) σ1)))) : MMi_ (zm_ u) mX10_liesOf [.ref (uq_ u 0), .int x1, .int x2, .int x3] σ P := by
  refine MM_.of (L := [(0, .ref (uq_ u 0)), (1, .int x1), (2, .int x2), (3, .int x3)]) (by decide +kernel) (Nat.le_of_ble_eq_true rfl) rfl ?_
  refine g_aload_n dX10_liesOf_0 0 rfl rfl ?_
  refine k_X10_runsTold w_1059 rfl ⟨Nat.le_of_ble_eq_true rfl, Nat.le_of_ble_eq_true rfl⟩ (Nat.le_of_ble_eq_true rfl) dX10_liesOf_1 H (fun σ1 H => ?_)
  refine g_iload_n dX10_liesOf_4 3 rfl rfl ?_
  refine g_if_ne 22 dX10_liesOf_5 (by decide) (fun c2 => ?_) (fun c2 => ?_)
  · replace H := H.1 c2
    refine g_iload_n dX10_liesOf_22 3 rfl rfl ?_
    refine g_iconst (v := (iI_ 1)) dX10_liesOf_23 (by decide) ?_
    refine g_icmp_ne 41 dX10_liesOf_24 (by decide) (fun c3 => ?_) (fun c3 => ?_)
    · replace H := H.1 c3
      refine g_iload_n dX10_liesOf_41 1 rfl rfl ?_
      refine g_aload_n dX10_liesOf_42 0 rfl rfl ?_
      refine gm_LinenHouseModel_motions w_819 rfl dX10_liesOf_43 ?_
      refine g_icmp_lt 53 dX10_liesOf_46 (by decide) (fun c4 => ?_) (fun c4 => ?_)
      · replace H := H.1 c4
        refine g_aload_n dX10_liesOf_53 0 rfl rfl ?_
        refine gm_LinenHouseModel_votesAt w_841 rfl dX10_liesOf_54 ?_
        refine g_iload_n dX10_liesOf_57 1 rfl rfl ?_
        obtain ⟨h5, H⟩ := H
        refine am_28 h5 dX10_liesOf_58 ?_
        refine g_iload_n dX10_liesOf_59 2 rfl rfl ?_
        refine k_X10_isIn w_989 rfl ⟨Nat.le_of_ble_eq_true rfl, Nat.le_of_ble_eq_true rfl⟩ (Nat.le_of_ble_eq_true rfl) dX10_liesOf_60 H (fun r7 σ6 H => ?_)
        refine g_if_eq 70 dX10_liesOf_63 (by decide) (fun c8 => ?_) (fun c8 => ?_)
        · replace H := H.1 c8
          refine g_iconst (v := (iI_ 0)) dX10_liesOf_70 (by decide) ?_
          exact g_iret rfl dX10_liesOf_71 ⟨_, rfl, H⟩
        · replace H := H.2 c8
          refine g_iconst (v := (iI_ 1)) dX10_liesOf_66 (by decide) ?_
          refine g_goto 71 dX10_liesOf_67 (by decide) ?_
          exact g_iret rfl dX10_liesOf_71 ⟨_, rfl, H⟩
      · replace H := H.2 c4
        refine g_iconst (v := (iI_ (-1))) dX10_liesOf_49 (by decide) ?_
        refine g_goto 71 dX10_liesOf_50 (by decide) ?_
        exact g_iret rfl dX10_liesOf_71 ⟨_, rfl, H⟩
    · replace H := H.2 c3
      refine g_aload_n dX10_liesOf_27 0 rfl rfl ?_
      refine gm_LinenHouseModel_warmAt w_840 rfl dX10_liesOf_28 ?_
      refine g_bipush (v := (iI_ 8)) dX10_liesOf_31 (by decide) ?_
      refine g_iload_n dX10_liesOf_33 1 rfl rfl ?_
      refine g_imul dX10_liesOf_34 ?_
      refine g_iload_n dX10_liesOf_35 2 rfl rfl ?_
      refine g_iadd dX10_liesOf_36 ?_
      obtain ⟨h9, H⟩ := H
      refine am_27 h9 dX10_liesOf_37 ?_
      refine g_goto 71 dX10_liesOf_38 (by decide) ?_
      exact g_iret rfl dX10_liesOf_71 ⟨_, rfl, H⟩
  · replace H := H.2 c2
    refine g_aload_n dX10_liesOf_8 0 rfl rfl ?_
    refine gm_LinenHouseModel_lieAt w_839 rfl dX10_liesOf_9 ?_
    refine g_bipush (v := (iI_ 8)) dX10_liesOf_12 (by decide) ?_
    refine g_iload_n dX10_liesOf_14 1 rfl rfl ?_
    refine g_imul dX10_liesOf_15 ?_
    refine g_iload_n dX10_liesOf_16 2 rfl rfl ?_
    refine g_iadd dX10_liesOf_17 ?_
    obtain ⟨h10, H⟩ := H
    refine am_26 h10 dX10_liesOf_18 ?_
    refine g_goto 71 dX10_liesOf_19 (by decide) ?_
    exact g_iret rfl dX10_liesOf_71 ⟨_, rfl, H⟩
set_option maxHeartbeats 4000000 in
set_option maxRecDepth 100000 in
theorem eX10_lies (u : Ux_) {P : Int32 → St_ → Prop}  (σ : St_) (x1 : Int32) (x2 : Int32) (x3 : Int32) (H : MMi_ (zm_ u) mX10_isNight [.int x1] σ (fun r2 σ1 => ((r2 = iI_ 0 → P (iI_ (-2)) σ1) ∧ (¬ r2 = iI_ 0 → MMi_ (zm_ u) mX10_isMember [.ref (uq_ u 0), .int x2] σ1 (fun r5 σ4 => ((r5 = iI_ 0 → P (iI_ (-2)) σ4) ∧ (¬ r5 = iI_ 0 → MMi_ (zm_ u) mX10_in [.int x3, .int (iI_ 0), .int (iI_ 2)] σ4 (fun r8 σ7 => ((r8 = iI_ 0 → P (iI_ (-2)) σ7) ∧ (¬ r8 = iI_ 0 → MMi_ (zm_ u) mX10_liesOf [.ref (uq_ u 0), .int x1, .int x2, .int x3] σ7 (fun r11 σ10 => P r11 σ10))))))))))) : MMi_ (zm_ u) mX10_lies [.ref (uq_ u 0), .int x1, .int x2, .int x3] σ P := by
  refine MM_.of (L := [(0, .ref (uq_ u 0)), (1, .int x1), (2, .int x2), (3, .int x3)]) (by decide +kernel) (Nat.le_of_ble_eq_true rfl) rfl ?_
  refine g_iload_n dX10_lies_0 1 rfl rfl ?_
  refine k_X10_isNight w_1016 rfl ⟨Nat.le_of_ble_eq_true rfl, Nat.le_of_ble_eq_true rfl⟩ (Nat.le_of_ble_eq_true rfl) dX10_lies_1 H (fun r2 σ1 H => ?_)
  refine g_if_eq 34 dX10_lies_4 (by decide) (fun c3 => ?_) (fun c3 => ?_)
  · replace H := H.1 c3
    refine g_bipush (v := (iI_ (-2))) dX10_lies_34 (by decide) ?_
    exact g_iret rfl dX10_lies_36 ⟨_, rfl, H⟩
  · replace H := H.2 c3
    refine g_aload_n dX10_lies_7 0 rfl rfl ?_
    refine g_iload_n dX10_lies_8 2 rfl rfl ?_
    refine k_X10_isMember w_1000 rfl ⟨Nat.le_of_ble_eq_true rfl, Nat.le_of_ble_eq_true rfl⟩ (Nat.le_of_ble_eq_true rfl) dX10_lies_9 H (fun r5 σ4 H => ?_)
    refine g_if_eq 34 dX10_lies_12 (by decide) (fun c6 => ?_) (fun c6 => ?_)
    · replace H := H.1 c6
      refine g_bipush (v := (iI_ (-2))) dX10_lies_34 (by decide) ?_
      exact g_iret rfl dX10_lies_36 ⟨_, rfl, H⟩
    · replace H := H.2 c6
      refine g_iload_n dX10_lies_15 3 rfl rfl ?_
      refine g_iconst (v := (iI_ 0)) dX10_lies_16 (by decide) ?_
      refine g_iconst (v := (iI_ 2)) dX10_lies_17 (by decide) ?_
      refine k_X10_in w_954 rfl ⟨Nat.le_of_ble_eq_true rfl, Nat.le_of_ble_eq_true rfl⟩ (Nat.le_of_ble_eq_true rfl) dX10_lies_18 H (fun r8 σ7 H => ?_)
      refine g_if_eq 34 dX10_lies_21 (by decide) (fun c9 => ?_) (fun c9 => ?_)
      · replace H := H.1 c9
        refine g_bipush (v := (iI_ (-2))) dX10_lies_34 (by decide) ?_
        exact g_iret rfl dX10_lies_36 ⟨_, rfl, H⟩
      · replace H := H.2 c9
        refine g_aload_n dX10_lies_24 0 rfl rfl ?_
        refine g_iload_n dX10_lies_25 1 rfl rfl ?_
        refine g_iload_n dX10_lies_26 2 rfl rfl ?_
        refine g_iload_n dX10_lies_27 3 rfl rfl ?_
        refine k_X10_liesOf w_1055 rfl ⟨Nat.le_of_ble_eq_true rfl, Nat.le_of_ble_eq_true rfl⟩ (Nat.le_of_ble_eq_true rfl) dX10_lies_28 H (fun r11 σ10 H => ?_)
        refine g_goto 36 dX10_lies_31 (by decide) ?_
        exact g_iret rfl dX10_lies_36 ⟨_, rfl, H⟩
set_option maxHeartbeats 4000000 in
set_option maxRecDepth 100000 in
theorem bX10_forFirst_4 (u : Ux_) {P : Int32 → St_ → Prop}  (σ : St_) (x1 : Int32) (x2 : Int32) (x3 : Int32) (H : (((σ 2 0) ≤ x3 → P x2 σ) ∧ (¬ (σ 2 0) ≤ x3 → vp_in x1 10 ∧ MMi_ (zm_ u) mX10_isIn [.int (σ 28 (Int32.toNatClampNeg x1)), .int x3] σ (fun r4 σ3 => ((r4 = iI_ 0 → GG_ (zm_ u) mX10_forFirst (Pi_ P) 4 [(0, .ref (uq_ u 0)), (1, .int x1), (2, .int (x2 + (iI_ 1))), (3, .int (x3 + (iI_ 1)))] [] σ3) ∧ (¬ r4 = iI_ 0 → GG_ (zm_ u) mX10_forFirst (Pi_ P) 4 [(0, .ref (uq_ u 0)), (1, .int x1), (2, .int (x2 + (iI_ 0))), (3, .int (x3 + (iI_ 1)))] [] σ3)))))) : GG_ (zm_ u) mX10_forFirst (Pi_ P) 4 [(0, .ref (uq_ u 0)), (1, .int x1), (2, .int x2), (3, .int x3)] [] σ := by
  refine g_iload_n dX10_forFirst_4 3 rfl rfl ?_
  refine g_aload_n dX10_forFirst_5 0 rfl rfl ?_
  refine gm_LinenHouseModel_members w_815 rfl dX10_forFirst_6 ?_
  refine g_icmp_ge 39 dX10_forFirst_9 (by decide) (fun c1 => ?_) (fun c1 => ?_)
  · replace H := H.1 c1
    refine g_iload_n dX10_forFirst_39 2 rfl rfl ?_
    exact g_iret rfl dX10_forFirst_40 ⟨_, rfl, H⟩
  · replace H := H.2 c1
    refine g_iload_n dX10_forFirst_12 2 rfl rfl ?_
    refine g_aload_n dX10_forFirst_13 0 rfl rfl ?_
    refine gm_LinenHouseModel_votesAt w_841 rfl dX10_forFirst_14 ?_
    refine g_iload_n dX10_forFirst_17 1 rfl rfl ?_
    obtain ⟨h2, H⟩ := H
    refine am_28 h2 dX10_forFirst_18 ?_
    refine g_iload_n dX10_forFirst_19 3 rfl rfl ?_
    refine k_X10_isIn w_989 rfl ⟨Nat.le_of_ble_eq_true rfl, Nat.le_of_ble_eq_true rfl⟩ (Nat.le_of_ble_eq_true rfl) dX10_forFirst_20 H (fun r4 σ3 H => ?_)
    refine g_if_eq 30 dX10_forFirst_23 (by decide) (fun c5 => ?_) (fun c5 => ?_)
    · replace H := H.1 c5
      refine g_iconst (v := (iI_ 1)) dX10_forFirst_30 (by decide) ?_
      refine g_iadd dX10_forFirst_31 ?_
      refine g_istore_n (L' := [(2, .int (x2 + (iI_ 1))), (0, .ref (uq_ u 0)), (1, .int x1), (3, .int x3)]) dX10_forFirst_32 rfl (by decide) rfl ?_
      refine g_iinc (v := (x3 + (iI_ 1))) (L' := [(3, .int (x3 + (iI_ 1))), (2, .int (x2 + (iI_ 1))), (0, .ref (uq_ u 0)), (1, .int x1)]) dX10_forFirst_33 3 rfl rfl (by decide) rfl ?_
      refine g_goto 4 dX10_forFirst_36 (by decide) ?_
      exact GG_.sub [2, 3, 1, 0] rfl H
    · replace H := H.2 c5
      refine g_iconst (v := (iI_ 0)) dX10_forFirst_26 (by decide) ?_
      refine g_goto 31 dX10_forFirst_27 (by decide) ?_
      refine g_iadd dX10_forFirst_31 ?_
      refine g_istore_n (L' := [(2, .int (x2 + (iI_ 0))), (0, .ref (uq_ u 0)), (1, .int x1), (3, .int x3)]) dX10_forFirst_32 rfl (by decide) rfl ?_
      refine g_iinc (v := (x3 + (iI_ 1))) (L' := [(3, .int (x3 + (iI_ 1))), (2, .int (x2 + (iI_ 0))), (0, .ref (uq_ u 0)), (1, .int x1)]) dX10_forFirst_33 3 rfl rfl (by decide) rfl ?_
      refine g_goto 4 dX10_forFirst_36 (by decide) ?_
      exact GG_.sub [2, 3, 1, 0] rfl H
set_option maxHeartbeats 4000000 in
set_option maxRecDepth 100000 in
theorem eX10_forFirst (u : Ux_) {P : Int32 → St_ → Prop}  (σ : St_) (x1 : Int32) (H : GG_ (zm_ u) mX10_forFirst (Pi_ P) 4 [(0, .ref (uq_ u 0)), (1, .int x1), (2, .int (iI_ 0)), (3, .int (iI_ 0))] [] σ) : MMi_ (zm_ u) mX10_forFirst [.ref (uq_ u 0), .int x1] σ P := by
  refine MM_.of (L := [(0, .ref (uq_ u 0)), (1, .int x1)]) (by decide +kernel) (Nat.le_of_ble_eq_true rfl) rfl ?_
  refine g_iconst (v := (iI_ 0)) dX10_forFirst_0 (by decide) ?_
  refine g_istore_n (L' := [(2, .int (iI_ 0)), (0, .ref (uq_ u 0)), (1, .int x1)]) dX10_forFirst_1 rfl (by decide) rfl ?_
  refine g_iconst (v := (iI_ 0)) dX10_forFirst_2 (by decide) ?_
  refine g_istore_n (L' := [(3, .int (iI_ 0)), (2, .int (iI_ 0)), (0, .ref (uq_ u 0)), (1, .int x1)]) dX10_forFirst_3 rfl (by decide) rfl ?_
  exact GG_.sub [2, 3, 1, 0] rfl H
set_option maxHeartbeats 4000000 in
set_option maxRecDepth 100000 in
theorem eX10_voteOf (u : Ux_) {P : Int32 → St_ → Prop}  (σ : St_) (x1 : Int32) (x2 : Int32) (H : MMv_ (zm_ u) mX10_runsTold [.ref (uq_ u 0)] σ (fun σ1 => (((σ1 6 0) ≤ x1 → P (iI_ (-1)) σ1) ∧ (¬ (σ1 6 0) ≤ x1 → ((¬ (σ1 2 0) = iI_ 0 → ((¬ x2 = iI_ 0 → ((¬ x2 = (iI_ 1) → ((¬ x2 = (iI_ 2) → vp_in x1 10 ∧ P (σ1 30 (Int32.toNatClampNeg x1)) σ1) ∧ (x2 = (iI_ 2) → vp_in x1 10 ∧ P (σ1 31 (Int32.toNatClampNeg x1)) σ1))) ∧ (x2 = (iI_ 1) → vp_in x1 10 ∧ P (σ1 29 (Int32.toNatClampNeg x1)) σ1))) ∧ (x2 = iI_ 0 → MMi_ (zm_ u) mX10_forFirst [.ref (uq_ u 0), .int x1] σ1 (fun r11 σ10 => P r11 σ10)))) ∧ ((σ1 2 0) = iI_ 0 → P (iI_ (-1)) σ1)))))) : MMi_ (zm_ u) mX10_voteOf [.ref (uq_ u 0), .int x1, .int x2] σ P := by
  refine MM_.of (L := [(0, .ref (uq_ u 0)), (1, .int x1), (2, .int x2)]) (by decide +kernel) (Nat.le_of_ble_eq_true rfl) rfl ?_
  refine g_aload_n dX10_voteOf_0 0 rfl rfl ?_
  refine k_X10_runsTold w_1059 rfl ⟨Nat.le_of_ble_eq_true rfl, Nat.le_of_ble_eq_true rfl⟩ (Nat.le_of_ble_eq_true rfl) dX10_voteOf_1 H (fun σ1 H => ?_)
  refine g_iload_n dX10_voteOf_4 1 rfl rfl ?_
  refine g_aload_n dX10_voteOf_5 0 rfl rfl ?_
  refine gm_LinenHouseModel_motions w_819 rfl dX10_voteOf_6 ?_
  refine g_icmp_ge 19 dX10_voteOf_9 (by decide) (fun c2 => ?_) (fun c2 => ?_)
  · replace H := H.1 c2
    refine g_iconst (v := (iI_ (-1))) dX10_voteOf_19 (by decide) ?_
    exact g_iret rfl dX10_voteOf_20 ⟨_, rfl, H⟩
  · replace H := H.2 c2
    refine g_aload_n dX10_voteOf_12 0 rfl rfl ?_
    refine gm_LinenHouseModel_members w_815 rfl dX10_voteOf_13 ?_
    refine g_if_ne 21 dX10_voteOf_16 (by decide) (fun c3 => ?_) (fun c3 => ?_)
    · replace H := H.1 c3
      refine g_iload_n dX10_voteOf_21 2 rfl rfl ?_
      refine g_if_ne 33 dX10_voteOf_22 (by decide) (fun c4 => ?_) (fun c4 => ?_)
      · replace H := H.1 c4
        refine g_iload_n dX10_voteOf_33 2 rfl rfl ?_
        refine g_iconst (v := (iI_ 1)) dX10_voteOf_34 (by decide) ?_
        refine g_icmp_ne 47 dX10_voteOf_35 (by decide) (fun c5 => ?_) (fun c5 => ?_)
        · replace H := H.1 c5
          refine g_iload_n dX10_voteOf_47 2 rfl rfl ?_
          refine g_iconst (v := (iI_ 2)) dX10_voteOf_48 (by decide) ?_
          refine g_icmp_ne 61 dX10_voteOf_49 (by decide) (fun c6 => ?_) (fun c6 => ?_)
          · replace H := H.1 c6
            refine g_aload_n dX10_voteOf_61 0 rfl rfl ?_
            refine gm_LinenHouseModel_speakerAt w_843 rfl dX10_voteOf_62 ?_
            refine g_iload_n dX10_voteOf_65 1 rfl rfl ?_
            obtain ⟨h7, H⟩ := H
            refine am_30 h7 dX10_voteOf_66 ?_
            exact g_iret rfl dX10_voteOf_67 ⟨_, rfl, H⟩
          · replace H := H.2 c6
            refine g_aload_n dX10_voteOf_52 0 rfl rfl ?_
            refine gm_LinenHouseModel_carried w_844 rfl dX10_voteOf_53 ?_
            refine g_iload_n dX10_voteOf_56 1 rfl rfl ?_
            obtain ⟨h8, H⟩ := H
            refine am_31 h8 dX10_voteOf_57 ?_
            refine g_goto 67 dX10_voteOf_58 (by decide) ?_
            exact g_iret rfl dX10_voteOf_67 ⟨_, rfl, H⟩
        · replace H := H.2 c5
          refine g_aload_n dX10_voteOf_38 0 rfl rfl ?_
          refine gm_LinenHouseModel_apartAt w_842 rfl dX10_voteOf_39 ?_
          refine g_iload_n dX10_voteOf_42 1 rfl rfl ?_
          obtain ⟨h9, H⟩ := H
          refine am_29 h9 dX10_voteOf_43 ?_
          refine g_goto 67 dX10_voteOf_44 (by decide) ?_
          exact g_iret rfl dX10_voteOf_67 ⟨_, rfl, H⟩
      · replace H := H.2 c4
        refine g_aload_n dX10_voteOf_25 0 rfl rfl ?_
        refine g_iload_n dX10_voteOf_26 1 rfl rfl ?_
        refine k_X10_forFirst w_1099 rfl ⟨Nat.le_of_ble_eq_true rfl, Nat.le_of_ble_eq_true rfl⟩ (Nat.le_of_ble_eq_true rfl) dX10_voteOf_27 H (fun r11 σ10 H => ?_)
        refine g_goto 67 dX10_voteOf_30 (by decide) ?_
        exact g_iret rfl dX10_voteOf_67 ⟨_, rfl, H⟩
    · replace H := H.2 c3
      refine g_iconst (v := (iI_ (-1))) dX10_voteOf_19 (by decide) ?_
      exact g_iret rfl dX10_voteOf_20 ⟨_, rfl, H⟩
set_option maxHeartbeats 4000000 in
set_option maxRecDepth 100000 in
theorem eX10_vote (u : Ux_) {P : Int32 → St_ → Prop}  (σ : St_) (x1 : Int32) (x2 : Int32) (H : MMi_ (zm_ u) mX10_isNight [.int x1] σ (fun r2 σ1 => ((r2 = iI_ 0 → P (iI_ (-2)) σ1) ∧ (¬ r2 = iI_ 0 → MMi_ (zm_ u) mX10_in [.int x2, .int (iI_ 0), .int (iI_ 3)] σ1 (fun r5 σ4 => ((r5 = iI_ 0 → P (iI_ (-2)) σ4) ∧ (¬ r5 = iI_ 0 → MMi_ (zm_ u) mX10_voteOf [.ref (uq_ u 0), .int x1, .int x2] σ4 (fun r8 σ7 => P r8 σ7)))))))) : MMi_ (zm_ u) mX10_vote [.ref (uq_ u 0), .int x1, .int x2] σ P := by
  refine MM_.of (L := [(0, .ref (uq_ u 0)), (1, .int x1), (2, .int x2)]) (by decide +kernel) (Nat.le_of_ble_eq_true rfl) rfl ?_
  refine g_iload_n dX10_vote_0 1 rfl rfl ?_
  refine k_X10_isNight w_1016 rfl ⟨Nat.le_of_ble_eq_true rfl, Nat.le_of_ble_eq_true rfl⟩ (Nat.le_of_ble_eq_true rfl) dX10_vote_1 H (fun r2 σ1 H => ?_)
  refine g_if_eq 25 dX10_vote_4 (by decide) (fun c3 => ?_) (fun c3 => ?_)
  · replace H := H.1 c3
    refine g_bipush (v := (iI_ (-2))) dX10_vote_25 (by decide) ?_
    exact g_iret rfl dX10_vote_27 ⟨_, rfl, H⟩
  · replace H := H.2 c3
    refine g_iload_n dX10_vote_7 2 rfl rfl ?_
    refine g_iconst (v := (iI_ 0)) dX10_vote_8 (by decide) ?_
    refine g_iconst (v := (iI_ 3)) dX10_vote_9 (by decide) ?_
    refine k_X10_in w_954 rfl ⟨Nat.le_of_ble_eq_true rfl, Nat.le_of_ble_eq_true rfl⟩ (Nat.le_of_ble_eq_true rfl) dX10_vote_10 H (fun r5 σ4 H => ?_)
    refine g_if_eq 25 dX10_vote_13 (by decide) (fun c6 => ?_) (fun c6 => ?_)
    · replace H := H.1 c6
      refine g_bipush (v := (iI_ (-2))) dX10_vote_25 (by decide) ?_
      exact g_iret rfl dX10_vote_27 ⟨_, rfl, H⟩
    · replace H := H.2 c6
      refine g_aload_n dX10_vote_16 0 rfl rfl ?_
      refine g_iload_n dX10_vote_17 1 rfl rfl ?_
      refine g_iload_n dX10_vote_18 2 rfl rfl ?_
      refine k_X10_voteOf w_1095 rfl ⟨Nat.le_of_ble_eq_true rfl, Nat.le_of_ble_eq_true rfl⟩ (Nat.le_of_ble_eq_true rfl) dX10_vote_19 H (fun r8 σ7 H => ?_)
      refine g_goto 27 dX10_vote_22 (by decide) ?_
      exact g_iret rfl dX10_vote_27 ⟨_, rfl, H⟩
set_option maxHeartbeats 4000000 in
set_option maxRecDepth 100000 in
theorem bX10_houseNow_4 (u : Ux_) {P : Int32 → St_ → Prop}  (σ : St_) (x1 : Int32) (x2 : Int32) (x3 : Int32) (H : ((x1 < x3 → P x2 σ) ∧ (¬ x1 < x3 → vp_in x3 10 ∧ ((¬ (σ 31 (Int32.toNatClampNeg x3)) = (iI_ (-1)) → vp_in x3 10 ∧ GG_ (zm_ u) mX10_houseNow (Pi_ P) 4 [(0, .ref (uq_ u 0)), (1, .int x1), (2, .int (σ 31 (Int32.toNatClampNeg x3))), (3, .int (x3 + (iI_ 1)))] [] σ) ∧ ((σ 31 (Int32.toNatClampNeg x3)) = (iI_ (-1)) → GG_ (zm_ u) mX10_houseNow (Pi_ P) 4 [(0, .ref (uq_ u 0)), (1, .int x1), (2, .int x2), (3, .int (x3 + (iI_ 1)))] [] σ))))) : GG_ (zm_ u) mX10_houseNow (Pi_ P) 4 [(0, .ref (uq_ u 0)), (1, .int x1), (2, .int x2), (3, .int x3)] [] σ := by
  refine g_iload_n dX10_houseNow_4 3 rfl rfl ?_
  refine g_iload_n dX10_houseNow_5 1 rfl rfl ?_
  refine g_icmp_gt 36 dX10_houseNow_6 (by decide) (fun c1 => ?_) (fun c1 => ?_)
  · replace H := H.1 c1
    refine g_iload_n dX10_houseNow_36 2 rfl rfl ?_
    exact g_iret rfl dX10_houseNow_37 ⟨_, rfl, H⟩
  · replace H := H.2 c1
    refine g_aload_n dX10_houseNow_9 0 rfl rfl ?_
    refine gm_LinenHouseModel_carried w_844 rfl dX10_houseNow_10 ?_
    refine g_iload_n dX10_houseNow_13 3 rfl rfl ?_
    obtain ⟨h2, H⟩ := H
    refine am_31 h2 dX10_houseNow_14 ?_
    refine g_iconst (v := (iI_ (-1))) dX10_houseNow_15 (by decide) ?_
    refine g_icmp_ne 23 dX10_houseNow_16 (by decide) (fun c3 => ?_) (fun c3 => ?_)
    · replace H := H.1 c3
      refine g_aload_n dX10_houseNow_23 0 rfl rfl ?_
      refine gm_LinenHouseModel_carried w_844 rfl dX10_houseNow_24 ?_
      refine g_iload_n dX10_houseNow_27 3 rfl rfl ?_
      obtain ⟨h4, H⟩ := H
      refine am_31 h4 dX10_houseNow_28 ?_
      refine g_istore_n (L' := [(2, .int (σ 31 (Int32.toNatClampNeg x3))), (0, .ref (uq_ u 0)), (1, .int x1), (3, .int x3)]) dX10_houseNow_29 rfl (by decide) rfl ?_
      refine g_iinc (v := (x3 + (iI_ 1))) (L' := [(3, .int (x3 + (iI_ 1))), (2, .int (σ 31 (Int32.toNatClampNeg x3))), (0, .ref (uq_ u 0)), (1, .int x1)]) dX10_houseNow_30 3 rfl rfl (by decide) rfl ?_
      refine g_goto 4 dX10_houseNow_33 (by decide) ?_
      exact GG_.sub [2, 3, 1, 0] rfl H
    · replace H := H.2 c3
      refine g_iload_n dX10_houseNow_19 2 rfl rfl ?_
      refine g_goto 29 dX10_houseNow_20 (by decide) ?_
      refine g_istore_n (L' := [(2, .int x2), (0, .ref (uq_ u 0)), (1, .int x1), (3, .int x3)]) dX10_houseNow_29 rfl (by decide) rfl ?_
      refine g_iinc (v := (x3 + (iI_ 1))) (L' := [(3, .int (x3 + (iI_ 1))), (2, .int x2), (0, .ref (uq_ u 0)), (1, .int x1)]) dX10_houseNow_30 3 rfl rfl (by decide) rfl ?_
      refine g_goto 4 dX10_houseNow_33 (by decide) ?_
      exact GG_.sub [2, 3, 1, 0] rfl H
set_option maxHeartbeats 4000000 in
set_option maxRecDepth 100000 in
theorem eX10_houseNow (u : Ux_) {P : Int32 → St_ → Prop}  (σ : St_) (x1 : Int32) (H : GG_ (zm_ u) mX10_houseNow (Pi_ P) 4 [(0, .ref (uq_ u 0)), (1, .int x1), (2, .int (iI_ (-1))), (3, .int (iI_ 0))] [] σ) : MMi_ (zm_ u) mX10_houseNow [.ref (uq_ u 0), .int x1] σ P := by
  refine MM_.of (L := [(0, .ref (uq_ u 0)), (1, .int x1)]) (by decide +kernel) (Nat.le_of_ble_eq_true rfl) rfl ?_
  refine g_iconst (v := (iI_ (-1))) dX10_houseNow_0 (by decide) ?_
  refine g_istore_n (L' := [(2, .int (iI_ (-1))), (0, .ref (uq_ u 0)), (1, .int x1)]) dX10_houseNow_1 rfl (by decide) rfl ?_
  refine g_iconst (v := (iI_ 0)) dX10_houseNow_2 (by decide) ?_
  refine g_istore_n (L' := [(3, .int (iI_ 0)), (2, .int (iI_ (-1))), (0, .ref (uq_ u 0)), (1, .int x1)]) dX10_houseNow_3 rfl (by decide) rfl ?_
  exact GG_.sub [2, 3, 1, 0] rfl H
set_option maxHeartbeats 4000000 in
set_option maxRecDepth 100000 in
theorem eX10_houseOf (u : Ux_) {P : Int32 → St_ → Prop}  (σ : St_) (x1 : Int32) (H : MMv_ (zm_ u) mX10_runsTold [.ref (uq_ u 0)] σ (fun σ1 => MMi_ (zm_ u) mX10_houseNow [.ref (uq_ u 0), .int x1] σ1 (fun r3 σ2 => P r3 σ2))) : MMi_ (zm_ u) mX10_houseOf [.ref (uq_ u 0), .int x1] σ P := by
  refine MM_.of (L := [(0, .ref (uq_ u 0)), (1, .int x1)]) (by decide +kernel) (Nat.le_of_ble_eq_true rfl) rfl ?_
  refine g_aload_n dX10_houseOf_0 0 rfl rfl ?_
  refine k_X10_runsTold w_1059 rfl ⟨Nat.le_of_ble_eq_true rfl, Nat.le_of_ble_eq_true rfl⟩ (Nat.le_of_ble_eq_true rfl) dX10_houseOf_1 H (fun σ1 H => ?_)
  refine g_aload_n dX10_houseOf_4 0 rfl rfl ?_
  refine g_iload_n dX10_houseOf_5 1 rfl rfl ?_
  refine k_X10_houseNow w_1111 rfl ⟨Nat.le_of_ble_eq_true rfl, Nat.le_of_ble_eq_true rfl⟩ (Nat.le_of_ble_eq_true rfl) dX10_houseOf_6 H (fun r3 σ2 H => ?_)
  exact g_iret rfl dX10_houseOf_9 ⟨_, rfl, H⟩
set_option maxHeartbeats 4000000 in
set_option maxRecDepth 100000 in
theorem eX10_house (u : Ux_) {P : Int32 → St_ → Prop}  (σ : St_) (x1 : Int32) (H : MMi_ (zm_ u) mX10_isNight [.int x1] σ (fun r2 σ1 => ((r2 = iI_ 0 → P (iI_ (-2)) σ1) ∧ (¬ r2 = iI_ 0 → MMi_ (zm_ u) mX10_houseOf [.ref (uq_ u 0), .int x1] σ1 (fun r5 σ4 => P r5 σ4))))) : MMi_ (zm_ u) mX10_house [.ref (uq_ u 0), .int x1] σ P := by
  refine MM_.of (L := [(0, .ref (uq_ u 0)), (1, .int x1)]) (by decide +kernel) (Nat.le_of_ble_eq_true rfl) rfl ?_
  refine g_iload_n dX10_house_0 1 rfl rfl ?_
  refine k_X10_isNight w_1016 rfl ⟨Nat.le_of_ble_eq_true rfl, Nat.le_of_ble_eq_true rfl⟩ (Nat.le_of_ble_eq_true rfl) dX10_house_1 H (fun r2 σ1 H => ?_)
  refine g_if_eq 15 dX10_house_4 (by decide) (fun c3 => ?_) (fun c3 => ?_)
  · replace H := H.1 c3
    refine g_bipush (v := (iI_ (-2))) dX10_house_15 (by decide) ?_
    exact g_iret rfl dX10_house_17 ⟨_, rfl, H⟩
  · replace H := H.2 c3
    refine g_aload_n dX10_house_7 0 rfl rfl ?_
    refine g_iload_n dX10_house_8 1 rfl rfl ?_
    refine k_X10_houseOf w_1107 rfl ⟨Nat.le_of_ble_eq_true rfl, Nat.le_of_ble_eq_true rfl⟩ (Nat.le_of_ble_eq_true rfl) dX10_house_9 H (fun r5 σ4 H => ?_)
    refine g_goto 17 dX10_house_12 (by decide) ?_
    exact g_iret rfl dX10_house_17 ⟨_, rfl, H⟩
set_option maxHeartbeats 4000000 in
set_option maxRecDepth 100000 in
theorem bX10_toldNow_8 (u : Ux_) {P : Int32 → St_ → Prop}  (σ : St_) (x1 : Int32) (x2 : Int32) (H : (((σ 6 0) ≤ x2 → P x1 σ) ∧ (¬ (σ 6 0) ≤ x2 → (((σ 2 0) ≤ iI_ 0 → P x1 σ) ∧ (¬ (σ 2 0) ≤ iI_ 0 → vp_in x2 10 ∧ ((¬ (σ 29 (Int32.toNatClampNeg x2)) = iI_ 0 → GG_ (zm_ u) mX10_toldNow (Pi_ P) 8 [(0, .ref (uq_ u 0)), (1, .int (x1 + (iI_ 0))), (2, .int (x2 + (iI_ 1)))] [] σ) ∧ ((σ 29 (Int32.toNatClampNeg x2)) = iI_ 0 → GG_ (zm_ u) mX10_toldNow (Pi_ P) 8 [(0, .ref (uq_ u 0)), (1, .int (x1 + (iI_ 1))), (2, .int (x2 + (iI_ 1)))] [] σ))))))) : GG_ (zm_ u) mX10_toldNow (Pi_ P) 8 [(0, .ref (uq_ u 0)), (1, .int x1), (2, .int x2)] [] σ := by
  refine g_iload_n dX10_toldNow_8 2 rfl rfl ?_
  refine g_aload_n dX10_toldNow_9 0 rfl rfl ?_
  refine gm_LinenHouseModel_motions w_819 rfl dX10_toldNow_10 ?_
  refine g_icmp_ge 46 dX10_toldNow_13 (by decide) (fun c1 => ?_) (fun c1 => ?_)
  · replace H := H.1 c1
    refine g_iload_n dX10_toldNow_46 1 rfl rfl ?_
    exact g_iret rfl dX10_toldNow_47 ⟨_, rfl, H⟩
  · replace H := H.2 c1
    refine g_aload_n dX10_toldNow_16 0 rfl rfl ?_
    refine gm_LinenHouseModel_members w_815 rfl dX10_toldNow_17 ?_
    refine g_if_le 46 dX10_toldNow_20 (by decide) (fun c2 => ?_) (fun c2 => ?_)
    · replace H := H.1 c2
      refine g_iload_n dX10_toldNow_46 1 rfl rfl ?_
      exact g_iret rfl dX10_toldNow_47 ⟨_, rfl, H⟩
    · replace H := H.2 c2
      refine g_iload_n dX10_toldNow_23 1 rfl rfl ?_
      refine g_aload_n dX10_toldNow_24 0 rfl rfl ?_
      refine gm_LinenHouseModel_apartAt w_842 rfl dX10_toldNow_25 ?_
      refine g_iload_n dX10_toldNow_28 2 rfl rfl ?_
      obtain ⟨h3, H⟩ := H
      refine am_29 h3 dX10_toldNow_29 ?_
      refine g_if_ne 37 dX10_toldNow_30 (by decide) (fun c4 => ?_) (fun c4 => ?_)
      · replace H := H.1 c4
        refine g_iconst (v := (iI_ 0)) dX10_toldNow_37 (by decide) ?_
        refine g_iadd dX10_toldNow_38 ?_
        refine g_istore_n (L' := [(1, .int (x1 + (iI_ 0))), (0, .ref (uq_ u 0)), (2, .int x2)]) dX10_toldNow_39 rfl (by decide) rfl ?_
        refine g_iinc (v := (x2 + (iI_ 1))) (L' := [(2, .int (x2 + (iI_ 1))), (1, .int (x1 + (iI_ 0))), (0, .ref (uq_ u 0))]) dX10_toldNow_40 2 rfl rfl (by decide) rfl ?_
        refine g_goto 8 dX10_toldNow_43 (by decide) ?_
        exact GG_.sub [2, 1, 0] rfl H
      · replace H := H.2 c4
        refine g_iconst (v := (iI_ 1)) dX10_toldNow_33 (by decide) ?_
        refine g_goto 38 dX10_toldNow_34 (by decide) ?_
        refine g_iadd dX10_toldNow_38 ?_
        refine g_istore_n (L' := [(1, .int (x1 + (iI_ 1))), (0, .ref (uq_ u 0)), (2, .int x2)]) dX10_toldNow_39 rfl (by decide) rfl ?_
        refine g_iinc (v := (x2 + (iI_ 1))) (L' := [(2, .int (x2 + (iI_ 1))), (1, .int (x1 + (iI_ 1))), (0, .ref (uq_ u 0))]) dX10_toldNow_40 2 rfl rfl (by decide) rfl ?_
        refine g_goto 8 dX10_toldNow_43 (by decide) ?_
        exact GG_.sub [2, 1, 0] rfl H
set_option maxHeartbeats 4000000 in
set_option maxRecDepth 100000 in
theorem eX10_toldNow (u : Ux_) {P : Int32 → St_ → Prop}  (σ : St_)  (H : MMv_ (zm_ u) mX10_runsTold [.ref (uq_ u 0)] σ (fun σ1 => GG_ (zm_ u) mX10_toldNow (Pi_ P) 8 [(0, .ref (uq_ u 0)), (1, .int (iI_ 0)), (2, .int (iI_ 0))] [] σ1)) : MMi_ (zm_ u) mX10_toldNow [.ref (uq_ u 0)] σ P := by
  refine MM_.of (L := [(0, .ref (uq_ u 0))]) (by decide +kernel) (Nat.le_of_ble_eq_true rfl) rfl ?_
  refine g_aload_n dX10_toldNow_0 0 rfl rfl ?_
  refine k_X10_runsTold w_1059 rfl ⟨Nat.le_of_ble_eq_true rfl, Nat.le_of_ble_eq_true rfl⟩ (Nat.le_of_ble_eq_true rfl) dX10_toldNow_1 H (fun σ1 H => ?_)
  refine g_iconst (v := (iI_ 0)) dX10_toldNow_4 (by decide) ?_
  refine g_istore_n (L' := [(1, .int (iI_ 0)), (0, .ref (uq_ u 0))]) dX10_toldNow_5 rfl (by decide) rfl ?_
  refine g_iconst (v := (iI_ 0)) dX10_toldNow_6 (by decide) ?_
  refine g_istore_n (L' := [(2, .int (iI_ 0)), (1, .int (iI_ 0)), (0, .ref (uq_ u 0))]) dX10_toldNow_7 rfl (by decide) rfl ?_
  exact GG_.sub [2, 1, 0] rfl H
set_option maxHeartbeats 4000000 in
set_option maxRecDepth 100000 in
theorem eX10_told (u : Ux_) {P : Int32 → St_ → Prop}  (σ : St_)  (H : MMi_ (zm_ u) mX10_toldNow [.ref (uq_ u 0)] σ (fun r2 σ1 => P r2 σ1)) : MMi_ (zm_ u) mX10_told [.ref (uq_ u 0)] σ P := by
  refine MM_.of (L := [(0, .ref (uq_ u 0))]) (by decide +kernel) (Nat.le_of_ble_eq_true rfl) rfl ?_
  refine g_aload_n dX10_told_0 0 rfl rfl ?_
  refine k_X10_toldNow w_1119 rfl ⟨Nat.le_of_ble_eq_true rfl, Nat.le_of_ble_eq_true rfl⟩ (Nat.le_of_ble_eq_true rfl) dX10_told_1 H (fun r2 σ1 H => ?_)
  exact g_iret rfl dX10_told_4 ⟨_, rfl, H⟩
set_option maxHeartbeats 4000000 in
set_option maxRecDepth 100000 in
theorem bX10_pleasures_4 (u : Ux_) {P : Int32 → St_ → Prop}  (σ : St_) (x1 : Int32) (x2 : Int32) (x3 : Int32) (H : (((σ 6 0) ≤ x3 → P x2 σ) ∧ (¬ (σ 6 0) ≤ x3 → vp_in x3 10 ∧ vp_in x3 10 ∧ MMi_ (zm_ u) mX10_isIn [.int (σ 28 (Int32.toNatClampNeg x3)), .int x1] σ (fun r5 σ4 => ((r5 = iI_ 0 → vp_in x3 11 ∧ ((¬ (σ 31 (Int32.toNatClampNeg x3)) = (σ4 7 (Int32.toNatClampNeg x3)) → GG_ (zm_ u) mX10_pleasures (Pi_ P) 4 [(0, .ref (uq_ u 0)), (1, .int x1), (2, .int (x2 + (iI_ 0))), (3, .int (x3 + (iI_ 1)))] [] σ4) ∧ ((σ 31 (Int32.toNatClampNeg x3)) = (σ4 7 (Int32.toNatClampNeg x3)) → GG_ (zm_ u) mX10_pleasures (Pi_ P) 4 [(0, .ref (uq_ u 0)), (1, .int x1), (2, .int (x2 + (iI_ 1))), (3, .int (x3 + (iI_ 1)))] [] σ4))) ∧ (¬ r5 = iI_ 0 → vp_in x3 11 ∧ ((¬ (σ 31 (Int32.toNatClampNeg x3)) = (σ4 8 (Int32.toNatClampNeg x3)) → GG_ (zm_ u) mX10_pleasures (Pi_ P) 4 [(0, .ref (uq_ u 0)), (1, .int x1), (2, .int (x2 + (iI_ 0))), (3, .int (x3 + (iI_ 1)))] [] σ4) ∧ ((σ 31 (Int32.toNatClampNeg x3)) = (σ4 8 (Int32.toNatClampNeg x3)) → GG_ (zm_ u) mX10_pleasures (Pi_ P) 4 [(0, .ref (uq_ u 0)), (1, .int x1), (2, .int (x2 + (iI_ 1))), (3, .int (x3 + (iI_ 1)))] [] σ4)))))))) : GG_ (zm_ u) mX10_pleasures (Pi_ P) 4 [(0, .ref (uq_ u 0)), (1, .int x1), (2, .int x2), (3, .int x3)] [] σ := by
  refine g_iload_n dX10_pleasures_4 3 rfl rfl ?_
  refine g_aload_n dX10_pleasures_5 0 rfl rfl ?_
  refine gm_LinenHouseModel_motions w_819 rfl dX10_pleasures_6 ?_
  refine g_icmp_ge 63 dX10_pleasures_9 (by decide) (fun c1 => ?_) (fun c1 => ?_)
  · replace H := H.1 c1
    refine g_iload_n dX10_pleasures_63 2 rfl rfl ?_
    exact g_iret rfl dX10_pleasures_64 ⟨_, rfl, H⟩
  · replace H := H.2 c1
    refine g_iload_n dX10_pleasures_12 2 rfl rfl ?_
    refine g_aload_n dX10_pleasures_13 0 rfl rfl ?_
    refine gm_LinenHouseModel_carried w_844 rfl dX10_pleasures_14 ?_
    refine g_iload_n dX10_pleasures_17 3 rfl rfl ?_
    obtain ⟨h2, H⟩ := H
    refine am_31 h2 dX10_pleasures_18 ?_
    refine g_aload_n dX10_pleasures_19 0 rfl rfl ?_
    refine gm_LinenHouseModel_votesAt w_841 rfl dX10_pleasures_20 ?_
    refine g_iload_n dX10_pleasures_23 3 rfl rfl ?_
    obtain ⟨h3, H⟩ := H
    refine am_28 h3 dX10_pleasures_24 ?_
    refine g_iload_n dX10_pleasures_25 1 rfl rfl ?_
    refine k_X10_isIn w_989 rfl ⟨Nat.le_of_ble_eq_true rfl, Nat.le_of_ble_eq_true rfl⟩ (Nat.le_of_ble_eq_true rfl) dX10_pleasures_26 H (fun r5 σ4 H => ?_)
    refine g_if_eq 41 dX10_pleasures_29 (by decide) (fun c6 => ?_) (fun c6 => ?_)
    · replace H := H.1 c6
      refine g_aload_n dX10_pleasures_41 0 rfl rfl ?_
      refine gm_LinenHouseModel_firsts w_820 rfl dX10_pleasures_42 ?_
      refine g_iload_n dX10_pleasures_45 3 rfl rfl ?_
      obtain ⟨h7, H⟩ := H
      refine am_7 h7 dX10_pleasures_46 ?_
      refine g_icmp_ne 54 dX10_pleasures_47 (by decide) (fun c8 => ?_) (fun c8 => ?_)
      · replace H := H.1 c8
        refine g_iconst (v := (iI_ 0)) dX10_pleasures_54 (by decide) ?_
        refine g_iadd dX10_pleasures_55 ?_
        refine g_istore_n (L' := [(2, .int (x2 + (iI_ 0))), (0, .ref (uq_ u 0)), (1, .int x1), (3, .int x3)]) dX10_pleasures_56 rfl (by decide) rfl ?_
        refine g_iinc (v := (x3 + (iI_ 1))) (L' := [(3, .int (x3 + (iI_ 1))), (2, .int (x2 + (iI_ 0))), (0, .ref (uq_ u 0)), (1, .int x1)]) dX10_pleasures_57 3 rfl rfl (by decide) rfl ?_
        refine g_goto 4 dX10_pleasures_60 (by decide) ?_
        exact GG_.sub [2, 3, 1, 0] rfl H
      · replace H := H.2 c8
        refine g_iconst (v := (iI_ 1)) dX10_pleasures_50 (by decide) ?_
        refine g_goto 55 dX10_pleasures_51 (by decide) ?_
        refine g_iadd dX10_pleasures_55 ?_
        refine g_istore_n (L' := [(2, .int (x2 + (iI_ 1))), (0, .ref (uq_ u 0)), (1, .int x1), (3, .int x3)]) dX10_pleasures_56 rfl (by decide) rfl ?_
        refine g_iinc (v := (x3 + (iI_ 1))) (L' := [(3, .int (x3 + (iI_ 1))), (2, .int (x2 + (iI_ 1))), (0, .ref (uq_ u 0)), (1, .int x1)]) dX10_pleasures_57 3 rfl rfl (by decide) rfl ?_
        refine g_goto 4 dX10_pleasures_60 (by decide) ?_
        exact GG_.sub [2, 3, 1, 0] rfl H
    · replace H := H.2 c6
      refine g_aload_n dX10_pleasures_32 0 rfl rfl ?_
      refine gm_LinenHouseModel_others w_821 rfl dX10_pleasures_33 ?_
      refine g_iload_n dX10_pleasures_36 3 rfl rfl ?_
      obtain ⟨h9, H⟩ := H
      refine am_8 h9 dX10_pleasures_37 ?_
      refine g_goto 47 dX10_pleasures_38 (by decide) ?_
      refine g_icmp_ne 54 dX10_pleasures_47 (by decide) (fun c10 => ?_) (fun c10 => ?_)
      · replace H := H.1 c10
        refine g_iconst (v := (iI_ 0)) dX10_pleasures_54 (by decide) ?_
        refine g_iadd dX10_pleasures_55 ?_
        refine g_istore_n (L' := [(2, .int (x2 + (iI_ 0))), (0, .ref (uq_ u 0)), (1, .int x1), (3, .int x3)]) dX10_pleasures_56 rfl (by decide) rfl ?_
        refine g_iinc (v := (x3 + (iI_ 1))) (L' := [(3, .int (x3 + (iI_ 1))), (2, .int (x2 + (iI_ 0))), (0, .ref (uq_ u 0)), (1, .int x1)]) dX10_pleasures_57 3 rfl rfl (by decide) rfl ?_
        refine g_goto 4 dX10_pleasures_60 (by decide) ?_
        exact GG_.sub [2, 3, 1, 0] rfl H
      · replace H := H.2 c10
        refine g_iconst (v := (iI_ 1)) dX10_pleasures_50 (by decide) ?_
        refine g_goto 55 dX10_pleasures_51 (by decide) ?_
        refine g_iadd dX10_pleasures_55 ?_
        refine g_istore_n (L' := [(2, .int (x2 + (iI_ 1))), (0, .ref (uq_ u 0)), (1, .int x1), (3, .int x3)]) dX10_pleasures_56 rfl (by decide) rfl ?_
        refine g_iinc (v := (x3 + (iI_ 1))) (L' := [(3, .int (x3 + (iI_ 1))), (2, .int (x2 + (iI_ 1))), (0, .ref (uq_ u 0)), (1, .int x1)]) dX10_pleasures_57 3 rfl rfl (by decide) rfl ?_
        refine g_goto 4 dX10_pleasures_60 (by decide) ?_
        exact GG_.sub [2, 3, 1, 0] rfl H
set_option maxHeartbeats 4000000 in
set_option maxRecDepth 100000 in
theorem eX10_pleasures (u : Ux_) {P : Int32 → St_ → Prop}  (σ : St_) (x1 : Int32) (H : GG_ (zm_ u) mX10_pleasures (Pi_ P) 4 [(0, .ref (uq_ u 0)), (1, .int x1), (2, .int (iI_ 0)), (3, .int (iI_ 0))] [] σ) : MMi_ (zm_ u) mX10_pleasures [.ref (uq_ u 0), .int x1] σ P := by
  refine MM_.of (L := [(0, .ref (uq_ u 0)), (1, .int x1)]) (by decide +kernel) (Nat.le_of_ble_eq_true rfl) rfl ?_
  refine g_iconst (v := (iI_ 0)) dX10_pleasures_0 (by decide) ?_
  refine g_istore_n (L' := [(2, .int (iI_ 0)), (0, .ref (uq_ u 0)), (1, .int x1)]) dX10_pleasures_1 rfl (by decide) rfl ?_
  refine g_iconst (v := (iI_ 0)) dX10_pleasures_2 (by decide) ?_
  refine g_istore_n (L' := [(3, .int (iI_ 0)), (2, .int (iI_ 0)), (0, .ref (uq_ u 0)), (1, .int x1)]) dX10_pleasures_3 rfl (by decide) rfl ?_
  exact GG_.sub [2, 3, 1, 0] rfl H
