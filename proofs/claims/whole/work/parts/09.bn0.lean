set_option maxHeartbeats 4000000 in
set_option maxRecDepth 100000 in
theorem eX0_isPut (u : Ux_) {P : Int32 → St_ → Prop}  (σ : St_) (x1 : Int32) (H : (((σ 3 0) ≤ iI_ 0 → P (iI_ 0) σ) ∧ (¬ (σ 3 0) ≤ iI_ 0 → MMi_ (zx_ u) mX9_within [.int x1, .int (σ 9 0)] σ (fun r3 σ2 => ((r3 = iI_ 0 → P (iI_ 0) σ2) ∧ (¬ r3 = iI_ 0 → P (iI_ 1) σ2)))))) : MMi_ (zx_ u) mX0_isPut [.ref (uq_ u 20), .int x1] σ P := by
  refine MM_.of (L := [(0, .ref (uq_ u 20)), (1, .int x1)]) (by decide +kernel) (Nat.le_of_ble_eq_true rfl) rfl ?_
  refine g_aload_n dX0_isPut_0 0 rfl rfl ?_
  refine gx_Chamber_roll w_225 rfl dX0_isPut_1 ?_
  refine gx_Roll_n w_103 rfl dX0_isPut_4 ?_
  refine g_if_le 28 dX0_isPut_7 (by decide) (fun c1 => ?_) (fun c1 => ?_)
  · replace H := H.1 c1
    refine g_iconst (v := (iI_ 0)) dX0_isPut_28 (by decide) ?_
    exact g_zret rfl (by decide) dX0_isPut_29 ⟨_, rfl, H⟩
  · replace H := H.2 c1
    refine g_iload_n dX0_isPut_10 1 rfl rfl ?_
    refine g_aload_n dX0_isPut_11 0 rfl rfl ?_
    refine gx_Chamber_motions w_226 rfl dX0_isPut_12 ?_
    refine gx_Motions_n w_138 rfl dX0_isPut_15 ?_
    refine k_X9_withinN (List.mem_of_getElem? (i := 0) rfl) rfl ⟨Nat.le_of_ble_eq_true rfl, Nat.le_of_ble_eq_true rfl⟩ (Nat.le_of_ble_eq_true rfl) dX0_isPut_18 H (fun r3 σ2 H => ?_)
    refine g_if_eq 28 dX0_isPut_21 (by decide) (fun c4 => ?_) (fun c4 => ?_)
    · replace H := H.1 c4
      refine g_iconst (v := (iI_ 0)) dX0_isPut_28 (by decide) ?_
      exact g_zret rfl (by decide) dX0_isPut_29 ⟨_, rfl, H⟩
    · replace H := H.2 c4
      refine g_iconst (v := (iI_ 1)) dX0_isPut_24 (by decide) ?_
      refine g_goto 29 dX0_isPut_25 (by decide) ?_
      exact g_zret rfl (by decide) dX0_isPut_29 ⟨_, rfl, H⟩
set_option maxHeartbeats 4000000 in
set_option maxRecDepth 100000 in
theorem eX0_carried (u : Ux_) {P : Int32 → St_ → Prop} (po : Nat) (ko : Nat) (hp : Ap_ u po ko) (σ : St_) (x1 : Int32) (x3 : Int32) (x4 : Int32) (H : MMi_ (zx_ u) mX0_isPut [.ref (uq_ u 20), .int x1] σ (fun r2 σ1 => ((¬ r2 = iI_ 0 → MMv_ (zx_ u) mX0_open [.ref (uq_ u 20), .int x1] σ1 (fun σ4 => MMv_ (zx_ u) mX0_lay [.ref (uq_ u 20), .int x1, .int x4] σ4 (fun σ5 => MMv_ (zx_ u) mX0_lean [.ref (uq_ u 20), .ref (uq_ u po), .int x3] σ5 (fun σ6 => MMi_ (zx_ u) mX0_tally [.ref (uq_ u 20)] σ6 (fun r8 σ7 => P r8 σ7))))) ∧ (r2 = iI_ 0 → P (iI_ (-1)) σ1)))) : MMi_ (zx_ u) mX0_carried [.ref (uq_ u 20), .int x1, .ref (uq_ u po), .int x3, .int x4] σ P := by
  refine MM_.of (L := [(0, .ref (uq_ u 20)), (1, .int x1), (2, .ref (uq_ u po)), (3, .int x3), (4, .int x4)]) (by decide +kernel) (Nat.le_of_ble_eq_true rfl) rfl ?_
  refine g_aload_n dX0_carried_0 0 rfl rfl ?_
  refine g_iload_n dX0_carried_1 1 rfl rfl ?_
  refine k_X0_isPut w_498 rfl ⟨Nat.le_of_ble_eq_true rfl, Nat.le_of_ble_eq_true rfl⟩ (Nat.le_of_ble_eq_true rfl) dX0_carried_2 H (fun r2 σ1 H => ?_)
  refine g_if_ne 10 dX0_carried_5 (by decide) (fun c3 => ?_) (fun c3 => ?_)
  · replace H := H.1 c3
    refine g_aload_n dX0_carried_10 0 rfl rfl ?_
    refine g_iload_n dX0_carried_11 1 rfl rfl ?_
    refine k_X0_open w_503 rfl ⟨Nat.le_of_ble_eq_true rfl, Nat.le_of_ble_eq_true rfl⟩ (Nat.le_of_ble_eq_true rfl) dX0_carried_12 H (fun σ4 H => ?_)
    refine g_aload_n dX0_carried_15 0 rfl rfl ?_
    refine g_iload_n dX0_carried_16 1 rfl rfl ?_
    refine g_iload dX0_carried_17 4 rfl ?_
    refine k_X0_lay w_507 rfl ⟨Nat.le_of_ble_eq_true rfl, Nat.le_of_ble_eq_true rfl⟩ (Nat.le_of_ble_eq_true rfl) dX0_carried_19 H (fun σ5 H => ?_)
    refine g_aload_n dX0_carried_22 0 rfl rfl ?_
    refine g_aload_n dX0_carried_23 2 rfl rfl ?_
    refine g_iload_n dX0_carried_24 3 rfl rfl ?_
    refine k_X0_lean w_515 rfl ⟨Nat.le_of_ble_eq_true rfl, Nat.le_of_ble_eq_true rfl⟩ (Nat.le_of_ble_eq_true rfl) dX0_carried_25 H (fun σ6 H => ?_)
    refine g_aload_n dX0_carried_28 0 rfl rfl ?_
    refine k_X0_tally w_527 rfl ⟨Nat.le_of_ble_eq_true rfl, Nat.le_of_ble_eq_true rfl⟩ (Nat.le_of_ble_eq_true rfl) dX0_carried_29 H (fun r8 σ7 H => ?_)
    exact g_iret rfl dX0_carried_32 ⟨_, rfl, H⟩
  · replace H := H.2 c3
    refine g_iconst (v := (iI_ (-1))) dX0_carried_8 (by decide) ?_
    exact g_iret rfl dX0_carried_9 ⟨_, rfl, H⟩
set_option maxHeartbeats 4000000 in
set_option maxRecDepth 100000 in
theorem eX0_open (u : Ux_) {P : St_ → Prop}  (σ : St_) (x1 : Int32) (H : ((x1 < iI_ 0 → P σ) ∧ (¬ x1 < iI_ 0 → (((σ 9 0) ≤ x1 → P σ) ∧ (¬ (σ 9 0) ≤ x1 → vp_in x1 10 ∧ (∀ σ4, σ4 = su_ σ 23 0 (σ 11 (Int32.toNatClampNeg x1)) → vp_in x1 10 ∧ (∀ σ6, σ6 = su_ σ4 24 0 (σ4 12 (Int32.toNatClampNeg x1)) → vp_in x1 10 ∧ ((¬ (σ6 13 (Int32.toNatClampNeg x1)) = (iI_ 2) → (∀ σ9, σ9 = su_ σ6 25 0 (iI_ 0) → P σ9)) ∧ ((σ6 13 (Int32.toNatClampNeg x1)) = (iI_ 2) → (∀ σ10, σ10 = su_ σ6 25 0 (iI_ 1) → P σ10)))))))))) : MMv_ (zx_ u) mX0_open [.ref (uq_ u 20), .int x1] σ P := by
  refine MM_.of (L := [(0, .ref (uq_ u 20)), (1, .int x1)]) (by decide +kernel) (Nat.le_of_ble_eq_true rfl) rfl ?_
  refine g_iload_n dX0_open_0 1 rfl rfl ?_
  refine g_if_lt 63 dX0_open_1 (by decide) (fun c1 => ?_) (fun c1 => ?_)
  · replace H := H.1 c1
    exact g_vret rfl dX0_open_63 ⟨rfl, H⟩
  · replace H := H.2 c1
    refine g_iload_n dX0_open_4 1 rfl rfl ?_
    refine g_aload_n dX0_open_5 0 rfl rfl ?_
    refine gx_Chamber_motions w_226 rfl dX0_open_6 ?_
    refine gx_Motions_n w_138 rfl dX0_open_9 ?_
    refine g_icmp_ge 63 dX0_open_12 (by decide) (fun c2 => ?_) (fun c2 => ?_)
    · replace H := H.1 c2
      exact g_vret rfl dX0_open_63 ⟨rfl, H⟩
    · replace H := H.2 c2
      refine g_aload_n dX0_open_15 0 rfl rfl ?_
      refine g_aload_n dX0_open_16 0 rfl rfl ?_
      refine gx_Chamber_motions w_226 rfl dX0_open_17 ?_
      refine gx_Motions_first w_143 rfl dX0_open_20 ?_
      refine g_iload_n dX0_open_23 1 rfl rfl ?_
      obtain ⟨h3, H⟩ := H
      refine ax_11 h3 dX0_open_24 ?_
      refine px_Chamber_first w_228 rfl dX0_open_25 ?_
      obtain ⟨σ4, e_σ4⟩ : ∃ q : St_, q = su_ σ 23 0 (σ 11 (Int32.toNatClampNeg x1)) := ⟨_, rfl⟩
      rw [← e_σ4]
      replace H := H σ4 e_σ4
      refine g_aload_n dX0_open_28 0 rfl rfl ?_
      refine g_aload_n dX0_open_29 0 rfl rfl ?_
      refine gx_Chamber_motions w_226 rfl dX0_open_30 ?_
      refine gx_Motions_other w_146 rfl dX0_open_33 ?_
      refine g_iload_n dX0_open_36 1 rfl rfl ?_
      obtain ⟨h5, H⟩ := H
      refine ax_12 h5 dX0_open_37 ?_
      refine px_Chamber_other w_230 rfl dX0_open_38 ?_
      obtain ⟨σ6, e_σ6⟩ : ∃ q : St_, q = su_ σ4 24 0 (σ4 12 (Int32.toNatClampNeg x1)) := ⟨_, rfl⟩
      rw [← e_σ6]
      replace H := H σ6 e_σ6
      refine g_aload_n dX0_open_41 0 rfl rfl ?_
      refine g_aload_n dX0_open_42 0 rfl rfl ?_
      refine gx_Chamber_motions w_226 rfl dX0_open_43 ?_
      refine gx_Motions_how w_149 rfl dX0_open_46 ?_
      refine g_iload_n dX0_open_49 1 rfl rfl ?_
      obtain ⟨h7, H⟩ := H
      refine ax_13 h7 dX0_open_50 ?_
      refine g_iconst (v := (iI_ 2)) dX0_open_51 (by decide) ?_
      refine g_icmp_ne 59 dX0_open_52 (by decide) (fun c8 => ?_) (fun c8 => ?_)
      · replace H := H.1 c8
        refine g_iconst (v := (iI_ 0)) dX0_open_59 (by decide) ?_
        refine px_Chamber_byWeight w_232 rfl (by decide) dX0_open_60 ?_
        obtain ⟨σ9, e_σ9⟩ : ∃ q : St_, q = su_ σ6 25 0 (iI_ 0) := ⟨_, rfl⟩
        rw [← e_σ9]
        replace H := H σ9 e_σ9
        exact g_vret rfl dX0_open_63 ⟨rfl, H⟩
      · replace H := H.2 c8
        refine g_iconst (v := (iI_ 1)) dX0_open_55 (by decide) ?_
        refine g_goto 60 dX0_open_56 (by decide) ?_
        refine px_Chamber_byWeight w_232 rfl (by decide) dX0_open_60 ?_
        obtain ⟨σ10, e_σ10⟩ : ∃ q : St_, q = su_ σ6 25 0 (iI_ 1) := ⟨_, rfl⟩
        rw [← e_σ10]
        replace H := H σ10 e_σ10
        exact g_vret rfl dX0_open_63 ⟨rfl, H⟩
set_option maxHeartbeats 4000000 in
set_option maxRecDepth 100000 in
theorem eX0_openPair (u : Ux_) {P : St_ → Prop}  (σ : St_) (x1 : Int32) (x2 : Int32) (H : (∀ σ1, σ1 = su_ σ 23 0 x1 → (∀ σ2, σ2 = su_ σ1 24 0 x2 → (∀ σ3, σ3 = su_ σ2 25 0 (iI_ 0) → P σ3)))) : MMv_ (zx_ u) mX0_openPair [.ref (uq_ u 20), .int x1, .int x2] σ P := by
  refine MM_.of (L := [(0, .ref (uq_ u 20)), (1, .int x1), (2, .int x2)]) (by decide +kernel) (Nat.le_of_ble_eq_true rfl) rfl ?_
  refine g_aload_n dX0_openPair_0 0 rfl rfl ?_
  refine g_iload_n dX0_openPair_1 1 rfl rfl ?_
  refine px_Chamber_first w_228 rfl dX0_openPair_2 ?_
  obtain ⟨σ1, e_σ1⟩ : ∃ q : St_, q = su_ σ 23 0 x1 := ⟨_, rfl⟩
  rw [← e_σ1]
  replace H := H σ1 e_σ1
  refine g_aload_n dX0_openPair_5 0 rfl rfl ?_
  refine g_iload_n dX0_openPair_6 2 rfl rfl ?_
  refine px_Chamber_other w_230 rfl dX0_openPair_7 ?_
  obtain ⟨σ2, e_σ2⟩ : ∃ q : St_, q = su_ σ1 24 0 x2 := ⟨_, rfl⟩
  rw [← e_σ2]
  replace H := H σ2 e_σ2
  refine g_aload_n dX0_openPair_10 0 rfl rfl ?_
  refine g_iconst (v := (iI_ 0)) dX0_openPair_11 (by decide) ?_
  refine px_Chamber_byWeight w_232 rfl (by decide) dX0_openPair_12 ?_
  obtain ⟨σ3, e_σ3⟩ : ∃ q : St_, q = su_ σ2 25 0 (iI_ 0) := ⟨_, rfl⟩
  rw [← e_σ3]
  replace H := H σ3 e_σ3
  exact g_vret rfl dX0_openPair_15 ⟨rfl, H⟩
set_option maxHeartbeats 4000000 in
set_option maxRecDepth 100000 in
theorem bX0_layAtFirst_2 (u : Ux_) {P : St_ → Prop}  (σ : St_) (x1 : Int32) (H : (((σ 3 0) ≤ x1 → P σ) ∧ (¬ (σ 3 0) ≤ x1 → vp_in x1 8 ∧ vp_in x1 8 ∧ (∀ σ3, σ3 = su_ σ 26 (Int32.toNatClampNeg x1) (σ 6 (Int32.toNatClampNeg x1)) → vp_in x1 8 ∧ (∀ σ5, σ5 = su_ σ3 27 (Int32.toNatClampNeg x1) (iI_ 0) → GG_ (zx_ u) mX0_layAtFirst (Pv_ P) 2 [(0, .ref (uq_ u 20)), (1, .int (x1 + (iI_ 1)))] [] σ5))))) : GG_ (zx_ u) mX0_layAtFirst (Pv_ P) 2 [(0, .ref (uq_ u 20)), (1, .int x1)] [] σ := by
  refine g_iload_n dX0_layAtFirst_2 1 rfl rfl ?_
  refine g_aload_n dX0_layAtFirst_3 0 rfl rfl ?_
  refine gx_Chamber_roll w_225 rfl dX0_layAtFirst_4 ?_
  refine gx_Roll_n w_103 rfl dX0_layAtFirst_7 ?_
  refine g_icmp_ge 41 dX0_layAtFirst_10 (by decide) (fun c1 => ?_) (fun c1 => ?_)
  · replace H := H.1 c1
    exact g_vret rfl dX0_layAtFirst_41 ⟨rfl, H⟩
  · replace H := H.2 c1
    refine g_aload_n dX0_layAtFirst_13 0 rfl rfl ?_
    refine gx_Chamber_shelf w_233 rfl dX0_layAtFirst_14 ?_
    refine g_iload_n dX0_layAtFirst_17 1 rfl rfl ?_
    refine g_aload_n dX0_layAtFirst_18 0 rfl rfl ?_
    refine gx_Chamber_roll w_225 rfl dX0_layAtFirst_19 ?_
    refine gx_Roll_shelf w_111 rfl dX0_layAtFirst_22 ?_
    refine g_iload_n dX0_layAtFirst_25 1 rfl rfl ?_
    obtain ⟨h2, H⟩ := H
    refine ax_6 h2 dX0_layAtFirst_26 ?_
    obtain ⟨h4, H⟩ := H
    refine sx_26 h4 dX0_layAtFirst_27 ?_
    obtain ⟨σ3, e_σ3⟩ : ∃ q : St_, q = su_ σ 26 (Int32.toNatClampNeg x1) (σ 6 (Int32.toNatClampNeg x1)) := ⟨_, rfl⟩
    rw [← e_σ3]
    replace H := H σ3 e_σ3
    refine g_aload_n dX0_layAtFirst_28 0 rfl rfl ?_
    refine gx_Chamber_since w_235 rfl dX0_layAtFirst_29 ?_
    refine g_iload_n dX0_layAtFirst_32 1 rfl rfl ?_
    refine g_iconst (v := (iI_ 0)) dX0_layAtFirst_33 (by decide) ?_
    obtain ⟨h6, H⟩ := H
    refine sx_27 h6 dX0_layAtFirst_34 ?_
    obtain ⟨σ5, e_σ5⟩ : ∃ q : St_, q = su_ σ3 27 (Int32.toNatClampNeg x1) (iI_ 0) := ⟨_, rfl⟩
    rw [← e_σ5]
    replace H := H σ5 e_σ5
    refine g_iinc (v := (x1 + (iI_ 1))) (L' := [(1, .int (x1 + (iI_ 1))), (0, .ref (uq_ u 20))]) dX0_layAtFirst_35 1 rfl rfl (by decide) rfl ?_
    refine g_goto 2 dX0_layAtFirst_38 (by decide) ?_
    exact GG_.sub [1, 0] rfl H
set_option maxHeartbeats 4000000 in
set_option maxRecDepth 100000 in
theorem eX0_layAtFirst (u : Ux_) {P : St_ → Prop}  (σ : St_)  (H : GG_ (zx_ u) mX0_layAtFirst (Pv_ P) 2 [(0, .ref (uq_ u 20)), (1, .int (iI_ 0))] [] σ) : MMv_ (zx_ u) mX0_layAtFirst [.ref (uq_ u 20)] σ P := by
  refine MM_.of (L := [(0, .ref (uq_ u 20))]) (by decide +kernel) (Nat.le_of_ble_eq_true rfl) rfl ?_
  refine g_iconst (v := (iI_ 0)) dX0_layAtFirst_0 (by decide) ?_
  refine g_istore_n (L' := [(1, .int (iI_ 0)), (0, .ref (uq_ u 20))]) dX0_layAtFirst_1 rfl (by decide) rfl ?_
  exact GG_.sub [1, 0] rfl H
set_option maxHeartbeats 4000000 in
set_option maxRecDepth 100000 in
theorem bX0_lay_6 (u : Ux_) {P : St_ → Prop}  (σ : St_) (x1 : Int32) (x2 : Int32) (x3 : Int32) (H : (((σ 14 0) ≤ x3 → P σ) ∧ (¬ (σ 14 0) ≤ x3 → vp_in x3 8 ∧ vp_in x3 8 ∧ ((x3 = x2 → GG_ (zx_ u) mX0_lay (Pv_ P) 6 [(0, .ref (uq_ u 20)), (1, .int x1), (2, .int x2), (3, .int (x3 + (iI_ 1)))] [] σ) ∧ (¬ x3 = x2 → MMi_ (zx_ u) mX9_within [.int (σ 16 (Int32.toNatClampNeg x3)), .int (σ 3 0)] σ (fun r6 σ5 => ((r6 = iI_ 0 → GG_ (zx_ u) mX0_lay (Pv_ P) 6 [(0, .ref (uq_ u 20)), (1, .int x1), (2, .int x2), (3, .int (x3 + (iI_ 1)))] [] σ5) ∧ (¬ r6 = iI_ 0 → ((x1 < (σ 15 (Int32.toNatClampNeg x3)) → GG_ (zx_ u) mX0_lay (Pv_ P) 6 [(0, .ref (uq_ u 20)), (1, .int x1), (2, .int x2), (3, .int (x3 + (iI_ 1)))] [] σ5) ∧ (¬ x1 < (σ 15 (Int32.toNatClampNeg x3)) → vp_in (σ 16 (Int32.toNatClampNeg x3)) 8 ∧ (((σ 15 (Int32.toNatClampNeg x3)) < (σ5 27 (Int32.toNatClampNeg (σ 16 (Int32.toNatClampNeg x3)))) → GG_ (zx_ u) mX0_lay (Pv_ P) 6 [(0, .ref (uq_ u 20)), (1, .int x1), (2, .int x2), (3, .int (x3 + (iI_ 1)))] [] σ5) ∧ (¬ (σ 15 (Int32.toNatClampNeg x3)) < (σ5 27 (Int32.toNatClampNeg (σ 16 (Int32.toNatClampNeg x3)))) → vp_in x3 8 ∧ vp_in (σ 16 (Int32.toNatClampNeg x3)) 8 ∧ (∀ σ12, σ12 = su_ σ5 26 (Int32.toNatClampNeg (σ 16 (Int32.toNatClampNeg x3))) (σ5 17 (Int32.toNatClampNeg x3)) → vp_in (σ 16 (Int32.toNatClampNeg x3)) 8 ∧ (∀ σ14, σ14 = su_ σ12 27 (Int32.toNatClampNeg (σ 16 (Int32.toNatClampNeg x3))) (σ 15 (Int32.toNatClampNeg x3)) → GG_ (zx_ u) mX0_lay (Pv_ P) 6 [(0, .ref (uq_ u 20)), (1, .int x1), (2, .int x2), (3, .int (x3 + (iI_ 1)))] [] σ14)))))))))))))) : GG_ (zx_ u) mX0_lay (Pv_ P) 6 [(0, .ref (uq_ u 20)), (1, .int x1), (2, .int x2), (3, .int x3)] [] σ := by
  refine g_iload_n dX0_lay_6 3 rfl rfl ?_
  refine g_aload_n dX0_lay_7 0 rfl rfl ?_
  refine gx_Chamber_folds w_227 rfl dX0_lay_8 ?_
  refine gx_Folds_n w_169 rfl dX0_lay_11 ?_
  refine g_icmp_ge 108 dX0_lay_14 (by decide) (fun c1 => ?_) (fun c1 => ?_)
  · replace H := H.1 c1
    exact g_vret rfl dX0_lay_108 ⟨rfl, H⟩
  · replace H := H.2 c1
    refine g_aload_n dX0_lay_17 0 rfl rfl ?_
    refine gx_Chamber_folds w_227 rfl dX0_lay_18 ?_
    refine gx_Folds_member w_174 rfl dX0_lay_21 ?_
    refine g_iload_n dX0_lay_24 3 rfl rfl ?_
    obtain ⟨h2, H⟩ := H
    refine ax_16 h2 dX0_lay_25 ?_
    refine g_istore (L' := [(4, .int (σ 16 (Int32.toNatClampNeg x3))), (0, .ref (uq_ u 20)), (1, .int x1), (2, .int x2), (3, .int x3)]) dX0_lay_26 (by decide) rfl ?_
    refine g_aload_n dX0_lay_28 1 rfl rfl ?_
    refine gx_Chamber_folds w_227 rfl dX0_lay_29 ?_
    refine gx_Folds_night w_172 rfl dX0_lay_32 ?_
    refine g_iload_n dX0_lay_35 4 rfl rfl ?_
    obtain ⟨h3, H⟩ := H
    refine ax_15 h3 dX0_lay_36 ?_
    refine g_istore (L' := [(5, .int (σ 15 (Int32.toNatClampNeg x3))), (4, .int (σ 16 (Int32.toNatClampNeg x3))), (0, .ref (uq_ u 20)), (1, .int x1), (2, .int x2), (3, .int x3)]) dX0_lay_37 (by decide) rfl ?_
    refine g_iload_n dX0_lay_39 5 rfl rfl ?_
    refine g_iload_n dX0_lay_40 4 rfl rfl ?_
    refine g_icmp_eq 102 dX0_lay_41 (by decide) (fun c4 => ?_) (fun c4 => ?_)
    · replace H := H.1 c4
      refine g_iinc (v := (x3 + (iI_ 1))) (L' := [(3, .int (x3 + (iI_ 1))), (5, .int (σ 15 (Int32.toNatClampNeg x3))), (4, .int (σ 16 (Int32.toNatClampNeg x3))), (0, .ref (uq_ u 20)), (1, .int x1), (2, .int x2)]) dX0_lay_102 5 rfl rfl (by decide) rfl ?_
      refine g_goto 6 dX0_lay_105 (by decide) ?_
      exact GG_.sub [3, 4, 5, 0] rfl H
    · replace H := H.2 c4
      refine g_iload dX0_lay_44 1 rfl ?_
      refine g_aload_n dX0_lay_46 2 rfl rfl ?_
      refine gx_Chamber_roll w_225 rfl dX0_lay_47 ?_
      refine gx_Roll_n w_103 rfl dX0_lay_50 ?_
      refine k_X9_withinN (List.mem_of_getElem? (i := 0) rfl) rfl ⟨Nat.le_of_ble_eq_true rfl, Nat.le_of_ble_eq_true rfl⟩ (Nat.le_of_ble_eq_true rfl) dX0_lay_53 H (fun r6 σ5 H => ?_)
      refine g_if_eq 102 dX0_lay_56 (by decide) (fun c7 => ?_) (fun c7 => ?_)
      · replace H := H.1 c7
        refine g_iinc (v := (x3 + (iI_ 1))) (L' := [(3, .int (x3 + (iI_ 1))), (5, .int (σ 15 (Int32.toNatClampNeg x3))), (4, .int (σ 16 (Int32.toNatClampNeg x3))), (0, .ref (uq_ u 20)), (1, .int x1), (2, .int x2)]) dX0_lay_102 5 rfl rfl (by decide) rfl ?_
        refine g_goto 6 dX0_lay_105 (by decide) ?_
        exact GG_.sub [3, 4, 5, 0] rfl H
      · replace H := H.2 c7
        refine g_iload dX0_lay_59 0 rfl ?_
        refine g_iload_n dX0_lay_61 3 rfl rfl ?_
        refine g_icmp_gt 102 dX0_lay_62 (by decide) (fun c8 => ?_) (fun c8 => ?_)
        · replace H := H.1 c8
          refine g_iinc (v := (x3 + (iI_ 1))) (L' := [(3, .int (x3 + (iI_ 1))), (5, .int (σ 15 (Int32.toNatClampNeg x3))), (4, .int (σ 16 (Int32.toNatClampNeg x3))), (0, .ref (uq_ u 20)), (1, .int x1), (2, .int x2)]) dX0_lay_102 5 rfl rfl (by decide) rfl ?_
          refine g_goto 6 dX0_lay_105 (by decide) ?_
          exact GG_.sub [3, 4, 5, 0] rfl H
        · replace H := H.2 c8
          refine g_iload dX0_lay_65 0 rfl ?_
          refine g_aload_n dX0_lay_67 2 rfl rfl ?_
          refine gx_Chamber_since w_235 rfl dX0_lay_68 ?_
          refine g_iload dX0_lay_71 1 rfl ?_
          obtain ⟨h9, H⟩ := H
          refine ax_27 h9 dX0_lay_73 ?_
          refine g_icmp_lt 102 dX0_lay_74 (by decide) (fun c10 => ?_) (fun c10 => ?_)
          · replace H := H.1 c10
            refine g_iinc (v := (x3 + (iI_ 1))) (L' := [(3, .int (x3 + (iI_ 1))), (5, .int (σ 15 (Int32.toNatClampNeg x3))), (4, .int (σ 16 (Int32.toNatClampNeg x3))), (0, .ref (uq_ u 20)), (1, .int x1), (2, .int x2)]) dX0_lay_102 5 rfl rfl (by decide) rfl ?_
            refine g_goto 6 dX0_lay_105 (by decide) ?_
            exact GG_.sub [3, 4, 5, 0] rfl H
          · replace H := H.2 c10
            refine g_aload_n dX0_lay_77 2 rfl rfl ?_
            refine gx_Chamber_shelf w_233 rfl dX0_lay_78 ?_
            refine g_iload dX0_lay_81 1 rfl ?_
            refine g_aload_n dX0_lay_83 2 rfl rfl ?_
            refine gx_Chamber_folds w_227 rfl dX0_lay_84 ?_
            refine gx_Folds_shelf w_176 rfl dX0_lay_87 ?_
            refine g_iload_n dX0_lay_90 5 rfl rfl ?_
            obtain ⟨h11, H⟩ := H
            refine ax_17 h11 dX0_lay_91 ?_
            obtain ⟨h13, H⟩ := H
            refine sx_26 h13 dX0_lay_92 ?_
            obtain ⟨σ12, e_σ12⟩ : ∃ q : St_, q = su_ σ5 26 (Int32.toNatClampNeg (σ 16 (Int32.toNatClampNeg x3))) (σ5 17 (Int32.toNatClampNeg x3)) := ⟨_, rfl⟩
            rw [← e_σ12]
            replace H := H σ12 e_σ12
            refine g_aload_n dX0_lay_93 2 rfl rfl ?_
            refine gx_Chamber_since w_235 rfl dX0_lay_94 ?_
            refine g_iload dX0_lay_97 1 rfl ?_
            refine g_iload dX0_lay_99 0 rfl ?_
            obtain ⟨h15, H⟩ := H
            refine sx_27 h15 dX0_lay_101 ?_
            obtain ⟨σ14, e_σ14⟩ : ∃ q : St_, q = su_ σ12 27 (Int32.toNatClampNeg (σ 16 (Int32.toNatClampNeg x3))) (σ 15 (Int32.toNatClampNeg x3)) := ⟨_, rfl⟩
            rw [← e_σ14]
            replace H := H σ14 e_σ14
            refine g_iinc (v := (x3 + (iI_ 1))) (L' := [(3, .int (x3 + (iI_ 1))), (5, .int (σ 15 (Int32.toNatClampNeg x3))), (4, .int (σ 16 (Int32.toNatClampNeg x3))), (0, .ref (uq_ u 20)), (1, .int x1), (2, .int x2)]) dX0_lay_102 5 rfl rfl (by decide) rfl ?_
            refine g_goto 6 dX0_lay_105 (by decide) ?_
            exact GG_.sub [3, 4, 5, 0] rfl H
set_option maxHeartbeats 4000000 in
set_option maxRecDepth 100000 in
theorem eX0_lay (u : Ux_) {P : St_ → Prop}  (σ : St_) (x1 : Int32) (x2 : Int32) (H : MMv_ (zx_ u) mX0_layAtFirst [.ref (uq_ u 20)] σ (fun σ1 => GG_ (zx_ u) mX0_lay (Pv_ P) 6 [(0, .ref (uq_ u 20)), (1, .int x1), (2, .int x2), (3, .int (iI_ 0))] [] σ1)) : MMv_ (zx_ u) mX0_lay [.ref (uq_ u 20), .int x1, .int x2] σ P := by
  refine MM_.of (L := [(0, .ref (uq_ u 20)), (1, .int x1), (2, .int x2)]) (by decide +kernel) (Nat.le_of_ble_eq_true rfl) rfl ?_
  refine g_aload_n dX0_lay_0 0 rfl rfl ?_
  refine k_X0_layAtFirst w_511 rfl ⟨Nat.le_of_ble_eq_true rfl, Nat.le_of_ble_eq_true rfl⟩ (Nat.le_of_ble_eq_true rfl) dX0_lay_1 H (fun σ1 H => ?_)
  refine g_iconst (v := (iI_ 0)) dX0_lay_4 (by decide) ?_
  refine g_istore_n (L' := [(3, .int (iI_ 0)), (0, .ref (uq_ u 20)), (1, .int x1), (2, .int x2)]) dX0_lay_5 rfl (by decide) rfl ?_
  exact GG_.sub [1, 2, 3, 0] rfl H
set_option maxHeartbeats 4000000 in
set_option maxRecDepth 100000 in
theorem eX0_raise (u : Ux_) {P : St_ → Prop}  (σ : St_) (x1 : Int32) (H : ((x1 < iI_ 0 → P σ) ∧ (¬ x1 < iI_ 0 → (((σ 3 0) ≤ x1 → P σ) ∧ (¬ (σ 3 0) ≤ x1 → vp_in x1 8 ∧ (∀ σ3, σ3 = su_ σ 26 (Int32.toNatClampNeg x1) (iI_ 0) → P σ3)))))) : MMv_ (zx_ u) mX0_raise [.ref (uq_ u 20), .int x1] σ P := by
  refine MM_.of (L := [(0, .ref (uq_ u 20)), (1, .int x1)]) (by decide +kernel) (Nat.le_of_ble_eq_true rfl) rfl ?_
  refine g_iload_n dX0_raise_0 1 rfl rfl ?_
  refine g_if_lt 22 dX0_raise_1 (by decide) (fun c1 => ?_) (fun c1 => ?_)
  · replace H := H.1 c1
    exact g_vret rfl dX0_raise_22 ⟨rfl, H⟩
  · replace H := H.2 c1
    refine g_iload_n dX0_raise_4 1 rfl rfl ?_
    refine g_aload_n dX0_raise_5 0 rfl rfl ?_
    refine gx_Chamber_roll w_225 rfl dX0_raise_6 ?_
    refine gx_Roll_n w_103 rfl dX0_raise_9 ?_
    refine g_icmp_ge 22 dX0_raise_12 (by decide) (fun c2 => ?_) (fun c2 => ?_)
    · replace H := H.1 c2
      exact g_vret rfl dX0_raise_22 ⟨rfl, H⟩
    · replace H := H.2 c2
      refine g_aload_n dX0_raise_15 0 rfl rfl ?_
      refine gx_Chamber_shelf w_233 rfl dX0_raise_16 ?_
      refine g_iload_n dX0_raise_19 1 rfl rfl ?_
      refine g_iconst (v := (iI_ 0)) dX0_raise_20 (by decide) ?_
      obtain ⟨h4, H⟩ := H
      refine sx_26 h4 dX0_raise_21 ?_
      obtain ⟨σ3, e_σ3⟩ : ∃ q : St_, q = su_ σ 26 (Int32.toNatClampNeg x1) (iI_ 0) := ⟨_, rfl⟩
      rw [← e_σ3]
      replace H := H σ3 e_σ3
      exact g_vret rfl dX0_raise_22 ⟨rfl, H⟩
set_option maxHeartbeats 4000000 in
set_option maxRecDepth 100000 in
theorem bX0_lean_2 (u : Ux_) {P : St_ → Prop} (po : Nat) (ko : Nat) (hp : Ap_ u po ko) (σ : St_) (x2 : Int32) (x3 : Int32) (H : (((iI_ 6) ≤ x3 → (∀ σ2, σ2 = su_ σ 30 0 (iI_ (-1)) → GG_ (zx_ u) mX0_lean (Pv_ P) 28 [(0, .ref (uq_ u 20)), (1, .ref (uq_ u po)), (2, .int x2), (3, .int (iI_ 0))] [] σ2)) ∧ (¬ (iI_ 6) ≤ x3 → vp_in x3 6 ∧ (∀ σ3, σ3 = su_ σ 28 (Int32.toNatClampNeg x3) (iI_ 0) → GG_ (zx_ u) mX0_lean (Pv_ P) 2 [(0, .ref (uq_ u 20)), (1, .ref (uq_ u po)), (2, .int x2), (3, .int (x3 + (iI_ 1)))] [] σ3)))) : GG_ (zx_ u) mX0_lean (Pv_ P) 2 [(0, .ref (uq_ u 20)), (1, .ref (uq_ u po)), (2, .int x2), (3, .int x3)] [] σ := by
  refine g_iload_n dX0_lean_2 3 rfl rfl ?_
  refine g_bipush (v := (iI_ 6)) dX0_lean_3 (by decide) ?_
  refine g_icmp_ge 21 dX0_lean_5 (by decide) (fun c1 => ?_) (fun c1 => ?_)
  · replace H := H.1 c1
    refine g_aload_n dX0_lean_21 0 rfl rfl ?_
    refine g_iconst (v := (iI_ (-1))) dX0_lean_22 (by decide) ?_
    refine px_Chamber_speaker w_239 rfl dX0_lean_23 ?_
    obtain ⟨σ2, e_σ2⟩ : ∃ q : St_, q = su_ σ 30 0 (iI_ (-1)) := ⟨_, rfl⟩
    rw [← e_σ2]
    replace H := H σ2 e_σ2
    refine g_iconst (v := (iI_ 0)) dX0_lean_26 (by decide) ?_
    refine g_istore_n (L' := [(3, .int (iI_ 0)), (0, .ref (uq_ u 20)), (1, .ref (uq_ u po)), (2, .int x2)]) dX0_lean_27 rfl (by decide) rfl ?_
    exact GG_.sub [1, 2, 3, 0] rfl H
  · replace H := H.2 c1
    refine g_aload_n dX0_lean_8 0 rfl rfl ?_
    refine gx_Chamber_shelfLead w_236 rfl dX0_lean_9 ?_
    refine g_iload_n dX0_lean_12 3 rfl rfl ?_
    refine g_iconst (v := (iI_ 0)) dX0_lean_13 (by decide) ?_
    obtain ⟨h4, H⟩ := H
    refine sx_28 h4 dX0_lean_14 ?_
    obtain ⟨σ3, e_σ3⟩ : ∃ q : St_, q = su_ σ 28 (Int32.toNatClampNeg x3) (iI_ 0) := ⟨_, rfl⟩
    rw [← e_σ3]
    replace H := H σ3 e_σ3
    refine g_iinc (v := (x3 + (iI_ 1))) (L' := [(3, .int (x3 + (iI_ 1))), (0, .ref (uq_ u 20)), (1, .ref (uq_ u po)), (2, .int x2)]) dX0_lean_15 3 rfl rfl (by decide) rfl ?_
    refine g_goto 2 dX0_lean_18 (by decide) ?_
    exact GG_.sub [1, 2, 3, 0] rfl H
set_option maxHeartbeats 4000000 in
set_option maxRecDepth 100000 in
theorem bX0_lean_28 (u : Ux_) {P : St_ → Prop} (po : Nat) (ko : Nat) (hp : Ap_ u po ko) (σ : St_) (x2 : Int32) (x3 : Int32) (H : (((σ 3 0) ≤ x3 → GG_ (zx_ u) mX0_lean (Pv_ P) 144 [(0, .ref (uq_ u 20)), (2, .int x2), (3, .int (iI_ 0))] [] σ) ∧ (¬ (σ 3 0) ≤ x3 → vp_in x3 8 ∧ MMi_ (zx_ u) mX9_rather [.int (σ ko (Int32.toNatClampNeg x3)), .int (σ 23 0), .int (σ 24 0)] σ (fun r4 σ3 => ((r4 = iI_ 0 → GG_ (zx_ u) mX0_lean (Pv_ P) 66 [(0, .ref (uq_ u 20)), (1, .ref (uq_ u po)), (2, .int x2), (3, .int x3)] [.int (iI_ 1), .int x3, .ref (uq_ u 24)] σ3) ∧ (¬ r4 = iI_ 0 → GG_ (zx_ u) mX0_lean (Pv_ P) 66 [(0, .ref (uq_ u 20)), (1, .ref (uq_ u po)), (2, .int x2), (3, .int x3)] [.int (iI_ 0), .int x3, .ref (uq_ u 24)] σ3)))))) : GG_ (zx_ u) mX0_lean (Pv_ P) 28 [(0, .ref (uq_ u 20)), (1, .ref (uq_ u po)), (2, .int x2), (3, .int x3)] [] σ := by
  refine g_iload_n dX0_lean_28 3 rfl rfl ?_
  refine g_aload_n dX0_lean_29 0 rfl rfl ?_
  refine gx_Chamber_roll w_225 rfl dX0_lean_30 ?_
  refine gx_Roll_n w_103 rfl dX0_lean_33 ?_
  refine g_icmp_ge 142 dX0_lean_36 (by decide) (fun c1 => ?_) (fun c1 => ?_)
  · replace H := H.1 c1
    refine g_iconst (v := (iI_ 0)) dX0_lean_142 (by decide) ?_
    refine g_istore_n (L' := [(3, .int (iI_ 0)), (0, .ref (uq_ u 20)), (1, .ref (uq_ u po)), (2, .int x2)]) dX0_lean_143 rfl (by decide) rfl ?_
    exact GG_.sub [1, 3, 0] rfl H
  · replace H := H.2 c1
    refine g_aload_n dX0_lean_39 0 rfl rfl ?_
    refine gx_Chamber_vote w_237 rfl dX0_lean_40 ?_
    refine g_iload_n dX0_lean_43 3 rfl rfl ?_
    refine g_aload_n dX0_lean_44 1 rfl rfl ?_
    refine g_iload_n dX0_lean_45 3 rfl rfl ?_
    obtain ⟨h2, H⟩ := H
    refine ax_p hp h2 dX0_lean_46 ?_
    refine g_aload_n dX0_lean_47 0 rfl rfl ?_
    refine gx_Chamber_first w_228 rfl dX0_lean_48 ?_
    refine g_aload_n dX0_lean_51 0 rfl rfl ?_
    refine gx_Chamber_other w_230 rfl dX0_lean_52 ?_
    refine k_X9_ratherN (List.mem_of_getElem? (i := 1) rfl) rfl ⟨Nat.le_of_ble_eq_true rfl, Nat.le_of_ble_eq_true rfl⟩ (Nat.le_of_ble_eq_true rfl) dX0_lean_55 H (fun r4 σ3 H => ?_)
    refine g_if_eq 65 dX0_lean_58 (by decide) (fun c5 => ?_) (fun c5 => ?_)
    · replace H := H.1 c5
      refine g_iconst (v := (iI_ 1)) dX0_lean_65 (by decide) ?_
      exact GG_.sub [0, 1, 2, 3] rfl H
    · replace H := H.2 c5
      refine g_iconst (v := (iI_ 0)) dX0_lean_61 (by decide) ?_
      refine g_goto 66 dX0_lean_62 (by decide) ?_
      exact GG_.sub [0, 1, 2, 3] rfl H
set_option maxHeartbeats 4000000 in
set_option maxRecDepth 100000 in
theorem bX0_lean_66 (u : Ux_) {P : St_ → Prop} (po : Nat) (ko : Nat) (hp : Ap_ u po ko) (σ : St_) (x2 : Int32) (x3 : Int32) (y0 : Int32) (y1 : Int32) (H : vp_in y1 8 ∧ (∀ σ1, σ1 = su_ σ 29 (Int32.toNatClampNeg y1) y0 → vp_in x3 8 ∧ MMi_ (zx_ u) mX9_within [.int (σ1 26 (Int32.toNatClampNeg x3)), .int (iI_ 6)] σ1 (fun r5 σ4 => ((r5 = iI_ 0 → (((σ4 30 0) = (iI_ (-1)) → (∀ σ8, σ8 = su_ σ4 30 0 x3 → GG_ (zx_ u) mX0_lean (Pv_ P) 28 [(0, .ref (uq_ u 20)), (1, .ref (uq_ u po)), (2, .int x2), (3, .int (x3 + (iI_ 1)))] [] σ8)) ∧ (¬ (σ4 30 0) = (iI_ (-1)) → vp_in x3 8 ∧ vp_in (σ4 30 0) 8 ∧ (((σ4 26 (Int32.toNatClampNeg (σ4 30 0))) ≤ (σ4 26 (Int32.toNatClampNeg x3)) → GG_ (zx_ u) mX0_lean (Pv_ P) 28 [(0, .ref (uq_ u 20)), (1, .ref (uq_ u po)), (2, .int x2), (3, .int (x3 + (iI_ 1)))] [] σ4) ∧ (¬ (σ4 26 (Int32.toNatClampNeg (σ4 30 0))) ≤ (σ4 26 (Int32.toNatClampNeg x3)) → (∀ σ12, σ12 = su_ σ4 30 0 x3 → GG_ (zx_ u) mX0_lean (Pv_ P) 28 [(0, .ref (uq_ u 20)), (1, .ref (uq_ u po)), (2, .int x2), (3, .int (x3 + (iI_ 1)))] [] σ12)))))) ∧ (¬ r5 = iI_ 0 → vp_in x3 8 ∧ vp_in (σ4 26 (Int32.toNatClampNeg x3)) 6 ∧ vp_in x3 8 ∧ vp_in (σ4 26 (Int32.toNatClampNeg x3)) 6 ∧ (∀ σ16, σ16 = su_ σ4 28 (Int32.toNatClampNeg (σ4 26 (Int32.toNatClampNeg x3))) ((σ4 28 (Int32.toNatClampNeg (σ4 26 (Int32.toNatClampNeg x3)))) + ((iI_ 1) - ((iI_ 2) * (σ4 29 (Int32.toNatClampNeg x3))))) → (((σ16 30 0) = (iI_ (-1)) → (∀ σ19, σ19 = su_ σ16 30 0 x3 → GG_ (zx_ u) mX0_lean (Pv_ P) 28 [(0, .ref (uq_ u 20)), (1, .ref (uq_ u po)), (2, .int x2), (3, .int (x3 + (iI_ 1)))] [] σ19)) ∧ (¬ (σ16 30 0) = (iI_ (-1)) → vp_in x3 8 ∧ vp_in (σ16 30 0) 8 ∧ (((σ16 26 (Int32.toNatClampNeg (σ16 30 0))) ≤ (σ16 26 (Int32.toNatClampNeg x3)) → GG_ (zx_ u) mX0_lean (Pv_ P) 28 [(0, .ref (uq_ u 20)), (1, .ref (uq_ u po)), (2, .int x2), (3, .int (x3 + (iI_ 1)))] [] σ16) ∧ (¬ (σ16 26 (Int32.toNatClampNeg (σ16 30 0))) ≤ (σ16 26 (Int32.toNatClampNeg x3)) → (∀ σ23, σ23 = su_ σ16 30 0 x3 → GG_ (zx_ u) mX0_lean (Pv_ P) 28 [(0, .ref (uq_ u 20)), (1, .ref (uq_ u po)), (2, .int x2), (3, .int (x3 + (iI_ 1)))] [] σ23))))))))))) : GG_ (zx_ u) mX0_lean (Pv_ P) 66 [(0, .ref (uq_ u 20)), (1, .ref (uq_ u po)), (2, .int x2), (3, .int x3)] [.int y0, .int y1, .ref (uq_ u 24)] σ := by
  obtain ⟨h2, H⟩ := H
  refine sx_29 h2 dX0_lean_66 ?_
  obtain ⟨σ1, e_σ1⟩ : ∃ q : St_, q = su_ σ 29 (Int32.toNatClampNeg y1) y0 := ⟨_, rfl⟩
  rw [← e_σ1]
  replace H := H σ1 e_σ1
  refine g_aload_n dX0_lean_67 0 rfl rfl ?_
  refine gx_Chamber_shelf w_233 rfl dX0_lean_68 ?_
  refine g_iload_n dX0_lean_71 3 rfl rfl ?_
  obtain ⟨h3, H⟩ := H
  refine ax_26 h3 dX0_lean_72 ?_
  refine g_bipush (v := (iI_ 6)) dX0_lean_73 (by decide) ?_
  refine k_X9_withinN (List.mem_of_getElem? (i := 0) rfl) rfl ⟨Nat.le_of_ble_eq_true rfl, Nat.le_of_ble_eq_true rfl⟩ (Nat.le_of_ble_eq_true rfl) dX0_lean_75 H (fun r5 σ4 H => ?_)
  refine g_if_eq 105 dX0_lean_78 (by decide) (fun c6 => ?_) (fun c6 => ?_)
  · replace H := H.1 c6
    refine g_aload_n dX0_lean_105 0 rfl rfl ?_
    refine gx_Chamber_speaker w_239 rfl dX0_lean_106 ?_
    refine g_iconst (v := (iI_ (-1))) dX0_lean_109 (by decide) ?_
    refine g_icmp_eq 131 dX0_lean_110 (by decide) (fun c7 => ?_) (fun c7 => ?_)
    · replace H := H.1 c7
      refine g_aload_n dX0_lean_131 0 rfl rfl ?_
      refine g_iload_n dX0_lean_132 3 rfl rfl ?_
      refine px_Chamber_speaker w_239 rfl dX0_lean_133 ?_
      obtain ⟨σ8, e_σ8⟩ : ∃ q : St_, q = su_ σ4 30 0 x3 := ⟨_, rfl⟩
      rw [← e_σ8]
      replace H := H σ8 e_σ8
      refine g_iinc (v := (x3 + (iI_ 1))) (L' := [(3, .int (x3 + (iI_ 1))), (0, .ref (uq_ u 20)), (1, .ref (uq_ u po)), (2, .int x2)]) dX0_lean_136 3 rfl rfl (by decide) rfl ?_
      refine g_goto 28 dX0_lean_139 (by decide) ?_
      exact GG_.sub [1, 2, 3, 0] rfl H
    · replace H := H.2 c7
      refine g_aload_n dX0_lean_113 0 rfl rfl ?_
      refine gx_Chamber_shelf w_233 rfl dX0_lean_114 ?_
      refine g_iload_n dX0_lean_117 3 rfl rfl ?_
      obtain ⟨h9, H⟩ := H
      refine ax_26 h9 dX0_lean_118 ?_
      refine g_aload_n dX0_lean_119 0 rfl rfl ?_
      refine gx_Chamber_shelf w_233 rfl dX0_lean_120 ?_
      refine g_aload_n dX0_lean_123 0 rfl rfl ?_
      refine gx_Chamber_speaker w_239 rfl dX0_lean_124 ?_
      obtain ⟨h10, H⟩ := H
      refine ax_26 h10 dX0_lean_127 ?_
      refine g_icmp_ge 136 dX0_lean_128 (by decide) (fun c11 => ?_) (fun c11 => ?_)
      · replace H := H.1 c11
        refine g_iinc (v := (x3 + (iI_ 1))) (L' := [(3, .int (x3 + (iI_ 1))), (0, .ref (uq_ u 20)), (1, .ref (uq_ u po)), (2, .int x2)]) dX0_lean_136 3 rfl rfl (by decide) rfl ?_
        refine g_goto 28 dX0_lean_139 (by decide) ?_
        exact GG_.sub [1, 2, 3, 0] rfl H
      · replace H := H.2 c11
        refine g_aload_n dX0_lean_131 0 rfl rfl ?_
        refine g_iload_n dX0_lean_132 3 rfl rfl ?_
        refine px_Chamber_speaker w_239 rfl dX0_lean_133 ?_
        obtain ⟨σ12, e_σ12⟩ : ∃ q : St_, q = su_ σ4 30 0 x3 := ⟨_, rfl⟩
        rw [← e_σ12]
        replace H := H σ12 e_σ12
        refine g_iinc (v := (x3 + (iI_ 1))) (L' := [(3, .int (x3 + (iI_ 1))), (0, .ref (uq_ u 20)), (1, .ref (uq_ u po)), (2, .int x2)]) dX0_lean_136 3 rfl rfl (by decide) rfl ?_
        refine g_goto 28 dX0_lean_139 (by decide) ?_
        exact GG_.sub [1, 2, 3, 0] rfl H
  · replace H := H.2 c6
    refine g_aload_n dX0_lean_81 0 rfl rfl ?_
    refine gx_Chamber_shelfLead w_236 rfl dX0_lean_82 ?_
    refine g_aload_n dX0_lean_85 0 rfl rfl ?_
    refine gx_Chamber_shelf w_233 rfl dX0_lean_86 ?_
    refine g_iload_n dX0_lean_89 3 rfl rfl ?_
    obtain ⟨h13, H⟩ := H
    refine ax_26 h13 dX0_lean_90 ?_
    refine g_dup2 dX0_lean_91 rfl rfl ?_
    obtain ⟨h14, H⟩ := H
    refine ax_28 h14 dX0_lean_92 ?_
    refine g_iconst (v := (iI_ 1)) dX0_lean_93 (by decide) ?_
    refine g_iconst (v := (iI_ 2)) dX0_lean_94 (by decide) ?_
    refine g_aload_n dX0_lean_95 0 rfl rfl ?_
    refine gx_Chamber_vote w_237 rfl dX0_lean_96 ?_
    refine g_iload_n dX0_lean_99 3 rfl rfl ?_
    obtain ⟨h15, H⟩ := H
    refine ax_29 h15 dX0_lean_100 ?_
    refine g_imul dX0_lean_101 ?_
    refine g_isub dX0_lean_102 ?_
    refine g_iadd dX0_lean_103 ?_
    obtain ⟨h17, H⟩ := H
    refine sx_28 h17 dX0_lean_104 ?_
    obtain ⟨σ16, e_σ16⟩ : ∃ q : St_, q = su_ σ4 28 (Int32.toNatClampNeg (σ4 26 (Int32.toNatClampNeg x3))) ((σ4 28 (Int32.toNatClampNeg (σ4 26 (Int32.toNatClampNeg x3)))) + ((iI_ 1) - ((iI_ 2) * (σ4 29 (Int32.toNatClampNeg x3))))) := ⟨_, rfl⟩
    rw [← e_σ16]
    replace H := H σ16 e_σ16
    refine g_aload_n dX0_lean_105 0 rfl rfl ?_
    refine gx_Chamber_speaker w_239 rfl dX0_lean_106 ?_
    refine g_iconst (v := (iI_ (-1))) dX0_lean_109 (by decide) ?_
    refine g_icmp_eq 131 dX0_lean_110 (by decide) (fun c18 => ?_) (fun c18 => ?_)
    · replace H := H.1 c18
      refine g_aload_n dX0_lean_131 0 rfl rfl ?_
      refine g_iload_n dX0_lean_132 3 rfl rfl ?_
      refine px_Chamber_speaker w_239 rfl dX0_lean_133 ?_
      obtain ⟨σ19, e_σ19⟩ : ∃ q : St_, q = su_ σ16 30 0 x3 := ⟨_, rfl⟩
      rw [← e_σ19]
      replace H := H σ19 e_σ19
      refine g_iinc (v := (x3 + (iI_ 1))) (L' := [(3, .int (x3 + (iI_ 1))), (0, .ref (uq_ u 20)), (1, .ref (uq_ u po)), (2, .int x2)]) dX0_lean_136 3 rfl rfl (by decide) rfl ?_
      refine g_goto 28 dX0_lean_139 (by decide) ?_
      exact GG_.sub [1, 2, 3, 0] rfl H
    · replace H := H.2 c18
      refine g_aload_n dX0_lean_113 0 rfl rfl ?_
      refine gx_Chamber_shelf w_233 rfl dX0_lean_114 ?_
      refine g_iload_n dX0_lean_117 3 rfl rfl ?_
      obtain ⟨h20, H⟩ := H
      refine ax_26 h20 dX0_lean_118 ?_
      refine g_aload_n dX0_lean_119 0 rfl rfl ?_
      refine gx_Chamber_shelf w_233 rfl dX0_lean_120 ?_
      refine g_aload_n dX0_lean_123 0 rfl rfl ?_
      refine gx_Chamber_speaker w_239 rfl dX0_lean_124 ?_
      obtain ⟨h21, H⟩ := H
      refine ax_26 h21 dX0_lean_127 ?_
      refine g_icmp_ge 136 dX0_lean_128 (by decide) (fun c22 => ?_) (fun c22 => ?_)
      · replace H := H.1 c22
        refine g_iinc (v := (x3 + (iI_ 1))) (L' := [(3, .int (x3 + (iI_ 1))), (0, .ref (uq_ u 20)), (1, .ref (uq_ u po)), (2, .int x2)]) dX0_lean_136 3 rfl rfl (by decide) rfl ?_
        refine g_goto 28 dX0_lean_139 (by decide) ?_
        exact GG_.sub [1, 2, 3, 0] rfl H
      · replace H := H.2 c22
        refine g_aload_n dX0_lean_131 0 rfl rfl ?_
        refine g_iload_n dX0_lean_132 3 rfl rfl ?_
        refine px_Chamber_speaker w_239 rfl dX0_lean_133 ?_
        obtain ⟨σ23, e_σ23⟩ : ∃ q : St_, q = su_ σ16 30 0 x3 := ⟨_, rfl⟩
        rw [← e_σ23]
        replace H := H σ23 e_σ23
        refine g_iinc (v := (x3 + (iI_ 1))) (L' := [(3, .int (x3 + (iI_ 1))), (0, .ref (uq_ u 20)), (1, .ref (uq_ u po)), (2, .int x2)]) dX0_lean_136 3 rfl rfl (by decide) rfl ?_
        refine g_goto 28 dX0_lean_139 (by decide) ?_
        exact GG_.sub [1, 2, 3, 0] rfl H
set_option maxHeartbeats 4000000 in
set_option maxRecDepth 100000 in
theorem bX0_lean_144 (u : Ux_) {P : St_ → Prop} (po : Nat) (ko : Nat) (hp : Ap_ u po ko) (σ : St_) (x2 : Int32) (x3 : Int32) (H : (((σ 3 0) ≤ x3 → P σ) ∧ (¬ (σ 3 0) ≤ x3 → vp_in x3 8 ∧ MMi_ (zx_ u) mX9_within [.int (σ 26 (Int32.toNatClampNeg x3)), .int (iI_ 6)] σ (fun r4 σ3 => ((r4 = iI_ 0 → vp_in x3 8 ∧ MMi_ (zx_ u) mX9_warmth [.int (σ3 26 (Int32.toNatClampNeg x3)), .int x2] σ3 (fun r8 σ7 => (((iI_ 2) ≤ r8 → GG_ (zx_ u) mX0_lean (Pv_ P) 144 [(0, .ref (uq_ u 20)), (2, .int x2), (3, .int (x3 + (iI_ 1)))] [] σ7) ∧ (¬ (iI_ 2) ≤ r8 → GG_ (zx_ u) mX0_lean (Pv_ P) 144 [(0, .ref (uq_ u 20)), (2, .int x2), (3, .int (x3 + (iI_ 1)))] [] σ7)))) ∧ (¬ r4 = iI_ 0 → vp_in x3 8 ∧ vp_in (σ3 26 (Int32.toNatClampNeg x3)) 6 ∧ vp_in x3 8 ∧ MMi_ (zx_ u) mX9_warmth [.int (σ3 26 (Int32.toNatClampNeg x3)), .int x2] σ3 (fun r15 σ14 => (((iI_ 2) ≤ r15 → GG_ (zx_ u) mX0_lean (Pv_ P) 144 [(0, .ref (uq_ u 20)), (2, .int x2), (3, .int (x3 + (iI_ 1)))] [] σ14) ∧ (¬ (iI_ 2) ≤ r15 → (((σ3 28 (Int32.toNatClampNeg (σ3 26 (Int32.toNatClampNeg x3)))) = iI_ 0 → GG_ (zx_ u) mX0_lean (Pv_ P) 144 [(0, .ref (uq_ u 20)), (2, .int x2), (3, .int (x3 + (iI_ 1)))] [] σ14) ∧ (¬ (σ3 28 (Int32.toNatClampNeg (σ3 26 (Int32.toNatClampNeg x3)))) = iI_ 0 → (((σ3 28 (Int32.toNatClampNeg (σ3 26 (Int32.toNatClampNeg x3)))) ≤ iI_ 0 → vp_in x3 8 ∧ (∀ σ19, σ19 = su_ σ14 29 (Int32.toNatClampNeg x3) (iI_ 1) → GG_ (zx_ u) mX0_lean (Pv_ P) 144 [(0, .ref (uq_ u 20)), (2, .int x2), (3, .int (x3 + (iI_ 1)))] [] σ19)) ∧ (¬ (σ3 28 (Int32.toNatClampNeg (σ3 26 (Int32.toNatClampNeg x3)))) ≤ iI_ 0 → vp_in x3 8 ∧ (∀ σ21, σ21 = su_ σ14 29 (Int32.toNatClampNeg x3) (iI_ 0) → GG_ (zx_ u) mX0_lean (Pv_ P) 144 [(0, .ref (uq_ u 20)), (2, .int x2), (3, .int (x3 + (iI_ 1)))] [] σ21)))))))))))))) : GG_ (zx_ u) mX0_lean (Pv_ P) 144 [(0, .ref (uq_ u 20)), (2, .int x2), (3, .int x3)] [] σ := by
  refine g_iload_n dX0_lean_144 2 rfl rfl ?_
  refine g_aload_n dX0_lean_145 0 rfl rfl ?_
  refine gx_Chamber_roll w_225 rfl dX0_lean_146 ?_
  refine gx_Roll_n w_103 rfl dX0_lean_149 ?_
  refine g_icmp_ge 227 dX0_lean_152 (by decide) (fun c1 => ?_) (fun c1 => ?_)
  · replace H := H.1 c1
    exact g_vret rfl dX0_lean_227 ⟨rfl, H⟩
  · replace H := H.2 c1
    refine g_aload_n dX0_lean_155 0 rfl rfl ?_
    refine gx_Chamber_shelf w_233 rfl dX0_lean_156 ?_
    refine g_iload_n dX0_lean_159 2 rfl rfl ?_
    obtain ⟨h2, H⟩ := H
    refine ax_26 h2 dX0_lean_160 ?_
    refine g_bipush (v := (iI_ 6)) dX0_lean_161 (by decide) ?_
    refine k_X9_withinN (List.mem_of_getElem? (i := 0) rfl) rfl ⟨Nat.le_of_ble_eq_true rfl, Nat.le_of_ble_eq_true rfl⟩ (Nat.le_of_ble_eq_true rfl) dX0_lean_163 H (fun r4 σ3 H => ?_)
    refine g_if_eq 183 dX0_lean_166 (by decide) (fun c5 => ?_) (fun c5 => ?_)
    · replace H := H.1 c5
      refine g_iconst (v := (iI_ 0)) dX0_lean_183 (by decide) ?_
      refine g_istore (L' := [(4, .int (iI_ 0)), (0, .ref (uq_ u 20)), (2, .int x2), (3, .int x3)]) dX0_lean_184 (by decide) rfl ?_
      refine g_aload_n dX0_lean_186 1 rfl rfl ?_
      refine gx_Chamber_shelf w_233 rfl dX0_lean_187 ?_
      refine g_iload_n dX0_lean_190 3 rfl rfl ?_
      obtain ⟨h6, H⟩ := H
      refine ax_26 h6 dX0_lean_191 ?_
      refine g_iload_n dX0_lean_192 2 rfl rfl ?_
      refine k_X9_warmthN (List.mem_of_getElem? (i := 2) rfl) rfl ⟨Nat.le_of_ble_eq_true rfl, Nat.le_of_ble_eq_true rfl⟩ (Nat.le_of_ble_eq_true rfl) dX0_lean_193 H (fun r8 σ7 H => ?_)
      refine g_iconst (v := (iI_ 2)) dX0_lean_196 (by decide) ?_
      refine g_icmp_ge 221 dX0_lean_197 (by decide) (fun c9 => ?_) (fun c9 => ?_)
      · replace H := H.1 c9
        refine g_iinc (v := (x3 + (iI_ 1))) (L' := [(3, .int (x3 + (iI_ 1))), (4, .int (iI_ 0)), (0, .ref (uq_ u 20)), (2, .int x2)]) dX0_lean_221 3 rfl rfl (by decide) rfl ?_
        refine g_goto 144 dX0_lean_224 (by decide) ?_
        exact GG_.sub [2, 3, 0] rfl H
      · replace H := H.2 c9
        refine g_iload dX0_lean_200 0 rfl ?_
        refine g_if_eq 221 dX0_lean_202 (by decide) (fun c10 => ?_) (fun c10 => ?_)
        · skip
          refine g_iinc (v := (x3 + (iI_ 1))) (L' := [(3, .int (x3 + (iI_ 1))), (4, .int (iI_ 0)), (0, .ref (uq_ u 20)), (2, .int x2)]) dX0_lean_221 3 rfl rfl (by decide) rfl ?_
          refine g_goto 144 dX0_lean_224 (by decide) ?_
          exact GG_.sub [2, 3, 0] rfl H
        · first | exact absurd c10 (by decide) | exact absurd (by decide) c10
    · replace H := H.2 c5
      refine g_aload_n dX0_lean_169 0 rfl rfl ?_
      refine gx_Chamber_shelfLead w_236 rfl dX0_lean_170 ?_
      refine g_aload_n dX0_lean_173 0 rfl rfl ?_
      refine gx_Chamber_shelf w_233 rfl dX0_lean_174 ?_
      refine g_iload_n dX0_lean_177 2 rfl rfl ?_
      obtain ⟨h11, H⟩ := H
      refine ax_26 h11 dX0_lean_178 ?_
      obtain ⟨h12, H⟩ := H
      refine ax_28 h12 dX0_lean_179 ?_
      refine g_goto 184 dX0_lean_180 (by decide) ?_
      refine g_istore (L' := [(4, .int (σ3 28 (Int32.toNatClampNeg (σ3 26 (Int32.toNatClampNeg x3))))), (0, .ref (uq_ u 20)), (2, .int x2), (3, .int x3)]) dX0_lean_184 (by decide) rfl ?_
      refine g_aload_n dX0_lean_186 1 rfl rfl ?_
      refine gx_Chamber_shelf w_233 rfl dX0_lean_187 ?_
      refine g_iload_n dX0_lean_190 3 rfl rfl ?_
      obtain ⟨h13, H⟩ := H
      refine ax_26 h13 dX0_lean_191 ?_
      refine g_iload_n dX0_lean_192 2 rfl rfl ?_
      refine k_X9_warmthN (List.mem_of_getElem? (i := 2) rfl) rfl ⟨Nat.le_of_ble_eq_true rfl, Nat.le_of_ble_eq_true rfl⟩ (Nat.le_of_ble_eq_true rfl) dX0_lean_193 H (fun r15 σ14 H => ?_)
      refine g_iconst (v := (iI_ 2)) dX0_lean_196 (by decide) ?_
      refine g_icmp_ge 221 dX0_lean_197 (by decide) (fun c16 => ?_) (fun c16 => ?_)
      · replace H := H.1 c16
        refine g_iinc (v := (x3 + (iI_ 1))) (L' := [(3, .int (x3 + (iI_ 1))), (4, .int (σ3 28 (Int32.toNatClampNeg (σ3 26 (Int32.toNatClampNeg x3))))), (0, .ref (uq_ u 20)), (2, .int x2)]) dX0_lean_221 3 rfl rfl (by decide) rfl ?_
        refine g_goto 144 dX0_lean_224 (by decide) ?_
        exact GG_.sub [2, 3, 0] rfl H
      · replace H := H.2 c16
        refine g_iload dX0_lean_200 0 rfl ?_
        refine g_if_eq 221 dX0_lean_202 (by decide) (fun c17 => ?_) (fun c17 => ?_)
        · replace H := H.1 c17
          refine g_iinc (v := (x3 + (iI_ 1))) (L' := [(3, .int (x3 + (iI_ 1))), (4, .int (σ3 28 (Int32.toNatClampNeg (σ3 26 (Int32.toNatClampNeg x3))))), (0, .ref (uq_ u 20)), (2, .int x2)]) dX0_lean_221 3 rfl rfl (by decide) rfl ?_
          refine g_goto 144 dX0_lean_224 (by decide) ?_
          exact GG_.sub [2, 3, 0] rfl H
        · replace H := H.2 c17
          refine g_aload_n dX0_lean_205 1 rfl rfl ?_
          refine gx_Chamber_vote w_237 rfl dX0_lean_206 ?_
          refine g_iload_n dX0_lean_209 3 rfl rfl ?_
          refine g_iload dX0_lean_210 0 rfl ?_
          refine g_if_le 219 dX0_lean_212 (by decide) (fun c18 => ?_) (fun c18 => ?_)
          · replace H := H.1 c18
            refine g_iconst (v := (iI_ 1)) dX0_lean_219 (by decide) ?_
            obtain ⟨h20, H⟩ := H
            refine sx_29 h20 dX0_lean_220 ?_
            obtain ⟨σ19, e_σ19⟩ : ∃ q : St_, q = su_ σ14 29 (Int32.toNatClampNeg x3) (iI_ 1) := ⟨_, rfl⟩
            rw [← e_σ19]
            replace H := H σ19 e_σ19
            refine g_iinc (v := (x3 + (iI_ 1))) (L' := [(3, .int (x3 + (iI_ 1))), (4, .int (σ3 28 (Int32.toNatClampNeg (σ3 26 (Int32.toNatClampNeg x3))))), (0, .ref (uq_ u 20)), (2, .int x2)]) dX0_lean_221 3 rfl rfl (by decide) rfl ?_
            refine g_goto 144 dX0_lean_224 (by decide) ?_
            exact GG_.sub [2, 3, 0] rfl H
          · replace H := H.2 c18
            refine g_iconst (v := (iI_ 0)) dX0_lean_215 (by decide) ?_
            refine g_goto 220 dX0_lean_216 (by decide) ?_
            obtain ⟨h22, H⟩ := H
            refine sx_29 h22 dX0_lean_220 ?_
            obtain ⟨σ21, e_σ21⟩ : ∃ q : St_, q = su_ σ14 29 (Int32.toNatClampNeg x3) (iI_ 0) := ⟨_, rfl⟩
            rw [← e_σ21]
            replace H := H σ21 e_σ21
            refine g_iinc (v := (x3 + (iI_ 1))) (L' := [(3, .int (x3 + (iI_ 1))), (4, .int (σ3 28 (Int32.toNatClampNeg (σ3 26 (Int32.toNatClampNeg x3))))), (0, .ref (uq_ u 20)), (2, .int x2)]) dX0_lean_221 3 rfl rfl (by decide) rfl ?_
            refine g_goto 144 dX0_lean_224 (by decide) ?_
            exact GG_.sub [2, 3, 0] rfl H
set_option maxHeartbeats 4000000 in
set_option maxRecDepth 100000 in
theorem eX0_lean (u : Ux_) {P : St_ → Prop} (po : Nat) (ko : Nat) (hp : Ap_ u po ko) (σ : St_) (x2 : Int32) (H : GG_ (zx_ u) mX0_lean (Pv_ P) 2 [(0, .ref (uq_ u 20)), (1, .ref (uq_ u po)), (2, .int x2), (3, .int (iI_ 0))] [] σ) : MMv_ (zx_ u) mX0_lean [.ref (uq_ u 20), .ref (uq_ u po), .int x2] σ P := by
  refine MM_.of (L := [(0, .ref (uq_ u 20)), (1, .ref (uq_ u po)), (2, .int x2)]) (by decide +kernel) (Nat.le_of_ble_eq_true rfl) rfl ?_
  refine g_iconst (v := (iI_ 0)) dX0_lean_0 (by decide) ?_
  refine g_istore_n (L' := [(3, .int (iI_ 0)), (0, .ref (uq_ u 20)), (1, .ref (uq_ u po)), (2, .int x2)]) dX0_lean_1 rfl (by decide) rfl ?_
  exact GG_.sub [1, 2, 3, 0] rfl H
set_option maxHeartbeats 4000000 in
set_option maxRecDepth 100000 in
theorem bX0_tally_12 (u : Ux_) {P : Int32 → St_ → Prop}  (σ : St_) (x1 : Int32) (H : (((σ 3 0) ≤ x1 → ((¬ (σ 32 0) = iI_ 0 → (((σ 32 0) ≤ iI_ 0 → P (σ 24 0) σ) ∧ (¬ (σ 32 0) ≤ iI_ 0 → P (σ 23 0) σ))) ∧ ((σ 32 0) = iI_ 0 → (((σ 30 0) < iI_ 0 → (((σ 32 0) ≤ iI_ 0 → P (σ 24 0) σ) ∧ (¬ (σ 32 0) ≤ iI_ 0 → P (σ 23 0) σ))) ∧ (¬ (σ 30 0) < iI_ 0 → MMi_ (zx_ u) mX0_votesFor [.ref (uq_ u 20), .int (σ 30 0)] σ (fun r7 σ6 => P r7 σ6)))))) ∧ (¬ (σ 3 0) ≤ x1 → (((σ 25 0) = iI_ 0 → GG_ (zx_ u) mX0_tally (Pi_ P) 42 [(0, .ref (uq_ u 20)), (1, .int x1)] [.int (iI_ 1)] σ) ∧ (¬ (σ 25 0) = iI_ 0 → MMi_ (zx_ u) mX4_weightOf [.ref (uq_ u 2), .int x1] σ (fun r10 σ9 => GG_ (zx_ u) mX0_tally (Pi_ P) 42 [(0, .ref (uq_ u 20)), (1, .int x1)] [.int r10] σ9)))))) : GG_ (zx_ u) mX0_tally (Pi_ P) 12 [(0, .ref (uq_ u 20)), (1, .int x1)] [] σ := by
  refine g_iload_n dX0_tally_12 1 rfl rfl ?_
  refine g_aload_n dX0_tally_13 0 rfl rfl ?_
  refine gx_Chamber_roll w_225 rfl dX0_tally_14 ?_
  refine gx_Roll_n w_103 rfl dX0_tally_17 ?_
  refine g_icmp_ge 90 dX0_tally_20 (by decide) (fun c1 => ?_) (fun c1 => ?_)
  · replace H := H.1 c1
    refine g_aload_n dX0_tally_90 0 rfl rfl ?_
    refine gx_Chamber_lead w_243 rfl dX0_tally_91 ?_
    refine g_if_ne 113 dX0_tally_94 (by decide) (fun c2 => ?_) (fun c2 => ?_)
    · replace H := H.1 c2
      refine g_aload_n dX0_tally_113 0 rfl rfl ?_
      refine gx_Chamber_lead w_243 rfl dX0_tally_114 ?_
      refine g_if_le 127 dX0_tally_117 (by decide) (fun c3 => ?_) (fun c3 => ?_)
      · replace H := H.1 c3
        refine g_aload_n dX0_tally_127 0 rfl rfl ?_
        refine gx_Chamber_other w_230 rfl dX0_tally_128 ?_
        exact g_iret rfl dX0_tally_131 ⟨_, rfl, H⟩
      · replace H := H.2 c3
        refine g_aload_n dX0_tally_120 0 rfl rfl ?_
        refine gx_Chamber_first w_228 rfl dX0_tally_121 ?_
        refine g_goto 131 dX0_tally_124 (by decide) ?_
        exact g_iret rfl dX0_tally_131 ⟨_, rfl, H⟩
    · replace H := H.2 c2
      refine g_aload_n dX0_tally_97 0 rfl rfl ?_
      refine gx_Chamber_speaker w_239 rfl dX0_tally_98 ?_
      refine g_if_lt 113 dX0_tally_101 (by decide) (fun c4 => ?_) (fun c4 => ?_)
      · replace H := H.1 c4
        refine g_aload_n dX0_tally_113 0 rfl rfl ?_
        refine gx_Chamber_lead w_243 rfl dX0_tally_114 ?_
        refine g_if_le 127 dX0_tally_117 (by decide) (fun c5 => ?_) (fun c5 => ?_)
        · replace H := H.1 c5
          refine g_aload_n dX0_tally_127 0 rfl rfl ?_
          refine gx_Chamber_other w_230 rfl dX0_tally_128 ?_
          exact g_iret rfl dX0_tally_131 ⟨_, rfl, H⟩
        · replace H := H.2 c5
          refine g_aload_n dX0_tally_120 0 rfl rfl ?_
          refine gx_Chamber_first w_228 rfl dX0_tally_121 ?_
          refine g_goto 131 dX0_tally_124 (by decide) ?_
          exact g_iret rfl dX0_tally_131 ⟨_, rfl, H⟩
      · replace H := H.2 c4
        refine g_aload_n dX0_tally_104 0 rfl rfl ?_
        refine g_aload_n dX0_tally_105 0 rfl rfl ?_
        refine gx_Chamber_speaker w_239 rfl dX0_tally_106 ?_
        refine k_X0_votesFor w_535 rfl ⟨Nat.le_of_ble_eq_true rfl, Nat.le_of_ble_eq_true rfl⟩ (Nat.le_of_ble_eq_true rfl) dX0_tally_109 H (fun r7 σ6 H => ?_)
        exact g_iret rfl dX0_tally_112 ⟨_, rfl, H⟩
  · replace H := H.2 c1
    refine g_aload_n dX0_tally_23 0 rfl rfl ?_
    refine gx_Chamber_byWeight w_232 rfl dX0_tally_24 ?_
    refine g_if_eq 41 dX0_tally_27 (by decide) (fun c8 => ?_) (fun c8 => ?_)
    · replace H := H.1 c8
      refine g_iconst (v := (iI_ 1)) dX0_tally_41 (by decide) ?_
      exact GG_.sub [0, 1] rfl H
    · replace H := H.2 c8
      refine g_aload_n dX0_tally_30 0 rfl rfl ?_
      refine gx_Chamber_roll w_225 rfl dX0_tally_31 ?_
      refine g_iload_n dX0_tally_34 1 rfl rfl ?_
      refine k_X4_weightOf w_531 rfl ⟨Nat.le_of_ble_eq_true rfl, Nat.le_of_ble_eq_true rfl⟩ (Nat.le_of_ble_eq_true rfl) dX0_tally_35 H (fun r10 σ9 H => ?_)
      refine g_goto 42 dX0_tally_38 (by decide) ?_
      exact GG_.sub [0, 1] rfl H
set_option maxHeartbeats 4000000 in
set_option maxRecDepth 100000 in
theorem bX0_tally_42 (u : Ux_) {P : Int32 → St_ → Prop}  (σ : St_) (x1 : Int32) (y0 : Int32) (H : vp_in x1 8 ∧ (∀ σ2, σ2 = su_ σ 31 0 ((σ 31 0) + ((iI_ 1) - (σ 29 (Int32.toNatClampNeg x1)))) → vp_in x1 8 ∧ ((¬ (σ2 29 (Int32.toNatClampNeg x1)) = iI_ 0 → (∀ σ5, σ5 = su_ σ2 32 0 ((σ2 32 0) + (iI_ 0 - y0)) → GG_ (zx_ u) mX0_tally (Pi_ P) 12 [(0, .ref (uq_ u 20)), (1, .int (x1 + (iI_ 1)))] [] σ5)) ∧ ((σ2 29 (Int32.toNatClampNeg x1)) = iI_ 0 → (∀ σ6, σ6 = su_ σ2 32 0 ((σ2 32 0) + y0) → GG_ (zx_ u) mX0_tally (Pi_ P) 12 [(0, .ref (uq_ u 20)), (1, .int (x1 + (iI_ 1)))] [] σ6))))) : GG_ (zx_ u) mX0_tally (Pi_ P) 42 [(0, .ref (uq_ u 20)), (1, .int x1)] [.int y0] σ := by
  refine g_istore_n (L' := [(2, .int y0), (0, .ref (uq_ u 20)), (1, .int x1)]) dX0_tally_42 rfl (by decide) rfl ?_
  refine g_aload_n dX0_tally_43 1 rfl rfl ?_
  refine g_dup dX0_tally_44 rfl ?_
  refine gx_Chamber_firsts w_241 rfl dX0_tally_45 ?_
  refine g_iconst (v := (iI_ 1)) dX0_tally_48 (by decide) ?_
  refine g_aload_n dX0_tally_49 1 rfl rfl ?_
  refine gx_Chamber_vote w_237 rfl dX0_tally_50 ?_
  refine g_iload_n dX0_tally_53 2 rfl rfl ?_
  obtain ⟨h1, H⟩ := H
  refine ax_29 h1 dX0_tally_54 ?_
  refine g_isub dX0_tally_55 ?_
  refine g_iadd dX0_tally_56 ?_
  refine px_Chamber_firsts w_241 rfl dX0_tally_57 ?_
  obtain ⟨σ2, e_σ2⟩ : ∃ q : St_, q = su_ σ 31 0 ((σ 31 0) + ((iI_ 1) - (σ 29 (Int32.toNatClampNeg x1)))) := ⟨_, rfl⟩
  rw [← e_σ2]
  replace H := H σ2 e_σ2
  refine g_aload_n dX0_tally_60 1 rfl rfl ?_
  refine g_dup dX0_tally_61 rfl ?_
  refine gx_Chamber_lead w_243 rfl dX0_tally_62 ?_
  refine g_aload_n dX0_tally_65 1 rfl rfl ?_
  refine gx_Chamber_vote w_237 rfl dX0_tally_66 ?_
  refine g_iload_n dX0_tally_69 2 rfl rfl ?_
  obtain ⟨h3, H⟩ := H
  refine ax_29 h3 dX0_tally_70 ?_
  refine g_if_ne 78 dX0_tally_71 (by decide) (fun c4 => ?_) (fun c4 => ?_)
  · replace H := H.1 c4
    refine g_iload_n dX0_tally_78 0 rfl rfl ?_
    refine g_ineg dX0_tally_79 ?_
    refine g_iadd dX0_tally_80 ?_
    refine px_Chamber_lead w_243 rfl dX0_tally_81 ?_
    obtain ⟨σ5, e_σ5⟩ : ∃ q : St_, q = su_ σ2 32 0 ((σ2 32 0) + (iI_ 0 - y0)) := ⟨_, rfl⟩
    rw [← e_σ5]
    replace H := H σ5 e_σ5
    refine g_iinc (v := (x1 + (iI_ 1))) (L' := [(1, .int (x1 + (iI_ 1))), (2, .int y0), (0, .ref (uq_ u 20))]) dX0_tally_84 2 rfl rfl (by decide) rfl ?_
    refine g_goto 12 dX0_tally_87 (by decide) ?_
    exact GG_.sub [2, 0] rfl H
  · replace H := H.2 c4
    refine g_iload_n dX0_tally_74 0 rfl rfl ?_
    refine g_goto 80 dX0_tally_75 (by decide) ?_
    refine g_iadd dX0_tally_80 ?_
    refine px_Chamber_lead w_243 rfl dX0_tally_81 ?_
    obtain ⟨σ6, e_σ6⟩ : ∃ q : St_, q = su_ σ2 32 0 ((σ2 32 0) + y0) := ⟨_, rfl⟩
    rw [← e_σ6]
    replace H := H σ6 e_σ6
    refine g_iinc (v := (x1 + (iI_ 1))) (L' := [(1, .int (x1 + (iI_ 1))), (2, .int y0), (0, .ref (uq_ u 20))]) dX0_tally_84 2 rfl rfl (by decide) rfl ?_
    refine g_goto 12 dX0_tally_87 (by decide) ?_
    exact GG_.sub [2, 0] rfl H
set_option maxHeartbeats 4000000 in
set_option maxRecDepth 100000 in
theorem eX0_tally (u : Ux_) {P : Int32 → St_ → Prop}  (σ : St_)  (H : (∀ σ1, σ1 = su_ σ 31 0 (iI_ 0) → (∀ σ2, σ2 = su_ σ1 32 0 (iI_ 0) → GG_ (zx_ u) mX0_tally (Pi_ P) 12 [(0, .ref (uq_ u 20)), (1, .int (iI_ 0))] [] σ2))) : MMi_ (zx_ u) mX0_tally [.ref (uq_ u 20)] σ P := by
  refine MM_.of (L := [(0, .ref (uq_ u 20))]) (by decide +kernel) (Nat.le_of_ble_eq_true rfl) rfl ?_
  refine g_aload_n dX0_tally_0 0 rfl rfl ?_
  refine g_iconst (v := (iI_ 0)) dX0_tally_1 (by decide) ?_
  refine px_Chamber_firsts w_241 rfl dX0_tally_2 ?_
  obtain ⟨σ1, e_σ1⟩ : ∃ q : St_, q = su_ σ 31 0 (iI_ 0) := ⟨_, rfl⟩
  rw [← e_σ1]
  replace H := H σ1 e_σ1
  refine g_aload_n dX0_tally_5 0 rfl rfl ?_
  refine g_iconst (v := (iI_ 0)) dX0_tally_6 (by decide) ?_
  refine px_Chamber_lead w_243 rfl dX0_tally_7 ?_
  obtain ⟨σ2, e_σ2⟩ : ∃ q : St_, q = su_ σ1 32 0 (iI_ 0) := ⟨_, rfl⟩
  rw [← e_σ2]
  replace H := H σ2 e_σ2
  refine g_iconst (v := (iI_ 0)) dX0_tally_10 (by decide) ?_
  refine g_istore_n (L' := [(1, .int (iI_ 0)), (0, .ref (uq_ u 20))]) dX0_tally_11 rfl (by decide) rfl ?_
  exact GG_.sub [1, 0] rfl H
set_option maxHeartbeats 4000000 in
set_option maxRecDepth 100000 in
theorem eX0_votesFor (u : Ux_) {P : Int32 → St_ → Prop}  (σ : St_) (x1 : Int32) (H : ((x1 < iI_ 0 → P (σ 24 0) σ) ∧ (¬ x1 < iI_ 0 → (((σ 3 0) ≤ x1 → P (σ 24 0) σ) ∧ (¬ (σ 3 0) ≤ x1 → vp_in x1 8 ∧ ((¬ (σ 29 (Int32.toNatClampNeg x1)) = iI_ 0 → P (σ 24 0) σ) ∧ ((σ 29 (Int32.toNatClampNeg x1)) = iI_ 0 → P (σ 23 0) σ))))))) : MMi_ (zx_ u) mX0_votesFor [.ref (uq_ u 20), .int x1] σ P := by
  refine MM_.of (L := [(0, .ref (uq_ u 20)), (1, .int x1)]) (by decide +kernel) (Nat.le_of_ble_eq_true rfl) rfl ?_
  refine g_iload_n dX0_votesFor_0 1 rfl rfl ?_
  refine g_if_lt 31 dX0_votesFor_1 (by decide) (fun c1 => ?_) (fun c1 => ?_)
  · replace H := H.1 c1
    refine g_aload_n dX0_votesFor_31 0 rfl rfl ?_
    refine gx_Chamber_other w_230 rfl dX0_votesFor_32 ?_
    exact g_iret rfl dX0_votesFor_35 ⟨_, rfl, H⟩
  · replace H := H.2 c1
    refine g_iload_n dX0_votesFor_4 1 rfl rfl ?_
    refine g_aload_n dX0_votesFor_5 0 rfl rfl ?_
    refine gx_Chamber_roll w_225 rfl dX0_votesFor_6 ?_
    refine gx_Roll_n w_103 rfl dX0_votesFor_9 ?_
    refine g_icmp_ge 31 dX0_votesFor_12 (by decide) (fun c2 => ?_) (fun c2 => ?_)
    · replace H := H.1 c2
      refine g_aload_n dX0_votesFor_31 0 rfl rfl ?_
      refine gx_Chamber_other w_230 rfl dX0_votesFor_32 ?_
      exact g_iret rfl dX0_votesFor_35 ⟨_, rfl, H⟩
    · replace H := H.2 c2
      refine g_aload_n dX0_votesFor_15 0 rfl rfl ?_
      refine gx_Chamber_vote w_237 rfl dX0_votesFor_16 ?_
      refine g_iload_n dX0_votesFor_19 1 rfl rfl ?_
      obtain ⟨h3, H⟩ := H
      refine ax_29 h3 dX0_votesFor_20 ?_
      refine g_if_ne 31 dX0_votesFor_21 (by decide) (fun c4 => ?_) (fun c4 => ?_)
      · replace H := H.1 c4
        refine g_aload_n dX0_votesFor_31 0 rfl rfl ?_
        refine gx_Chamber_other w_230 rfl dX0_votesFor_32 ?_
        exact g_iret rfl dX0_votesFor_35 ⟨_, rfl, H⟩
      · replace H := H.2 c4
        refine g_aload_n dX0_votesFor_24 0 rfl rfl ?_
        refine gx_Chamber_first w_228 rfl dX0_votesFor_25 ?_
        refine g_goto 35 dX0_votesFor_28 (by decide) ?_
        exact g_iret rfl dX0_votesFor_35 ⟨_, rfl, H⟩
set_option maxHeartbeats 4000000 in
set_option maxRecDepth 100000 in
theorem eX1_add (u : Ux_) {P : Int32 → St_ → Prop}  (σ : St_) (x1 : Int32) (x2 : Int32) (x3 : Int32) (H : (((σ 14 0) < (iI_ 8) → vp_in (σ 14 0) 8 ∧ (∀ σ2, σ2 = su_ σ 15 (Int32.toNatClampNeg (σ 14 0)) x1 → vp_in (σ2 14 0) 8 ∧ (∀ σ4, σ4 = su_ σ2 16 (Int32.toNatClampNeg (σ2 14 0)) x2 → vp_in (σ4 14 0) 8 ∧ (∀ σ6, σ6 = su_ σ4 17 (Int32.toNatClampNeg (σ4 14 0)) x3 → (∀ σ8, σ8 = su_ σ6 14 0 ((σ6 14 0) + (iI_ 1)) → P (iI_ 1) σ8))))) ∧ (¬ (σ 14 0) < (iI_ 8) → P (iI_ 0) σ))) : MMi_ (zx_ u) mX1_add [.ref (uq_ u 11), .int x1, .int x2, .int x3] σ P := by
  refine MM_.of (L := [(0, .ref (uq_ u 11)), (1, .int x1), (2, .int x2), (3, .int x3)]) (by decide +kernel) (Nat.le_of_ble_eq_true rfl) rfl ?_
  refine g_aload_n dX1_add_0 0 rfl rfl ?_
  refine gx_Folds_n w_168 rfl dX1_add_1 ?_
  refine g_bipush (v := (iI_ 8)) dX1_add_4 (by decide) ?_
  refine g_icmp_lt 11 dX1_add_6 (by decide) (fun c1 => ?_) (fun c1 => ?_)
  · replace H := H.1 c1
    refine g_aload_n dX1_add_11 0 rfl rfl ?_
    refine gx_Folds_night w_171 rfl dX1_add_12 ?_
    refine g_aload_n dX1_add_15 0 rfl rfl ?_
    refine gx_Folds_n w_168 rfl dX1_add_16 ?_
    refine g_iload_n dX1_add_19 1 rfl rfl ?_
    obtain ⟨h3, H⟩ := H
    refine sx_15 h3 dX1_add_20 ?_
    obtain ⟨σ2, e_σ2⟩ : ∃ q : St_, q = su_ σ 15 (Int32.toNatClampNeg (σ 14 0)) x1 := ⟨_, rfl⟩
    rw [← e_σ2]
    replace H := H σ2 e_σ2
    refine g_aload_n dX1_add_21 0 rfl rfl ?_
    refine gx_Folds_member w_173 rfl dX1_add_22 ?_
    refine g_aload_n dX1_add_25 0 rfl rfl ?_
    refine gx_Folds_n w_168 rfl dX1_add_26 ?_
    refine g_iload_n dX1_add_29 2 rfl rfl ?_
    obtain ⟨h5, H⟩ := H
    refine sx_16 h5 dX1_add_30 ?_
    obtain ⟨σ4, e_σ4⟩ : ∃ q : St_, q = su_ σ2 16 (Int32.toNatClampNeg (σ2 14 0)) x2 := ⟨_, rfl⟩
    rw [← e_σ4]
    replace H := H σ4 e_σ4
    refine g_aload_n dX1_add_31 0 rfl rfl ?_
    refine gx_Folds_shelf w_175 rfl dX1_add_32 ?_
    refine g_aload_n dX1_add_35 0 rfl rfl ?_
    refine gx_Folds_n w_168 rfl dX1_add_36 ?_
    refine g_iload_n dX1_add_39 3 rfl rfl ?_
    obtain ⟨h7, H⟩ := H
    refine sx_17 h7 dX1_add_40 ?_
    obtain ⟨σ6, e_σ6⟩ : ∃ q : St_, q = su_ σ4 17 (Int32.toNatClampNeg (σ4 14 0)) x3 := ⟨_, rfl⟩
    rw [← e_σ6]
    replace H := H σ6 e_σ6
    refine g_aload_n dX1_add_41 0 rfl rfl ?_
    refine g_dup dX1_add_42 rfl ?_
    refine gx_Folds_n w_168 rfl dX1_add_43 ?_
    refine g_iconst (v := (iI_ 1)) dX1_add_46 (by decide) ?_
    refine g_iadd dX1_add_47 ?_
    refine px_Folds_n w_168 rfl dX1_add_48 ?_
    obtain ⟨σ8, e_σ8⟩ : ∃ q : St_, q = su_ σ6 14 0 ((σ6 14 0) + (iI_ 1)) := ⟨_, rfl⟩
    rw [← e_σ8]
    replace H := H σ8 e_σ8
    refine g_iconst (v := (iI_ 1)) dX1_add_51 (by decide) ?_
    exact g_zret rfl (by decide) dX1_add_52 ⟨_, rfl, H⟩
  · replace H := H.2 c1
    refine g_iconst (v := (iI_ 0)) dX1_add_9 (by decide) ?_
    exact g_zret rfl (by decide) dX1_add_10 ⟨_, rfl, H⟩
set_option maxHeartbeats 4000000 in
set_option maxRecDepth 100000 in
theorem eX2_add (u : Ux_) {P : Int32 → St_ → Prop}  (σ : St_) (x1 : Int32) (H : (((σ 18 0) < (iI_ 6) → (∀ σ2, σ2 = su_ σ 18 0 ((σ 18 0) + (iI_ 1)) → vp_in (σ 18 0) 6 ∧ (∀ σ3, σ3 = su_ σ2 19 (Int32.toNatClampNeg (σ 18 0)) x1 → P (iI_ 1) σ3))) ∧ (¬ (σ 18 0) < (iI_ 6) → P (iI_ 0) σ))) : MMi_ (zx_ u) mX2_add [.ref (uq_ u 15), .int x1] σ P := by
  refine MM_.of (L := [(0, .ref (uq_ u 15)), (1, .int x1)]) (by decide +kernel) (Nat.le_of_ble_eq_true rfl) rfl ?_
  refine g_aload_n dX2_add_0 0 rfl rfl ?_
  refine gx_Jars_n w_192 rfl dX2_add_1 ?_
  refine g_bipush (v := (iI_ 6)) dX2_add_4 (by decide) ?_
  refine g_icmp_lt 11 dX2_add_6 (by decide) (fun c1 => ?_) (fun c1 => ?_)
  · replace H := H.1 c1
    refine g_aload_n dX2_add_11 0 rfl rfl ?_
    refine gx_Jars_night w_194 rfl dX2_add_12 ?_
    refine g_aload_n dX2_add_15 0 rfl rfl ?_
    refine g_dup dX2_add_16 rfl ?_
    refine gx_Jars_n w_192 rfl dX2_add_17 ?_
    refine g_dup_x1 dX2_add_20 rfl rfl ?_
    refine g_iconst (v := (iI_ 1)) dX2_add_21 (by decide) ?_
    refine g_iadd dX2_add_22 ?_
    refine px_Jars_n w_192 rfl dX2_add_23 ?_
    obtain ⟨σ2, e_σ2⟩ : ∃ q : St_, q = su_ σ 18 0 ((σ 18 0) + (iI_ 1)) := ⟨_, rfl⟩
    rw [← e_σ2]
    replace H := H σ2 e_σ2
    refine g_iload_n dX2_add_26 1 rfl rfl ?_
    obtain ⟨h4, H⟩ := H
    refine sx_19 h4 dX2_add_27 ?_
    obtain ⟨σ3, e_σ3⟩ : ∃ q : St_, q = su_ σ2 19 (Int32.toNatClampNeg (σ 18 0)) x1 := ⟨_, rfl⟩
    rw [← e_σ3]
    replace H := H σ3 e_σ3
    refine g_iconst (v := (iI_ 1)) dX2_add_28 (by decide) ?_
    exact g_zret rfl (by decide) dX2_add_29 ⟨_, rfl, H⟩
  · replace H := H.2 c1
    refine g_iconst (v := (iI_ 0)) dX2_add_9 (by decide) ?_
    exact g_zret rfl (by decide) dX2_add_10 ⟨_, rfl, H⟩
set_option maxHeartbeats 4000000 in
set_option maxRecDepth 100000 in
theorem bX2_has_2 (u : Ux_) {P : Int32 → St_ → Prop}  (σ : St_) (x1 : Int32) (x2 : Int32) (H : (((σ 18 0) ≤ x2 → P (iI_ 0) σ) ∧ (¬ (σ 18 0) ≤ x2 → vp_in x2 6 ∧ ((¬ (σ 19 (Int32.toNatClampNeg x2)) = x1 → GG_ (zx_ u) mX2_has (Pi_ P) 2 [(0, .ref (uq_ u 15)), (1, .int x1), (2, .int (x2 + (iI_ 1)))] [] σ) ∧ ((σ 19 (Int32.toNatClampNeg x2)) = x1 → P (iI_ 1) σ))))) : GG_ (zx_ u) mX2_has (Pi_ P) 2 [(0, .ref (uq_ u 15)), (1, .int x1), (2, .int x2)] [] σ := by
  refine g_iload_n dX2_has_2 2 rfl rfl ?_
  refine g_aload_n dX2_has_3 0 rfl rfl ?_
  refine gx_Jars_n w_192 rfl dX2_has_4 ?_
  refine g_icmp_ge 28 dX2_has_7 (by decide) (fun c1 => ?_) (fun c1 => ?_)
  · replace H := H.1 c1
    refine g_iconst (v := (iI_ 0)) dX2_has_28 (by decide) ?_
    exact g_zret rfl (by decide) dX2_has_29 ⟨_, rfl, H⟩
  · replace H := H.2 c1
    refine g_aload_n dX2_has_10 0 rfl rfl ?_
    refine gx_Jars_night w_194 rfl dX2_has_11 ?_
    refine g_iload_n dX2_has_14 2 rfl rfl ?_
    obtain ⟨h2, H⟩ := H
    refine ax_19 h2 dX2_has_15 ?_
    refine g_iload_n dX2_has_16 1 rfl rfl ?_
    refine g_icmp_ne 22 dX2_has_17 (by decide) (fun c3 => ?_) (fun c3 => ?_)
    · replace H := H.1 c3
      refine g_iinc (v := (x2 + (iI_ 1))) (L' := [(2, .int (x2 + (iI_ 1))), (0, .ref (uq_ u 15)), (1, .int x1)]) dX2_has_22 2 rfl rfl (by decide) rfl ?_
      refine g_goto 2 dX2_has_25 (by decide) ?_
      exact GG_.sub [1, 2, 0] rfl H
    · replace H := H.2 c3
      refine g_iconst (v := (iI_ 1)) dX2_has_20 (by decide) ?_
      exact g_zret rfl (by decide) dX2_has_21 ⟨_, rfl, H⟩
set_option maxHeartbeats 4000000 in
set_option maxRecDepth 100000 in
theorem eX2_has (u : Ux_) {P : Int32 → St_ → Prop}  (σ : St_) (x1 : Int32) (H : GG_ (zx_ u) mX2_has (Pi_ P) 2 [(0, .ref (uq_ u 15)), (1, .int x1), (2, .int (iI_ 0))] [] σ) : MMi_ (zx_ u) mX2_has [.ref (uq_ u 15), .int x1] σ P := by
  refine MM_.of (L := [(0, .ref (uq_ u 15)), (1, .int x1)]) (by decide +kernel) (Nat.le_of_ble_eq_true rfl) rfl ?_
  refine g_iconst (v := (iI_ 0)) dX2_has_0 (by decide) ?_
  refine g_istore_n (L' := [(2, .int (iI_ 0)), (0, .ref (uq_ u 15)), (1, .int x1)]) dX2_has_1 rfl (by decide) rfl ?_
  exact GG_.sub [1, 2, 0] rfl H
