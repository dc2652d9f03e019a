set_option maxHeartbeats 4000000 in
set_option maxRecDepth 100000 in
theorem bX9_leftBy_10 (u : Ux_) {P : Int32 → St_ → Prop}  (σ : St_) (x1 : Int32) (y0 : Int32) (H : ((¬ x1 = iI_ 0 → MMi_ (zx_ u) mX9_carriedAtFirst [.ref (uq_ u 0), .int y0, .int (iI_ 2)] σ (fun r3 σ2 => MMi_ (zx_ u) mX9_carriedAtFirst [.ref (uq_ u 0), .int r3, .int (((iI_ 3) - y0) - (iI_ 2))] σ2 (fun r5 σ4 => P r5 σ4))) ∧ (x1 = iI_ 0 → MMi_ (zx_ u) mX9_carriedAtFirst [.ref (uq_ u 0), .int y0, .int (iI_ 1)] σ (fun r7 σ6 => MMi_ (zx_ u) mX9_carriedAtFirst [.ref (uq_ u 0), .int r7, .int (((iI_ 3) - y0) - (iI_ 1))] σ6 (fun r9 σ8 => P r9 σ8))))) : GG_ (zx_ u) mX9_leftBy (Pi_ P) 10 [(0, .ref (uq_ u 0)), (1, .int x1)] [.int y0] σ := by
  refine g_istore_n (L' := [(2, .int y0), (0, .ref (uq_ u 0)), (1, .int x1)]) dX9_leftBy_10 rfl (by decide) rfl ?_
  refine g_iload_n dX9_leftBy_11 2 rfl rfl ?_
  refine g_if_ne 19 dX9_leftBy_12 (by decide) (fun c1 => ?_) (fun c1 => ?_)
  · replace H := H.1 c1
    refine g_iconst (v := (iI_ 2)) dX9_leftBy_19 (by decide) ?_
    refine g_istore_n (L' := [(3, .int (iI_ 2)), (2, .int y0), (0, .ref (uq_ u 0)), (1, .int x1)]) dX9_leftBy_20 rfl (by decide) rfl ?_
    refine g_iconst (v := (iI_ 3)) dX9_leftBy_21 (by decide) ?_
    refine g_iload_n dX9_leftBy_22 1 rfl rfl ?_
    refine g_isub dX9_leftBy_23 ?_
    refine g_iload_n dX9_leftBy_24 0 rfl rfl ?_
    refine g_isub dX9_leftBy_25 ?_
    refine g_istore (L' := [(4, .int (((iI_ 3) - y0) - (iI_ 2))), (3, .int (iI_ 2)), (2, .int y0), (0, .ref (uq_ u 0)), (1, .int x1)]) dX9_leftBy_26 (by decide) rfl ?_
    refine g_aload_n dX9_leftBy_28 3 rfl rfl ?_
    refine g_aload_n dX9_leftBy_29 3 rfl rfl ?_
    refine g_iload_n dX9_leftBy_30 2 rfl rfl ?_
    refine g_iload_n dX9_leftBy_31 1 rfl rfl ?_
    refine k_X9_carriedAtFirst w_596 rfl ⟨Nat.le_of_ble_eq_true rfl, Nat.le_of_ble_eq_true rfl⟩ (Nat.le_of_ble_eq_true rfl) dX9_leftBy_32 H (fun r3 σ2 H => ?_)
    refine g_iload dX9_leftBy_35 0 rfl ?_
    refine k_X9_carriedAtFirst w_596 rfl ⟨Nat.le_of_ble_eq_true rfl, Nat.le_of_ble_eq_true rfl⟩ (Nat.le_of_ble_eq_true rfl) dX9_leftBy_37 H (fun r5 σ4 H => ?_)
    exact g_iret rfl dX9_leftBy_40 ⟨_, rfl, H⟩
  · replace H := H.2 c1
    refine g_iconst (v := (iI_ 1)) dX9_leftBy_15 (by decide) ?_
    refine g_goto 20 dX9_leftBy_16 (by decide) ?_
    refine g_istore_n (L' := [(3, .int (iI_ 1)), (2, .int y0), (0, .ref (uq_ u 0)), (1, .int x1)]) dX9_leftBy_20 rfl (by decide) rfl ?_
    refine g_iconst (v := (iI_ 3)) dX9_leftBy_21 (by decide) ?_
    refine g_iload_n dX9_leftBy_22 1 rfl rfl ?_
    refine g_isub dX9_leftBy_23 ?_
    refine g_iload_n dX9_leftBy_24 0 rfl rfl ?_
    refine g_isub dX9_leftBy_25 ?_
    refine g_istore (L' := [(4, .int (((iI_ 3) - y0) - (iI_ 1))), (3, .int (iI_ 1)), (2, .int y0), (0, .ref (uq_ u 0)), (1, .int x1)]) dX9_leftBy_26 (by decide) rfl ?_
    refine g_aload_n dX9_leftBy_28 3 rfl rfl ?_
    refine g_aload_n dX9_leftBy_29 3 rfl rfl ?_
    refine g_iload_n dX9_leftBy_30 2 rfl rfl ?_
    refine g_iload_n dX9_leftBy_31 1 rfl rfl ?_
    refine k_X9_carriedAtFirst w_596 rfl ⟨Nat.le_of_ble_eq_true rfl, Nat.le_of_ble_eq_true rfl⟩ (Nat.le_of_ble_eq_true rfl) dX9_leftBy_32 H (fun r7 σ6 H => ?_)
    refine g_iload dX9_leftBy_35 0 rfl ?_
    refine k_X9_carriedAtFirst w_596 rfl ⟨Nat.le_of_ble_eq_true rfl, Nat.le_of_ble_eq_true rfl⟩ (Nat.le_of_ble_eq_true rfl) dX9_leftBy_37 H (fun r9 σ8 H => ?_)
    exact g_iret rfl dX9_leftBy_40 ⟨_, rfl, H⟩
set_option maxHeartbeats 4000000 in
set_option maxRecDepth 100000 in
theorem eX9_leftBy (u : Ux_) {P : Int32 → St_ → Prop}  (σ : St_) (x1 : Int32) (H : ((¬ x1 = (iI_ 2) → GG_ (zx_ u) mX9_leftBy (Pi_ P) 10 [(0, .ref (uq_ u 0)), (1, .int x1)] [.int (iI_ 0)] σ) ∧ (x1 = (iI_ 2) → GG_ (zx_ u) mX9_leftBy (Pi_ P) 10 [(0, .ref (uq_ u 0)), (1, .int x1)] [.int (iI_ 1)] σ))) : MMi_ (zx_ u) mX9_leftBy [.ref (uq_ u 0), .int x1] σ P := by
  refine MM_.of (L := [(0, .ref (uq_ u 0)), (1, .int x1)]) (by decide +kernel) (Nat.le_of_ble_eq_true rfl) rfl ?_
  refine g_iload_n dX9_leftBy_0 1 rfl rfl ?_
  refine g_iconst (v := (iI_ 2)) dX9_leftBy_1 (by decide) ?_
  refine g_icmp_ne 9 dX9_leftBy_2 (by decide) (fun c1 => ?_) (fun c1 => ?_)
  · replace H := H.1 c1
    refine g_iconst (v := (iI_ 0)) dX9_leftBy_9 (by decide) ?_
    exact GG_.sub [0, 1] rfl H
  · replace H := H.2 c1
    refine g_iconst (v := (iI_ 1)) dX9_leftBy_5 (by decide) ?_
    refine g_goto 10 dX9_leftBy_6 (by decide) ?_
    exact GG_.sub [0, 1] rfl H
set_option maxHeartbeats 4000000 in
set_option maxRecDepth 100000 in
theorem eX9_carriedAtFirst (u : Ux_) {P : Int32 → St_ → Prop}  (σ : St_) (x1 : Int32) (x2 : Int32) (H : ((¬ (σ 3 0) = iI_ 0 → MMv_ (zx_ u) mX0_openPair [.ref (uq_ u 20), .int x1, .int x2] σ (fun σ2 => MMv_ (zx_ u) mX0_layAtFirst [.ref (uq_ u 20)] σ2 (fun σ3 => MMv_ (zx_ u) mX0_lean [.ref (uq_ u 20), .ref (uq_ u 5), .int (iI_ 0)] σ3 (fun σ4 => MMi_ (zx_ u) mX0_tally [.ref (uq_ u 20)] σ4 (fun r6 σ5 => P r6 σ5))))) ∧ ((σ 3 0) = iI_ 0 → P (iI_ (-1)) σ))) : MMi_ (zx_ u) mX9_carriedAtFirst [.ref (uq_ u 0), .int x1, .int x2] σ P := by
  refine MM_.of (L := [(0, .ref (uq_ u 0)), (1, .int x1), (2, .int x2)]) (by decide +kernel) (Nat.le_of_ble_eq_true rfl) rfl ?_
  refine g_aload_n dX9_carriedAtFirst_0 0 rfl rfl ?_
  refine gx_LinenHouse_roll w_324 rfl dX9_carriedAtFirst_1 ?_
  refine gx_Roll_n w_105 rfl dX9_carriedAtFirst_4 ?_
  refine g_if_ne 12 dX9_carriedAtFirst_7 (by decide) (fun c1 => ?_) (fun c1 => ?_)
  · replace H := H.1 c1
    refine g_aload_n dX9_carriedAtFirst_12 0 rfl rfl ?_
    refine gx_LinenHouse_chamber w_329 rfl dX9_carriedAtFirst_13 ?_
    refine g_iload_n dX9_carriedAtFirst_16 1 rfl rfl ?_
    refine g_iload_n dX9_carriedAtFirst_17 2 rfl rfl ?_
    refine k_X0_openPair w_600 rfl ⟨Nat.le_of_ble_eq_true rfl, Nat.le_of_ble_eq_true rfl⟩ (Nat.le_of_ble_eq_true rfl) dX9_carriedAtFirst_18 H (fun σ2 H => ?_)
    refine g_aload_n dX9_carriedAtFirst_21 0 rfl rfl ?_
    refine gx_LinenHouse_chamber w_329 rfl dX9_carriedAtFirst_22 ?_
    refine k_X0_layAtFirst w_604 rfl ⟨Nat.le_of_ble_eq_true rfl, Nat.le_of_ble_eq_true rfl⟩ (Nat.le_of_ble_eq_true rfl) dX9_carriedAtFirst_25 H (fun σ3 H => ?_)
    refine g_aload_n dX9_carriedAtFirst_28 0 rfl rfl ?_
    refine gx_LinenHouse_chamber w_329 rfl dX9_carriedAtFirst_29 ?_
    refine g_aload_n dX9_carriedAtFirst_32 0 rfl rfl ?_
    refine gx_LinenHouse_roll w_324 rfl dX9_carriedAtFirst_33 ?_
    refine gx_Roll_order w_114 rfl dX9_carriedAtFirst_36 ?_
    refine g_iconst (v := (iI_ 0)) dX9_carriedAtFirst_39 (by decide) ?_
    refine k_X0_lean w_586 rfl ⟨Nat.le_of_ble_eq_true rfl, Nat.le_of_ble_eq_true rfl⟩ (Nat.le_of_ble_eq_true rfl) dX9_carriedAtFirst_40 H (fun σ4 H => ?_)
    refine g_aload_n dX9_carriedAtFirst_43 0 rfl rfl ?_
    refine gx_LinenHouse_chamber w_329 rfl dX9_carriedAtFirst_44 ?_
    refine k_X0_tally w_587 rfl ⟨Nat.le_of_ble_eq_true rfl, Nat.le_of_ble_eq_true rfl⟩ (Nat.le_of_ble_eq_true rfl) dX9_carriedAtFirst_47 H (fun r6 σ5 H => ?_)
    exact g_iret rfl dX9_carriedAtFirst_50 ⟨_, rfl, H⟩
  · replace H := H.2 c1
    refine g_iconst (v := (iI_ (-1))) dX9_carriedAtFirst_10 (by decide) ?_
    exact g_iret rfl dX9_carriedAtFirst_11 ⟨_, rfl, H⟩
set_option maxHeartbeats 4000000 in
set_option maxRecDepth 100000 in
theorem bX9_seenSo_2 (u : Ux_) {P : Int32 → St_ → Prop} (po : Nat) (ko : Nat) (hp : Ap_ u po ko) (σ : St_) (x2 : Int32) (x3 : Int32) (H : (((σ 20 0) ≤ x3 → P (iI_ 1) σ) ∧ (¬ (σ 20 0) ≤ x3 → vp_in x3 8 ∧ MMi_ (zx_ u) mX2_has [.ref (uq_ u 15), .int (σ 21 (Int32.toNatClampNeg x3))] σ (fun r4 σ3 => MMi_ (zx_ u) mX0_carried [.ref (uq_ u 20), .int (σ 21 (Int32.toNatClampNeg x3)), .ref (uq_ u po), .int r4, .int x2] σ3 (fun r6 σ5 => vp_in x3 8 ∧ ((r6 = (σ5 22 (Int32.toNatClampNeg x3)) → GG_ (zx_ u) mX9_seenSo (Pi_ P) 2 [(0, .ref (uq_ u 0)), (1, .ref (uq_ u po)), (2, .int x2), (3, .int (x3 + (iI_ 1)))] [] σ5) ∧ (¬ r6 = (σ5 22 (Int32.toNatClampNeg x3)) → P (iI_ 0) σ5))))))) : GG_ (zx_ u) mX9_seenSo (Pi_ P) 2 [(0, .ref (uq_ u 0)), (1, .ref (uq_ u po)), (2, .int x2), (3, .int x3)] [] σ := by
  refine g_iload_n dX9_seenSo_2 3 rfl rfl ?_
  refine g_aload_n dX9_seenSo_3 0 rfl rfl ?_
  refine gx_LinenHouse_sightings w_328 rfl dX9_seenSo_4 ?_
  refine gx_Sightings_n w_207 rfl dX9_seenSo_7 ?_
  refine g_icmp_ge 64 dX9_seenSo_10 (by decide) (fun c1 => ?_) (fun c1 => ?_)
  · replace H := H.1 c1
    refine g_iconst (v := (iI_ 1)) dX9_seenSo_64 (by decide) ?_
    exact g_zret rfl (by decide) dX9_seenSo_65 ⟨_, rfl, H⟩
  · replace H := H.2 c1
    refine g_aload_n dX9_seenSo_13 0 rfl rfl ?_
    refine gx_LinenHouse_sightings w_328 rfl dX9_seenSo_14 ?_
    refine gx_Sightings_night w_209 rfl dX9_seenSo_17 ?_
    refine g_iload_n dX9_seenSo_20 3 rfl rfl ?_
    obtain ⟨h2, H⟩ := H
    refine ax_21 h2 dX9_seenSo_21 ?_
    refine g_istore (L' := [(4, .int (σ 21 (Int32.toNatClampNeg x3))), (0, .ref (uq_ u 0)), (1, .ref (uq_ u po)), (2, .int x2), (3, .int x3)]) dX9_seenSo_22 (by decide) rfl ?_
    refine g_aload_n dX9_seenSo_24 1 rfl rfl ?_
    refine gx_LinenHouse_chamber w_329 rfl dX9_seenSo_25 ?_
    refine g_iload dX9_seenSo_28 0 rfl ?_
    refine g_aload_n dX9_seenSo_30 2 rfl rfl ?_
    refine g_aload_n dX9_seenSo_31 1 rfl rfl ?_
    refine gx_LinenHouse_jars w_327 rfl dX9_seenSo_32 ?_
    refine g_iload dX9_seenSo_35 0 rfl ?_
    refine k_X2_has w_490 rfl ⟨Nat.le_of_ble_eq_true rfl, Nat.le_of_ble_eq_true rfl⟩ (Nat.le_of_ble_eq_true rfl) dX9_seenSo_37 H (fun r4 σ3 H => ?_)
    refine g_iload_n dX9_seenSo_40 3 rfl rfl ?_
    refine k_X0_carried w_494 rfl ⟨Nat.le_of_ble_eq_true rfl, Nat.le_of_ble_eq_true rfl⟩ (Nat.le_of_ble_eq_true rfl) dX9_seenSo_41 H (fun r6 σ5 H => ?_)
    refine g_aload_n dX9_seenSo_44 1 rfl rfl ?_
    refine gx_LinenHouse_sightings w_328 rfl dX9_seenSo_45 ?_
    refine gx_Sightings_one w_211 rfl dX9_seenSo_48 ?_
    refine g_iload_n dX9_seenSo_51 4 rfl rfl ?_
    obtain ⟨h7, H⟩ := H
    refine ax_22 h7 dX9_seenSo_52 ?_
    refine g_icmp_eq 58 dX9_seenSo_53 (by decide) (fun c8 => ?_) (fun c8 => ?_)
    · replace H := H.1 c8
      refine g_iinc (v := (x3 + (iI_ 1))) (L' := [(3, .int (x3 + (iI_ 1))), (4, .int (σ 21 (Int32.toNatClampNeg x3))), (0, .ref (uq_ u 0)), (1, .ref (uq_ u po)), (2, .int x2)]) dX9_seenSo_58 4 rfl rfl (by decide) rfl ?_
      refine g_goto 2 dX9_seenSo_61 (by decide) ?_
      exact GG_.sub [2, 3, 4, 0] rfl H
    · replace H := H.2 c8
      refine g_iconst (v := (iI_ 0)) dX9_seenSo_56 (by decide) ?_
      exact g_zret rfl (by decide) dX9_seenSo_57 ⟨_, rfl, H⟩
set_option maxHeartbeats 4000000 in
set_option maxRecDepth 100000 in
theorem eX9_seenSo (u : Ux_) {P : Int32 → St_ → Prop} (po : Nat) (ko : Nat) (hp : Ap_ u po ko) (σ : St_) (x2 : Int32) (H : GG_ (zx_ u) mX9_seenSo (Pi_ P) 2 [(0, .ref (uq_ u 0)), (1, .ref (uq_ u po)), (2, .int x2), (3, .int (iI_ 0))] [] σ) : MMi_ (zx_ u) mX9_seenSo [.ref (uq_ u 0), .ref (uq_ u po), .int x2] σ P := by
  refine MM_.of (L := [(0, .ref (uq_ u 0)), (1, .ref (uq_ u po)), (2, .int x2)]) (by decide +kernel) (Nat.le_of_ble_eq_true rfl) rfl ?_
  refine g_iconst (v := (iI_ 0)) dX9_seenSo_0 (by decide) ?_
  refine g_istore_n (L' := [(3, .int (iI_ 0)), (0, .ref (uq_ u 0)), (1, .ref (uq_ u po)), (2, .int x2)]) dX9_seenSo_1 rfl (by decide) rfl ?_
  exact GG_.sub [1, 2, 3, 0] rfl H
set_option maxHeartbeats 4000000 in
set_option maxRecDepth 100000 in
theorem bX9_ordersSeenSo_4 (u : Ux_) {P : Int32 → St_ → Prop}  (σ : St_) (x1 : Int32) (x2 : Int32) (x3 : Int32) (H : (((iI_ 6) ≤ x3 → P x2 σ) ∧ (¬ (iI_ 6) ≤ x3 → MMv_ (zx_ u) mX9_tryOrder [.ref (uq_ u 0), .int x1, .int x3] σ (fun σ2 => MMi_ (zx_ u) mX9_seenSo [.ref (uq_ u 0), .ref (uq_ u 28), .int (iI_ (-1))] σ2 (fun r4 σ3 => ((r4 = iI_ 0 → GG_ (zx_ u) mX9_ordersSeenSo (Pi_ P) 4 [(0, .ref (uq_ u 0)), (1, .int x1), (2, .int x2), (3, .int (x3 + (iI_ 1)))] [] σ3) ∧ (¬ r4 = iI_ 0 → GG_ (zx_ u) mX9_ordersSeenSo (Pi_ P) 4 [(0, .ref (uq_ u 0)), (1, .int x1), (2, .int (x2 ||| ((iI_ 1) <<< (x3 &&& 31)))), (3, .int (x3 + (iI_ 1)))] [] σ3))))))) : GG_ (zx_ u) mX9_ordersSeenSo (Pi_ P) 4 [(0, .ref (uq_ u 0)), (1, .int x1), (2, .int x2), (3, .int x3)] [] σ := by
  refine g_iload_n dX9_ordersSeenSo_4 3 rfl rfl ?_
  refine g_bipush (v := (iI_ 6)) dX9_ordersSeenSo_5 (by decide) ?_
  refine g_icmp_ge 40 dX9_ordersSeenSo_7 (by decide) (fun c1 => ?_) (fun c1 => ?_)
  · replace H := H.1 c1
    refine g_iload_n dX9_ordersSeenSo_40 2 rfl rfl ?_
    exact g_iret rfl dX9_ordersSeenSo_41 ⟨_, rfl, H⟩
  · replace H := H.2 c1
    refine g_aload_n dX9_ordersSeenSo_10 0 rfl rfl ?_
    refine g_iload_n dX9_ordersSeenSo_11 1 rfl rfl ?_
    refine g_iload_n dX9_ordersSeenSo_12 3 rfl rfl ?_
    refine k_X9_tryOrder w_684 rfl ⟨Nat.le_of_ble_eq_true rfl, Nat.le_of_ble_eq_true rfl⟩ (Nat.le_of_ble_eq_true rfl) dX9_ordersSeenSo_13 H (fun σ2 H => ?_)
    refine g_aload_n dX9_ordersSeenSo_16 0 rfl rfl ?_
    refine g_aload_n dX9_ordersSeenSo_17 0 rfl rfl ?_
    refine gx_LinenHouse_tried w_332 rfl dX9_ordersSeenSo_18 ?_
    refine g_iconst (v := (iI_ (-1))) dX9_ordersSeenSo_21 (by decide) ?_
    refine k_X9_seenSo w_672 rfl ⟨Nat.le_of_ble_eq_true rfl, Nat.le_of_ble_eq_true rfl⟩ (Nat.le_of_ble_eq_true rfl) dX9_ordersSeenSo_22 H (fun r4 σ3 H => ?_)
    refine g_if_eq 34 dX9_ordersSeenSo_25 (by decide) (fun c5 => ?_) (fun c5 => ?_)
    · replace H := H.1 c5
      refine g_iinc (v := (x3 + (iI_ 1))) (L' := [(3, .int (x3 + (iI_ 1))), (0, .ref (uq_ u 0)), (1, .int x1), (2, .int x2)]) dX9_ordersSeenSo_34 3 rfl rfl (by decide) rfl ?_
      refine g_goto 4 dX9_ordersSeenSo_37 (by decide) ?_
      exact GG_.sub [1, 2, 3, 0] rfl H
    · replace H := H.2 c5
      refine g_iload_n dX9_ordersSeenSo_28 2 rfl rfl ?_
      refine g_iconst (v := (iI_ 1)) dX9_ordersSeenSo_29 (by decide) ?_
      refine g_iload_n dX9_ordersSeenSo_30 3 rfl rfl ?_
      refine g_ishl dX9_ordersSeenSo_31 ?_
      refine g_ior dX9_ordersSeenSo_32 ?_
      refine g_istore_n (L' := [(2, .int (x2 ||| ((iI_ 1) <<< (x3 &&& 31)))), (0, .ref (uq_ u 0)), (1, .int x1), (3, .int x3)]) dX9_ordersSeenSo_33 rfl (by decide) rfl ?_
      refine g_iinc (v := (x3 + (iI_ 1))) (L' := [(3, .int (x3 + (iI_ 1))), (2, .int (x2 ||| ((iI_ 1) <<< (x3 &&& 31)))), (0, .ref (uq_ u 0)), (1, .int x1)]) dX9_ordersSeenSo_34 3 rfl rfl (by decide) rfl ?_
      refine g_goto 4 dX9_ordersSeenSo_37 (by decide) ?_
      exact GG_.sub [2, 3, 1, 0] rfl H
set_option maxHeartbeats 4000000 in
set_option maxRecDepth 100000 in
theorem eX9_ordersSeenSo (u : Ux_) {P : Int32 → St_ → Prop}  (σ : St_) (x1 : Int32) (H : GG_ (zx_ u) mX9_ordersSeenSo (Pi_ P) 4 [(0, .ref (uq_ u 0)), (1, .int x1), (2, .int (iI_ 0)), (3, .int (iI_ 0))] [] σ) : MMi_ (zx_ u) mX9_ordersSeenSo [.ref (uq_ u 0), .int x1] σ P := by
  refine MM_.of (L := [(0, .ref (uq_ u 0)), (1, .int x1)]) (by decide +kernel) (Nat.le_of_ble_eq_true rfl) rfl ?_
  refine g_iconst (v := (iI_ 0)) dX9_ordersSeenSo_0 (by decide) ?_
  refine g_istore_n (L' := [(2, .int (iI_ 0)), (0, .ref (uq_ u 0)), (1, .int x1)]) dX9_ordersSeenSo_1 rfl (by decide) rfl ?_
  refine g_iconst (v := (iI_ 0)) dX9_ordersSeenSo_2 (by decide) ?_
  refine g_istore_n (L' := [(3, .int (iI_ 0)), (2, .int (iI_ 0)), (0, .ref (uq_ u 0)), (1, .int x1)]) dX9_ordersSeenSo_3 rfl (by decide) rfl ?_
  exact GG_.sub [2, 3, 1, 0] rfl H
set_option maxHeartbeats 4000000 in
set_option maxRecDepth 100000 in
theorem bX9_tryOrder_2 (u : Ux_) {P : St_ → Prop}  (σ : St_) (x1 : Int32) (x2 : Int32) (x3 : Int32) (H : (((σ 3 0) ≤ x3 → P σ) ∧ (¬ (σ 3 0) ≤ x3 → ((¬ x3 = x1 → vp_in x3 8 ∧ vp_in x3 8 ∧ (∀ σ4, σ4 = su_ σ 34 (Int32.toNatClampNeg x3) (σ 7 (Int32.toNatClampNeg x3)) → GG_ (zx_ u) mX9_tryOrder (Pv_ P) 2 [(0, .ref (uq_ u 0)), (1, .int x1), (2, .int x2), (3, .int (x3 + (iI_ 1)))] [] σ4)) ∧ (x3 = x1 → vp_in x3 8 ∧ (∀ σ6, σ6 = su_ σ 34 (Int32.toNatClampNeg x3) x2 → GG_ (zx_ u) mX9_tryOrder (Pv_ P) 2 [(0, .ref (uq_ u 0)), (1, .int x1), (2, .int x2), (3, .int (x3 + (iI_ 1)))] [] σ6)))))) : GG_ (zx_ u) mX9_tryOrder (Pv_ P) 2 [(0, .ref (uq_ u 0)), (1, .int x1), (2, .int x2), (3, .int x3)] [] σ := by
  refine g_iload_n dX9_tryOrder_2 3 rfl rfl ?_
  refine g_aload_n dX9_tryOrder_3 0 rfl rfl ?_
  refine gx_LinenHouse_roll w_324 rfl dX9_tryOrder_4 ?_
  refine gx_Roll_n w_105 rfl dX9_tryOrder_7 ?_
  refine g_icmp_ge 43 dX9_tryOrder_10 (by decide) (fun c1 => ?_) (fun c1 => ?_)
  · replace H := H.1 c1
    exact g_vret rfl dX9_tryOrder_43 ⟨rfl, H⟩
  · replace H := H.2 c1
    refine g_aload_n dX9_tryOrder_13 0 rfl rfl ?_
    refine gx_LinenHouse_tried w_332 rfl dX9_tryOrder_14 ?_
    refine g_iload_n dX9_tryOrder_17 3 rfl rfl ?_
    refine g_iload_n dX9_tryOrder_18 3 rfl rfl ?_
    refine g_iload_n dX9_tryOrder_19 1 rfl rfl ?_
    refine g_icmp_ne 27 dX9_tryOrder_20 (by decide) (fun c2 => ?_) (fun c2 => ?_)
    · replace H := H.1 c2
      refine g_aload_n dX9_tryOrder_27 0 rfl rfl ?_
      refine gx_LinenHouse_roll w_324 rfl dX9_tryOrder_28 ?_
      refine gx_Roll_order w_114 rfl dX9_tryOrder_31 ?_
      refine g_iload_n dX9_tryOrder_34 3 rfl rfl ?_
      obtain ⟨h3, H⟩ := H
      refine ax_7 h3 dX9_tryOrder_35 ?_
      obtain ⟨h5, H⟩ := H
      refine sx_34 h5 dX9_tryOrder_36 ?_
      obtain ⟨σ4, e_σ4⟩ : ∃ q : St_, q = su_ σ 34 (Int32.toNatClampNeg x3) (σ 7 (Int32.toNatClampNeg x3)) := ⟨_, rfl⟩
      rw [← e_σ4]
      replace H := H σ4 e_σ4
      refine g_iinc (v := (x3 + (iI_ 1))) (L' := [(3, .int (x3 + (iI_ 1))), (0, .ref (uq_ u 0)), (1, .int x1), (2, .int x2)]) dX9_tryOrder_37 3 rfl rfl (by decide) rfl ?_
      refine g_goto 2 dX9_tryOrder_40 (by decide) ?_
      exact GG_.sub [1, 2, 3, 0] rfl H
    · replace H := H.2 c2
      refine g_iload_n dX9_tryOrder_23 2 rfl rfl ?_
      refine g_goto 36 dX9_tryOrder_24 (by decide) ?_
      obtain ⟨h7, H⟩ := H
      refine sx_34 h7 dX9_tryOrder_36 ?_
      obtain ⟨σ6, e_σ6⟩ : ∃ q : St_, q = su_ σ 34 (Int32.toNatClampNeg x3) x2 := ⟨_, rfl⟩
      rw [← e_σ6]
      replace H := H σ6 e_σ6
      refine g_iinc (v := (x3 + (iI_ 1))) (L' := [(3, .int (x3 + (iI_ 1))), (0, .ref (uq_ u 0)), (1, .int x1), (2, .int x2)]) dX9_tryOrder_37 3 rfl rfl (by decide) rfl ?_
      refine g_goto 2 dX9_tryOrder_40 (by decide) ?_
      exact GG_.sub [1, 2, 3, 0] rfl H
set_option maxHeartbeats 4000000 in
set_option maxRecDepth 100000 in
theorem eX9_tryOrder (u : Ux_) {P : St_ → Prop}  (σ : St_) (x1 : Int32) (x2 : Int32) (H : GG_ (zx_ u) mX9_tryOrder (Pv_ P) 2 [(0, .ref (uq_ u 0)), (1, .int x1), (2, .int x2), (3, .int (iI_ 0))] [] σ) : MMv_ (zx_ u) mX9_tryOrder [.ref (uq_ u 0), .int x1, .int x2] σ P := by
  refine MM_.of (L := [(0, .ref (uq_ u 0)), (1, .int x1), (2, .int x2)]) (by decide +kernel) (Nat.le_of_ble_eq_true rfl) rfl ?_
  refine g_iconst (v := (iI_ 0)) dX9_tryOrder_0 (by decide) ?_
  refine g_istore_n (L' := [(3, .int (iI_ 0)), (0, .ref (uq_ u 0)), (1, .int x1), (2, .int x2)]) dX9_tryOrder_1 rfl (by decide) rfl ?_
  exact GG_.sub [1, 2, 3, 0] rfl H
set_option maxHeartbeats 4000000 in
set_option maxRecDepth 100000 in
theorem bX9_nightToAsk_9 (u : Ux_) {P : Int32 → St_ → Prop}  (σ : St_) (x1 : Int32) (x2 : Int32) (x3 : Int32) (x4 : Int32) (x5 : Int32) (H : (((iI_ 10) ≤ x5 → P x3 σ) ∧ (¬ (iI_ 10) ≤ x5 → MMi_ (zx_ u) mX9_mostAlike [.ref (uq_ u 0), .int x5, .int x1, .int x2] σ (fun r3 σ2 => ((x4 ≤ r3 → GG_ (zx_ u) mX9_nightToAsk (Pi_ P) 9 [(0, .ref (uq_ u 0)), (1, .int x1), (2, .int x2), (3, .int x3), (4, .int x4), (5, .int (x5 + (iI_ 1)))] [] σ2) ∧ (¬ x4 ≤ r3 → GG_ (zx_ u) mX9_nightToAsk (Pi_ P) 9 [(0, .ref (uq_ u 0)), (1, .int x1), (2, .int x2), (3, .int x5), (4, .int r3), (5, .int (x5 + (iI_ 1)))] [] σ2)))))) : GG_ (zx_ u) mX9_nightToAsk (Pi_ P) 9 [(0, .ref (uq_ u 0)), (1, .int x1), (2, .int x2), (3, .int x3), (4, .int x4), (5, .int x5)] [] σ := by
  refine g_iload dX9_nightToAsk_9 5 rfl ?_
  refine g_bipush (v := (iI_ 10)) dX9_nightToAsk_11 (by decide) ?_
  refine g_icmp_ge 46 dX9_nightToAsk_13 (by decide) (fun c1 => ?_) (fun c1 => ?_)
  · replace H := H.1 c1
    refine g_iload_n dX9_nightToAsk_46 3 rfl rfl ?_
    exact g_iret rfl dX9_nightToAsk_47 ⟨_, rfl, H⟩
  · replace H := H.2 c1
    refine g_aload_n dX9_nightToAsk_16 0 rfl rfl ?_
    refine g_iload dX9_nightToAsk_17 5 rfl ?_
    refine g_iload_n dX9_nightToAsk_19 1 rfl rfl ?_
    refine g_iload_n dX9_nightToAsk_20 2 rfl rfl ?_
    refine k_X9_mostAlike w_696 rfl ⟨Nat.le_of_ble_eq_true rfl, Nat.le_of_ble_eq_true rfl⟩ (Nat.le_of_ble_eq_true rfl) dX9_nightToAsk_21 H (fun r3 σ2 H => ?_)
    refine g_istore (L' := [(6, .int r3), (0, .ref (uq_ u 0)), (1, .int x1), (2, .int x2), (3, .int x3), (4, .int x4), (5, .int x5)]) dX9_nightToAsk_24 (by decide) rfl ?_
    refine g_iload dX9_nightToAsk_26 0 rfl ?_
    refine g_iload dX9_nightToAsk_28 5 rfl ?_
    refine g_icmp_ge 40 dX9_nightToAsk_30 (by decide) (fun c4 => ?_) (fun c4 => ?_)
    · replace H := H.1 c4
      refine g_iinc (v := (x5 + (iI_ 1))) (L' := [(5, .int (x5 + (iI_ 1))), (6, .int r3), (0, .ref (uq_ u 0)), (1, .int x1), (2, .int x2), (3, .int x3), (4, .int x4)]) dX9_nightToAsk_40 6 rfl rfl (by decide) rfl ?_
      refine g_goto 9 dX9_nightToAsk_43 (by decide) ?_
      exact GG_.sub [2, 3, 4, 5, 6, 0] rfl H
    · replace H := H.2 c4
      refine g_iload dX9_nightToAsk_33 0 rfl ?_
      refine g_istore (L' := [(4, .int r3), (6, .int r3), (0, .ref (uq_ u 0)), (1, .int x1), (2, .int x2), (3, .int x3), (5, .int x5)]) dX9_nightToAsk_35 (by decide) rfl ?_
      refine g_iload dX9_nightToAsk_37 6 rfl ?_
      refine g_istore_n (L' := [(3, .int x5), (4, .int r3), (6, .int r3), (0, .ref (uq_ u 0)), (1, .int x1), (2, .int x2), (5, .int x5)]) dX9_nightToAsk_39 rfl (by decide) rfl ?_
      refine g_iinc (v := (x5 + (iI_ 1))) (L' := [(5, .int (x5 + (iI_ 1))), (3, .int x5), (4, .int r3), (6, .int r3), (0, .ref (uq_ u 0)), (1, .int x1), (2, .int x2)]) dX9_nightToAsk_40 6 rfl rfl (by decide) rfl ?_
      refine g_goto 9 dX9_nightToAsk_43 (by decide) ?_
      exact GG_.sub [4, 5, 6, 1, 2, 0] rfl H
set_option maxHeartbeats 4000000 in
set_option maxRecDepth 100000 in
theorem eX9_nightToAsk (u : Ux_) {P : Int32 → St_ → Prop}  (σ : St_) (x1 : Int32) (x2 : Int32) (H : GG_ (zx_ u) mX9_nightToAsk (Pi_ P) 9 [(0, .ref (uq_ u 0)), (1, .int x1), (2, .int x2), (3, .int (iI_ 0)), (4, .int (iI_ 7)), (5, .int (iI_ 0))] [] σ) : MMi_ (zx_ u) mX9_nightToAsk [.ref (uq_ u 0), .int x1, .int x2] σ P := by
  refine MM_.of (L := [(0, .ref (uq_ u 0)), (1, .int x1), (2, .int x2)]) (by decide +kernel) (Nat.le_of_ble_eq_true rfl) rfl ?_
  refine g_iconst (v := (iI_ 0)) dX9_nightToAsk_0 (by decide) ?_
  refine g_istore_n (L' := [(3, .int (iI_ 0)), (0, .ref (uq_ u 0)), (1, .int x1), (2, .int x2)]) dX9_nightToAsk_1 rfl (by decide) rfl ?_
  refine g_bipush (v := (iI_ 7)) dX9_nightToAsk_2 (by decide) ?_
  refine g_istore (L' := [(4, .int (iI_ 7)), (3, .int (iI_ 0)), (0, .ref (uq_ u 0)), (1, .int x1), (2, .int x2)]) dX9_nightToAsk_4 (by decide) rfl ?_
  refine g_iconst (v := (iI_ 0)) dX9_nightToAsk_6 (by decide) ?_
  refine g_istore (L' := [(5, .int (iI_ 0)), (4, .int (iI_ 7)), (3, .int (iI_ 0)), (0, .ref (uq_ u 0)), (1, .int x1), (2, .int x2)]) dX9_nightToAsk_7 (by decide) rfl ?_
  exact GG_.sub [3, 4, 5, 2, 1, 0] rfl H
set_option maxHeartbeats 4000000 in
set_option maxRecDepth 100000 in
theorem bX9_mostAlike_3 (u : Ux_) {P : Int32 → St_ → Prop}  (σ : St_) (x1 : Int32) (x2 : Int32) (x3 : Int32) (x4 : Int32) (H : (((iI_ 3) < x4 → MMi_ (zx_ u) mX2_has [.ref (uq_ u 15), .int x1] σ (fun r3 σ2 => GG_ (zx_ u) mX9_mostAlike (Pi_ P) 39 [(0, .ref (uq_ u 0)), (1, .int x1), (2, .int x2), (3, .int x3), (4, .int r3), (5, .int (iI_ 0)), (6, .int (iI_ 0))] [] σ2)) ∧ (¬ (iI_ 3) < x4 → vp_in x4 4 ∧ (∀ σ4, σ4 = su_ σ 37 (Int32.toNatClampNeg x4) (iI_ 0) → GG_ (zx_ u) mX9_mostAlike (Pi_ P) 3 [(0, .ref (uq_ u 0)), (1, .int x1), (2, .int x2), (3, .int x3), (4, .int (x4 + (iI_ 1)))] [] σ4)))) : GG_ (zx_ u) mX9_mostAlike (Pi_ P) 3 [(0, .ref (uq_ u 0)), (1, .int x1), (2, .int x2), (3, .int x3), (4, .int x4)] [] σ := by
  refine g_iload dX9_mostAlike_3 4 rfl ?_
  refine g_iconst (v := (iI_ 3)) dX9_mostAlike_5 (by decide) ?_
  refine g_icmp_gt 23 dX9_mostAlike_6 (by decide) (fun c1 => ?_) (fun c1 => ?_)
  · replace H := H.1 c1
    refine g_aload_n dX9_mostAlike_23 0 rfl rfl ?_
    refine gx_LinenHouse_jars w_327 rfl dX9_mostAlike_24 ?_
    refine g_iload_n dX9_mostAlike_27 1 rfl rfl ?_
    refine k_X2_has w_490 rfl ⟨Nat.le_of_ble_eq_true rfl, Nat.le_of_ble_eq_true rfl⟩ (Nat.le_of_ble_eq_true rfl) dX9_mostAlike_28 H (fun r3 σ2 H => ?_)
    refine g_istore (L' := [(4, .int r3), (0, .ref (uq_ u 0)), (1, .int x1), (2, .int x2), (3, .int x3)]) dX9_mostAlike_31 (by decide) rfl ?_
    refine g_iconst (v := (iI_ 0)) dX9_mostAlike_33 (by decide) ?_
    refine g_istore (L' := [(5, .int (iI_ 0)), (4, .int r3), (0, .ref (uq_ u 0)), (1, .int x1), (2, .int x2), (3, .int x3)]) dX9_mostAlike_34 (by decide) rfl ?_
    refine g_iconst (v := (iI_ 0)) dX9_mostAlike_36 (by decide) ?_
    refine g_istore (L' := [(6, .int (iI_ 0)), (5, .int (iI_ 0)), (4, .int r3), (0, .ref (uq_ u 0)), (1, .int x1), (2, .int x2), (3, .int x3)]) dX9_mostAlike_37 (by decide) rfl ?_
    exact GG_.sub [3, 4, 5, 6, 2, 1, 0] rfl H
  · replace H := H.2 c1
    refine g_aload_n dX9_mostAlike_9 0 rfl rfl ?_
    refine gx_LinenHouse_alike w_335 rfl dX9_mostAlike_10 ?_
    refine g_iload dX9_mostAlike_13 4 rfl ?_
    refine g_iconst (v := (iI_ 0)) dX9_mostAlike_15 (by decide) ?_
    obtain ⟨h5, H⟩ := H
    refine sx_37 h5 dX9_mostAlike_16 ?_
    obtain ⟨σ4, e_σ4⟩ : ∃ q : St_, q = su_ σ 37 (Int32.toNatClampNeg x4) (iI_ 0) := ⟨_, rfl⟩
    rw [← e_σ4]
    replace H := H σ4 e_σ4
    refine g_iinc (v := (x4 + (iI_ 1))) (L' := [(4, .int (x4 + (iI_ 1))), (0, .ref (uq_ u 0)), (1, .int x1), (2, .int x2), (3, .int x3)]) dX9_mostAlike_17 4 rfl rfl (by decide) rfl ?_
    refine g_goto 3 dX9_mostAlike_20 (by decide) ?_
    exact GG_.sub [1, 2, 3, 4, 0] rfl H
set_option maxHeartbeats 4000000 in
set_option maxRecDepth 100000 in
theorem bX9_mostAlike_39 (u : Ux_) {P : Int32 → St_ → Prop}  (σ : St_) (x1 : Int32) (x2 : Int32) (x3 : Int32) (x4 : Int32) (x5 : Int32) (x6 : Int32) (H : (((iI_ 6) ≤ x6 → P x5 σ) ∧ (¬ (iI_ 6) ≤ x6 → ((¬ ((x3 >>> (x6 &&& 31)) &&& (iI_ 1)) = (iI_ 1) → GG_ (zx_ u) mX9_mostAlike (Pi_ P) 39 [(0, .ref (uq_ u 0)), (1, .int x1), (2, .int x2), (3, .int x3), (4, .int x4), (5, .int x5), (6, .int (x6 + (iI_ 1)))] [] σ) ∧ (((x3 >>> (x6 &&& 31)) &&& (iI_ 1)) = (iI_ 1) → MMv_ (zx_ u) mX9_tryOrder [.ref (uq_ u 0), .int x2, .int x6] σ (fun σ3 => MMi_ (zx_ u) mX0_carried [.ref (uq_ u 20), .int x1, .ref (uq_ u 28), .int x4, .int (iI_ (-1))] σ3 (fun r5 σ4 => MMi_ (zx_ u) mX9_within [.int (r5 + (iI_ 1)), .int (iI_ 4)] σ4 (fun r7 σ6 => ((r7 = iI_ 0 → GG_ (zx_ u) mX9_mostAlike (Pi_ P) 39 [(0, .ref (uq_ u 0)), (1, .int x1), (2, .int x2), (3, .int x3), (4, .int x4), (5, .int x5), (6, .int (x6 + (iI_ 1)))] [] σ6) ∧ (¬ r7 = iI_ 0 → vp_in (r5 + (iI_ 1)) 4 ∧ vp_in (r5 + (iI_ 1)) 4 ∧ (∀ σ10, σ10 = su_ σ6 37 (Int32.toNatClampNeg (r5 + (iI_ 1))) ((σ6 37 (Int32.toNatClampNeg (r5 + (iI_ 1)))) + (iI_ 1)) → vp_in (r5 + (iI_ 1)) 4 ∧ GG_ (zx_ u) mX9_mostAlike (Pi_ P) 39 [(0, .ref (uq_ u 0)), (1, .int x1), (2, .int x2), (3, .int x3), (4, .int x4), (5, .int (if x5 < (σ10 37 (Int32.toNatClampNeg (r5 + (iI_ 1)))) then (σ10 37 (Int32.toNatClampNeg (r5 + (iI_ 1)))) else x5)), (6, .int (x6 + (iI_ 1)))] [] σ10))))))))))) : GG_ (zx_ u) mX9_mostAlike (Pi_ P) 39 [(0, .ref (uq_ u 0)), (1, .int x1), (2, .int x2), (3, .int x3), (4, .int x4), (5, .int x5), (6, .int x6)] [] σ := by
  refine g_iload dX9_mostAlike_39 6 rfl ?_
  refine g_bipush (v := (iI_ 6)) dX9_mostAlike_41 (by decide) ?_
  refine g_icmp_ge 126 dX9_mostAlike_43 (by decide) (fun c1 => ?_) (fun c1 => ?_)
  · replace H := H.1 c1
    refine g_iload dX9_mostAlike_126 5 rfl ?_
    exact g_iret rfl dX9_mostAlike_128 ⟨_, rfl, H⟩
  · replace H := H.2 c1
    refine g_iload_n dX9_mostAlike_46 3 rfl rfl ?_
    refine g_iload dX9_mostAlike_47 6 rfl ?_
    refine g_ishr dX9_mostAlike_49 ?_
    refine g_iconst (v := (iI_ 1)) dX9_mostAlike_50 (by decide) ?_
    refine g_iand dX9_mostAlike_51 ?_
    refine g_iconst (v := (iI_ 1)) dX9_mostAlike_52 (by decide) ?_
    refine g_icmp_ne 120 dX9_mostAlike_53 (by decide) (fun c2 => ?_) (fun c2 => ?_)
    · replace H := H.1 c2
      refine g_iinc (v := (x6 + (iI_ 1))) (L' := [(6, .int (x6 + (iI_ 1))), (0, .ref (uq_ u 0)), (1, .int x1), (2, .int x2), (3, .int x3), (4, .int x4), (5, .int x5)]) dX9_mostAlike_120 6 rfl rfl (by decide) rfl ?_
      refine g_goto 39 dX9_mostAlike_123 (by decide) ?_
      exact GG_.sub [1, 2, 3, 4, 5, 6, 0] rfl H
    · replace H := H.2 c2
      refine g_aload_n dX9_mostAlike_56 0 rfl rfl ?_
      refine g_iload_n dX9_mostAlike_57 2 rfl rfl ?_
      refine g_iload dX9_mostAlike_58 6 rfl ?_
      refine k_X9_tryOrder w_684 rfl ⟨Nat.le_of_ble_eq_true rfl, Nat.le_of_ble_eq_true rfl⟩ (Nat.le_of_ble_eq_true rfl) dX9_mostAlike_60 H (fun σ3 H => ?_)
      refine g_aload_n dX9_mostAlike_63 0 rfl rfl ?_
      refine gx_LinenHouse_chamber w_329 rfl dX9_mostAlike_64 ?_
      refine g_iload_n dX9_mostAlike_67 1 rfl rfl ?_
      refine g_aload_n dX9_mostAlike_68 0 rfl rfl ?_
      refine gx_LinenHouse_tried w_332 rfl dX9_mostAlike_69 ?_
      refine g_iload dX9_mostAlike_72 4 rfl ?_
      refine g_iconst (v := (iI_ (-1))) dX9_mostAlike_74 (by decide) ?_
      refine k_X0_carried w_494 rfl ⟨Nat.le_of_ble_eq_true rfl, Nat.le_of_ble_eq_true rfl⟩ (Nat.le_of_ble_eq_true rfl) dX9_mostAlike_75 H (fun r5 σ4 H => ?_)
      refine g_iconst (v := (iI_ 1)) dX9_mostAlike_78 (by decide) ?_
      refine g_iadd dX9_mostAlike_79 ?_
      refine g_istore (L' := [(7, .int (r5 + (iI_ 1))), (0, .ref (uq_ u 0)), (1, .int x1), (2, .int x2), (3, .int x3), (4, .int x4), (5, .int x5), (6, .int x6)]) dX9_mostAlike_80 (by decide) rfl ?_
      refine g_iload dX9_mostAlike_82 0 rfl ?_
      refine g_aload_n dX9_mostAlike_84 1 rfl rfl ?_
      refine gx_LinenHouse_alike w_335 rfl dX9_mostAlike_85 ?_
      refine lx_37 dX9_mostAlike_88 ?_
      refine k_X9_within w_370 rfl ⟨Nat.le_of_ble_eq_true rfl, Nat.le_of_ble_eq_true rfl⟩ (Nat.le_of_ble_eq_true rfl) dX9_mostAlike_89 H (fun r7 σ6 H => ?_)
      refine g_if_eq 120 dX9_mostAlike_92 (by decide) (fun c8 => ?_) (fun c8 => ?_)
      · replace H := H.1 c8
        refine g_iinc (v := (x6 + (iI_ 1))) (L' := [(6, .int (x6 + (iI_ 1))), (7, .int (r5 + (iI_ 1))), (0, .ref (uq_ u 0)), (1, .int x1), (2, .int x2), (3, .int x3), (4, .int x4), (5, .int x5)]) dX9_mostAlike_120 7 rfl rfl (by decide) rfl ?_
        refine g_goto 39 dX9_mostAlike_123 (by decide) ?_
        exact GG_.sub [2, 3, 4, 5, 6, 7, 0] rfl H
      · replace H := H.2 c8
        refine g_aload_n dX9_mostAlike_95 1 rfl rfl ?_
        refine gx_LinenHouse_alike w_335 rfl dX9_mostAlike_96 ?_
        refine g_iload dX9_mostAlike_99 0 rfl ?_
        refine g_dup2 dX9_mostAlike_101 rfl rfl ?_
        obtain ⟨h9, H⟩ := H
        refine ax_37 h9 dX9_mostAlike_102 ?_
        refine g_iconst (v := (iI_ 1)) dX9_mostAlike_103 (by decide) ?_
        refine g_iadd dX9_mostAlike_104 ?_
        obtain ⟨h11, H⟩ := H
        refine sx_37 h11 dX9_mostAlike_105 ?_
        obtain ⟨σ10, e_σ10⟩ : ∃ q : St_, q = su_ σ6 37 (Int32.toNatClampNeg (r5 + (iI_ 1))) ((σ6 37 (Int32.toNatClampNeg (r5 + (iI_ 1)))) + (iI_ 1)) := ⟨_, rfl⟩
        rw [← e_σ10]
        replace H := H σ10 e_σ10
        refine g_iload dX9_mostAlike_106 6 rfl ?_
        refine g_aload_n dX9_mostAlike_108 1 rfl rfl ?_
        refine gx_LinenHouse_alike w_335 rfl dX9_mostAlike_109 ?_
        refine g_iload dX9_mostAlike_112 0 rfl ?_
        obtain ⟨h12, H⟩ := H
        refine ax_37 h12 dX9_mostAlike_114 ?_
        refine g_max w_700 rfl (Nat.le_of_ble_eq_true rfl) (Nat.le_of_ble_eq_true rfl) dX9_mostAlike_115 ?_
        refine g_istore (L' := [(5, .int (if x5 < (σ10 37 (Int32.toNatClampNeg (r5 + (iI_ 1)))) then (σ10 37 (Int32.toNatClampNeg (r5 + (iI_ 1)))) else x5)), (7, .int (r5 + (iI_ 1))), (0, .ref (uq_ u 0)), (1, .int x1), (2, .int x2), (3, .int x3), (4, .int x4), (6, .int x6)]) dX9_mostAlike_118 (by decide) rfl ?_
        refine g_iinc (v := (x6 + (iI_ 1))) (L' := [(6, .int (x6 + (iI_ 1))), (5, .int (if x5 < (σ10 37 (Int32.toNatClampNeg (r5 + (iI_ 1)))) then (σ10 37 (Int32.toNatClampNeg (r5 + (iI_ 1)))) else x5)), (7, .int (r5 + (iI_ 1))), (0, .ref (uq_ u 0)), (1, .int x1), (2, .int x2), (3, .int x3), (4, .int x4)]) dX9_mostAlike_120 7 rfl rfl (by decide) rfl ?_
        refine g_goto 39 dX9_mostAlike_123 (by decide) ?_
        exact GG_.sub [3, 4, 5, 6, 7, 1, 0] rfl H
set_option maxHeartbeats 4000000 in
set_option maxRecDepth 100000 in
theorem eX9_mostAlike (u : Ux_) {P : Int32 → St_ → Prop}  (σ : St_) (x1 : Int32) (x2 : Int32) (x3 : Int32) (H : GG_ (zx_ u) mX9_mostAlike (Pi_ P) 3 [(0, .ref (uq_ u 0)), (1, .int x1), (2, .int x2), (3, .int x3), (4, .int (iI_ 0))] [] σ) : MMi_ (zx_ u) mX9_mostAlike [.ref (uq_ u 0), .int x1, .int x2, .int x3] σ P := by
  refine MM_.of (L := [(0, .ref (uq_ u 0)), (1, .int x1), (2, .int x2), (3, .int x3)]) (by decide +kernel) (Nat.le_of_ble_eq_true rfl) rfl ?_
  refine g_iconst (v := (iI_ 0)) dX9_mostAlike_0 (by decide) ?_
  refine g_istore (L' := [(4, .int (iI_ 0)), (0, .ref (uq_ u 0)), (1, .int x1), (2, .int x2), (3, .int x3)]) dX9_mostAlike_1 (by decide) rfl ?_
  exact GG_.sub [1, 2, 3, 4, 0] rfl H
set_option maxHeartbeats 4000000 in
set_option maxRecDepth 100000 in
theorem bX9_drawOrders_4 (u : Ux_) {P : St_ → Prop}  (σ : St_) (x2 : Int32) (x3 : Int32) (H : (((σ 3 0) ≤ x3 → P σ) ∧ (¬ (σ 3 0) ≤ x3 → vp_in x3 8 ∧ (∀ σ2, σ2 = su_ σ 34 (Int32.toNatClampNeg x3) ((Int32.toUInt32 (((iI_ 1103515245) * x2) + (iI_ 12345)) >>> (Int32.toUInt32 (iI_ 16) &&& Int32.toUInt32 31)).toInt32 - (Int32.toUInt32 (((iI_ 1103515245) * x2) + (iI_ 12345)) >>> (Int32.toUInt32 (iI_ 16) &&& Int32.toUInt32 31)).toInt32 / (iI_ 6) * (iI_ 6)) → GG_ (zx_ u) mX9_drawOrders (Pv_ P) 4 [(0, .ref (uq_ u 0)), (2, .int (((iI_ 1103515245) * x2) + (iI_ 12345))), (3, .int (x3 + (iI_ 1)))] [] σ2)))) : GG_ (zx_ u) mX9_drawOrders (Pv_ P) 4 [(0, .ref (uq_ u 0)), (2, .int x2), (3, .int x3)] [] σ := by
  refine g_iload_n dX9_drawOrders_4 2 rfl rfl ?_
  refine g_aload_n dX9_drawOrders_5 0 rfl rfl ?_
  refine gx_LinenHouse_roll w_324 rfl dX9_drawOrders_6 ?_
  refine gx_Roll_n w_105 rfl dX9_drawOrders_9 ?_
  refine g_icmp_ge 44 dX9_drawOrders_12 (by decide) (fun c1 => ?_) (fun c1 => ?_)
  · replace H := H.1 c1
    exact g_vret rfl dX9_drawOrders_44 ⟨rfl, H⟩
  · replace H := H.2 c1
    refine g_ldcw (v := (iI_ 1103515245)) (by decide) w_714 rfl dX9_drawOrders_15 ?_
    refine g_iload_n dX9_drawOrders_18 1 rfl rfl ?_
    refine g_imul dX9_drawOrders_19 ?_
    refine g_sipush (v := (iI_ 12345)) dX9_drawOrders_20 (by decide) ?_
    refine g_iadd dX9_drawOrders_23 ?_
    refine g_istore_n (L' := [(2, .int (((iI_ 1103515245) * x2) + (iI_ 12345))), (0, .ref (uq_ u 0)), (3, .int x3)]) dX9_drawOrders_24 rfl (by decide) rfl ?_
    refine g_aload_n dX9_drawOrders_25 1 rfl rfl ?_
    refine gx_LinenHouse_tried w_332 rfl dX9_drawOrders_26 ?_
    refine g_iload_n dX9_drawOrders_29 2 rfl rfl ?_
    refine g_iload_n dX9_drawOrders_30 0 rfl rfl ?_
    refine g_bipush (v := (iI_ 16)) dX9_drawOrders_31 (by decide) ?_
    refine g_iushr dX9_drawOrders_33 ?_
    refine g_bipush (v := (iI_ 6)) dX9_drawOrders_34 (by decide) ?_
    refine g_irem dX9_drawOrders_36 (by decide) ?_
    obtain ⟨h3, H⟩ := H
    refine sx_34 h3 dX9_drawOrders_37 ?_
    obtain ⟨σ2, e_σ2⟩ : ∃ q : St_, q = su_ σ 34 (Int32.toNatClampNeg x3) ((Int32.toUInt32 (((iI_ 1103515245) * x2) + (iI_ 12345)) >>> (Int32.toUInt32 (iI_ 16) &&& Int32.toUInt32 31)).toInt32 - (Int32.toUInt32 (((iI_ 1103515245) * x2) + (iI_ 12345)) >>> (Int32.toUInt32 (iI_ 16) &&& Int32.toUInt32 31)).toInt32 / (iI_ 6) * (iI_ 6)) := ⟨_, rfl⟩
    rw [← e_σ2]
    replace H := H σ2 e_σ2
    refine g_iinc (v := (x3 + (iI_ 1))) (L' := [(3, .int (x3 + (iI_ 1))), (2, .int (((iI_ 1103515245) * x2) + (iI_ 12345))), (0, .ref (uq_ u 0))]) dX9_drawOrders_38 2 rfl rfl (by decide) rfl ?_
    refine g_goto 4 dX9_drawOrders_41 (by decide) ?_
    exact GG_.sub [2, 1, 0] rfl H
set_option maxHeartbeats 4000000 in
set_option maxRecDepth 100000 in
theorem eX9_drawOrders (u : Ux_) {P : St_ → Prop}  (σ : St_) (x1 : Int32) (H : GG_ (zx_ u) mX9_drawOrders (Pv_ P) 4 [(0, .ref (uq_ u 0)), (2, .int x1), (3, .int (iI_ 0))] [] σ) : MMv_ (zx_ u) mX9_drawOrders [.ref (uq_ u 0), .int x1] σ P := by
  refine MM_.of (L := [(0, .ref (uq_ u 0)), (1, .int x1)]) (by decide +kernel) (Nat.le_of_ble_eq_true rfl) rfl ?_
  refine g_iload_n dX9_drawOrders_0 1 rfl rfl ?_
  refine g_istore_n (L' := [(2, .int x1), (0, .ref (uq_ u 0)), (1, .int x1)]) dX9_drawOrders_1 rfl (by decide) rfl ?_
  refine g_iconst (v := (iI_ 0)) dX9_drawOrders_2 (by decide) ?_
  refine g_istore_n (L' := [(3, .int (iI_ 0)), (2, .int x1), (0, .ref (uq_ u 0)), (1, .int x1)]) dX9_drawOrders_3 rfl (by decide) rfl ?_
  exact GG_.sub [2, 1, 0] rfl H
