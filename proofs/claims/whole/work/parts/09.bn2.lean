set_option maxHeartbeats 4000000 in
set_option maxRecDepth 100000 in
theorem bX5_weighSets_9 (u : Ux_) {P : St_ → Prop}  (σ : St_) (x1 : Int32) (H : (((σ 3 0) ≤ x1 → P σ) ∧ (¬ (σ 3 0) ≤ x1 → GG_ (zx_ u) mX5_weighSets (Pv_ P) 26 [(0, .ref (uq_ u 25)), (1, .int x1), (2, .int ((iI_ 1) <<< (x1 &&& 31))), (3, .int (iI_ 0))] [] σ))) : GG_ (zx_ u) mX5_weighSets (Pv_ P) 9 [(0, .ref (uq_ u 25)), (1, .int x1)] [] σ := by
  refine g_iload_n dX5_weighSets_9 1 rfl rfl ?_
  refine g_aload_n dX5_weighSets_10 0 rfl rfl ?_
  refine gx_Shares_roll w_278 rfl dX5_weighSets_11 ?_
  refine gx_Roll_n w_104 rfl dX5_weighSets_14 ?_
  refine g_icmp_ge 66 dX5_weighSets_17 (by decide) (fun c1 => ?_) (fun c1 => ?_)
  · replace H := H.1 c1
    exact g_vret rfl dX5_weighSets_66 ⟨rfl, H⟩
  · replace H := H.2 c1
    refine g_iconst (v := (iI_ 1)) dX5_weighSets_20 (by decide) ?_
    refine g_iload_n dX5_weighSets_21 1 rfl rfl ?_
    refine g_ishl dX5_weighSets_22 ?_
    refine g_istore_n (L' := [(2, .int ((iI_ 1) <<< (x1 &&& 31))), (0, .ref (uq_ u 25)), (1, .int x1)]) dX5_weighSets_23 rfl (by decide) rfl ?_
    refine g_iconst (v := (iI_ 0)) dX5_weighSets_24 (by decide) ?_
    refine g_istore_n (L' := [(3, .int (iI_ 0)), (2, .int ((iI_ 1) <<< (x1 &&& 31))), (0, .ref (uq_ u 25)), (1, .int x1)]) dX5_weighSets_25 rfl (by decide) rfl ?_
    exact GG_.sub [2, 3, 1, 0] rfl H
set_option maxHeartbeats 4000000 in
set_option maxRecDepth 100000 in
theorem bX5_weighSets_26 (u : Ux_) {P : St_ → Prop}  (σ : St_) (x1 : Int32) (x2 : Int32) (x3 : Int32) (H : ((x2 ≤ x3 → GG_ (zx_ u) mX5_weighSets (Pv_ P) 9 [(0, .ref (uq_ u 25)), (1, .int (x1 + (iI_ 1)))] [] σ) ∧ (¬ x2 ≤ x3 → vp_in x3 256 ∧ MMi_ (zx_ u) mX4_weightOf [.ref (uq_ u 2), .int x1] σ (fun r4 σ3 => vp_in (x2 + x3) 256 ∧ (∀ σ5, σ5 = su_ σ3 33 (Int32.toNatClampNeg (x2 + x3)) ((σ 33 (Int32.toNatClampNeg x3)) + r4) → GG_ (zx_ u) mX5_weighSets (Pv_ P) 26 [(0, .ref (uq_ u 25)), (1, .int x1), (2, .int x2), (3, .int (x3 + (iI_ 1)))] [] σ5))))) : GG_ (zx_ u) mX5_weighSets (Pv_ P) 26 [(0, .ref (uq_ u 25)), (1, .int x1), (2, .int x2), (3, .int x3)] [] σ := by
  refine g_iload_n dX5_weighSets_26 3 rfl rfl ?_
  refine g_iload_n dX5_weighSets_27 2 rfl rfl ?_
  refine g_icmp_ge 60 dX5_weighSets_28 (by decide) (fun c1 => ?_) (fun c1 => ?_)
  · replace H := H.1 c1
    refine g_iinc (v := (x1 + (iI_ 1))) (L' := [(1, .int (x1 + (iI_ 1))), (0, .ref (uq_ u 25)), (2, .int x2), (3, .int x3)]) dX5_weighSets_60 1 rfl rfl (by decide) rfl ?_
    refine g_goto 9 dX5_weighSets_63 (by decide) ?_
    exact GG_.sub [1, 0] rfl H
  · replace H := H.2 c1
    refine g_aload_n dX5_weighSets_31 0 rfl rfl ?_
    refine gx_Shares_weightOfSet w_279 rfl dX5_weighSets_32 ?_
    refine g_iload_n dX5_weighSets_35 2 rfl rfl ?_
    refine g_iload_n dX5_weighSets_36 3 rfl rfl ?_
    refine g_iadd dX5_weighSets_37 ?_
    refine g_aload_n dX5_weighSets_38 0 rfl rfl ?_
    refine gx_Shares_weightOfSet w_279 rfl dX5_weighSets_39 ?_
    refine g_iload_n dX5_weighSets_42 3 rfl rfl ?_
    obtain ⟨h2, H⟩ := H
    refine ax_33 h2 dX5_weighSets_43 ?_
    refine g_aload_n dX5_weighSets_44 0 rfl rfl ?_
    refine gx_Shares_roll w_278 rfl dX5_weighSets_45 ?_
    refine g_iload_n dX5_weighSets_48 1 rfl rfl ?_
    refine k_X4_weightOf w_621 rfl ⟨Nat.le_of_ble_eq_true rfl, Nat.le_of_ble_eq_true rfl⟩ (Nat.le_of_ble_eq_true rfl) dX5_weighSets_49 H (fun r4 σ3 H => ?_)
    refine g_iadd dX5_weighSets_52 ?_
    obtain ⟨h6, H⟩ := H
    refine sx_33 h6 dX5_weighSets_53 ?_
    obtain ⟨σ5, e_σ5⟩ : ∃ q : St_, q = su_ σ3 33 (Int32.toNatClampNeg (x2 + x3)) ((σ 33 (Int32.toNatClampNeg x3)) + r4) := ⟨_, rfl⟩
    rw [← e_σ5]
    replace H := H σ5 e_σ5
    refine g_iinc (v := (x3 + (iI_ 1))) (L' := [(3, .int (x3 + (iI_ 1))), (0, .ref (uq_ u 25)), (1, .int x1), (2, .int x2)]) dX5_weighSets_54 3 rfl rfl (by decide) rfl ?_
    refine g_goto 26 dX5_weighSets_57 (by decide) ?_
    exact GG_.sub [1, 2, 3, 0] rfl H
set_option maxHeartbeats 4000000 in
set_option maxRecDepth 100000 in
theorem eX5_weighSets (u : Ux_) {P : St_ → Prop}  (σ : St_)  (H : (∀ σ1, σ1 = su_ σ 33 (Int32.toNatClampNeg (iI_ 0)) (iI_ 0) → GG_ (zx_ u) mX5_weighSets (Pv_ P) 9 [(0, .ref (uq_ u 25)), (1, .int (iI_ 0))] [] σ1)) : MMv_ (zx_ u) mX5_weighSets [.ref (uq_ u 25)] σ P := by
  refine MM_.of (L := [(0, .ref (uq_ u 25))]) (by decide +kernel) (Nat.le_of_ble_eq_true rfl) rfl ?_
  refine g_aload_n dX5_weighSets_0 0 rfl rfl ?_
  refine gx_Shares_weightOfSet w_279 rfl dX5_weighSets_1 ?_
  refine g_iconst (v := (iI_ 0)) dX5_weighSets_4 (by decide) ?_
  refine g_iconst (v := (iI_ 0)) dX5_weighSets_5 (by decide) ?_
  refine sx_33 (by unfold vp_in; decide) dX5_weighSets_6 ?_
  obtain ⟨σ1, e_σ1⟩ : ∃ q : St_, q = su_ σ 33 (Int32.toNatClampNeg (iI_ 0)) (iI_ 0) := ⟨_, rfl⟩
  rw [← e_σ1]
  replace H := H σ1 e_σ1
  refine g_iconst (v := (iI_ 0)) dX5_weighSets_7 (by decide) ?_
  refine g_istore_n (L' := [(1, .int (iI_ 0)), (0, .ref (uq_ u 25))]) dX5_weighSets_8 rfl (by decide) rfl ?_
  exact GG_.sub [1, 0] rfl H
set_option maxHeartbeats 4000000 in
set_option maxRecDepth 100000 in
theorem bX6_renew_21 (u : Ux_) {P : St_ → Prop} (t0 : Nat) (h0 : t0 < 4) (σ : St_) (x3 : Int32) (H : (((iI_ 60) ≤ x3 → P σ) ∧ (¬ (iI_ 60) ≤ x3 → vp_in x3 60 ∧ (∀ σ2, σ2 = su_ σ (41 + t0) (Int32.toNatClampNeg x3) (iI_ 0) → GG_ (zx_ u) mX6_renew (Pv_ P) 21 [(0, .ref (uq_ u (36 + t0))), (3, .int (x3 + (iI_ 1)))] [] σ2)))) : GG_ (zx_ u) mX6_renew (Pv_ P) 21 [(0, .ref (uq_ u (36 + t0))), (3, .int x3)] [] σ := by
  refine g_iload_n dX6_renew_21 1 rfl rfl ?_
  refine g_bipush (v := (iI_ 60)) dX6_renew_22 (by decide) ?_
  refine g_icmp_ge 40 dX6_renew_24 (by decide) (fun c1 => ?_) (fun c1 => ?_)
  · replace H := H.1 c1
    exact g_vret rfl dX6_renew_40 ⟨rfl, H⟩
  · replace H := H.2 c1
    refine g_aload_n dX6_renew_27 0 rfl rfl ?_
    refine gx_Sheet_item h0 w_314 rfl dX6_renew_28 ?_
    refine g_iload_n dX6_renew_31 1 rfl rfl ?_
    refine g_iconst (v := (iI_ 0)) dX6_renew_32 (by decide) ?_
    obtain ⟨h3, H⟩ := H
    refine sx_si h0 h3 dX6_renew_33 ?_
    obtain ⟨σ2, e_σ2⟩ : ∃ q : St_, q = su_ σ (41 + t0) (Int32.toNatClampNeg x3) (iI_ 0) := ⟨_, rfl⟩
    rw [← e_σ2]
    replace H := H σ2 e_σ2
    refine g_iinc (v := (x3 + (iI_ 1))) (L' := [(3, .int (x3 + (iI_ 1))), (0, .ref (uq_ u (36 + t0)))]) dX6_renew_34 1 rfl rfl (by decide) rfl ?_
    refine g_goto 21 dX6_renew_37 (by decide) ?_
    exact GG_.sub [1, 0] rfl H
set_option maxHeartbeats 4000000 in
set_option maxRecDepth 100000 in
theorem eX6_renew (u : Ux_) {P : St_ → Prop} (t0 : Nat) (h0 : t0 < 4) (σ : St_) (x1 : Int32) (x2 : Int32) (H : (∀ σ1, σ1 = su_ σ 39 t0 x1 → (∀ σ2, σ2 = su_ σ1 40 t0 (if (iI_ 0) < (if (iI_ 60) < x2 then (iI_ 60) else x2) then (if (iI_ 60) < x2 then (iI_ 60) else x2) else (iI_ 0)) → GG_ (zx_ u) mX6_renew (Pv_ P) 21 [(0, .ref (uq_ u (36 + t0))), (3, .int (iI_ 0))] [] σ2))) : MMv_ (zx_ u) mX6_renew [.ref (uq_ u (36 + t0)), .int x1, .int x2] σ P := by
  refine MM_.of (L := [(0, .ref (uq_ u (36 + t0))), (1, .int x1), (2, .int x2)]) (by decide +kernel) (Nat.le_of_ble_eq_true rfl) rfl ?_
  refine g_aload_n dX6_renew_0 0 rfl rfl ?_
  refine g_iload_n dX6_renew_1 1 rfl rfl ?_
  refine px_Sheet_form h0 w_310 rfl dX6_renew_2 ?_
  obtain ⟨σ1, e_σ1⟩ : ∃ q : St_, q = su_ σ 39 t0 x1 := ⟨_, rfl⟩
  rw [← e_σ1]
  replace H := H σ1 e_σ1
  refine g_aload_n dX6_renew_5 0 rfl rfl ?_
  refine g_iconst (v := (iI_ 0)) dX6_renew_6 (by decide) ?_
  refine g_iload_n dX6_renew_7 2 rfl rfl ?_
  refine g_bipush (v := (iI_ 60)) dX6_renew_8 (by decide) ?_
  refine g_min w_727 rfl (Nat.le_of_ble_eq_true rfl) (Nat.le_of_ble_eq_true rfl) dX6_renew_10 ?_
  refine g_max w_728 rfl (Nat.le_of_ble_eq_true rfl) (Nat.le_of_ble_eq_true rfl) dX6_renew_13 ?_
  refine px_Sheet_size h0 w_312 rfl dX6_renew_16 ?_
  obtain ⟨σ2, e_σ2⟩ : ∃ q : St_, q = su_ σ1 40 t0 (if (iI_ 0) < (if (iI_ 60) < x2 then (iI_ 60) else x2) then (if (iI_ 60) < x2 then (iI_ 60) else x2) else (iI_ 0)) := ⟨_, rfl⟩
  rw [← e_σ2]
  replace H := H σ2 e_σ2
  refine g_iconst (v := (iI_ 0)) dX6_renew_19 (by decide) ?_
  refine g_istore_n (L' := [(3, .int (iI_ 0)), (0, .ref (uq_ u (36 + t0))), (1, .int x1), (2, .int x2)]) dX6_renew_20 rfl (by decide) rfl ?_
  exact GG_.sub [1, 0] rfl H
set_option maxHeartbeats 4000000 in
set_option maxRecDepth 100000 in
theorem eX6_holds (u : Ux_) {P : Int32 → St_ → Prop} (t0 : Nat) (h0 : t0 < 4) (σ : St_) (x1 : Int32) (x2 : Int32) (H : ((x1 < iI_ 0 → P (iI_ 0) σ) ∧ (¬ x1 < iI_ 0 → ((x2 < iI_ 0 → P (iI_ 0) σ) ∧ (¬ x2 < iI_ 0 → (((σ 40 t0) < x2 → P (iI_ 0) σ) ∧ (¬ (σ 40 t0) < x2 → ((((σ 40 t0) - x2) < x1 → P (iI_ 0) σ) ∧ (¬ ((σ 40 t0) - x2) < x1 → P (iI_ 1) σ))))))))) : MMi_ (zx_ u) mX6_holds [.ref (uq_ u (36 + t0)), .int x1, .int x2] σ P := by
  refine MM_.of (L := [(0, .ref (uq_ u (36 + t0))), (1, .int x1), (2, .int x2)]) (by decide +kernel) (Nat.le_of_ble_eq_true rfl) rfl ?_
  refine g_iload_n dX6_holds_0 1 rfl rfl ?_
  refine g_if_lt 30 dX6_holds_1 (by decide) (fun c1 => ?_) (fun c1 => ?_)
  · replace H := H.1 c1
    refine g_iconst (v := (iI_ 0)) dX6_holds_30 (by decide) ?_
    exact g_zret rfl (by decide) dX6_holds_31 ⟨_, rfl, H⟩
  · replace H := H.2 c1
    refine g_iload_n dX6_holds_4 2 rfl rfl ?_
    refine g_if_lt 30 dX6_holds_5 (by decide) (fun c2 => ?_) (fun c2 => ?_)
    · replace H := H.1 c2
      refine g_iconst (v := (iI_ 0)) dX6_holds_30 (by decide) ?_
      exact g_zret rfl (by decide) dX6_holds_31 ⟨_, rfl, H⟩
    · replace H := H.2 c2
      refine g_iload_n dX6_holds_8 2 rfl rfl ?_
      refine g_aload_n dX6_holds_9 0 rfl rfl ?_
      refine gx_Sheet_size h0 w_312 rfl dX6_holds_10 ?_
      refine g_icmp_gt 30 dX6_holds_13 (by decide) (fun c3 => ?_) (fun c3 => ?_)
      · replace H := H.1 c3
        refine g_iconst (v := (iI_ 0)) dX6_holds_30 (by decide) ?_
        exact g_zret rfl (by decide) dX6_holds_31 ⟨_, rfl, H⟩
      · replace H := H.2 c3
        refine g_iload_n dX6_holds_16 1 rfl rfl ?_
        refine g_aload_n dX6_holds_17 0 rfl rfl ?_
        refine gx_Sheet_size h0 w_312 rfl dX6_holds_18 ?_
        refine g_iload_n dX6_holds_21 2 rfl rfl ?_
        refine g_isub dX6_holds_22 ?_
        refine g_icmp_gt 30 dX6_holds_23 (by decide) (fun c4 => ?_) (fun c4 => ?_)
        · replace H := H.1 c4
          refine g_iconst (v := (iI_ 0)) dX6_holds_30 (by decide) ?_
          exact g_zret rfl (by decide) dX6_holds_31 ⟨_, rfl, H⟩
        · replace H := H.2 c4
          refine g_iconst (v := (iI_ 1)) dX6_holds_26 (by decide) ?_
          refine g_goto 31 dX6_holds_27 (by decide) ?_
          exact g_zret rfl (by decide) dX6_holds_31 ⟨_, rfl, H⟩
set_option maxHeartbeats 4000000 in
set_option maxRecDepth 100000 in
theorem eX6_set (u : Ux_) {P : St_ → Prop} (t0 : Nat) (h0 : t0 < 4) (σ : St_) (x1 : Int32) (x2 : Int32) (H : ((x1 < iI_ 0 → P σ) ∧ (¬ x1 < iI_ 0 → ((x1 < (σ 40 t0) → ((¬ (σ 39 t0) = iI_ 0 → ((¬ (σ 39 t0) = (iI_ 1) → vp_in x1 60 ∧ (∀ σ5, σ5 = su_ σ (41 + t0) (Int32.toNatClampNeg x1) x2 → P σ5)) ∧ ((σ 39 t0) = (iI_ 1) → vp_in x1 60 ∧ (∀ σ7, σ7 = su_ σ (41 + t0) (Int32.toNatClampNeg x1) (Int32.toInt16 x2).toInt32 → P σ7)))) ∧ ((σ 39 t0) = iI_ 0 → vp_in x1 60 ∧ (∀ σ9, σ9 = su_ σ (41 + t0) (Int32.toNatClampNeg x1) (Int32.toInt8 x2).toInt32 → P σ9)))) ∧ (¬ x1 < (σ 40 t0) → P σ))))) : MMv_ (zx_ u) mX6_set [.ref (uq_ u (36 + t0)), .int x1, .int x2] σ P := by
  refine MM_.of (L := [(0, .ref (uq_ u (36 + t0))), (1, .int x1), (2, .int x2)]) (by decide +kernel) (Nat.le_of_ble_eq_true rfl) rfl ?_
  refine g_iload_n dX6_set_0 1 rfl rfl ?_
  refine g_if_lt 12 dX6_set_1 (by decide) (fun c1 => ?_) (fun c1 => ?_)
  · replace H := H.1 c1
    exact g_vret rfl dX6_set_12 ⟨rfl, H⟩
  · replace H := H.2 c1
    refine g_iload_n dX6_set_4 1 rfl rfl ?_
    refine g_aload_n dX6_set_5 0 rfl rfl ?_
    refine gx_Sheet_size h0 w_312 rfl dX6_set_6 ?_
    refine g_icmp_lt 13 dX6_set_9 (by decide) (fun c2 => ?_) (fun c2 => ?_)
    · replace H := H.1 c2
      refine g_aload_n dX6_set_13 0 rfl rfl ?_
      refine gx_Sheet_form h0 w_310 rfl dX6_set_14 ?_
      refine g_if_ne 31 dX6_set_17 (by decide) (fun c3 => ?_) (fun c3 => ?_)
      · replace H := H.1 c3
        refine g_aload_n dX6_set_31 0 rfl rfl ?_
        refine gx_Sheet_item h0 w_314 rfl dX6_set_32 ?_
        refine g_iload_n dX6_set_35 1 rfl rfl ?_
        refine g_aload_n dX6_set_36 0 rfl rfl ?_
        refine gx_Sheet_form h0 w_310 rfl dX6_set_37 ?_
        refine g_iconst (v := (iI_ 1)) dX6_set_40 (by decide) ?_
        refine g_icmp_ne 49 dX6_set_41 (by decide) (fun c4 => ?_) (fun c4 => ?_)
        · replace H := H.1 c4
          refine g_iload_n dX6_set_49 2 rfl rfl ?_
          obtain ⟨h6, H⟩ := H
          refine sx_si h0 h6 dX6_set_50 ?_
          obtain ⟨σ5, e_σ5⟩ : ∃ q : St_, q = su_ σ (41 + t0) (Int32.toNatClampNeg x1) x2 := ⟨_, rfl⟩
          rw [← e_σ5]
          replace H := H σ5 e_σ5
          exact g_vret rfl dX6_set_51 ⟨rfl, H⟩
        · replace H := H.2 c4
          refine g_iload_n dX6_set_44 2 rfl rfl ?_
          refine g_i2s dX6_set_45 ?_
          refine g_goto 50 dX6_set_46 (by decide) ?_
          obtain ⟨h8, H⟩ := H
          refine sx_si h0 h8 dX6_set_50 ?_
          obtain ⟨σ7, e_σ7⟩ : ∃ q : St_, q = su_ σ (41 + t0) (Int32.toNatClampNeg x1) (Int32.toInt16 x2).toInt32 := ⟨_, rfl⟩
          rw [← e_σ7]
          replace H := H σ7 e_σ7
          exact g_vret rfl dX6_set_51 ⟨rfl, H⟩
      · replace H := H.2 c3
        refine g_aload_n dX6_set_20 0 rfl rfl ?_
        refine gx_Sheet_item h0 w_314 rfl dX6_set_21 ?_
        refine g_iload_n dX6_set_24 1 rfl rfl ?_
        refine g_iload_n dX6_set_25 2 rfl rfl ?_
        refine g_i2b dX6_set_26 ?_
        obtain ⟨h10, H⟩ := H
        refine sx_si h0 h10 dX6_set_27 ?_
        obtain ⟨σ9, e_σ9⟩ : ∃ q : St_, q = su_ σ (41 + t0) (Int32.toNatClampNeg x1) (Int32.toInt8 x2).toInt32 := ⟨_, rfl⟩
        rw [← e_σ9]
        replace H := H σ9 e_σ9
        refine g_goto 51 dX6_set_28 (by decide) ?_
        exact g_vret rfl dX6_set_51 ⟨rfl, H⟩
    · replace H := H.2 c2
      exact g_vret rfl dX6_set_12 ⟨rfl, H⟩
set_option maxHeartbeats 4000000 in
set_option maxRecDepth 100000 in
theorem eX7_add (u : Ux_) {P : Int32 → St_ → Prop}  (σ : St_) (x1 : Int32) (x2 : Int32) (H : (((σ 20 0) < (iI_ 8) → vp_in (σ 20 0) 8 ∧ (∀ σ2, σ2 = su_ σ 21 (Int32.toNatClampNeg (σ 20 0)) x1 → vp_in (σ2 20 0) 8 ∧ (∀ σ4, σ4 = su_ σ2 22 (Int32.toNatClampNeg (σ2 20 0)) x2 → (∀ σ6, σ6 = su_ σ4 20 0 ((σ4 20 0) + (iI_ 1)) → P (iI_ 1) σ6)))) ∧ (¬ (σ 20 0) < (iI_ 8) → P (iI_ 0) σ))) : MMi_ (zx_ u) mX7_add [.ref (uq_ u 17), .int x1, .int x2] σ P := by
  refine MM_.of (L := [(0, .ref (uq_ u 17)), (1, .int x1), (2, .int x2)]) (by decide +kernel) (Nat.le_of_ble_eq_true rfl) rfl ?_
  refine g_aload_n dX7_add_0 0 rfl rfl ?_
  refine gx_Sightings_n w_206 rfl dX7_add_1 ?_
  refine g_bipush (v := (iI_ 8)) dX7_add_4 (by decide) ?_
  refine g_icmp_lt 11 dX7_add_6 (by decide) (fun c1 => ?_) (fun c1 => ?_)
  · replace H := H.1 c1
    refine g_aload_n dX7_add_11 0 rfl rfl ?_
    refine gx_Sightings_night w_208 rfl dX7_add_12 ?_
    refine g_aload_n dX7_add_15 0 rfl rfl ?_
    refine gx_Sightings_n w_206 rfl dX7_add_16 ?_
    refine g_iload_n dX7_add_19 1 rfl rfl ?_
    obtain ⟨h3, H⟩ := H
    refine sx_21 h3 dX7_add_20 ?_
    obtain ⟨σ2, e_σ2⟩ : ∃ q : St_, q = su_ σ 21 (Int32.toNatClampNeg (σ 20 0)) x1 := ⟨_, rfl⟩
    rw [← e_σ2]
    replace H := H σ2 e_σ2
    refine g_aload_n dX7_add_21 0 rfl rfl ?_
    refine gx_Sightings_one w_210 rfl dX7_add_22 ?_
    refine g_aload_n dX7_add_25 0 rfl rfl ?_
    refine gx_Sightings_n w_206 rfl dX7_add_26 ?_
    refine g_iload_n dX7_add_29 2 rfl rfl ?_
    obtain ⟨h5, H⟩ := H
    refine sx_22 h5 dX7_add_30 ?_
    obtain ⟨σ4, e_σ4⟩ : ∃ q : St_, q = su_ σ2 22 (Int32.toNatClampNeg (σ2 20 0)) x2 := ⟨_, rfl⟩
    rw [← e_σ4]
    replace H := H σ4 e_σ4
    refine g_aload_n dX7_add_31 0 rfl rfl ?_
    refine g_dup dX7_add_32 rfl ?_
    refine gx_Sightings_n w_206 rfl dX7_add_33 ?_
    refine g_iconst (v := (iI_ 1)) dX7_add_36 (by decide) ?_
    refine g_iadd dX7_add_37 ?_
    refine px_Sightings_n w_206 rfl dX7_add_38 ?_
    obtain ⟨σ6, e_σ6⟩ : ∃ q : St_, q = su_ σ4 20 0 ((σ4 20 0) + (iI_ 1)) := ⟨_, rfl⟩
    rw [← e_σ6]
    replace H := H σ6 e_σ6
    refine g_iconst (v := (iI_ 1)) dX7_add_41 (by decide) ?_
    exact g_zret rfl (by decide) dX7_add_42 ⟨_, rfl, H⟩
  · replace H := H.2 c1
    refine g_iconst (v := (iI_ 0)) dX7_add_9 (by decide) ?_
    exact g_zret rfl (by decide) dX7_add_10 ⟨_, rfl, H⟩
set_option maxHeartbeats 4000000 in
set_option maxRecDepth 100000 in
theorem eX8_add (u : Ux_) {P : Int32 → St_ → Prop} (t0 : Nat) (h0 : t0 < 2) (σ : St_) (x1 : Int32) (H : (((σ 0 t0) < (iI_ (tl_ t0)) → (∀ σ2, σ2 = su_ σ 0 t0 ((σ 0 t0) + (iI_ 1)) → vp_in (σ 0 t0) (tl_ t0) ∧ (∀ σ3, σ3 = su_ σ2 (1 + t0) (Int32.toNatClampNeg (σ 0 t0)) x1 → P (iI_ 1) σ3))) ∧ (¬ (σ 0 t0) < (iI_ (tl_ t0)) → P (iI_ 0) σ))) : MMi_ (zx_ u) mX8_add [.ref (uq_ u (32 + t0)), .int x1] σ P := by
  refine MM_.of (L := [(0, .ref (uq_ u (32 + t0))), (1, .int x1)]) (by decide +kernel) (Nat.le_of_ble_eq_true rfl) rfl ?_
  refine g_aload_n dX8_add_0 0 rfl rfl ?_
  refine gx_Text_n h0 w_296 rfl dX8_add_1 ?_
  refine g_aload_n dX8_add_4 0 rfl rfl ?_
  refine gx_Text_bytes h0 w_295 rfl dX8_add_5 ?_
  refine lx_tb h0 dX8_add_8 ?_
  refine g_icmp_lt 14 dX8_add_9 (by decide) (fun c1 => ?_) (fun c1 => ?_)
  · replace H := H.1 c1
    refine g_aload_n dX8_add_14 0 rfl rfl ?_
    refine gx_Text_bytes h0 w_295 rfl dX8_add_15 ?_
    refine g_aload_n dX8_add_18 0 rfl rfl ?_
    refine g_dup dX8_add_19 rfl ?_
    refine gx_Text_n h0 w_296 rfl dX8_add_20 ?_
    refine g_dup_x1 dX8_add_23 rfl rfl ?_
    refine g_iconst (v := (iI_ 1)) dX8_add_24 (by decide) ?_
    refine g_iadd dX8_add_25 ?_
    refine px_Text_n h0 w_296 rfl dX8_add_26 ?_
    obtain ⟨σ2, e_σ2⟩ : ∃ q : St_, q = su_ σ 0 t0 ((σ 0 t0) + (iI_ 1)) := ⟨_, rfl⟩
    rw [← e_σ2]
    replace H := H σ2 e_σ2
    refine g_iload_n dX8_add_29 1 rfl rfl ?_
    obtain ⟨h4, H⟩ := H
    refine sx_tb h0 h4 dX8_add_30 ?_
    obtain ⟨σ3, e_σ3⟩ : ∃ q : St_, q = su_ σ2 (1 + t0) (Int32.toNatClampNeg (σ 0 t0)) x1 := ⟨_, rfl⟩
    rw [← e_σ3]
    replace H := H σ3 e_σ3
    refine g_iconst (v := (iI_ 1)) dX8_add_31 (by decide) ?_
    exact g_zret rfl (by decide) dX8_add_32 ⟨_, rfl, H⟩
  · replace H := H.2 c1
    refine g_iconst (v := (iI_ 0)) dX8_add_12 (by decide) ?_
    exact g_zret rfl (by decide) dX8_add_13 ⟨_, rfl, H⟩
set_option maxHeartbeats 4000000 in
set_option maxRecDepth 100000 in
theorem eX8_at (u : Ux_) {P : Int32 → St_ → Prop} (t0 : Nat) (h0 : t0 < 2) (σ : St_) (x1 : Int32) (H : ((x1 < iI_ 0 → P (iI_ (-1)) σ) ∧ (¬ x1 < iI_ 0 → (((σ 0 t0) ≤ x1 → P (iI_ (-1)) σ) ∧ (¬ (σ 0 t0) ≤ x1 → vp_in x1 (tl_ t0) ∧ P (σ (1 + t0) (Int32.toNatClampNeg x1)) σ))))) : MMi_ (zx_ u) mX8_at [.ref (uq_ u (32 + t0)), .int x1] σ P := by
  refine MM_.of (L := [(0, .ref (uq_ u (32 + t0))), (1, .int x1)]) (by decide +kernel) (Nat.le_of_ble_eq_true rfl) rfl ?_
  refine g_iload_n dX8_at_0 1 rfl rfl ?_
  refine g_if_lt 21 dX8_at_1 (by decide) (fun c1 => ?_) (fun c1 => ?_)
  · replace H := H.1 c1
    refine g_iconst (v := (iI_ (-1))) dX8_at_21 (by decide) ?_
    exact g_iret rfl dX8_at_22 ⟨_, rfl, H⟩
  · replace H := H.2 c1
    refine g_iload_n dX8_at_4 1 rfl rfl ?_
    refine g_aload_n dX8_at_5 0 rfl rfl ?_
    refine gx_Text_n h0 w_296 rfl dX8_at_6 ?_
    refine g_icmp_ge 21 dX8_at_9 (by decide) (fun c2 => ?_) (fun c2 => ?_)
    · replace H := H.1 c2
      refine g_iconst (v := (iI_ (-1))) dX8_at_21 (by decide) ?_
      exact g_iret rfl dX8_at_22 ⟨_, rfl, H⟩
    · replace H := H.2 c2
      refine g_aload_n dX8_at_12 0 rfl rfl ?_
      refine gx_Text_bytes h0 w_295 rfl dX8_at_13 ?_
      refine g_iload_n dX8_at_16 1 rfl rfl ?_
      obtain ⟨h3, H⟩ := H
      refine ax_tb h0 h3 dX8_at_17 ?_
      refine g_goto 22 dX8_at_18 (by decide) ?_
      exact g_iret rfl dX8_at_22 ⟨_, rfl, H⟩
set_option maxHeartbeats 4000000 in
set_option maxRecDepth 100000 in
theorem eX8_isLetter (u : Ux_) {P : Int32 → St_ → Prop} (t0 : Nat) (h0 : t0 < 2) (σ : St_) (x1 : Int32) (H : MMi_ (zx_ u) mX8_at [.ref (uq_ u (32 + t0)), .int x1] σ (fun r2 σ1 => ((r2 < (iI_ 97) → P (iI_ 0) σ1) ∧ (¬ r2 < (iI_ 97) → MMi_ (zx_ u) mX8_at [.ref (uq_ u (32 + t0)), .int x1] σ1 (fun r5 σ4 => (((iI_ 99) < r5 → P (iI_ 0) σ4) ∧ (¬ (iI_ 99) < r5 → P (iI_ 1) σ4))))))) : MMi_ (zx_ u) mX8_isLetter [.ref (uq_ u (32 + t0)), .int x1] σ P := by
  refine MM_.of (L := [(0, .ref (uq_ u (32 + t0))), (1, .int x1)]) (by decide +kernel) (Nat.le_of_ble_eq_true rfl) rfl ?_
  refine g_aload_n dX8_isLetter_0 0 rfl rfl ?_
  refine g_iload_n dX8_isLetter_1 1 rfl rfl ?_
  refine k_X8_at h0 w_402 rfl ⟨Nat.le_of_ble_eq_true rfl, Nat.le_of_ble_eq_true rfl⟩ (Nat.le_of_ble_eq_true rfl) dX8_isLetter_2 H (fun r2 σ1 H => ?_)
  refine g_bipush (v := (iI_ 97)) dX8_isLetter_5 (by decide) ?_
  refine g_icmp_lt 24 dX8_isLetter_7 (by decide) (fun c3 => ?_) (fun c3 => ?_)
  · replace H := H.1 c3
    refine g_iconst (v := (iI_ 0)) dX8_isLetter_24 (by decide) ?_
    exact g_zret rfl (by decide) dX8_isLetter_25 ⟨_, rfl, H⟩
  · replace H := H.2 c3
    refine g_aload_n dX8_isLetter_10 0 rfl rfl ?_
    refine g_iload_n dX8_isLetter_11 1 rfl rfl ?_
    refine k_X8_at h0 w_402 rfl ⟨Nat.le_of_ble_eq_true rfl, Nat.le_of_ble_eq_true rfl⟩ (Nat.le_of_ble_eq_true rfl) dX8_isLetter_12 H (fun r5 σ4 H => ?_)
    refine g_bipush (v := (iI_ 99)) dX8_isLetter_15 (by decide) ?_
    refine g_icmp_gt 24 dX8_isLetter_17 (by decide) (fun c6 => ?_) (fun c6 => ?_)
    · replace H := H.1 c6
      refine g_iconst (v := (iI_ 0)) dX8_isLetter_24 (by decide) ?_
      exact g_zret rfl (by decide) dX8_isLetter_25 ⟨_, rfl, H⟩
    · replace H := H.2 c6
      refine g_iconst (v := (iI_ 1)) dX8_isLetter_20 (by decide) ?_
      refine g_goto 25 dX8_isLetter_21 (by decide) ?_
      exact g_zret rfl (by decide) dX8_isLetter_25 ⟨_, rfl, H⟩
set_option maxHeartbeats 4000000 in
set_option maxRecDepth 100000 in
theorem eJ6_bitCount_0f7a4 (u : Ux_) {P : Int32 → St_ → Prop}  (σ : St_) (x0 : Int32) (H : P ((((((((x0 - ((Int32.toUInt32 x0 >>> (Int32.toUInt32 (iI_ 1) &&& Int32.toUInt32 31)).toInt32 &&& (iI_ 1431655765))) &&& (iI_ 858993459)) + ((Int32.toUInt32 (x0 - ((Int32.toUInt32 x0 >>> (Int32.toUInt32 (iI_ 1) &&& Int32.toUInt32 31)).toInt32 &&& (iI_ 1431655765))) >>> (Int32.toUInt32 (iI_ 2) &&& Int32.toUInt32 31)).toInt32 &&& (iI_ 858993459))) + (Int32.toUInt32 (((x0 - ((Int32.toUInt32 x0 >>> (Int32.toUInt32 (iI_ 1) &&& Int32.toUInt32 31)).toInt32 &&& (iI_ 1431655765))) &&& (iI_ 858993459)) + ((Int32.toUInt32 (x0 - ((Int32.toUInt32 x0 >>> (Int32.toUInt32 (iI_ 1) &&& Int32.toUInt32 31)).toInt32 &&& (iI_ 1431655765))) >>> (Int32.toUInt32 (iI_ 2) &&& Int32.toUInt32 31)).toInt32 &&& (iI_ 858993459))) >>> (Int32.toUInt32 (iI_ 4) &&& Int32.toUInt32 31)).toInt32) &&& (iI_ 252645135)) + (Int32.toUInt32 (((((x0 - ((Int32.toUInt32 x0 >>> (Int32.toUInt32 (iI_ 1) &&& Int32.toUInt32 31)).toInt32 &&& (iI_ 1431655765))) &&& (iI_ 858993459)) + ((Int32.toUInt32 (x0 - ((Int32.toUInt32 x0 >>> (Int32.toUInt32 (iI_ 1) &&& Int32.toUInt32 31)).toInt32 &&& (iI_ 1431655765))) >>> (Int32.toUInt32 (iI_ 2) &&& Int32.toUInt32 31)).toInt32 &&& (iI_ 858993459))) + (Int32.toUInt32 (((x0 - ((Int32.toUInt32 x0 >>> (Int32.toUInt32 (iI_ 1) &&& Int32.toUInt32 31)).toInt32 &&& (iI_ 1431655765))) &&& (iI_ 858993459)) + ((Int32.toUInt32 (x0 - ((Int32.toUInt32 x0 >>> (Int32.toUInt32 (iI_ 1) &&& Int32.toUInt32 31)).toInt32 &&& (iI_ 1431655765))) >>> (Int32.toUInt32 (iI_ 2) &&& Int32.toUInt32 31)).toInt32 &&& (iI_ 858993459))) >>> (Int32.toUInt32 (iI_ 4) &&& Int32.toUInt32 31)).toInt32) &&& (iI_ 252645135)) >>> (Int32.toUInt32 (iI_ 8) &&& Int32.toUInt32 31)).toInt32) + (Int32.toUInt32 ((((((x0 - ((Int32.toUInt32 x0 >>> (Int32.toUInt32 (iI_ 1) &&& Int32.toUInt32 31)).toInt32 &&& (iI_ 1431655765))) &&& (iI_ 858993459)) + ((Int32.toUInt32 (x0 - ((Int32.toUInt32 x0 >>> (Int32.toUInt32 (iI_ 1) &&& Int32.toUInt32 31)).toInt32 &&& (iI_ 1431655765))) >>> (Int32.toUInt32 (iI_ 2) &&& Int32.toUInt32 31)).toInt32 &&& (iI_ 858993459))) + (Int32.toUInt32 (((x0 - ((Int32.toUInt32 x0 >>> (Int32.toUInt32 (iI_ 1) &&& Int32.toUInt32 31)).toInt32 &&& (iI_ 1431655765))) &&& (iI_ 858993459)) + ((Int32.toUInt32 (x0 - ((Int32.toUInt32 x0 >>> (Int32.toUInt32 (iI_ 1) &&& Int32.toUInt32 31)).toInt32 &&& (iI_ 1431655765))) >>> (Int32.toUInt32 (iI_ 2) &&& Int32.toUInt32 31)).toInt32 &&& (iI_ 858993459))) >>> (Int32.toUInt32 (iI_ 4) &&& Int32.toUInt32 31)).toInt32) &&& (iI_ 252645135)) + (Int32.toUInt32 (((((x0 - ((Int32.toUInt32 x0 >>> (Int32.toUInt32 (iI_ 1) &&& Int32.toUInt32 31)).toInt32 &&& (iI_ 1431655765))) &&& (iI_ 858993459)) + ((Int32.toUInt32 (x0 - ((Int32.toUInt32 x0 >>> (Int32.toUInt32 (iI_ 1) &&& Int32.toUInt32 31)).toInt32 &&& (iI_ 1431655765))) >>> (Int32.toUInt32 (iI_ 2) &&& Int32.toUInt32 31)).toInt32 &&& (iI_ 858993459))) + (Int32.toUInt32 (((x0 - ((Int32.toUInt32 x0 >>> (Int32.toUInt32 (iI_ 1) &&& Int32.toUInt32 31)).toInt32 &&& (iI_ 1431655765))) &&& (iI_ 858993459)) + ((Int32.toUInt32 (x0 - ((Int32.toUInt32 x0 >>> (Int32.toUInt32 (iI_ 1) &&& Int32.toUInt32 31)).toInt32 &&& (iI_ 1431655765))) >>> (Int32.toUInt32 (iI_ 2) &&& Int32.toUInt32 31)).toInt32 &&& (iI_ 858993459))) >>> (Int32.toUInt32 (iI_ 4) &&& Int32.toUInt32 31)).toInt32) &&& (iI_ 252645135)) >>> (Int32.toUInt32 (iI_ 8) &&& Int32.toUInt32 31)).toInt32) >>> (Int32.toUInt32 (iI_ 16) &&& Int32.toUInt32 31)).toInt32) &&& (iI_ 63)) σ) : MMi_ (zx_ u) mJ6_bitCount_0f7a4 [.int x0] σ P := by
  refine MM_.of (L := [(0, .int x0)]) (by decide +kernel) (Nat.le_of_ble_eq_true rfl) rfl ?_
  refine g_iload_n dJ6_bitCount_0f7a4_0 0 rfl rfl ?_
  refine g_iload_n dJ6_bitCount_0f7a4_1 0 rfl rfl ?_
  refine g_iconst (v := (iI_ 1)) dJ6_bitCount_0f7a4_2 (by decide) ?_
  refine g_iushr dJ6_bitCount_0f7a4_3 ?_
  refine g_ldcw (v := (iI_ 1431655765)) (by decide) w_630 rfl dJ6_bitCount_0f7a4_4 ?_
  refine g_iand dJ6_bitCount_0f7a4_7 ?_
  refine g_isub dJ6_bitCount_0f7a4_8 ?_
  refine g_istore_n (L' := [(0, .int (x0 - ((Int32.toUInt32 x0 >>> (Int32.toUInt32 (iI_ 1) &&& Int32.toUInt32 31)).toInt32 &&& (iI_ 1431655765))))]) dJ6_bitCount_0f7a4_9 rfl (by decide) rfl ?_
  refine g_iload_n dJ6_bitCount_0f7a4_10 0 rfl rfl ?_
  refine g_ldcw (v := (iI_ 858993459)) (by decide) w_631 rfl dJ6_bitCount_0f7a4_11 ?_
  refine g_iand dJ6_bitCount_0f7a4_14 ?_
  refine g_iload_n dJ6_bitCount_0f7a4_15 0 rfl rfl ?_
  refine g_iconst (v := (iI_ 2)) dJ6_bitCount_0f7a4_16 (by decide) ?_
  refine g_iushr dJ6_bitCount_0f7a4_17 ?_
  refine g_ldcw (v := (iI_ 858993459)) (by decide) w_631 rfl dJ6_bitCount_0f7a4_18 ?_
  refine g_iand dJ6_bitCount_0f7a4_21 ?_
  refine g_iadd dJ6_bitCount_0f7a4_22 ?_
  refine g_istore_n (L' := [(0, .int (((x0 - ((Int32.toUInt32 x0 >>> (Int32.toUInt32 (iI_ 1) &&& Int32.toUInt32 31)).toInt32 &&& (iI_ 1431655765))) &&& (iI_ 858993459)) + ((Int32.toUInt32 (x0 - ((Int32.toUInt32 x0 >>> (Int32.toUInt32 (iI_ 1) &&& Int32.toUInt32 31)).toInt32 &&& (iI_ 1431655765))) >>> (Int32.toUInt32 (iI_ 2) &&& Int32.toUInt32 31)).toInt32 &&& (iI_ 858993459))))]) dJ6_bitCount_0f7a4_23 rfl (by decide) rfl ?_
  refine g_iload_n dJ6_bitCount_0f7a4_24 0 rfl rfl ?_
  refine g_iload_n dJ6_bitCount_0f7a4_25 0 rfl rfl ?_
  refine g_iconst (v := (iI_ 4)) dJ6_bitCount_0f7a4_26 (by decide) ?_
  refine g_iushr dJ6_bitCount_0f7a4_27 ?_
  refine g_iadd dJ6_bitCount_0f7a4_28 ?_
  refine g_ldcw (v := (iI_ 252645135)) (by decide) w_632 rfl dJ6_bitCount_0f7a4_29 ?_
  refine g_iand dJ6_bitCount_0f7a4_32 ?_
  refine g_istore_n (L' := [(0, .int (((((x0 - ((Int32.toUInt32 x0 >>> (Int32.toUInt32 (iI_ 1) &&& Int32.toUInt32 31)).toInt32 &&& (iI_ 1431655765))) &&& (iI_ 858993459)) + ((Int32.toUInt32 (x0 - ((Int32.toUInt32 x0 >>> (Int32.toUInt32 (iI_ 1) &&& Int32.toUInt32 31)).toInt32 &&& (iI_ 1431655765))) >>> (Int32.toUInt32 (iI_ 2) &&& Int32.toUInt32 31)).toInt32 &&& (iI_ 858993459))) + (Int32.toUInt32 (((x0 - ((Int32.toUInt32 x0 >>> (Int32.toUInt32 (iI_ 1) &&& Int32.toUInt32 31)).toInt32 &&& (iI_ 1431655765))) &&& (iI_ 858993459)) + ((Int32.toUInt32 (x0 - ((Int32.toUInt32 x0 >>> (Int32.toUInt32 (iI_ 1) &&& Int32.toUInt32 31)).toInt32 &&& (iI_ 1431655765))) >>> (Int32.toUInt32 (iI_ 2) &&& Int32.toUInt32 31)).toInt32 &&& (iI_ 858993459))) >>> (Int32.toUInt32 (iI_ 4) &&& Int32.toUInt32 31)).toInt32) &&& (iI_ 252645135)))]) dJ6_bitCount_0f7a4_33 rfl (by decide) rfl ?_
  refine g_iload_n dJ6_bitCount_0f7a4_34 0 rfl rfl ?_
  refine g_iload_n dJ6_bitCount_0f7a4_35 0 rfl rfl ?_
  refine g_bipush (v := (iI_ 8)) dJ6_bitCount_0f7a4_36 (by decide) ?_
  refine g_iushr dJ6_bitCount_0f7a4_38 ?_
  refine g_iadd dJ6_bitCount_0f7a4_39 ?_
  refine g_istore_n (L' := [(0, .int ((((((x0 - ((Int32.toUInt32 x0 >>> (Int32.toUInt32 (iI_ 1) &&& Int32.toUInt32 31)).toInt32 &&& (iI_ 1431655765))) &&& (iI_ 858993459)) + ((Int32.toUInt32 (x0 - ((Int32.toUInt32 x0 >>> (Int32.toUInt32 (iI_ 1) &&& Int32.toUInt32 31)).toInt32 &&& (iI_ 1431655765))) >>> (Int32.toUInt32 (iI_ 2) &&& Int32.toUInt32 31)).toInt32 &&& (iI_ 858993459))) + (Int32.toUInt32 (((x0 - ((Int32.toUInt32 x0 >>> (Int32.toUInt32 (iI_ 1) &&& Int32.toUInt32 31)).toInt32 &&& (iI_ 1431655765))) &&& (iI_ 858993459)) + ((Int32.toUInt32 (x0 - ((Int32.toUInt32 x0 >>> (Int32.toUInt32 (iI_ 1) &&& Int32.toUInt32 31)).toInt32 &&& (iI_ 1431655765))) >>> (Int32.toUInt32 (iI_ 2) &&& Int32.toUInt32 31)).toInt32 &&& (iI_ 858993459))) >>> (Int32.toUInt32 (iI_ 4) &&& Int32.toUInt32 31)).toInt32) &&& (iI_ 252645135)) + (Int32.toUInt32 (((((x0 - ((Int32.toUInt32 x0 >>> (Int32.toUInt32 (iI_ 1) &&& Int32.toUInt32 31)).toInt32 &&& (iI_ 1431655765))) &&& (iI_ 858993459)) + ((Int32.toUInt32 (x0 - ((Int32.toUInt32 x0 >>> (Int32.toUInt32 (iI_ 1) &&& Int32.toUInt32 31)).toInt32 &&& (iI_ 1431655765))) >>> (Int32.toUInt32 (iI_ 2) &&& Int32.toUInt32 31)).toInt32 &&& (iI_ 858993459))) + (Int32.toUInt32 (((x0 - ((Int32.toUInt32 x0 >>> (Int32.toUInt32 (iI_ 1) &&& Int32.toUInt32 31)).toInt32 &&& (iI_ 1431655765))) &&& (iI_ 858993459)) + ((Int32.toUInt32 (x0 - ((Int32.toUInt32 x0 >>> (Int32.toUInt32 (iI_ 1) &&& Int32.toUInt32 31)).toInt32 &&& (iI_ 1431655765))) >>> (Int32.toUInt32 (iI_ 2) &&& Int32.toUInt32 31)).toInt32 &&& (iI_ 858993459))) >>> (Int32.toUInt32 (iI_ 4) &&& Int32.toUInt32 31)).toInt32) &&& (iI_ 252645135)) >>> (Int32.toUInt32 (iI_ 8) &&& Int32.toUInt32 31)).toInt32))]) dJ6_bitCount_0f7a4_40 rfl (by decide) rfl ?_
  refine g_iload_n dJ6_bitCount_0f7a4_41 0 rfl rfl ?_
  refine g_iload_n dJ6_bitCount_0f7a4_42 0 rfl rfl ?_
  refine g_bipush (v := (iI_ 16)) dJ6_bitCount_0f7a4_43 (by decide) ?_
  refine g_iushr dJ6_bitCount_0f7a4_45 ?_
  refine g_iadd dJ6_bitCount_0f7a4_46 ?_
  refine g_istore_n (L' := [(0, .int (((((((x0 - ((Int32.toUInt32 x0 >>> (Int32.toUInt32 (iI_ 1) &&& Int32.toUInt32 31)).toInt32 &&& (iI_ 1431655765))) &&& (iI_ 858993459)) + ((Int32.toUInt32 (x0 - ((Int32.toUInt32 x0 >>> (Int32.toUInt32 (iI_ 1) &&& Int32.toUInt32 31)).toInt32 &&& (iI_ 1431655765))) >>> (Int32.toUInt32 (iI_ 2) &&& Int32.toUInt32 31)).toInt32 &&& (iI_ 858993459))) + (Int32.toUInt32 (((x0 - ((Int32.toUInt32 x0 >>> (Int32.toUInt32 (iI_ 1) &&& Int32.toUInt32 31)).toInt32 &&& (iI_ 1431655765))) &&& (iI_ 858993459)) + ((Int32.toUInt32 (x0 - ((Int32.toUInt32 x0 >>> (Int32.toUInt32 (iI_ 1) &&& Int32.toUInt32 31)).toInt32 &&& (iI_ 1431655765))) >>> (Int32.toUInt32 (iI_ 2) &&& Int32.toUInt32 31)).toInt32 &&& (iI_ 858993459))) >>> (Int32.toUInt32 (iI_ 4) &&& Int32.toUInt32 31)).toInt32) &&& (iI_ 252645135)) + (Int32.toUInt32 (((((x0 - ((Int32.toUInt32 x0 >>> (Int32.toUInt32 (iI_ 1) &&& Int32.toUInt32 31)).toInt32 &&& (iI_ 1431655765))) &&& (iI_ 858993459)) + ((Int32.toUInt32 (x0 - ((Int32.toUInt32 x0 >>> (Int32.toUInt32 (iI_ 1) &&& Int32.toUInt32 31)).toInt32 &&& (iI_ 1431655765))) >>> (Int32.toUInt32 (iI_ 2) &&& Int32.toUInt32 31)).toInt32 &&& (iI_ 858993459))) + (Int32.toUInt32 (((x0 - ((Int32.toUInt32 x0 >>> (Int32.toUInt32 (iI_ 1) &&& Int32.toUInt32 31)).toInt32 &&& (iI_ 1431655765))) &&& (iI_ 858993459)) + ((Int32.toUInt32 (x0 - ((Int32.toUInt32 x0 >>> (Int32.toUInt32 (iI_ 1) &&& Int32.toUInt32 31)).toInt32 &&& (iI_ 1431655765))) >>> (Int32.toUInt32 (iI_ 2) &&& Int32.toUInt32 31)).toInt32 &&& (iI_ 858993459))) >>> (Int32.toUInt32 (iI_ 4) &&& Int32.toUInt32 31)).toInt32) &&& (iI_ 252645135)) >>> (Int32.toUInt32 (iI_ 8) &&& Int32.toUInt32 31)).toInt32) + (Int32.toUInt32 ((((((x0 - ((Int32.toUInt32 x0 >>> (Int32.toUInt32 (iI_ 1) &&& Int32.toUInt32 31)).toInt32 &&& (iI_ 1431655765))) &&& (iI_ 858993459)) + ((Int32.toUInt32 (x0 - ((Int32.toUInt32 x0 >>> (Int32.toUInt32 (iI_ 1) &&& Int32.toUInt32 31)).toInt32 &&& (iI_ 1431655765))) >>> (Int32.toUInt32 (iI_ 2) &&& Int32.toUInt32 31)).toInt32 &&& (iI_ 858993459))) + (Int32.toUInt32 (((x0 - ((Int32.toUInt32 x0 >>> (Int32.toUInt32 (iI_ 1) &&& Int32.toUInt32 31)).toInt32 &&& (iI_ 1431655765))) &&& (iI_ 858993459)) + ((Int32.toUInt32 (x0 - ((Int32.toUInt32 x0 >>> (Int32.toUInt32 (iI_ 1) &&& Int32.toUInt32 31)).toInt32 &&& (iI_ 1431655765))) >>> (Int32.toUInt32 (iI_ 2) &&& Int32.toUInt32 31)).toInt32 &&& (iI_ 858993459))) >>> (Int32.toUInt32 (iI_ 4) &&& Int32.toUInt32 31)).toInt32) &&& (iI_ 252645135)) + (Int32.toUInt32 (((((x0 - ((Int32.toUInt32 x0 >>> (Int32.toUInt32 (iI_ 1) &&& Int32.toUInt32 31)).toInt32 &&& (iI_ 1431655765))) &&& (iI_ 858993459)) + ((Int32.toUInt32 (x0 - ((Int32.toUInt32 x0 >>> (Int32.toUInt32 (iI_ 1) &&& Int32.toUInt32 31)).toInt32 &&& (iI_ 1431655765))) >>> (Int32.toUInt32 (iI_ 2) &&& Int32.toUInt32 31)).toInt32 &&& (iI_ 858993459))) + (Int32.toUInt32 (((x0 - ((Int32.toUInt32 x0 >>> (Int32.toUInt32 (iI_ 1) &&& Int32.toUInt32 31)).toInt32 &&& (iI_ 1431655765))) &&& (iI_ 858993459)) + ((Int32.toUInt32 (x0 - ((Int32.toUInt32 x0 >>> (Int32.toUInt32 (iI_ 1) &&& Int32.toUInt32 31)).toInt32 &&& (iI_ 1431655765))) >>> (Int32.toUInt32 (iI_ 2) &&& Int32.toUInt32 31)).toInt32 &&& (iI_ 858993459))) >>> (Int32.toUInt32 (iI_ 4) &&& Int32.toUInt32 31)).toInt32) &&& (iI_ 252645135)) >>> (Int32.toUInt32 (iI_ 8) &&& Int32.toUInt32 31)).toInt32) >>> (Int32.toUInt32 (iI_ 16) &&& Int32.toUInt32 31)).toInt32))]) dJ6_bitCount_0f7a4_47 rfl (by decide) rfl ?_
  refine g_iload_n dJ6_bitCount_0f7a4_48 0 rfl rfl ?_
  refine g_bipush (v := (iI_ 63)) dJ6_bitCount_0f7a4_49 (by decide) ?_
  refine g_iand dJ6_bitCount_0f7a4_51 ?_
  exact g_iret rfl dJ6_bitCount_0f7a4_52 ⟨_, rfl, H⟩
