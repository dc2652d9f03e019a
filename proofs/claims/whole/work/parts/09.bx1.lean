set_option maxHeartbeats 4000000 in
set_option maxRecDepth 100000 in
theorem bX9_pleased_2 (u : Ux_) {P : Int32 → St_ → Prop}  (σ : St_) (x1 : Int32) (H : (((σ 3 0) ≤ x1 → GG_ (zx_ u) mX9_pleased (Pi_ P) 28 [(0, .ref (uq_ u 0)), (1, .int (iI_ 0))] [] σ) ∧ (¬ (σ 3 0) ≤ x1 → vp_in x1 8 ∧ (∀ σ2, σ2 = su_ σ 35 (Int32.toNatClampNeg x1) (iI_ 0) → GG_ (zx_ u) mX9_pleased (Pi_ P) 2 [(0, .ref (uq_ u 0)), (1, .int (x1 + (iI_ 1)))] [] σ2)))) : GG_ (zx_ u) mX9_pleased (Pi_ P) 2 [(0, .ref (uq_ u 0)), (1, .int x1)] [] σ := by
  refine g_iload_n dX9_pleased_2 1 rfl rfl ?_
  refine g_aload_n dX9_pleased_3 0 rfl rfl ?_
  refine gx_LinenHouse_roll w_324 rfl dX9_pleased_4 ?_
  refine gx_Roll_n w_105 rfl dX9_pleased_7 ?_
  refine g_icmp_ge 26 dX9_pleased_10 (by decide) (fun c1 => ?_) (fun c1 => ?_)
  · replace H := H.1 c1
    refine g_iconst (v := (iI_ 0)) dX9_pleased_26 (by decide) ?_
    refine g_istore_n (L' := [(1, .int (iI_ 0)), (0, .ref (uq_ u 0))]) dX9_pleased_27 rfl (by decide) rfl ?_
    exact GG_.sub [1, 0] rfl H
  · replace H := H.2 c1
    refine g_aload_n dX9_pleased_13 0 rfl rfl ?_
    refine gx_LinenHouse_timesPleased w_333 rfl dX9_pleased_14 ?_
    refine g_iload_n dX9_pleased_17 1 rfl rfl ?_
    refine g_iconst (v := (iI_ 0)) dX9_pleased_18 (by decide) ?_
    obtain ⟨h3, H⟩ := H
    refine sx_35 h3 dX9_pleased_19 ?_
    obtain ⟨σ2, e_σ2⟩ : ∃ q : St_, q = su_ σ 35 (Int32.toNatClampNeg x1) (iI_ 0) := ⟨_, rfl⟩
    rw [← e_σ2]
    replace H := H σ2 e_σ2
    refine g_iinc (v := (x1 + (iI_ 1))) (L' := [(1, .int (x1 + (iI_ 1))), (0, .ref (uq_ u 0))]) dX9_pleased_20 1 rfl rfl (by decide) rfl ?_
    refine g_goto 2 dX9_pleased_23 (by decide) ?_
    exact GG_.sub [1, 0] rfl H
set_option maxHeartbeats 4000000 in
set_option maxRecDepth 100000 in
theorem bX9_pleased_28 (u : Ux_) {P : Int32 → St_ → Prop}  (σ : St_) (x1 : Int32) (H : (((σ 9 0) ≤ x1 → GG_ (zx_ u) mX9_pleased (Pi_ P) 96 [(0, .ref (uq_ u 0)), (1, .int (iI_ (-1))), (2, .int (iI_ 0))] [] σ) ∧ (¬ (σ 9 0) ≤ x1 → MMi_ (zx_ u) mX9_carriedAsTold [.ref (uq_ u 0), .int x1] σ (fun r3 σ2 => GG_ (zx_ u) mX9_pleased (Pi_ P) 47 [(0, .ref (uq_ u 0)), (1, .int x1), (2, .int r3), (3, .int (iI_ 0))] [] σ2)))) : GG_ (zx_ u) mX9_pleased (Pi_ P) 28 [(0, .ref (uq_ u 0)), (1, .int x1)] [] σ := by
  refine g_iload_n dX9_pleased_28 1 rfl rfl ?_
  refine g_aload_n dX9_pleased_29 0 rfl rfl ?_
  refine gx_LinenHouse_motions w_325 rfl dX9_pleased_30 ?_
  refine gx_Motions_n w_139 rfl dX9_pleased_33 ?_
  refine g_icmp_ge 92 dX9_pleased_36 (by decide) (fun c1 => ?_) (fun c1 => ?_)
  · replace H := H.1 c1
    refine g_iconst (v := (iI_ (-1))) dX9_pleased_92 (by decide) ?_
    refine g_istore_n (L' := [(1, .int (iI_ (-1))), (0, .ref (uq_ u 0))]) dX9_pleased_93 rfl (by decide) rfl ?_
    refine g_iconst (v := (iI_ 0)) dX9_pleased_94 (by decide) ?_
    refine g_istore_n (L' := [(2, .int (iI_ 0)), (1, .int (iI_ (-1))), (0, .ref (uq_ u 0))]) dX9_pleased_95 rfl (by decide) rfl ?_
    exact GG_.sub [2, 1, 0] rfl H
  · replace H := H.2 c1
    refine g_aload_n dX9_pleased_39 0 rfl rfl ?_
    refine g_iload_n dX9_pleased_40 1 rfl rfl ?_
    refine k_X9_carriedAsTold w_486 rfl ⟨Nat.le_of_ble_eq_true rfl, Nat.le_of_ble_eq_true rfl⟩ (Nat.le_of_ble_eq_true rfl) dX9_pleased_41 H (fun r3 σ2 H => ?_)
    refine g_istore_n (L' := [(2, .int r3), (0, .ref (uq_ u 0)), (1, .int x1)]) dX9_pleased_44 rfl (by decide) rfl ?_
    refine g_iconst (v := (iI_ 0)) dX9_pleased_45 (by decide) ?_
    refine g_istore_n (L' := [(3, .int (iI_ 0)), (2, .int r3), (0, .ref (uq_ u 0)), (1, .int x1)]) dX9_pleased_46 rfl (by decide) rfl ?_
    exact GG_.sub [2, 3, 1, 0] rfl H
set_option maxHeartbeats 4000000 in
set_option maxRecDepth 100000 in
theorem bX9_pleased_47 (u : Ux_) {P : Int32 → St_ → Prop}  (σ : St_) (x1 : Int32) (x2 : Int32) (x3 : Int32) (H : (((σ 3 0) ≤ x3 → GG_ (zx_ u) mX9_pleased (Pi_ P) 28 [(0, .ref (uq_ u 0)), (1, .int (x1 + (iI_ 1)))] [] σ) ∧ (¬ (σ 3 0) ≤ x3 → MMi_ (zx_ u) mX0_votesFor [.ref (uq_ u 20), .int x3] σ (fun r3 σ2 => ((¬ r3 = x2 → GG_ (zx_ u) mX9_pleased (Pi_ P) 47 [(0, .ref (uq_ u 0)), (1, .int x1), (2, .int x2), (3, .int (x3 + (iI_ 1)))] [] σ2) ∧ (r3 = x2 → vp_in x3 8 ∧ vp_in x3 8 ∧ (∀ σ6, σ6 = su_ σ2 35 (Int32.toNatClampNeg x3) ((σ2 35 (Int32.toNatClampNeg x3)) + (iI_ 1)) → GG_ (zx_ u) mX9_pleased (Pi_ P) 47 [(0, .ref (uq_ u 0)), (1, .int x1), (2, .int x2), (3, .int (x3 + (iI_ 1)))] [] σ6))))))) : GG_ (zx_ u) mX9_pleased (Pi_ P) 47 [(0, .ref (uq_ u 0)), (1, .int x1), (2, .int x2), (3, .int x3)] [] σ := by
  refine g_iload_n dX9_pleased_47 3 rfl rfl ?_
  refine g_aload_n dX9_pleased_48 0 rfl rfl ?_
  refine gx_LinenHouse_roll w_324 rfl dX9_pleased_49 ?_
  refine gx_Roll_n w_105 rfl dX9_pleased_52 ?_
  refine g_icmp_ge 86 dX9_pleased_55 (by decide) (fun c1 => ?_) (fun c1 => ?_)
  · replace H := H.1 c1
    refine g_iinc (v := (x1 + (iI_ 1))) (L' := [(1, .int (x1 + (iI_ 1))), (0, .ref (uq_ u 0)), (2, .int x2), (3, .int x3)]) dX9_pleased_86 1 rfl rfl (by decide) rfl ?_
    refine g_goto 28 dX9_pleased_89 (by decide) ?_
    exact GG_.sub [1, 0] rfl H
  · replace H := H.2 c1
    refine g_aload_n dX9_pleased_58 0 rfl rfl ?_
    refine gx_LinenHouse_chamber w_329 rfl dX9_pleased_59 ?_
    refine g_iload_n dX9_pleased_62 3 rfl rfl ?_
    refine k_X0_votesFor w_567 rfl ⟨Nat.le_of_ble_eq_true rfl, Nat.le_of_ble_eq_true rfl⟩ (Nat.le_of_ble_eq_true rfl) dX9_pleased_63 H (fun r3 σ2 H => ?_)
    refine g_iload_n dX9_pleased_66 2 rfl rfl ?_
    refine g_icmp_ne 80 dX9_pleased_67 (by decide) (fun c4 => ?_) (fun c4 => ?_)
    · replace H := H.1 c4
      refine g_iinc (v := (x3 + (iI_ 1))) (L' := [(3, .int (x3 + (iI_ 1))), (0, .ref (uq_ u 0)), (1, .int x1), (2, .int x2)]) dX9_pleased_80 3 rfl rfl (by decide) rfl ?_
      refine g_goto 47 dX9_pleased_83 (by decide) ?_
      exact GG_.sub [1, 2, 3, 0] rfl H
    · replace H := H.2 c4
      refine g_aload_n dX9_pleased_70 0 rfl rfl ?_
      refine gx_LinenHouse_timesPleased w_333 rfl dX9_pleased_71 ?_
      refine g_iload_n dX9_pleased_74 3 rfl rfl ?_
      refine g_dup2 dX9_pleased_75 rfl rfl ?_
      obtain ⟨h5, H⟩ := H
      refine ax_35 h5 dX9_pleased_76 ?_
      refine g_iconst (v := (iI_ 1)) dX9_pleased_77 (by decide) ?_
      refine g_iadd dX9_pleased_78 ?_
      obtain ⟨h7, H⟩ := H
      refine sx_35 h7 dX9_pleased_79 ?_
      obtain ⟨σ6, e_σ6⟩ : ∃ q : St_, q = su_ σ2 35 (Int32.toNatClampNeg x3) ((σ2 35 (Int32.toNatClampNeg x3)) + (iI_ 1)) := ⟨_, rfl⟩
      rw [← e_σ6]
      replace H := H σ6 e_σ6
      refine g_iinc (v := (x3 + (iI_ 1))) (L' := [(3, .int (x3 + (iI_ 1))), (0, .ref (uq_ u 0)), (1, .int x1), (2, .int x2)]) dX9_pleased_80 3 rfl rfl (by decide) rfl ?_
      refine g_goto 47 dX9_pleased_83 (by decide) ?_
      exact GG_.sub [1, 2, 3, 0] rfl H
set_option maxHeartbeats 4000000 in
set_option maxRecDepth 100000 in
theorem bX9_pleased_96 (u : Ux_) {P : Int32 → St_ → Prop}  (σ : St_) (x1 : Int32) (x2 : Int32) (H : (((σ 3 0) ≤ x2 → P x1 σ) ∧ (¬ (σ 3 0) ≤ x2 → ((x1 = (iI_ (-1)) → GG_ (zx_ u) mX9_pleased (Pi_ P) 96 [(0, .ref (uq_ u 0)), (1, .int x2), (2, .int (x2 + (iI_ 1)))] [] σ) ∧ (¬ x1 = (iI_ (-1)) → vp_in x2 8 ∧ vp_in x1 8 ∧ (((σ 35 (Int32.toNatClampNeg x2)) ≤ (σ 35 (Int32.toNatClampNeg x1)) → GG_ (zx_ u) mX9_pleased (Pi_ P) 96 [(0, .ref (uq_ u 0)), (1, .int x1), (2, .int (x2 + (iI_ 1)))] [] σ) ∧ (¬ (σ 35 (Int32.toNatClampNeg x2)) ≤ (σ 35 (Int32.toNatClampNeg x1)) → GG_ (zx_ u) mX9_pleased (Pi_ P) 96 [(0, .ref (uq_ u 0)), (1, .int x2), (2, .int (x2 + (iI_ 1)))] [] σ))))))) : GG_ (zx_ u) mX9_pleased (Pi_ P) 96 [(0, .ref (uq_ u 0)), (1, .int x1), (2, .int x2)] [] σ := by
  refine g_iload_n dX9_pleased_96 2 rfl rfl ?_
  refine g_aload_n dX9_pleased_97 0 rfl rfl ?_
  refine gx_LinenHouse_roll w_324 rfl dX9_pleased_98 ?_
  refine gx_Roll_n w_105 rfl dX9_pleased_101 ?_
  refine g_icmp_ge 135 dX9_pleased_104 (by decide) (fun c1 => ?_) (fun c1 => ?_)
  · replace H := H.1 c1
    refine g_iload_n dX9_pleased_135 1 rfl rfl ?_
    exact g_iret rfl dX9_pleased_136 ⟨_, rfl, H⟩
  · replace H := H.2 c1
    refine g_iload_n dX9_pleased_107 1 rfl rfl ?_
    refine g_iconst (v := (iI_ (-1))) dX9_pleased_108 (by decide) ?_
    refine g_icmp_eq 127 dX9_pleased_109 (by decide) (fun c2 => ?_) (fun c2 => ?_)
    · replace H := H.1 c2
      refine g_iload_n dX9_pleased_127 2 rfl rfl ?_
      refine g_istore_n (L' := [(1, .int x2), (0, .ref (uq_ u 0)), (2, .int x2)]) dX9_pleased_128 rfl (by decide) rfl ?_
      refine g_iinc (v := (x2 + (iI_ 1))) (L' := [(2, .int (x2 + (iI_ 1))), (1, .int x2), (0, .ref (uq_ u 0))]) dX9_pleased_129 2 rfl rfl (by decide) rfl ?_
      refine g_goto 96 dX9_pleased_132 (by decide) ?_
      exact GG_.sub [2, 1, 0] rfl H
    · replace H := H.2 c2
      refine g_aload_n dX9_pleased_112 0 rfl rfl ?_
      refine gx_LinenHouse_timesPleased w_333 rfl dX9_pleased_113 ?_
      refine g_iload_n dX9_pleased_116 2 rfl rfl ?_
      obtain ⟨h3, H⟩ := H
      refine ax_35 h3 dX9_pleased_117 ?_
      refine g_aload_n dX9_pleased_118 0 rfl rfl ?_
      refine gx_LinenHouse_timesPleased w_333 rfl dX9_pleased_119 ?_
      refine g_iload_n dX9_pleased_122 1 rfl rfl ?_
      obtain ⟨h4, H⟩ := H
      refine ax_35 h4 dX9_pleased_123 ?_
      refine g_icmp_le 129 dX9_pleased_124 (by decide) (fun c5 => ?_) (fun c5 => ?_)
      · replace H := H.1 c5
        refine g_iinc (v := (x2 + (iI_ 1))) (L' := [(2, .int (x2 + (iI_ 1))), (0, .ref (uq_ u 0)), (1, .int x1)]) dX9_pleased_129 2 rfl rfl (by decide) rfl ?_
        refine g_goto 96 dX9_pleased_132 (by decide) ?_
        exact GG_.sub [1, 2, 0] rfl H
      · replace H := H.2 c5
        refine g_iload_n dX9_pleased_127 2 rfl rfl ?_
        refine g_istore_n (L' := [(1, .int x2), (0, .ref (uq_ u 0)), (2, .int x2)]) dX9_pleased_128 rfl (by decide) rfl ?_
        refine g_iinc (v := (x2 + (iI_ 1))) (L' := [(2, .int (x2 + (iI_ 1))), (1, .int x2), (0, .ref (uq_ u 0))]) dX9_pleased_129 2 rfl rfl (by decide) rfl ?_
        refine g_goto 96 dX9_pleased_132 (by decide) ?_
        exact GG_.sub [2, 1, 0] rfl H
set_option maxHeartbeats 4000000 in
set_option maxRecDepth 100000 in
theorem eX9_pleased (u : Ux_) {P : Int32 → St_ → Prop}  (σ : St_)  (H : GG_ (zx_ u) mX9_pleased (Pi_ P) 2 [(0, .ref (uq_ u 0)), (1, .int (iI_ 0))] [] σ) : MMi_ (zx_ u) mX9_pleased [.ref (uq_ u 0)] σ P := by
  refine MM_.of (L := [(0, .ref (uq_ u 0))]) (by decide +kernel) (Nat.le_of_ble_eq_true rfl) rfl ?_
  refine g_iconst (v := (iI_ 0)) dX9_pleased_0 (by decide) ?_
  refine g_istore_n (L' := [(1, .int (iI_ 0)), (0, .ref (uq_ u 0))]) dX9_pleased_1 rfl (by decide) rfl ?_
  exact GG_.sub [1, 0] rfl H
set_option maxHeartbeats 4000000 in
set_option maxRecDepth 100000 in
theorem eX9_lift (u : Ux_) {P : Int32 → St_ → Prop}  (σ : St_) (x1 : Int32) (x2 : Int32) (H : MMi_ (zx_ u) mX9_isNight [.int x1] σ (fun r2 σ1 => ((r2 = iI_ 0 → P (iI_ (-2)) σ1) ∧ (¬ r2 = iI_ 0 → ((x2 < (iI_ (-1)) → P (iI_ (-2)) σ1) ∧ (¬ x2 < (iI_ (-1)) → ((x2 ≤ (iI_ 1) → MMi_ (zx_ u) mX9_findLift [.ref (uq_ u 0), .int x1] σ1 (fun r7 σ6 => ((¬ x2 = (iI_ (-1)) → vp_in x2 2 ∧ P (σ6 36 (Int32.toNatClampNeg x2)) σ6) ∧ (x2 = (iI_ (-1)) → P r7 σ6)))) ∧ (¬ x2 ≤ (iI_ 1) → P (iI_ (-2)) σ1)))))))) : MMi_ (zx_ u) mX9_lift [.ref (uq_ u 0), .int x1, .int x2] σ P := by
  refine MM_.of (L := [(0, .ref (uq_ u 0)), (1, .int x1), (2, .int x2)]) (by decide +kernel) (Nat.le_of_ble_eq_true rfl) rfl ?_
  refine g_iload_n dX9_lift_0 1 rfl rfl ?_
  refine k_X9_isNight w_444 rfl ⟨Nat.le_of_ble_eq_true rfl, Nat.le_of_ble_eq_true rfl⟩ (Nat.le_of_ble_eq_true rfl) dX9_lift_1 H (fun r2 σ1 H => ?_)
  refine g_if_eq 17 dX9_lift_4 (by decide) (fun c3 => ?_) (fun c3 => ?_)
  · replace H := H.1 c3
    refine g_bipush (v := (iI_ (-2))) dX9_lift_17 (by decide) ?_
    exact g_iret rfl dX9_lift_19 ⟨_, rfl, H⟩
  · replace H := H.2 c3
    refine g_iload_n dX9_lift_7 2 rfl rfl ?_
    refine g_iconst (v := (iI_ (-1))) dX9_lift_8 (by decide) ?_
    refine g_icmp_lt 17 dX9_lift_9 (by decide) (fun c4 => ?_) (fun c4 => ?_)
    · replace H := H.1 c4
      refine g_bipush (v := (iI_ (-2))) dX9_lift_17 (by decide) ?_
      exact g_iret rfl dX9_lift_19 ⟨_, rfl, H⟩
    · replace H := H.2 c4
      refine g_iload_n dX9_lift_12 2 rfl rfl ?_
      refine g_iconst (v := (iI_ 1)) dX9_lift_13 (by decide) ?_
      refine g_icmp_le 20 dX9_lift_14 (by decide) (fun c5 => ?_) (fun c5 => ?_)
      · replace H := H.1 c5
        refine g_aload_n dX9_lift_20 0 rfl rfl ?_
        refine g_iload_n dX9_lift_21 1 rfl rfl ?_
        refine k_X9_findLift w_572 rfl ⟨Nat.le_of_ble_eq_true rfl, Nat.le_of_ble_eq_true rfl⟩ (Nat.le_of_ble_eq_true rfl) dX9_lift_22 H (fun r7 σ6 H => ?_)
        refine g_istore_n (L' := [(3, .int r7), (0, .ref (uq_ u 0)), (1, .int x1), (2, .int x2)]) dX9_lift_25 rfl (by decide) rfl ?_
        refine g_iload_n dX9_lift_26 3 rfl rfl ?_
        refine g_iconst (v := (iI_ (-1))) dX9_lift_27 (by decide) ?_
        refine g_icmp_ne 35 dX9_lift_28 (by decide) (fun c8 => ?_) (fun c8 => ?_)
        · replace H := H.1 c8
          refine g_aload_n dX9_lift_35 1 rfl rfl ?_
          refine gx_LinenHouse_raised w_334 rfl dX9_lift_36 ?_
          refine g_iload_n dX9_lift_39 3 rfl rfl ?_
          obtain ⟨h9, H⟩ := H
          refine ax_36 h9 dX9_lift_40 ?_
          exact g_iret rfl dX9_lift_41 ⟨_, rfl, H⟩
        · replace H := H.2 c8
          refine g_iload_n dX9_lift_31 0 rfl rfl ?_
          refine g_goto 41 dX9_lift_32 (by decide) ?_
          exact g_iret rfl dX9_lift_41 ⟨_, rfl, H⟩
      · replace H := H.2 c5
        refine g_bipush (v := (iI_ (-2))) dX9_lift_17 (by decide) ?_
        exact g_iret rfl dX9_lift_19 ⟨_, rfl, H⟩
set_option maxHeartbeats 4000000 in
set_option maxRecDepth 100000 in
theorem bX9_agenda_13 (u : Ux_) {P : Int32 → St_ → Prop}  (σ : St_) (x1 : Int32) (x2 : Int32) (H : (((iI_ 3) ≤ x2 → P (iI_ (-1)) σ) ∧ (¬ (iI_ 3) ≤ x2 → MMi_ (zx_ u) mX9_leftBy [.ref (uq_ u 0), .int x2] σ (fun r3 σ2 => ((¬ r3 = x1 → GG_ (zx_ u) mX9_agenda (Pi_ P) 13 [(0, .ref (uq_ u 0)), (1, .int x1), (2, .int (x2 + (iI_ 1)))] [] σ2) ∧ (r3 = x1 → P x2 σ2)))))) : GG_ (zx_ u) mX9_agenda (Pi_ P) 13 [(0, .ref (uq_ u 0)), (1, .int x1), (2, .int x2)] [] σ := by
  refine g_iload_n dX9_agenda_13 2 rfl rfl ?_
  refine g_iconst (v := (iI_ 3)) dX9_agenda_14 (by decide) ?_
  refine g_icmp_ge 35 dX9_agenda_15 (by decide) (fun c1 => ?_) (fun c1 => ?_)
  · replace H := H.1 c1
    refine g_iconst (v := (iI_ (-1))) dX9_agenda_35 (by decide) ?_
    exact g_iret rfl dX9_agenda_36 ⟨_, rfl, H⟩
  · replace H := H.2 c1
    refine g_aload_n dX9_agenda_18 0 rfl rfl ?_
    refine g_iload_n dX9_agenda_19 2 rfl rfl ?_
    refine k_X9_leftBy w_592 rfl ⟨Nat.le_of_ble_eq_true rfl, Nat.le_of_ble_eq_true rfl⟩ (Nat.le_of_ble_eq_true rfl) dX9_agenda_20 H (fun r3 σ2 H => ?_)
    refine g_iload_n dX9_agenda_23 1 rfl rfl ?_
    refine g_icmp_ne 29 dX9_agenda_24 (by decide) (fun c4 => ?_) (fun c4 => ?_)
    · replace H := H.1 c4
      refine g_iinc (v := (x2 + (iI_ 1))) (L' := [(2, .int (x2 + (iI_ 1))), (0, .ref (uq_ u 0)), (1, .int x1)]) dX9_agenda_29 2 rfl rfl (by decide) rfl ?_
      refine g_goto 13 dX9_agenda_32 (by decide) ?_
      exact GG_.sub [1, 2, 0] rfl H
    · replace H := H.2 c4
      refine g_iload_n dX9_agenda_27 2 rfl rfl ?_
      exact g_iret rfl dX9_agenda_28 ⟨_, rfl, H⟩
set_option maxHeartbeats 4000000 in
set_option maxRecDepth 100000 in
theorem eX9_agenda (u : Ux_) {P : Int32 → St_ → Prop}  (σ : St_) (x1 : Int32) (H : MMi_ (zx_ u) mX9_within [.int x1, .int (iI_ 3)] σ (fun r2 σ1 => ((¬ r2 = iI_ 0 → GG_ (zx_ u) mX9_agenda (Pi_ P) 13 [(0, .ref (uq_ u 0)), (1, .int x1), (2, .int (iI_ 0))] [] σ1) ∧ (r2 = iI_ 0 → P (iI_ (-2)) σ1)))) : MMi_ (zx_ u) mX9_agenda [.ref (uq_ u 0), .int x1] σ P := by
  refine MM_.of (L := [(0, .ref (uq_ u 0)), (1, .int x1)]) (by decide +kernel) (Nat.le_of_ble_eq_true rfl) rfl ?_
  refine g_iload_n dX9_agenda_0 1 rfl rfl ?_
  refine g_iconst (v := (iI_ 3)) dX9_agenda_1 (by decide) ?_
  refine k_X9_within w_370 rfl ⟨Nat.le_of_ble_eq_true rfl, Nat.le_of_ble_eq_true rfl⟩ (Nat.le_of_ble_eq_true rfl) dX9_agenda_2 H (fun r2 σ1 H => ?_)
  refine g_if_ne 11 dX9_agenda_5 (by decide) (fun c3 => ?_) (fun c3 => ?_)
  · replace H := H.1 c3
    refine g_iconst (v := (iI_ 0)) dX9_agenda_11 (by decide) ?_
    refine g_istore_n (L' := [(2, .int (iI_ 0)), (0, .ref (uq_ u 0)), (1, .int x1)]) dX9_agenda_12 rfl (by decide) rfl ?_
    exact GG_.sub [1, 2, 0] rfl H
  · replace H := H.2 c3
    refine g_bipush (v := (iI_ (-2))) dX9_agenda_8 (by decide) ?_
    exact g_iret rfl dX9_agenda_10 ⟨_, rfl, H⟩
set_option maxHeartbeats 4000000 in
set_option maxRecDepth 100000 in
theorem eX9_power (u : Ux_) {P : Int64 → St_ → Prop}  (σ : St_) (x1 : Int32) (x2 : Int32) (H : MMi_ (zx_ u) mX9_isMember [.ref (uq_ u 0), .int x1] σ (fun r2 σ1 => ((r2 = iI_ 0 → MMl_ (zx_ u) mX9_refusedLong [.int (iI_ (-2))] σ1 (fun r5 σ4 => P r5 σ4)) ∧ (¬ r2 = iI_ 0 → MMi_ (zx_ u) mX9_within [.int x2, .int (iI_ 2)] σ1 (fun r7 σ6 => ((¬ r7 = iI_ 0 → MMi_ (zx_ u) mX5_turning [.ref (uq_ u 25), .int x1] σ6 (fun r10 σ9 => MMi_ (zx_ u) mX9_factorial [.int (σ9 3 0)] σ9 (fun r12 σ11 => MMl_ (zx_ u) mX9_lowest [.long (Int32.toInt64 r10), .long (Int32.toInt64 r12), .int x2] σ11 (fun r14 σ13 => P r14 σ13)))) ∧ (r7 = iI_ 0 → MMl_ (zx_ u) mX9_refusedLong [.int (iI_ (-2))] σ6 (fun r16 σ15 => P r16 σ15)))))))) : MMl_ (zx_ u) mX9_power [.ref (uq_ u 0), .int x1, .int x2] σ P := by
  refine MM_.of (L := [(0, .ref (uq_ u 0)), (1, .int x1), (2, .int x2)]) (by decide +kernel) (Nat.le_of_ble_eq_true rfl) rfl ?_
  refine g_aload_n dX9_power_0 0 rfl rfl ?_
  refine g_iload_n dX9_power_1 1 rfl rfl ?_
  refine k_X9_isMember w_431 rfl ⟨Nat.le_of_ble_eq_true rfl, Nat.le_of_ble_eq_true rfl⟩ (Nat.le_of_ble_eq_true rfl) dX9_power_2 H (fun r2 σ1 H => ?_)
  refine g_if_eq 16 dX9_power_5 (by decide) (fun c3 => ?_) (fun c3 => ?_)
  · replace H := H.1 c3
    refine g_bipush (v := (iI_ (-2))) dX9_power_16 (by decide) ?_
    refine k_X9_refusedLong w_609 rfl ⟨Nat.le_of_ble_eq_true rfl, Nat.le_of_ble_eq_true rfl⟩ (Nat.le_of_ble_eq_true rfl) dX9_power_18 H (fun r5 σ4 H => ?_)
    exact g_lret rfl dX9_power_21 ⟨_, rfl, H⟩
  · replace H := H.2 c3
    refine g_iload_n dX9_power_8 2 rfl rfl ?_
    refine g_iconst (v := (iI_ 2)) dX9_power_9 (by decide) ?_
    refine k_X9_within w_370 rfl ⟨Nat.le_of_ble_eq_true rfl, Nat.le_of_ble_eq_true rfl⟩ (Nat.le_of_ble_eq_true rfl) dX9_power_10 H (fun r7 σ6 H => ?_)
    refine g_if_ne 22 dX9_power_13 (by decide) (fun c8 => ?_) (fun c8 => ?_)
    · replace H := H.1 c8
      refine g_aload_n dX9_power_22 0 rfl rfl ?_
      refine gx_LinenHouse_shares w_330 rfl dX9_power_23 ?_
      refine g_iload_n dX9_power_26 1 rfl rfl ?_
      refine k_X5_turning w_613 rfl ⟨Nat.le_of_ble_eq_true rfl, Nat.le_of_ble_eq_true rfl⟩ (Nat.le_of_ble_eq_true rfl) dX9_power_27 H (fun r10 σ9 H => ?_)
      refine g_i2l dX9_power_30 ?_
      refine g_aload_n dX9_power_31 0 rfl rfl ?_
      refine gx_LinenHouse_roll w_324 rfl dX9_power_32 ?_
      refine gx_Roll_n w_105 rfl dX9_power_35 ?_
      refine k_X9_factorial w_638 rfl ⟨Nat.le_of_ble_eq_true rfl, Nat.le_of_ble_eq_true rfl⟩ (Nat.le_of_ble_eq_true rfl) dX9_power_38 H (fun r12 σ11 H => ?_)
      refine g_i2l dX9_power_41 ?_
      refine g_iload_n dX9_power_42 2 rfl rfl ?_
      refine k_X9_lowest w_639 rfl ⟨Nat.le_of_ble_eq_true rfl, Nat.le_of_ble_eq_true rfl⟩ (Nat.le_of_ble_eq_true rfl) dX9_power_43 H (fun r14 σ13 H => ?_)
      exact g_lret rfl dX9_power_46 ⟨_, rfl, H⟩
    · replace H := H.2 c8
      refine g_bipush (v := (iI_ (-2))) dX9_power_16 (by decide) ?_
      refine k_X9_refusedLong w_609 rfl ⟨Nat.le_of_ble_eq_true rfl, Nat.le_of_ble_eq_true rfl⟩ (Nat.le_of_ble_eq_true rfl) dX9_power_18 H (fun r16 σ15 H => ?_)
      exact g_lret rfl dX9_power_21 ⟨_, rfl, H⟩
set_option maxHeartbeats 4000000 in
set_option maxRecDepth 100000 in
theorem eX9_ring (u : Ux_) {P : Int32 → St_ → Prop}  (σ : St_)  (H : MMi_ (zx_ u) mX4_lead [.ref (uq_ u 2), .int (iI_ 0), .int (iI_ 1)] σ (fun r2 σ1 => MMi_ (zx_ u) mX4_lead [.ref (uq_ u 2), .int (iI_ 1), .int (iI_ 2)] σ1 (fun r4 σ3 => MMi_ (zx_ u) mX4_lead [.ref (uq_ u 2), .int (iI_ 2), .int (iI_ 0)] σ3 (fun r6 σ5 => ((r2 ≤ iI_ 0 → ((iI_ 0 ≤ r2 → P (iI_ 0) σ5) ∧ (¬ iI_ 0 ≤ r2 → ((iI_ 0 ≤ r4 → P (iI_ 0) σ5) ∧ (¬ iI_ 0 ≤ r4 → ((iI_ 0 ≤ r6 → P (iI_ 0) σ5) ∧ (¬ iI_ 0 ≤ r6 → P (iI_ 2) σ5))))))) ∧ (¬ r2 ≤ iI_ 0 → ((r4 ≤ iI_ 0 → ((iI_ 0 ≤ r2 → P (iI_ 0) σ5) ∧ (¬ iI_ 0 ≤ r2 → ((iI_ 0 ≤ r4 → P (iI_ 0) σ5) ∧ (¬ iI_ 0 ≤ r4 → ((iI_ 0 ≤ r6 → P (iI_ 0) σ5) ∧ (¬ iI_ 0 ≤ r6 → P (iI_ 2) σ5))))))) ∧ (¬ r4 ≤ iI_ 0 → ((r6 ≤ iI_ 0 → ((iI_ 0 ≤ r2 → P (iI_ 0) σ5) ∧ (¬ iI_ 0 ≤ r2 → ((iI_ 0 ≤ r4 → P (iI_ 0) σ5) ∧ (¬ iI_ 0 ≤ r4 → ((iI_ 0 ≤ r6 → P (iI_ 0) σ5) ∧ (¬ iI_ 0 ≤ r6 → P (iI_ 2) σ5))))))) ∧ (¬ r6 ≤ iI_ 0 → P (iI_ 1) σ5)))))))))) : MMi_ (zx_ u) mX9_ring [.ref (uq_ u 0)] σ P := by
  refine MM_.of (L := [(0, .ref (uq_ u 0))]) (by decide +kernel) (Nat.le_of_ble_eq_true rfl) rfl ?_
  refine g_aload_n dX9_ring_0 0 rfl rfl ?_
  refine gx_LinenHouse_roll w_324 rfl dX9_ring_1 ?_
  refine g_iconst (v := (iI_ 0)) dX9_ring_4 (by decide) ?_
  refine g_iconst (v := (iI_ 1)) dX9_ring_5 (by decide) ?_
  refine k_X4_lead w_646 rfl ⟨Nat.le_of_ble_eq_true rfl, Nat.le_of_ble_eq_true rfl⟩ (Nat.le_of_ble_eq_true rfl) dX9_ring_6 H (fun r2 σ1 H => ?_)
  refine g_istore_n (L' := [(1, .int r2), (0, .ref (uq_ u 0))]) dX9_ring_9 rfl (by decide) rfl ?_
  refine g_aload_n dX9_ring_10 1 rfl rfl ?_
  refine gx_LinenHouse_roll w_324 rfl dX9_ring_11 ?_
  refine g_iconst (v := (iI_ 1)) dX9_ring_14 (by decide) ?_
  refine g_iconst (v := (iI_ 2)) dX9_ring_15 (by decide) ?_
  refine k_X4_lead w_646 rfl ⟨Nat.le_of_ble_eq_true rfl, Nat.le_of_ble_eq_true rfl⟩ (Nat.le_of_ble_eq_true rfl) dX9_ring_16 H (fun r4 σ3 H => ?_)
  refine g_istore_n (L' := [(2, .int r4), (1, .int r2), (0, .ref (uq_ u 0))]) dX9_ring_19 rfl (by decide) rfl ?_
  refine g_aload_n dX9_ring_20 2 rfl rfl ?_
  refine gx_LinenHouse_roll w_324 rfl dX9_ring_21 ?_
  refine g_iconst (v := (iI_ 2)) dX9_ring_24 (by decide) ?_
  refine g_iconst (v := (iI_ 0)) dX9_ring_25 (by decide) ?_
  refine k_X4_lead w_646 rfl ⟨Nat.le_of_ble_eq_true rfl, Nat.le_of_ble_eq_true rfl⟩ (Nat.le_of_ble_eq_true rfl) dX9_ring_26 H (fun r6 σ5 H => ?_)
  refine g_istore_n (L' := [(3, .int r6), (2, .int r4), (1, .int r2), (0, .ref (uq_ u 0))]) dX9_ring_29 rfl (by decide) rfl ?_
  refine g_iload_n dX9_ring_30 2 rfl rfl ?_
  refine g_if_le 44 dX9_ring_31 (by decide) (fun c7 => ?_) (fun c7 => ?_)
  · replace H := H.1 c7
    refine g_iload_n dX9_ring_44 2 rfl rfl ?_
    refine g_if_ge 60 dX9_ring_45 (by decide) (fun c8 => ?_) (fun c8 => ?_)
    · replace H := H.1 c8
      refine g_iconst (v := (iI_ 0)) dX9_ring_60 (by decide) ?_
      exact g_iret rfl dX9_ring_61 ⟨_, rfl, H⟩
    · replace H := H.2 c8
      refine g_iload_n dX9_ring_48 1 rfl rfl ?_
      refine g_if_ge 60 dX9_ring_49 (by decide) (fun c9 => ?_) (fun c9 => ?_)
      · replace H := H.1 c9
        refine g_iconst (v := (iI_ 0)) dX9_ring_60 (by decide) ?_
        exact g_iret rfl dX9_ring_61 ⟨_, rfl, H⟩
      · replace H := H.2 c9
        refine g_iload_n dX9_ring_52 0 rfl rfl ?_
        refine g_if_ge 60 dX9_ring_53 (by decide) (fun c10 => ?_) (fun c10 => ?_)
        · replace H := H.1 c10
          refine g_iconst (v := (iI_ 0)) dX9_ring_60 (by decide) ?_
          exact g_iret rfl dX9_ring_61 ⟨_, rfl, H⟩
        · replace H := H.2 c10
          refine g_iconst (v := (iI_ 2)) dX9_ring_56 (by decide) ?_
          refine g_goto 61 dX9_ring_57 (by decide) ?_
          exact g_iret rfl dX9_ring_61 ⟨_, rfl, H⟩
  · replace H := H.2 c7
    refine g_iload_n dX9_ring_34 1 rfl rfl ?_
    refine g_if_le 44 dX9_ring_35 (by decide) (fun c11 => ?_) (fun c11 => ?_)
    · replace H := H.1 c11
      refine g_iload_n dX9_ring_44 2 rfl rfl ?_
      refine g_if_ge 60 dX9_ring_45 (by decide) (fun c12 => ?_) (fun c12 => ?_)
      · replace H := H.1 c12
        refine g_iconst (v := (iI_ 0)) dX9_ring_60 (by decide) ?_
        exact g_iret rfl dX9_ring_61 ⟨_, rfl, H⟩
      · replace H := H.2 c12
        refine g_iload_n dX9_ring_48 1 rfl rfl ?_
        refine g_if_ge 60 dX9_ring_49 (by decide) (fun c13 => ?_) (fun c13 => ?_)
        · replace H := H.1 c13
          refine g_iconst (v := (iI_ 0)) dX9_ring_60 (by decide) ?_
          exact g_iret rfl dX9_ring_61 ⟨_, rfl, H⟩
        · replace H := H.2 c13
          refine g_iload_n dX9_ring_52 0 rfl rfl ?_
          refine g_if_ge 60 dX9_ring_53 (by decide) (fun c14 => ?_) (fun c14 => ?_)
          · replace H := H.1 c14
            refine g_iconst (v := (iI_ 0)) dX9_ring_60 (by decide) ?_
            exact g_iret rfl dX9_ring_61 ⟨_, rfl, H⟩
          · replace H := H.2 c14
            refine g_iconst (v := (iI_ 2)) dX9_ring_56 (by decide) ?_
            refine g_goto 61 dX9_ring_57 (by decide) ?_
            exact g_iret rfl dX9_ring_61 ⟨_, rfl, H⟩
    · replace H := H.2 c11
      refine g_iload_n dX9_ring_38 0 rfl rfl ?_
      refine g_if_le 44 dX9_ring_39 (by decide) (fun c15 => ?_) (fun c15 => ?_)
      · replace H := H.1 c15
        refine g_iload_n dX9_ring_44 2 rfl rfl ?_
        refine g_if_ge 60 dX9_ring_45 (by decide) (fun c16 => ?_) (fun c16 => ?_)
        · replace H := H.1 c16
          refine g_iconst (v := (iI_ 0)) dX9_ring_60 (by decide) ?_
          exact g_iret rfl dX9_ring_61 ⟨_, rfl, H⟩
        · replace H := H.2 c16
          refine g_iload_n dX9_ring_48 1 rfl rfl ?_
          refine g_if_ge 60 dX9_ring_49 (by decide) (fun c17 => ?_) (fun c17 => ?_)
          · replace H := H.1 c17
            refine g_iconst (v := (iI_ 0)) dX9_ring_60 (by decide) ?_
            exact g_iret rfl dX9_ring_61 ⟨_, rfl, H⟩
          · replace H := H.2 c17
            refine g_iload_n dX9_ring_52 0 rfl rfl ?_
            refine g_if_ge 60 dX9_ring_53 (by decide) (fun c18 => ?_) (fun c18 => ?_)
            · replace H := H.1 c18
              refine g_iconst (v := (iI_ 0)) dX9_ring_60 (by decide) ?_
              exact g_iret rfl dX9_ring_61 ⟨_, rfl, H⟩
            · replace H := H.2 c18
              refine g_iconst (v := (iI_ 2)) dX9_ring_56 (by decide) ?_
              refine g_goto 61 dX9_ring_57 (by decide) ?_
              exact g_iret rfl dX9_ring_61 ⟨_, rfl, H⟩
      · replace H := H.2 c15
        refine g_iconst (v := (iI_ 1)) dX9_ring_42 (by decide) ?_
        exact g_iret rfl dX9_ring_43 ⟨_, rfl, H⟩
set_option maxHeartbeats 4000000 in
set_option maxRecDepth 100000 in
theorem eX9_sham (u : Ux_) {P : Int32 → St_ → Prop}  (σ : St_) (x1 : Int32) (x2 : Int32) (H : MMi_ (zx_ u) mX9_isNight [.int x1] σ (fun r2 σ1 => ((r2 = iI_ 0 → P (iI_ (-2)) σ1) ∧ (¬ r2 = iI_ 0 → MMi_ (zx_ u) mX9_isMember [.ref (uq_ u 0), .int x2] σ1 (fun r5 σ4 => ((¬ r5 = iI_ 0 → MMi_ (zx_ u) mX9_carriedAsTold [.ref (uq_ u 0), .int x1] σ4 (fun r8 σ7 => ((¬ r8 = (iI_ (-1)) → vp_in x2 8 ∧ MMi_ (zx_ u) mX9_rather [.int (σ7 7 (Int32.toNatClampNeg x2)), .int (σ7 23 0), .int (σ7 24 0)] σ7 (fun r12 σ11 => ((r12 = iI_ 0 → ((¬ r8 = (σ11 24 0) → vp_in x2 8 ∧ vp_in x2 8 ∧ (∀ σ16, σ16 = su_ σ11 29 (Int32.toNatClampNeg x2) ((iI_ 1) - (σ11 29 (Int32.toNatClampNeg x2))) → MMi_ (zx_ u) mX0_tally [.ref (uq_ u 20)] σ16 (fun r19 σ18 => ((¬ r19 = (σ11 24 0) → P (iI_ 0) σ18) ∧ (r19 = (σ11 24 0) → P (iI_ 1) σ18))))) ∧ (r8 = (σ11 24 0) → P (iI_ 0) σ11))) ∧ (¬ r12 = iI_ 0 → ((¬ r8 = (σ11 23 0) → vp_in x2 8 ∧ vp_in x2 8 ∧ (∀ σ23, σ23 = su_ σ11 29 (Int32.toNatClampNeg x2) ((iI_ 1) - (σ11 29 (Int32.toNatClampNeg x2))) → MMi_ (zx_ u) mX0_tally [.ref (uq_ u 20)] σ23 (fun r26 σ25 => ((¬ r26 = (σ11 23 0) → P (iI_ 0) σ25) ∧ (r26 = (σ11 23 0) → P (iI_ 1) σ25))))) ∧ (r8 = (σ11 23 0) → P (iI_ 0) σ11)))))) ∧ (r8 = (iI_ (-1)) → P (iI_ (-1)) σ7)))) ∧ (r5 = iI_ 0 → P (iI_ (-2)) σ4))))))) : MMi_ (zx_ u) mX9_sham [.ref (uq_ u 0), .int x1, .int x2] σ P := by
  refine MM_.of (L := [(0, .ref (uq_ u 0)), (1, .int x1), (2, .int x2)]) (by decide +kernel) (Nat.le_of_ble_eq_true rfl) rfl ?_
  refine g_iload_n dX9_sham_0 1 rfl rfl ?_
  refine k_X9_isNight w_444 rfl ⟨Nat.le_of_ble_eq_true rfl, Nat.le_of_ble_eq_true rfl⟩ (Nat.le_of_ble_eq_true rfl) dX9_sham_1 H (fun r2 σ1 H => ?_)
  refine g_if_eq 15 dX9_sham_4 (by decide) (fun c3 => ?_) (fun c3 => ?_)
  · replace H := H.1 c3
    refine g_bipush (v := (iI_ (-2))) dX9_sham_15 (by decide) ?_
    exact g_iret rfl dX9_sham_17 ⟨_, rfl, H⟩
  · replace H := H.2 c3
    refine g_aload_n dX9_sham_7 0 rfl rfl ?_
    refine g_iload_n dX9_sham_8 2 rfl rfl ?_
    refine k_X9_isMember w_431 rfl ⟨Nat.le_of_ble_eq_true rfl, Nat.le_of_ble_eq_true rfl⟩ (Nat.le_of_ble_eq_true rfl) dX9_sham_9 H (fun r5 σ4 H => ?_)
    refine g_if_ne 18 dX9_sham_12 (by decide) (fun c6 => ?_) (fun c6 => ?_)
    · replace H := H.1 c6
      refine g_aload_n dX9_sham_18 0 rfl rfl ?_
      refine g_iload_n dX9_sham_19 1 rfl rfl ?_
      refine k_X9_carriedAsTold w_486 rfl ⟨Nat.le_of_ble_eq_true rfl, Nat.le_of_ble_eq_true rfl⟩ (Nat.le_of_ble_eq_true rfl) dX9_sham_20 H (fun r8 σ7 H => ?_)
      refine g_istore_n (L' := [(3, .int r8), (0, .ref (uq_ u 0)), (1, .int x1), (2, .int x2)]) dX9_sham_23 rfl (by decide) rfl ?_
      refine g_iload_n dX9_sham_24 0 rfl rfl ?_
      refine g_iconst (v := (iI_ (-1))) dX9_sham_25 (by decide) ?_
      refine g_icmp_ne 31 dX9_sham_26 (by decide) (fun c9 => ?_) (fun c9 => ?_)
      · replace H := H.1 c9
        refine g_aload_n dX9_sham_31 1 rfl rfl ?_
        refine gx_LinenHouse_roll w_324 rfl dX9_sham_32 ?_
        refine gx_Roll_order w_114 rfl dX9_sham_35 ?_
        refine g_iload_n dX9_sham_38 3 rfl rfl ?_
        obtain ⟨h10, H⟩ := H
        refine ax_7 h10 dX9_sham_39 ?_
        refine g_aload_n dX9_sham_40 1 rfl rfl ?_
        refine gx_LinenHouse_chamber w_329 rfl dX9_sham_41 ?_
        refine gx_Chamber_first w_229 rfl dX9_sham_44 ?_
        refine g_aload_n dX9_sham_47 1 rfl rfl ?_
        refine gx_LinenHouse_chamber w_329 rfl dX9_sham_48 ?_
        refine gx_Chamber_other w_231 rfl dX9_sham_51 ?_
        refine k_X9_rather w_655 rfl ⟨Nat.le_of_ble_eq_true rfl, Nat.le_of_ble_eq_true rfl⟩ (Nat.le_of_ble_eq_true rfl) dX9_sham_54 H (fun r12 σ11 H => ?_)
        refine g_if_eq 70 dX9_sham_57 (by decide) (fun c13 => ?_) (fun c13 => ?_)
        · replace H := H.1 c13
          refine g_aload_n dX9_sham_70 1 rfl rfl ?_
          refine gx_LinenHouse_chamber w_329 rfl dX9_sham_71 ?_
          refine gx_Chamber_other w_231 rfl dX9_sham_74 ?_
          refine g_istore (L' := [(4, .int (σ11 24 0)), (3, .int r8), (0, .ref (uq_ u 0)), (1, .int x1), (2, .int x2)]) dX9_sham_77 (by decide) rfl ?_
          refine g_iload_n dX9_sham_79 1 rfl rfl ?_
          refine g_iload dX9_sham_80 0 rfl ?_
          refine g_icmp_ne 87 dX9_sham_82 (by decide) (fun c14 => ?_) (fun c14 => ?_)
          · replace H := H.1 c14
            refine g_aload_n dX9_sham_87 2 rfl rfl ?_
            refine gx_LinenHouse_chamber w_329 rfl dX9_sham_88 ?_
            refine gx_Chamber_vote w_238 rfl dX9_sham_91 ?_
            refine g_iload_n dX9_sham_94 4 rfl rfl ?_
            refine g_iconst (v := (iI_ 1)) dX9_sham_95 (by decide) ?_
            refine g_aload_n dX9_sham_96 2 rfl rfl ?_
            refine gx_LinenHouse_chamber w_329 rfl dX9_sham_97 ?_
            refine gx_Chamber_vote w_238 rfl dX9_sham_100 ?_
            refine g_iload_n dX9_sham_103 4 rfl rfl ?_
            obtain ⟨h15, H⟩ := H
            refine ax_29 h15 dX9_sham_104 ?_
            refine g_isub dX9_sham_105 ?_
            obtain ⟨h17, H⟩ := H
            refine sx_29 h17 dX9_sham_106 ?_
            obtain ⟨σ16, e_σ16⟩ : ∃ q : St_, q = su_ σ11 29 (Int32.toNatClampNeg x2) ((iI_ 1) - (σ11 29 (Int32.toNatClampNeg x2))) := ⟨_, rfl⟩
            rw [← e_σ16]
            replace H := H σ16 e_σ16
            refine g_aload_n dX9_sham_107 2 rfl rfl ?_
            refine gx_LinenHouse_chamber w_329 rfl dX9_sham_108 ?_
            refine k_X0_tally w_587 rfl ⟨Nat.le_of_ble_eq_true rfl, Nat.le_of_ble_eq_true rfl⟩ (Nat.le_of_ble_eq_true rfl) dX9_sham_111 H (fun r19 σ18 H => ?_)
            refine g_iload dX9_sham_114 0 rfl ?_
            refine g_icmp_ne 123 dX9_sham_116 (by decide) (fun c20 => ?_) (fun c20 => ?_)
            · replace H := H.1 c20
              refine g_iconst (v := (iI_ 0)) dX9_sham_123 (by decide) ?_
              exact g_iret rfl dX9_sham_124 ⟨_, rfl, H⟩
            · replace H := H.2 c20
              refine g_iconst (v := (iI_ 1)) dX9_sham_119 (by decide) ?_
              refine g_goto 124 dX9_sham_120 (by decide) ?_
              exact g_iret rfl dX9_sham_124 ⟨_, rfl, H⟩
          · replace H := H.2 c14
            refine g_iconst (v := (iI_ 0)) dX9_sham_85 (by decide) ?_
            exact g_iret rfl dX9_sham_86 ⟨_, rfl, H⟩
        · replace H := H.2 c13
          refine g_aload_n dX9_sham_60 1 rfl rfl ?_
          refine gx_LinenHouse_chamber w_329 rfl dX9_sham_61 ?_
          refine gx_Chamber_first w_229 rfl dX9_sham_64 ?_
          refine g_goto 77 dX9_sham_67 (by decide) ?_
          refine g_istore (L' := [(4, .int (σ11 23 0)), (3, .int r8), (0, .ref (uq_ u 0)), (1, .int x1), (2, .int x2)]) dX9_sham_77 (by decide) rfl ?_
          refine g_iload_n dX9_sham_79 1 rfl rfl ?_
          refine g_iload dX9_sham_80 0 rfl ?_
          refine g_icmp_ne 87 dX9_sham_82 (by decide) (fun c21 => ?_) (fun c21 => ?_)
          · replace H := H.1 c21
            refine g_aload_n dX9_sham_87 2 rfl rfl ?_
            refine gx_LinenHouse_chamber w_329 rfl dX9_sham_88 ?_
            refine gx_Chamber_vote w_238 rfl dX9_sham_91 ?_
            refine g_iload_n dX9_sham_94 4 rfl rfl ?_
            refine g_iconst (v := (iI_ 1)) dX9_sham_95 (by decide) ?_
            refine g_aload_n dX9_sham_96 2 rfl rfl ?_
            refine gx_LinenHouse_chamber w_329 rfl dX9_sham_97 ?_
            refine gx_Chamber_vote w_238 rfl dX9_sham_100 ?_
            refine g_iload_n dX9_sham_103 4 rfl rfl ?_
            obtain ⟨h22, H⟩ := H
            refine ax_29 h22 dX9_sham_104 ?_
            refine g_isub dX9_sham_105 ?_
            obtain ⟨h24, H⟩ := H
            refine sx_29 h24 dX9_sham_106 ?_
            obtain ⟨σ23, e_σ23⟩ : ∃ q : St_, q = su_ σ11 29 (Int32.toNatClampNeg x2) ((iI_ 1) - (σ11 29 (Int32.toNatClampNeg x2))) := ⟨_, rfl⟩
            rw [← e_σ23]
            replace H := H σ23 e_σ23
            refine g_aload_n dX9_sham_107 2 rfl rfl ?_
            refine gx_LinenHouse_chamber w_329 rfl dX9_sham_108 ?_
            refine k_X0_tally w_587 rfl ⟨Nat.le_of_ble_eq_true rfl, Nat.le_of_ble_eq_true rfl⟩ (Nat.le_of_ble_eq_true rfl) dX9_sham_111 H (fun r26 σ25 H => ?_)
            refine g_iload dX9_sham_114 0 rfl ?_
            refine g_icmp_ne 123 dX9_sham_116 (by decide) (fun c27 => ?_) (fun c27 => ?_)
            · replace H := H.1 c27
              refine g_iconst (v := (iI_ 0)) dX9_sham_123 (by decide) ?_
              exact g_iret rfl dX9_sham_124 ⟨_, rfl, H⟩
            · replace H := H.2 c27
              refine g_iconst (v := (iI_ 1)) dX9_sham_119 (by decide) ?_
              refine g_goto 124 dX9_sham_120 (by decide) ?_
              exact g_iret rfl dX9_sham_124 ⟨_, rfl, H⟩
          · replace H := H.2 c21
            refine g_iconst (v := (iI_ 0)) dX9_sham_85 (by decide) ?_
            exact g_iret rfl dX9_sham_86 ⟨_, rfl, H⟩
      · replace H := H.2 c9
        refine g_iconst (v := (iI_ (-1))) dX9_sham_29 (by decide) ?_
        exact g_iret rfl dX9_sham_30 ⟨_, rfl, H⟩
    · replace H := H.2 c6
      refine g_bipush (v := (iI_ (-2))) dX9_sham_15 (by decide) ?_
      exact g_iret rfl dX9_sham_17 ⟨_, rfl, H⟩
set_option maxHeartbeats 4000000 in
set_option maxRecDepth 100000 in
theorem eX9_seen (u : Ux_) {P : Int32 → St_ → Prop}  (σ : St_) (x1 : Int32) (x2 : Int32) (H : MMi_ (zx_ u) mX9_isNight [.int x1] σ (fun r2 σ1 => ((r2 = iI_ 0 → P (iI_ (-2)) σ1) ∧ (¬ r2 = iI_ 0 → MMi_ (zx_ u) mX9_within [.int x2, .int (iI_ 4)] σ1 (fun r5 σ4 => ((¬ r5 = iI_ 0 → ((¬ x2 = (iI_ 3) → MMi_ (zx_ u) mX7_add [.ref (uq_ u 17), .int x1, .int x2] σ4 (fun r9 σ8 => ((r9 = iI_ 0 → P (iI_ (-4)) σ8) ∧ (¬ r9 = iI_ 0 → P (σ8 20 0) σ8)))) ∧ (x2 = (iI_ 3) → MMi_ (zx_ u) mX7_add [.ref (uq_ u 17), .int x1, .int (iI_ (-1))] σ4 (fun r12 σ11 => ((r12 = iI_ 0 → P (iI_ (-4)) σ11) ∧ (¬ r12 = iI_ 0 → P (σ11 20 0) σ11)))))) ∧ (r5 = iI_ 0 → P (iI_ (-2)) σ4))))))) : MMi_ (zx_ u) mX9_seen [.ref (uq_ u 0), .int x1, .int x2] σ P := by
  refine MM_.of (L := [(0, .ref (uq_ u 0)), (1, .int x1), (2, .int x2)]) (by decide +kernel) (Nat.le_of_ble_eq_true rfl) rfl ?_
  refine g_iload_n dX9_seen_0 1 rfl rfl ?_
  refine k_X9_isNight w_444 rfl ⟨Nat.le_of_ble_eq_true rfl, Nat.le_of_ble_eq_true rfl⟩ (Nat.le_of_ble_eq_true rfl) dX9_seen_1 H (fun r2 σ1 H => ?_)
  refine g_if_eq 15 dX9_seen_4 (by decide) (fun c3 => ?_) (fun c3 => ?_)
  · replace H := H.1 c3
    refine g_bipush (v := (iI_ (-2))) dX9_seen_15 (by decide) ?_
    exact g_iret rfl dX9_seen_17 ⟨_, rfl, H⟩
  · replace H := H.2 c3
    refine g_iload_n dX9_seen_7 2 rfl rfl ?_
    refine g_iconst (v := (iI_ 4)) dX9_seen_8 (by decide) ?_
    refine k_X9_within w_370 rfl ⟨Nat.le_of_ble_eq_true rfl, Nat.le_of_ble_eq_true rfl⟩ (Nat.le_of_ble_eq_true rfl) dX9_seen_9 H (fun r5 σ4 H => ?_)
    refine g_if_ne 18 dX9_seen_12 (by decide) (fun c6 => ?_) (fun c6 => ?_)
    · replace H := H.1 c6
      refine g_aload_n dX9_seen_18 0 rfl rfl ?_
      refine gx_LinenHouse_sightings w_328 rfl dX9_seen_19 ?_
      refine g_iload_n dX9_seen_22 1 rfl rfl ?_
      refine g_iload_n dX9_seen_23 2 rfl rfl ?_
      refine g_iconst (v := (iI_ 3)) dX9_seen_24 (by decide) ?_
      refine g_icmp_ne 32 dX9_seen_25 (by decide) (fun c7 => ?_) (fun c7 => ?_)
      · replace H := H.1 c7
        refine g_iload_n dX9_seen_32 2 rfl rfl ?_
        refine k_X7_add w_660 rfl ⟨Nat.le_of_ble_eq_true rfl, Nat.le_of_ble_eq_true rfl⟩ (Nat.le_of_ble_eq_true rfl) dX9_seen_33 H (fun r9 σ8 H => ?_)
        refine g_if_eq 49 dX9_seen_36 (by decide) (fun c10 => ?_) (fun c10 => ?_)
        · replace H := H.1 c10
          refine g_bipush (v := (iI_ (-4))) dX9_seen_49 (by decide) ?_
          exact g_iret rfl dX9_seen_51 ⟨_, rfl, H⟩
        · replace H := H.2 c10
          refine g_aload_n dX9_seen_39 0 rfl rfl ?_
          refine gx_LinenHouse_sightings w_328 rfl dX9_seen_40 ?_
          refine gx_Sightings_n w_207 rfl dX9_seen_43 ?_
          refine g_goto 51 dX9_seen_46 (by decide) ?_
          exact g_iret rfl dX9_seen_51 ⟨_, rfl, H⟩
      · replace H := H.2 c7
        refine g_iconst (v := (iI_ (-1))) dX9_seen_28 (by decide) ?_
        refine g_goto 33 dX9_seen_29 (by decide) ?_
        refine k_X7_add w_660 rfl ⟨Nat.le_of_ble_eq_true rfl, Nat.le_of_ble_eq_true rfl⟩ (Nat.le_of_ble_eq_true rfl) dX9_seen_33 H (fun r12 σ11 H => ?_)
        refine g_if_eq 49 dX9_seen_36 (by decide) (fun c13 => ?_) (fun c13 => ?_)
        · replace H := H.1 c13
          refine g_bipush (v := (iI_ (-4))) dX9_seen_49 (by decide) ?_
          exact g_iret rfl dX9_seen_51 ⟨_, rfl, H⟩
        · replace H := H.2 c13
          refine g_aload_n dX9_seen_39 0 rfl rfl ?_
          refine gx_LinenHouse_sightings w_328 rfl dX9_seen_40 ?_
          refine gx_Sightings_n w_207 rfl dX9_seen_43 ?_
          refine g_goto 51 dX9_seen_46 (by decide) ?_
          exact g_iret rfl dX9_seen_51 ⟨_, rfl, H⟩
    · replace H := H.2 c6
      refine g_bipush (v := (iI_ (-2))) dX9_seen_15 (by decide) ?_
      exact g_iret rfl dX9_seen_17 ⟨_, rfl, H⟩
set_option maxHeartbeats 4000000 in
set_option maxRecDepth 100000 in
theorem eX9_forget (u : Ux_) {P : Int32 → St_ → Prop}  (σ : St_)  (H : (∀ σ1, σ1 = su_ σ 20 0 (iI_ 0) → P (σ 20 0) σ1)) : MMi_ (zx_ u) mX9_forget [.ref (uq_ u 0)] σ P := by
  refine MM_.of (L := [(0, .ref (uq_ u 0))]) (by decide +kernel) (Nat.le_of_ble_eq_true rfl) rfl ?_
  refine g_aload_n dX9_forget_0 0 rfl rfl ?_
  refine gx_LinenHouse_sightings w_328 rfl dX9_forget_1 ?_
  refine gx_Sightings_n w_207 rfl dX9_forget_4 ?_
  refine g_istore_n (L' := [(1, .int (σ 20 0)), (0, .ref (uq_ u 0))]) dX9_forget_7 rfl (by decide) rfl ?_
  refine g_aload_n dX9_forget_8 1 rfl rfl ?_
  refine gx_LinenHouse_sightings w_328 rfl dX9_forget_9 ?_
  refine g_iconst (v := (iI_ 0)) dX9_forget_12 (by decide) ?_
  refine px_Sightings_n w_207 rfl dX9_forget_13 ?_
  obtain ⟨σ1, e_σ1⟩ : ∃ q : St_, q = su_ σ 20 0 (iI_ 0) := ⟨_, rfl⟩
  rw [← e_σ1]
  replace H := H σ1 e_σ1
  refine g_iload_n dX9_forget_16 0 rfl rfl ?_
  exact g_iret rfl dX9_forget_17 ⟨_, rfl, H⟩
set_option maxHeartbeats 4000000 in
set_option maxRecDepth 100000 in
theorem bX9_never_4 (u : Ux_) {P : Int32 → St_ → Prop}  (σ : St_) (x1 : Int32) (x2 : Int32) (H : (((σ 14 0) ≤ x2 → P x1 σ) ∧ (¬ (σ 14 0) ≤ x2 → MMi_ (zx_ u) mX9_seenSo [.ref (uq_ u 0), .ref (uq_ u 5), .int x2] σ (fun r3 σ2 => ((r3 = iI_ 0 → GG_ (zx_ u) mX9_never (Pi_ P) 4 [(0, .ref (uq_ u 0)), (1, .int x1), (2, .int (x2 + (iI_ 1)))] [] σ2) ∧ (¬ r3 = iI_ 0 → GG_ (zx_ u) mX9_never (Pi_ P) 4 [(0, .ref (uq_ u 0)), (1, .int (x1 ||| ((iI_ 1) <<< (x2 &&& 31)))), (2, .int (x2 + (iI_ 1)))] [] σ2)))))) : GG_ (zx_ u) mX9_never (Pi_ P) 4 [(0, .ref (uq_ u 0)), (1, .int x1), (2, .int x2)] [] σ := by
  refine g_iload_n dX9_never_4 2 rfl rfl ?_
  refine g_aload_n dX9_never_5 0 rfl rfl ?_
  refine gx_LinenHouse_folds w_326 rfl dX9_never_6 ?_
  refine gx_Folds_n w_170 rfl dX9_never_9 ?_
  refine g_icmp_ge 42 dX9_never_12 (by decide) (fun c1 => ?_) (fun c1 => ?_)
  · replace H := H.1 c1
    refine g_iload_n dX9_never_42 1 rfl rfl ?_
    exact g_iret rfl dX9_never_43 ⟨_, rfl, H⟩
  · replace H := H.2 c1
    refine g_aload_n dX9_never_15 0 rfl rfl ?_
    refine g_aload_n dX9_never_16 0 rfl rfl ?_
    refine gx_LinenHouse_roll w_324 rfl dX9_never_17 ?_
    refine gx_Roll_order w_114 rfl dX9_never_20 ?_
    refine g_iload_n dX9_never_23 2 rfl rfl ?_
    refine k_X9_seenSo w_672 rfl ⟨Nat.le_of_ble_eq_true rfl, Nat.le_of_ble_eq_true rfl⟩ (Nat.le_of_ble_eq_true rfl) dX9_never_24 H (fun r3 σ2 H => ?_)
    refine g_if_eq 36 dX9_never_27 (by decide) (fun c4 => ?_) (fun c4 => ?_)
    · replace H := H.1 c4
      refine g_iinc (v := (x2 + (iI_ 1))) (L' := [(2, .int (x2 + (iI_ 1))), (0, .ref (uq_ u 0)), (1, .int x1)]) dX9_never_36 2 rfl rfl (by decide) rfl ?_
      refine g_goto 4 dX9_never_39 (by decide) ?_
      exact GG_.sub [1, 2, 0] rfl H
    · replace H := H.2 c4
      refine g_iload_n dX9_never_30 1 rfl rfl ?_
      refine g_iconst (v := (iI_ 1)) dX9_never_31 (by decide) ?_
      refine g_iload_n dX9_never_32 2 rfl rfl ?_
      refine g_ishl dX9_never_33 ?_
      refine g_ior dX9_never_34 ?_
      refine g_istore_n (L' := [(1, .int (x1 ||| ((iI_ 1) <<< (x2 &&& 31)))), (0, .ref (uq_ u 0)), (2, .int x2)]) dX9_never_35 rfl (by decide) rfl ?_
      refine g_iinc (v := (x2 + (iI_ 1))) (L' := [(2, .int (x2 + (iI_ 1))), (1, .int (x1 ||| ((iI_ 1) <<< (x2 &&& 31)))), (0, .ref (uq_ u 0))]) dX9_never_36 2 rfl rfl (by decide) rfl ?_
      refine g_goto 4 dX9_never_39 (by decide) ?_
      exact GG_.sub [2, 1, 0] rfl H
set_option maxHeartbeats 4000000 in
set_option maxRecDepth 100000 in
theorem eX9_never (u : Ux_) {P : Int32 → St_ → Prop}  (σ : St_)  (H : GG_ (zx_ u) mX9_never (Pi_ P) 4 [(0, .ref (uq_ u 0)), (1, .int (iI_ 0)), (2, .int (iI_ 0))] [] σ) : MMi_ (zx_ u) mX9_never [.ref (uq_ u 0)] σ P := by
  refine MM_.of (L := [(0, .ref (uq_ u 0))]) (by decide +kernel) (Nat.le_of_ble_eq_true rfl) rfl ?_
  refine g_iconst (v := (iI_ 0)) dX9_never_0 (by decide) ?_
  refine g_istore_n (L' := [(1, .int (iI_ 0)), (0, .ref (uq_ u 0))]) dX9_never_1 rfl (by decide) rfl ?_
  refine g_iconst (v := (iI_ 0)) dX9_never_2 (by decide) ?_
  refine g_istore_n (L' := [(2, .int (iI_ 0)), (1, .int (iI_ 0)), (0, .ref (uq_ u 0))]) dX9_never_3 rfl (by decide) rfl ?_
  exact GG_.sub [2, 1, 0] rfl H
set_option maxHeartbeats 4000000 in
set_option maxRecDepth 100000 in
theorem eX9_would (u : Ux_) {P : Int32 → St_ → Prop}  (σ : St_) (x1 : Int32) (H : MMi_ (zx_ u) mX9_isMember [.ref (uq_ u 0), .int x1] σ (fun r2 σ1 => ((r2 = iI_ 0 → P (iI_ (-2)) σ1) ∧ (¬ r2 = iI_ 0 → MMi_ (zx_ u) mX9_ordersSeenSo [.ref (uq_ u 0), .int x1] σ1 (fun r5 σ4 => P r5 σ4))))) : MMi_ (zx_ u) mX9_would [.ref (uq_ u 0), .int x1] σ P := by
  refine MM_.of (L := [(0, .ref (uq_ u 0)), (1, .int x1)]) (by decide +kernel) (Nat.le_of_ble_eq_true rfl) rfl ?_
  refine g_aload_n dX9_would_0 0 rfl rfl ?_
  refine g_iload_n dX9_would_1 1 rfl rfl ?_
  refine k_X9_isMember w_431 rfl ⟨Nat.le_of_ble_eq_true rfl, Nat.le_of_ble_eq_true rfl⟩ (Nat.le_of_ble_eq_true rfl) dX9_would_2 H (fun r2 σ1 H => ?_)
  refine g_if_eq 16 dX9_would_5 (by decide) (fun c3 => ?_) (fun c3 => ?_)
  · replace H := H.1 c3
    refine g_bipush (v := (iI_ (-2))) dX9_would_16 (by decide) ?_
    exact g_iret rfl dX9_would_18 ⟨_, rfl, H⟩
  · replace H := H.2 c3
    refine g_aload_n dX9_would_8 0 rfl rfl ?_
    refine g_iload_n dX9_would_9 1 rfl rfl ?_
    refine k_X9_ordersSeenSo w_680 rfl ⟨Nat.le_of_ble_eq_true rfl, Nat.le_of_ble_eq_true rfl⟩ (Nat.le_of_ble_eq_true rfl) dX9_would_10 H (fun r5 σ4 H => ?_)
    refine g_goto 18 dX9_would_13 (by decide) ?_
    exact g_iret rfl dX9_would_18 ⟨_, rfl, H⟩
set_option maxHeartbeats 4000000 in
set_option maxRecDepth 100000 in
theorem eX9_ask (u : Ux_) {P : Int32 → St_ → Prop}  (σ : St_) (x1 : Int32) (H : MMi_ (zx_ u) mX9_isMember [.ref (uq_ u 0), .int x1] σ (fun r2 σ1 => ((r2 = iI_ 0 → P (iI_ (-2)) σ1) ∧ (¬ r2 = iI_ 0 → MMi_ (zx_ u) mX9_ordersSeenSo [.ref (uq_ u 0), .int x1] σ1 (fun r5 σ4 => MMi_ (zx_ u) mX9_nightToAsk [.ref (uq_ u 0), .int x1, .int r5] σ4 (fun r7 σ6 => P r7 σ6)))))) : MMi_ (zx_ u) mX9_ask [.ref (uq_ u 0), .int x1] σ P := by
  refine MM_.of (L := [(0, .ref (uq_ u 0)), (1, .int x1)]) (by decide +kernel) (Nat.le_of_ble_eq_true rfl) rfl ?_
  refine g_aload_n dX9_ask_0 0 rfl rfl ?_
  refine g_iload_n dX9_ask_1 1 rfl rfl ?_
  refine k_X9_isMember w_431 rfl ⟨Nat.le_of_ble_eq_true rfl, Nat.le_of_ble_eq_true rfl⟩ (Nat.le_of_ble_eq_true rfl) dX9_ask_2 H (fun r2 σ1 H => ?_)
  refine g_if_eq 21 dX9_ask_5 (by decide) (fun c3 => ?_) (fun c3 => ?_)
  · replace H := H.1 c3
    refine g_bipush (v := (iI_ (-2))) dX9_ask_21 (by decide) ?_
    exact g_iret rfl dX9_ask_23 ⟨_, rfl, H⟩
  · replace H := H.2 c3
    refine g_aload_n dX9_ask_8 0 rfl rfl ?_
    refine g_iload_n dX9_ask_9 1 rfl rfl ?_
    refine g_aload_n dX9_ask_10 0 rfl rfl ?_
    refine g_iload_n dX9_ask_11 1 rfl rfl ?_
    refine k_X9_ordersSeenSo w_680 rfl ⟨Nat.le_of_ble_eq_true rfl, Nat.le_of_ble_eq_true rfl⟩ (Nat.le_of_ble_eq_true rfl) dX9_ask_12 H (fun r5 σ4 H => ?_)
    refine k_X9_nightToAsk w_692 rfl ⟨Nat.le_of_ble_eq_true rfl, Nat.le_of_ble_eq_true rfl⟩ (Nat.le_of_ble_eq_true rfl) dX9_ask_15 H (fun r7 σ6 H => ?_)
    refine g_goto 23 dX9_ask_18 (by decide) ?_
    exact g_iret rfl dX9_ask_23 ⟨_, rfl, H⟩
set_option maxHeartbeats 4000000 in
set_option maxRecDepth 100000 in
theorem bX9_ajar_78 (u : Ux_) {P : Int64 → St_ → Prop}  (σ : St_) (x3 : Int32) (x5 : Int32) (x7 : Int32) (y0 : Int32) (H : MMi_ (zx_ u) mX0_carried [.ref (uq_ u 20), .int x7, .ref (uq_ u 5), .int (iI_ 1), .int (iI_ (-1))] σ (fun r2 σ1 => ((¬ r2 = x3 → MMi_ (zx_ u) mX0_carried [.ref (uq_ u 20), .int x7, .ref (uq_ u 5), .int (iI_ 0), .int (iI_ (-1))] σ1 (fun r5 σ4 => ((¬ r5 = x3 → MMl_ (zx_ u) mX9_lowest [.long (Int32.toInt64 (iI_ 0)), .long (iL_ 16), .int x5] σ4 (fun r8 σ7 => P r8 σ7)) ∧ (r5 = x3 → MMl_ (zx_ u) mX9_lowest [.long (Int32.toInt64 ((iI_ 0) + ((iI_ 16) - y0))), .long (iL_ 16), .int x5] σ4 (fun r10 σ9 => P r10 σ9))))) ∧ (r2 = x3 → MMi_ (zx_ u) mX0_carried [.ref (uq_ u 20), .int x7, .ref (uq_ u 5), .int (iI_ 0), .int (iI_ (-1))] σ1 (fun r12 σ11 => ((¬ r12 = x3 → MMl_ (zx_ u) mX9_lowest [.long (Int32.toInt64 ((iI_ 0) + y0)), .long (iL_ 16), .int x5] σ11 (fun r15 σ14 => P r15 σ14)) ∧ (r12 = x3 → MMl_ (zx_ u) mX9_lowest [.long (Int32.toInt64 (((iI_ 0) + y0) + ((iI_ 16) - y0))), .long (iL_ 16), .int x5] σ11 (fun r17 σ16 => P r17 σ16)))))))) : GG_ (zx_ u) mX9_ajar (Pl_ P) 78 [(0, .ref (uq_ u 0)), (3, .int x3), (5, .int x5), (7, .int x7)] [.int y0] σ := by
  refine g_istore (L' := [(8, .int y0), (0, .ref (uq_ u 0)), (3, .int x3), (5, .int x5), (7, .int x7)]) dX9_ajar_78 (by decide) rfl ?_
  refine g_iconst (v := (iI_ 0)) dX9_ajar_80 (by decide) ?_
  refine g_istore (L' := [(9, .int (iI_ 0)), (8, .int y0), (0, .ref (uq_ u 0)), (3, .int x3), (5, .int x5), (7, .int x7)]) dX9_ajar_81 (by decide) rfl ?_
  refine g_aload_n dX9_ajar_83 2 rfl rfl ?_
  refine gx_LinenHouse_chamber w_329 rfl dX9_ajar_84 ?_
  refine g_iload dX9_ajar_87 5 rfl ?_
  refine g_aload_n dX9_ajar_89 2 rfl rfl ?_
  refine gx_LinenHouse_roll w_324 rfl dX9_ajar_90 ?_
  refine gx_Roll_order w_114 rfl dX9_ajar_93 ?_
  refine g_iconst (v := (iI_ 1)) dX9_ajar_96 (by decide) ?_
  refine g_iconst (v := (iI_ (-1))) dX9_ajar_97 (by decide) ?_
  refine k_X0_carried w_494 rfl ⟨Nat.le_of_ble_eq_true rfl, Nat.le_of_ble_eq_true rfl⟩ (Nat.le_of_ble_eq_true rfl) dX9_ajar_98 H (fun r2 σ1 H => ?_)
  refine g_iload_n dX9_ajar_101 3 rfl rfl ?_
  refine g_icmp_ne 112 dX9_ajar_102 (by decide) (fun c3 => ?_) (fun c3 => ?_)
  · replace H := H.1 c3
    refine g_aload_n dX9_ajar_112 2 rfl rfl ?_
    refine gx_LinenHouse_chamber w_329 rfl dX9_ajar_113 ?_
    refine g_iload dX9_ajar_116 5 rfl ?_
    refine g_aload_n dX9_ajar_118 2 rfl rfl ?_
    refine gx_LinenHouse_roll w_324 rfl dX9_ajar_119 ?_
    refine gx_Roll_order w_114 rfl dX9_ajar_122 ?_
    refine g_iconst (v := (iI_ 0)) dX9_ajar_125 (by decide) ?_
    refine g_iconst (v := (iI_ (-1))) dX9_ajar_126 (by decide) ?_
    refine k_X0_carried w_494 rfl ⟨Nat.le_of_ble_eq_true rfl, Nat.le_of_ble_eq_true rfl⟩ (Nat.le_of_ble_eq_true rfl) dX9_ajar_127 H (fun r5 σ4 H => ?_)
    refine g_iload_n dX9_ajar_130 3 rfl rfl ?_
    refine g_icmp_ne 144 dX9_ajar_131 (by decide) (fun c6 => ?_) (fun c6 => ?_)
    · replace H := H.1 c6
      refine g_iload dX9_ajar_144 0 rfl ?_
      refine g_i2l dX9_ajar_146 ?_
      refine g_ldc2 (v := (iL_ 16)) (by decide) w_705 rfl dX9_ajar_147 ?_
      refine g_iload dX9_ajar_150 4 rfl ?_
      refine k_X9_lowest w_639 rfl ⟨Nat.le_of_ble_eq_true rfl, Nat.le_of_ble_eq_true rfl⟩ (Nat.le_of_ble_eq_true rfl) dX9_ajar_152 H (fun r8 σ7 H => ?_)
      exact g_lret rfl dX9_ajar_155 ⟨_, rfl, H⟩
    · replace H := H.2 c6
      refine g_iload dX9_ajar_134 0 rfl ?_
      refine g_bipush (v := (iI_ 16)) dX9_ajar_136 (by decide) ?_
      refine g_iload dX9_ajar_138 1 rfl ?_
      refine g_isub dX9_ajar_140 ?_
      refine g_iadd dX9_ajar_141 ?_
      refine g_istore (L' := [(9, .int ((iI_ 0) + ((iI_ 16) - y0))), (8, .int y0), (0, .ref (uq_ u 0)), (3, .int x3), (5, .int x5), (7, .int x7)]) dX9_ajar_142 (by decide) rfl ?_
      refine g_iload dX9_ajar_144 0 rfl ?_
      refine g_i2l dX9_ajar_146 ?_
      refine g_ldc2 (v := (iL_ 16)) (by decide) w_705 rfl dX9_ajar_147 ?_
      refine g_iload dX9_ajar_150 4 rfl ?_
      refine k_X9_lowest w_639 rfl ⟨Nat.le_of_ble_eq_true rfl, Nat.le_of_ble_eq_true rfl⟩ (Nat.le_of_ble_eq_true rfl) dX9_ajar_152 H (fun r10 σ9 H => ?_)
      exact g_lret rfl dX9_ajar_155 ⟨_, rfl, H⟩
  · replace H := H.2 c3
    refine g_iload dX9_ajar_105 0 rfl ?_
    refine g_iload dX9_ajar_107 1 rfl ?_
    refine g_iadd dX9_ajar_109 ?_
    refine g_istore (L' := [(9, .int ((iI_ 0) + y0)), (8, .int y0), (0, .ref (uq_ u 0)), (3, .int x3), (5, .int x5), (7, .int x7)]) dX9_ajar_110 (by decide) rfl ?_
    refine g_aload_n dX9_ajar_112 2 rfl rfl ?_
    refine gx_LinenHouse_chamber w_329 rfl dX9_ajar_113 ?_
    refine g_iload dX9_ajar_116 5 rfl ?_
    refine g_aload_n dX9_ajar_118 2 rfl rfl ?_
    refine gx_LinenHouse_roll w_324 rfl dX9_ajar_119 ?_
    refine gx_Roll_order w_114 rfl dX9_ajar_122 ?_
    refine g_iconst (v := (iI_ 0)) dX9_ajar_125 (by decide) ?_
    refine g_iconst (v := (iI_ (-1))) dX9_ajar_126 (by decide) ?_
    refine k_X0_carried w_494 rfl ⟨Nat.le_of_ble_eq_true rfl, Nat.le_of_ble_eq_true rfl⟩ (Nat.le_of_ble_eq_true rfl) dX9_ajar_127 H (fun r12 σ11 H => ?_)
    refine g_iload_n dX9_ajar_130 3 rfl rfl ?_
    refine g_icmp_ne 144 dX9_ajar_131 (by decide) (fun c13 => ?_) (fun c13 => ?_)
    · replace H := H.1 c13
      refine g_iload dX9_ajar_144 0 rfl ?_
      refine g_i2l dX9_ajar_146 ?_
      refine g_ldc2 (v := (iL_ 16)) (by decide) w_705 rfl dX9_ajar_147 ?_
      refine g_iload dX9_ajar_150 4 rfl ?_
      refine k_X9_lowest w_639 rfl ⟨Nat.le_of_ble_eq_true rfl, Nat.le_of_ble_eq_true rfl⟩ (Nat.le_of_ble_eq_true rfl) dX9_ajar_152 H (fun r15 σ14 H => ?_)
      exact g_lret rfl dX9_ajar_155 ⟨_, rfl, H⟩
    · replace H := H.2 c13
      refine g_iload dX9_ajar_134 0 rfl ?_
      refine g_bipush (v := (iI_ 16)) dX9_ajar_136 (by decide) ?_
      refine g_iload dX9_ajar_138 1 rfl ?_
      refine g_isub dX9_ajar_140 ?_
      refine g_iadd dX9_ajar_141 ?_
      refine g_istore (L' := [(9, .int (((iI_ 0) + y0) + ((iI_ 16) - y0))), (8, .int y0), (0, .ref (uq_ u 0)), (3, .int x3), (5, .int x5), (7, .int x7)]) dX9_ajar_142 (by decide) rfl ?_
      refine g_iload dX9_ajar_144 0 rfl ?_
      refine g_i2l dX9_ajar_146 ?_
      refine g_ldc2 (v := (iL_ 16)) (by decide) w_705 rfl dX9_ajar_147 ?_
      refine g_iload dX9_ajar_150 4 rfl ?_
      refine k_X9_lowest w_639 rfl ⟨Nat.le_of_ble_eq_true rfl, Nat.le_of_ble_eq_true rfl⟩ (Nat.le_of_ble_eq_true rfl) dX9_ajar_152 H (fun r17 σ16 H => ?_)
      exact g_lret rfl dX9_ajar_155 ⟨_, rfl, H⟩
set_option maxHeartbeats 4000000 in
set_option maxRecDepth 100000 in
theorem eX9_ajar (u : Ux_) {P : Int64 → St_ → Prop}  (σ : St_) (x1 : Int32) (x2 : Int32) (x3 : Int32) (x4 : Int32) (x5 : Int32) (H : MMi_ (zx_ u) mX9_within [.int x1, .int (iI_ 17)] σ (fun r2 σ1 => ((r2 = iI_ 0 → MMl_ (zx_ u) mX9_refusedLong [.int (iI_ (-2))] σ1 (fun r6 σ5 => P r6 σ5)) ∧ (¬ r2 = iI_ 0 → MMi_ (zx_ u) mX9_isNight [.int x2] σ1 (fun r8 σ7 => ((r8 = iI_ 0 → MMl_ (zx_ u) mX9_refusedLong [.int (iI_ (-2))] σ7 (fun r12 σ11 => P r12 σ11)) ∧ (¬ r8 = iI_ 0 → MMi_ (zx_ u) mX9_within [.int x3, .int (iI_ 3)] σ7 (fun r14 σ13 => ((r14 = iI_ 0 → MMl_ (zx_ u) mX9_refusedLong [.int (iI_ (-2))] σ13 (fun r18 σ17 => P r18 σ17)) ∧ (¬ r14 = iI_ 0 → MMi_ (zx_ u) mX9_isNight [.int x4] σ13 (fun r20 σ19 => ((r20 = iI_ 0 → MMl_ (zx_ u) mX9_refusedLong [.int (iI_ (-2))] σ19 (fun r24 σ23 => P r24 σ23)) ∧ (¬ r20 = iI_ 0 → MMi_ (zx_ u) mX9_within [.int x5, .int (iI_ 2)] σ19 (fun r27 σ26 => ((¬ r27 = iI_ 0 → MMi_ (zx_ u) mX9_lastPut [.ref (uq_ u 0), .int x4] σ26 (fun r30 σ29 => ((x2 < r30 → GG_ (zx_ u) mX9_ajar (Pl_ P) 78 [(0, .ref (uq_ u 0)), (3, .int x3), (5, .int x5), (7, .int r30)] [.int (iI_ 0)] σ29) ∧ (¬ x2 < r30 → GG_ (zx_ u) mX9_ajar (Pl_ P) 78 [(0, .ref (uq_ u 0)), (3, .int x3), (5, .int x5), (7, .int r30)] [.int x1] σ29)))) ∧ (r27 = iI_ 0 → MMl_ (zx_ u) mX9_refusedLong [.int (iI_ (-2))] σ26 (fun r33 σ32 => P r33 σ32))))))))))))))))) : MMl_ (zx_ u) mX9_ajar [.ref (uq_ u 0), .int x1, .int x2, .int x3, .int x4, .int x5] σ P := by
  refine MM_.of (L := [(0, .ref (uq_ u 0)), (1, .int x1), (2, .int x2), (3, .int x3), (4, .int x4), (5, .int x5)]) (by decide +kernel) (Nat.le_of_ble_eq_true rfl) rfl ?_
  refine g_iload_n dX9_ajar_0 1 rfl rfl ?_
  refine g_bipush (v := (iI_ 17)) dX9_ajar_1 (by decide) ?_
  refine k_X9_within w_370 rfl ⟨Nat.le_of_ble_eq_true rfl, Nat.le_of_ble_eq_true rfl⟩ (Nat.le_of_ble_eq_true rfl) dX9_ajar_3 H (fun r2 σ1 H => ?_)
  refine g_if_eq 36 dX9_ajar_6 (by decide) (fun c3 => ?_) (fun c3 => ?_)
  · replace H := H.1 c3
    refine g_iconst (v := (iI_ 0)) dX9_ajar_36 (by decide) ?_
    refine g_istore (L' := [(6, .int (iI_ 0)), (0, .ref (uq_ u 0)), (1, .int x1), (2, .int x2), (3, .int x3), (4, .int x4), (5, .int x5)]) dX9_ajar_37 (by decide) rfl ?_
    refine g_iload dX9_ajar_39 0 rfl ?_
    refine g_if_eq 53 dX9_ajar_41 (by decide) (fun c4 => ?_) (fun c4 => ?_)
    · skip
      refine g_bipush (v := (iI_ (-2))) dX9_ajar_53 (by decide) ?_
      refine k_X9_refusedLong w_609 rfl ⟨Nat.le_of_ble_eq_true rfl, Nat.le_of_ble_eq_true rfl⟩ (Nat.le_of_ble_eq_true rfl) dX9_ajar_55 H (fun r6 σ5 H => ?_)
      exact g_lret rfl dX9_ajar_58 ⟨_, rfl, H⟩
    · first | exact absurd c4 (by decide) | exact absurd (by decide) c4
  · replace H := H.2 c3
    refine g_iload_n dX9_ajar_9 2 rfl rfl ?_
    refine k_X9_isNight w_444 rfl ⟨Nat.le_of_ble_eq_true rfl, Nat.le_of_ble_eq_true rfl⟩ (Nat.le_of_ble_eq_true rfl) dX9_ajar_10 H (fun r8 σ7 H => ?_)
    refine g_if_eq 36 dX9_ajar_13 (by decide) (fun c9 => ?_) (fun c9 => ?_)
    · replace H := H.1 c9
      refine g_iconst (v := (iI_ 0)) dX9_ajar_36 (by decide) ?_
      refine g_istore (L' := [(6, .int (iI_ 0)), (0, .ref (uq_ u 0)), (1, .int x1), (2, .int x2), (3, .int x3), (4, .int x4), (5, .int x5)]) dX9_ajar_37 (by decide) rfl ?_
      refine g_iload dX9_ajar_39 0 rfl ?_
      refine g_if_eq 53 dX9_ajar_41 (by decide) (fun c10 => ?_) (fun c10 => ?_)
      · skip
        refine g_bipush (v := (iI_ (-2))) dX9_ajar_53 (by decide) ?_
        refine k_X9_refusedLong w_609 rfl ⟨Nat.le_of_ble_eq_true rfl, Nat.le_of_ble_eq_true rfl⟩ (Nat.le_of_ble_eq_true rfl) dX9_ajar_55 H (fun r12 σ11 H => ?_)
        exact g_lret rfl dX9_ajar_58 ⟨_, rfl, H⟩
      · first | exact absurd c10 (by decide) | exact absurd (by decide) c10
    · replace H := H.2 c9
      refine g_iload_n dX9_ajar_16 3 rfl rfl ?_
      refine g_iconst (v := (iI_ 3)) dX9_ajar_17 (by decide) ?_
      refine k_X9_within w_370 rfl ⟨Nat.le_of_ble_eq_true rfl, Nat.le_of_ble_eq_true rfl⟩ (Nat.le_of_ble_eq_true rfl) dX9_ajar_18 H (fun r14 σ13 H => ?_)
      refine g_if_eq 36 dX9_ajar_21 (by decide) (fun c15 => ?_) (fun c15 => ?_)
      · replace H := H.1 c15
        refine g_iconst (v := (iI_ 0)) dX9_ajar_36 (by decide) ?_
        refine g_istore (L' := [(6, .int (iI_ 0)), (0, .ref (uq_ u 0)), (1, .int x1), (2, .int x2), (3, .int x3), (4, .int x4), (5, .int x5)]) dX9_ajar_37 (by decide) rfl ?_
        refine g_iload dX9_ajar_39 0 rfl ?_
        refine g_if_eq 53 dX9_ajar_41 (by decide) (fun c16 => ?_) (fun c16 => ?_)
        · skip
          refine g_bipush (v := (iI_ (-2))) dX9_ajar_53 (by decide) ?_
          refine k_X9_refusedLong w_609 rfl ⟨Nat.le_of_ble_eq_true rfl, Nat.le_of_ble_eq_true rfl⟩ (Nat.le_of_ble_eq_true rfl) dX9_ajar_55 H (fun r18 σ17 H => ?_)
          exact g_lret rfl dX9_ajar_58 ⟨_, rfl, H⟩
        · first | exact absurd c16 (by decide) | exact absurd (by decide) c16
      · replace H := H.2 c15
        refine g_iload dX9_ajar_24 4 rfl ?_
        refine k_X9_isNight w_444 rfl ⟨Nat.le_of_ble_eq_true rfl, Nat.le_of_ble_eq_true rfl⟩ (Nat.le_of_ble_eq_true rfl) dX9_ajar_26 H (fun r20 σ19 H => ?_)
        refine g_if_eq 36 dX9_ajar_29 (by decide) (fun c21 => ?_) (fun c21 => ?_)
        · replace H := H.1 c21
          refine g_iconst (v := (iI_ 0)) dX9_ajar_36 (by decide) ?_
          refine g_istore (L' := [(6, .int (iI_ 0)), (0, .ref (uq_ u 0)), (1, .int x1), (2, .int x2), (3, .int x3), (4, .int x4), (5, .int x5)]) dX9_ajar_37 (by decide) rfl ?_
          refine g_iload dX9_ajar_39 0 rfl ?_
          refine g_if_eq 53 dX9_ajar_41 (by decide) (fun c22 => ?_) (fun c22 => ?_)
          · skip
            refine g_bipush (v := (iI_ (-2))) dX9_ajar_53 (by decide) ?_
            refine k_X9_refusedLong w_609 rfl ⟨Nat.le_of_ble_eq_true rfl, Nat.le_of_ble_eq_true rfl⟩ (Nat.le_of_ble_eq_true rfl) dX9_ajar_55 H (fun r24 σ23 H => ?_)
            exact g_lret rfl dX9_ajar_58 ⟨_, rfl, H⟩
          · first | exact absurd c22 (by decide) | exact absurd (by decide) c22
        · replace H := H.2 c21
          refine g_iconst (v := (iI_ 1)) dX9_ajar_32 (by decide) ?_
          refine g_goto 37 dX9_ajar_33 (by decide) ?_
          refine g_istore (L' := [(6, .int (iI_ 1)), (0, .ref (uq_ u 0)), (1, .int x1), (2, .int x2), (3, .int x3), (4, .int x4), (5, .int x5)]) dX9_ajar_37 (by decide) rfl ?_
          refine g_iload dX9_ajar_39 0 rfl ?_
          refine g_if_eq 53 dX9_ajar_41 (by decide) (fun c25 => ?_) (fun c25 => ?_)
          · first | exact absurd c25 (by decide) | exact absurd (by decide) c25
          · skip
            refine g_iload dX9_ajar_44 6 rfl ?_
            refine g_iconst (v := (iI_ 2)) dX9_ajar_46 (by decide) ?_
            refine k_X9_within w_370 rfl ⟨Nat.le_of_ble_eq_true rfl, Nat.le_of_ble_eq_true rfl⟩ (Nat.le_of_ble_eq_true rfl) dX9_ajar_47 H (fun r27 σ26 H => ?_)
            refine g_if_ne 59 dX9_ajar_50 (by decide) (fun c28 => ?_) (fun c28 => ?_)
            · replace H := H.1 c28
              refine g_aload_n dX9_ajar_59 1 rfl rfl ?_
              refine g_iload dX9_ajar_60 5 rfl ?_
              refine k_X9_lastPut w_552 rfl ⟨Nat.le_of_ble_eq_true rfl, Nat.le_of_ble_eq_true rfl⟩ (Nat.le_of_ble_eq_true rfl) dX9_ajar_62 H (fun r30 σ29 H => ?_)
              refine g_istore (L' := [(7, .int r30), (6, .int (iI_ 1)), (0, .ref (uq_ u 0)), (1, .int x1), (2, .int x2), (3, .int x3), (4, .int x4), (5, .int x5)]) dX9_ajar_65 (by decide) rfl ?_
              refine g_iload dX9_ajar_67 0 rfl ?_
              refine g_iload_n dX9_ajar_69 4 rfl rfl ?_
              refine g_icmp_gt 77 dX9_ajar_70 (by decide) (fun c31 => ?_) (fun c31 => ?_)
              · replace H := H.1 c31
                refine g_iconst (v := (iI_ 0)) dX9_ajar_77 (by decide) ?_
                exact GG_.sub [2, 5, 7, 0] rfl H
              · replace H := H.2 c31
                refine g_iload_n dX9_ajar_73 3 rfl rfl ?_
                refine g_goto 78 dX9_ajar_74 (by decide) ?_
                exact GG_.sub [2, 5, 7, 0] rfl H
            · replace H := H.2 c28
              refine g_bipush (v := (iI_ (-2))) dX9_ajar_53 (by decide) ?_
              refine k_X9_refusedLong w_609 rfl ⟨Nat.le_of_ble_eq_true rfl, Nat.le_of_ble_eq_true rfl⟩ (Nat.le_of_ble_eq_true rfl) dX9_ajar_55 H (fun r33 σ32 H => ?_)
              exact g_lret rfl dX9_ajar_58 ⟨_, rfl, H⟩
set_option maxHeartbeats 4000000 in
set_option maxRecDepth 100000 in
theorem bX9_evenings_37 (u : Ux_) {P : Int32 → St_ → Prop}  (σ : St_) (x3 : Int32) (x4 : Int32) (H : (((σ 9 0) ≤ x4 → P x3 σ) ∧ (¬ (σ 9 0) ≤ x4 → MMi_ (zx_ u) mX9_carriedAsTried [.ref (uq_ u 0), .int x4] σ (fun r3 σ2 => MMi_ (zx_ u) mX9_carriedAsTold [.ref (uq_ u 0), .int x4] σ2 (fun r5 σ4 => ((r3 = r5 → GG_ (zx_ u) mX9_evenings (Pi_ P) 37 [(0, .ref (uq_ u 0)), (3, .int x3), (4, .int (x4 + (iI_ 1)))] [] σ4) ∧ (¬ r3 = r5 → GG_ (zx_ u) mX9_evenings (Pi_ P) 37 [(0, .ref (uq_ u 0)), (3, .int (x3 + (iI_ 1))), (4, .int (x4 + (iI_ 1)))] [] σ4))))))) : GG_ (zx_ u) mX9_evenings (Pi_ P) 37 [(0, .ref (uq_ u 0)), (3, .int x3), (4, .int x4)] [] σ := by
  refine g_iload dX9_evenings_37 2 rfl ?_
  refine g_aload_n dX9_evenings_39 0 rfl rfl ?_
  refine gx_LinenHouse_motions w_325 rfl dX9_evenings_40 ?_
  refine gx_Motions_n w_139 rfl dX9_evenings_43 ?_
  refine g_icmp_ge 73 dX9_evenings_46 (by decide) (fun c1 => ?_) (fun c1 => ?_)
  · replace H := H.1 c1
    refine g_iload_n dX9_evenings_73 1 rfl rfl ?_
    exact g_iret rfl dX9_evenings_74 ⟨_, rfl, H⟩
  · replace H := H.2 c1
    refine g_aload_n dX9_evenings_49 0 rfl rfl ?_
    refine g_iload dX9_evenings_50 2 rfl ?_
    refine k_X9_carriedAsTried w_715 rfl ⟨Nat.le_of_ble_eq_true rfl, Nat.le_of_ble_eq_true rfl⟩ (Nat.le_of_ble_eq_true rfl) dX9_evenings_52 H (fun r3 σ2 H => ?_)
    refine g_aload_n dX9_evenings_55 0 rfl rfl ?_
    refine g_iload dX9_evenings_56 2 rfl ?_
    refine k_X9_carriedAsTold w_486 rfl ⟨Nat.le_of_ble_eq_true rfl, Nat.le_of_ble_eq_true rfl⟩ (Nat.le_of_ble_eq_true rfl) dX9_evenings_58 H (fun r5 σ4 H => ?_)
    refine g_icmp_eq 67 dX9_evenings_61 (by decide) (fun c6 => ?_) (fun c6 => ?_)
    · replace H := H.1 c6
      refine g_iinc (v := (x4 + (iI_ 1))) (L' := [(4, .int (x4 + (iI_ 1))), (0, .ref (uq_ u 0)), (3, .int x3)]) dX9_evenings_67 2 rfl rfl (by decide) rfl ?_
      refine g_goto 37 dX9_evenings_70 (by decide) ?_
      exact GG_.sub [1, 2, 0] rfl H
    · replace H := H.2 c6
      refine g_iinc (v := (x3 + (iI_ 1))) (L' := [(3, .int (x3 + (iI_ 1))), (0, .ref (uq_ u 0)), (4, .int x4)]) dX9_evenings_64 1 rfl rfl (by decide) rfl ?_
      refine g_iinc (v := (x4 + (iI_ 1))) (L' := [(4, .int (x4 + (iI_ 1))), (3, .int (x3 + (iI_ 1))), (0, .ref (uq_ u 0))]) dX9_evenings_67 2 rfl rfl (by decide) rfl ?_
      refine g_goto 37 dX9_evenings_70 (by decide) ?_
      exact GG_.sub [2, 1, 0] rfl H
set_option maxHeartbeats 4000000 in
set_option maxRecDepth 100000 in
theorem eX9_evenings (u : Ux_) {P : Int32 → St_ → Prop}  (σ : St_) (x1 : Int32) (x2 : Int32) (H : MMi_ (zx_ u) mX9_within [.int x2, .int (iI_ 2)] σ (fun r2 σ1 => ((¬ r2 = iI_ 0 → MMv_ (zx_ u) mX9_drawOrders [.ref (uq_ u 0), .int x1] σ1 (fun σ4 => ((¬ x2 = (iI_ 1) → GG_ (zx_ u) mX9_evenings (Pi_ P) 37 [(0, .ref (uq_ u 0)), (3, .int (iI_ 0)), (4, .int (iI_ 0))] [] σ4) ∧ (x2 = (iI_ 1) → MMi_ (zx_ u) mX9_lastPut [.ref (uq_ u 0), .int (iI_ 9)] σ4 (fun r7 σ6 => MMi_ (zx_ u) mX9_carriedAsTried [.ref (uq_ u 0), .int r7] σ6 (fun r9 σ8 => P r9 σ8)))))) ∧ (r2 = iI_ 0 → P (iI_ (-2)) σ1)))) : MMi_ (zx_ u) mX9_evenings [.ref (uq_ u 0), .int x1, .int x2] σ P := by
  refine MM_.of (L := [(0, .ref (uq_ u 0)), (1, .int x1), (2, .int x2)]) (by decide +kernel) (Nat.le_of_ble_eq_true rfl) rfl ?_
  refine g_iload_n dX9_evenings_0 2 rfl rfl ?_
  refine g_iconst (v := (iI_ 2)) dX9_evenings_1 (by decide) ?_
  refine k_X9_within w_370 rfl ⟨Nat.le_of_ble_eq_true rfl, Nat.le_of_ble_eq_true rfl⟩ (Nat.le_of_ble_eq_true rfl) dX9_evenings_2 H (fun r2 σ1 H => ?_)
  refine g_if_ne 11 dX9_evenings_5 (by decide) (fun c3 => ?_) (fun c3 => ?_)
  · replace H := H.1 c3
    refine g_aload_n dX9_evenings_11 0 rfl rfl ?_
    refine g_iload_n dX9_evenings_12 1 rfl rfl ?_
    refine k_X9_drawOrders w_710 rfl ⟨Nat.le_of_ble_eq_true rfl, Nat.le_of_ble_eq_true rfl⟩ (Nat.le_of_ble_eq_true rfl) dX9_evenings_13 H (fun σ4 H => ?_)
    refine g_iload_n dX9_evenings_16 2 rfl rfl ?_
    refine g_iconst (v := (iI_ 1)) dX9_evenings_17 (by decide) ?_
    refine g_icmp_ne 32 dX9_evenings_18 (by decide) (fun c5 => ?_) (fun c5 => ?_)
    · replace H := H.1 c5
      refine g_iconst (v := (iI_ 0)) dX9_evenings_32 (by decide) ?_
      refine g_istore_n (L' := [(3, .int (iI_ 0)), (0, .ref (uq_ u 0)), (1, .int x1), (2, .int x2)]) dX9_evenings_33 rfl (by decide) rfl ?_
      refine g_iconst (v := (iI_ 0)) dX9_evenings_34 (by decide) ?_
      refine g_istore (L' := [(4, .int (iI_ 0)), (3, .int (iI_ 0)), (0, .ref (uq_ u 0)), (1, .int x1), (2, .int x2)]) dX9_evenings_35 (by decide) rfl ?_
      exact GG_.sub [2, 1, 0] rfl H
    · replace H := H.2 c5
      refine g_aload_n dX9_evenings_21 0 rfl rfl ?_
      refine g_aload_n dX9_evenings_22 0 rfl rfl ?_
      refine g_bipush (v := (iI_ 9)) dX9_evenings_23 (by decide) ?_
      refine k_X9_lastPut w_552 rfl ⟨Nat.le_of_ble_eq_true rfl, Nat.le_of_ble_eq_true rfl⟩ (Nat.le_of_ble_eq_true rfl) dX9_evenings_25 H (fun r7 σ6 H => ?_)
      refine k_X9_carriedAsTried w_715 rfl ⟨Nat.le_of_ble_eq_true rfl, Nat.le_of_ble_eq_true rfl⟩ (Nat.le_of_ble_eq_true rfl) dX9_evenings_28 H (fun r9 σ8 H => ?_)
      exact g_iret rfl dX9_evenings_31 ⟨_, rfl, H⟩
  · replace H := H.2 c3
    refine g_bipush (v := (iI_ (-2))) dX9_evenings_8 (by decide) ?_
    exact g_iret rfl dX9_evenings_10 ⟨_, rfl, H⟩
