/-! ===== the start: classes, array classes, statics, the words of constructors ===== -/
theorem w_86 : (Jvm.Cond.classLink "LinenHouseLaw" (7 : Nat) "LinenHouse") ∈ tg_ := tg_m 86 (by decide +kernel) (by decide +kernel)
theorem w_87 : (Jvm.Cond.instantiable "LinenHouse" (14 : Nat)) ∈ tg_ := tg_m 87 (by decide +kernel) (by decide +kernel)
theorem w_807 : (Jvm.Cond.classLink "LinenHouseLaw" (10 : Nat) "LinenHouseModel") ∈ tg_ := tg_m 807 (by decide +kernel) (by decide +kernel)
theorem w_808 : (Jvm.Cond.instantiable "LinenHouseModel" (44 : Nat)) ∈ tg_ := tg_m 808 (by decide +kernel) (by decide +kernel)
theorem in_439 : Cond.laysStatic "LinenHouse" "WANTED" "[I" ∈ lw_tbl := List.mem_of_getElem? (i := 439) (by decide +kernel)
theorem in_523 : Cond.laysStatic "LinenHouse" "PLACE" "[I" ∈ lw_tbl := List.mem_of_getElem? (i := 523) (by decide +kernel)
theorem in_637 : Cond.laysStatic "LinenHouse" "FACTORIAL" "[I" ∈ lw_tbl := List.mem_of_getElem? (i := 637) (by decide +kernel)
theorem in_784 : Cond.laysStatic "LinenHouse" "DIGESTED_NIGHTS" "[I" ∈ lw_tbl := List.mem_of_getElem? (i := 784) (by decide +kernel)
theorem in_95 : Cond.arrayOver (.object "LinenHouse$Text") ∈ lw_tbl := List.mem_of_getElem? (i := 95) (by decide +kernel)
theorem in_286 : Cond.arrayOver (.object "LinenHouse$Sheet") ∈ lw_tbl := List.mem_of_getElem? (i := 286) (by decide +kernel)
theorem nst_in : ∀ w ∈ nst_, w ∈ lw_tbl := by decide +kernel
theorem nsc_in : ∀ w ∈ nsc_, w ∈ lw_tbl := by decide +kernel
theorem nst_on : ∀ w ∈ nst_, w.onTables = true := by decide +kernel
theorem ar_int {s : State} {args : Array Value} (h : (Cond.arrayClass .int).before args s = true) : ∃ c : ClassId, ArrOfT s c .int ∧ va_RA s c .int := by
  obtain ⟨c, k, comp, h1, h2, h3⟩ := Cond.arrayClass_spec h
  exact ⟨c, fun n z => ⟨fun k h => (by cases h), k, h2, comp, h3⟩, h1⟩
theorem ar_boolean {s : State} {args : Array Value} (h : (Cond.arrayClass .boolean).before args s = true) : ∃ c : ClassId, ArrOfT s c .boolean ∧ va_RA s c .boolean := by
  obtain ⟨c, k, comp, h1, h2, h3⟩ := Cond.arrayClass_spec h
  exact ⟨c, fun n z => ⟨fun k h => (by cases h), k, h2, comp, h3⟩, h1⟩
theorem ar_obj {s : State} {C : String} (h : va_AO C s) : ∃ c : ClassId, ArrOfT s c (.object C) ∧ va_RA s c (.object C) := by
  obtain ⟨comp, c, k, h1, h2, h3, h4, h5⟩ := Cond.arrayOver_spec h
  exact ⟨c, fun n z => ⟨fun k h => (by cases h), k, h3, comp, h4⟩, k, comp, h3, h4, h1, h5⟩
theorem tb_of {s : State} {b : Nat} {nm : String} {N : Nat} {f : Nat → Int32} (hl : (Cond.laysStatic "LinenHouse" nm "[I").before #[Value.ref b] s = true) (hi : (Cond.initialized "LinenHouse").before #[Value.ref b] s = true) (hN : N < 2 ^ 31) (ha : (Cond.arrayOf (.static "LinenHouse" nm "[I") .int).before #[Value.ref b] s = true) (hn : (Cond.eq (.length (.static "LinenHouse" nm "[I")) (.int (Int32.ofNat N))).before #[Value.ref b] s = true) (he : ∀ j, j < N → (Cond.eq (.elem (.static "LinenHouse" nm "[I") (.int (Int32.ofNat j))) (.int (f j))).before #[Value.ref b] s = true) : ∃ t : Nat, Tb_ nm t N f (Al_ s) s s.heap := by
  have hA : ∀ a : Nat, a < s.heap.size → ¬ Al_ s a := fun a h1 h2 => absurd h1 (Nat.not_lt.mpr h2)
  obtain ⟨t, h1, h2⟩ := va_Tof (A := Al_ s) (f := fun j => .int (f j)) hN ha (va_eqt hn) (fun j hj => va_eqt (he j hj)) hA
  exact ⟨t, va_Zof hl hi h1 hA, h2⟩
def gv_ : List Cond := flatC (Jvm.Cond.and given_1 narrow_1)
theorem gv_a_WANTED : Cond.arrayOf (.static "LinenHouse" "WANTED" "[I") .int ∈ gv_ := by decide +kernel
theorem gv_n_WANTED : Cond.eq (.length (.static "LinenHouse" "WANTED" "[I")) (.int (Int32.ofNat 18)) ∈ gv_ := by decide +kernel
theorem gv_e_WANTED : ∀ j, j < 18 → Cond.eq (.elem (.static "LinenHouse" "WANTED" "[I") (.int (Int32.ofNat j))) (.int (tW_ j)) ∈ gv_ := by decide +kernel
theorem gv_a_PLACE : Cond.arrayOf (.static "LinenHouse" "PLACE" "[I") .int ∈ gv_ := by decide +kernel
theorem gv_n_PLACE : Cond.eq (.length (.static "LinenHouse" "PLACE" "[I")) (.int (Int32.ofNat 18)) ∈ gv_ := by decide +kernel
theorem gv_e_PLACE : ∀ j, j < 18 → Cond.eq (.elem (.static "LinenHouse" "PLACE" "[I") (.int (Int32.ofNat j))) (.int (tP_ j)) ∈ gv_ := by decide +kernel
theorem gv_a_DIGESTED_NIGHTS : Cond.arrayOf (.static "LinenHouse" "DIGESTED_NIGHTS" "[I") .int ∈ gv_ := by decide +kernel
theorem gv_n_DIGESTED_NIGHTS : Cond.eq (.length (.static "LinenHouse" "DIGESTED_NIGHTS" "[I")) (.int (Int32.ofNat 3)) ∈ gv_ := by decide +kernel
theorem gv_e_DIGESTED_NIGHTS : ∀ j, j < 3 → Cond.eq (.elem (.static "LinenHouse" "DIGESTED_NIGHTS" "[I") (.int (Int32.ofNat j))) (.int (tD_ j)) ∈ gv_ := by decide +kernel
theorem gv_a_FACTORIAL : Cond.arrayOf (.static "LinenHouse" "FACTORIAL" "[I") .int ∈ gv_ := by decide +kernel
theorem gv_n_FACTORIAL : Cond.eq (.length (.static "LinenHouse" "FACTORIAL" "[I")) (.int (Int32.ofNat 9)) ∈ gv_ := by decide +kernel
theorem gv_e_FACTORIAL : ∀ j, j < 9 → Cond.eq (.elem (.static "LinenHouse" "FACTORIAL" "[I") (.int (Int32.ofNat j))) (.int (tF_ j)) ∈ gv_ := by decide +kernel
set_option maxRecDepth 100000 in
theorem start_ {p : Program} {s : State} {m : MethodId} {meth : Method} {c : Code} {b L : Nat} {xs : Nat → Int32} (C0 : lw_At p s m meth c b L xs) : ∃ (D : va_G) (cA : Nat → ClassId) (tb : Nat → Nat), Ek_ D cA s ∧ ∀ (l : Launch) (q : Nat → Nat), Ev_ (zx_ (l, D, cA, q, tb)) (Al_ s) s s.heap := by
  have hts := C0.2.2.2.2.2.1
  have ok : ∀ x ∈ tg_, x.before #[Value.ref b] s = true := fun x h => hts x (tg_in h)
  have hg : ∀ x ∈ gv_, x.before #[Value.ref b] s = true := flat_of_before _ C0.2.2.2.2.2.2.2.2.2
  obtain ⟨k0, f0, h0⟩ := u_known (C := RX0) (T := TX0) (N := 13) (n := 13) ok inX0 (ok _ w_220)
  obtain ⟨k1, f1, h1⟩ := u_known (C := RX1) (T := TX1) (N := 4) (n := 4) ok inX1 (ok _ w_163)
  obtain ⟨k2, f2, h2⟩ := u_known (C := RX2) (T := TX2) (N := 2) (n := 2) ok inX2 (ok _ w_187)
  obtain ⟨k3, f3, h3⟩ := u_known (C := RX3) (T := TX3) (N := 5) (n := 5) ok inX3 (ok _ w_132)
  obtain ⟨k4, f4, h4⟩ := u_known (C := RX4) (T := TX4) (N := 6) (n := 6) ok inX4 (ok _ w_97)
  obtain ⟨k5, f5, h5⟩ := u_known (C := RX5) (T := TX5) (N := 2) (n := 2) ok inX5 (ok _ w_273)
  obtain ⟨k6, f6, h6⟩ := u_known (C := RX6) (T := TX6) (N := 3) (n := 3) ok inX6 (ok _ w_305)
  obtain ⟨k7, f7, h7⟩ := u_known (C := RX7) (T := TX7) (N := 3) (n := 3) ok inX7 (ok _ w_201)
  obtain ⟨k8, f8, h8⟩ := u_known (C := RX8) (T := TX8) (N := 2) (n := 2) ok inX8 (ok _ w_287)
  obtain ⟨k9, f9, h9⟩ := u_known (C := RX9) (T := TX9) (N := 14) (n := 14) ok inX9 (ok _ w_87)
  obtain ⟨k10, f10, h10⟩ := u_known (C := RX10) (T := TX10) (N := 44) (n := 44) ok inX10 (ok _ w_808)
  have aT : va_AO "LinenHouse$Text" s := va_AO.of (hts _ in_95)
  have aS : va_AO "LinenHouse$Sheet" s := va_AO.of (hts _ in_286)
  obtain ⟨a0, g0⟩ := ar_int (ok _ w_130)
  obtain ⟨a1, g1⟩ := ar_boolean (ok _ w_946)
  obtain ⟨a2, g2⟩ := ar_obj aT
  obtain ⟨a3, g3⟩ := ar_obj aS
  obtain ⟨t0, e0⟩ := tb_of (nm := "WANTED") (N := 18) (f := tW_) (hts _ in_439) (ok _ w_72) (by decide) (hg _ gv_a_WANTED) (hg _ gv_n_WANTED) (fun j hj => hg _ (gv_e_WANTED j hj))
  obtain ⟨t1, e1⟩ := tb_of (nm := "PLACE") (N := 18) (f := tP_) (hts _ in_523) (ok _ w_72) (by decide) (hg _ gv_a_PLACE) (hg _ gv_n_PLACE) (fun j hj => hg _ (gv_e_PLACE j hj))
  obtain ⟨t2, e2⟩ := tb_of (nm := "DIGESTED_NIGHTS") (N := 3) (f := tD_) (hts _ in_784) (ok _ w_72) (by decide) (hg _ gv_a_DIGESTED_NIGHTS) (hg _ gv_n_DIGESTED_NIGHTS) (fun j hj => hg _ (gv_e_DIGESTED_NIGHTS j hj))
  obtain ⟨t3, e3⟩ := tb_of (nm := "FACTORIAL") (N := 9) (f := tF_) (hts _ in_637) (ok _ w_72) (by decide) (hg _ gv_a_FACTORIAL) (hg _ gv_n_FACTORIAL) (fun j hj => hg _ (gv_e_FACTORIAL j hj))
  have hK : va_K ((fun k => ([k0, k1, k2, k3, k4, k5, k6, k7, k8, k9, k10] : List ClassId).getD k k0), (fun k => ([f0, f1, f2, f3, f4, f5, f6, f7, f8, f9, f10] : List (Nat → Nat)).getD k f0)) cls_ (tys_ (fun k => ([a0, a1, a2, a3] : List ClassId).getD k a0)) s := by
    refine ⟨fun k r hr => ?_, fun k r hr => ?_⟩
    · match k, hr with
      | 0, hr => cases hr; exact h0
      | 1, hr => cases hr; exact h1
      | 2, hr => cases hr; exact h2
      | 3, hr => cases hr; exact h3
      | 4, hr => cases hr; exact h4
      | 5, hr => cases hr; exact h5
      | 6, hr => cases hr; exact h6
      | 7, hr => cases hr; exact h7
      | 8, hr => cases hr; exact h8
      | 9, hr => cases hr; exact h9
      | 10, hr => cases hr; exact h10
      | k + 11, hr => simp [cls_] at hr
    · match k, hr with
      | 0, hr => cases hr; exact g0
      | 1, hr => cases hr; exact g1
      | 2, hr => cases hr; exact g2
      | 3, hr => cases hr; exact g3
      | k + 4, hr => simp [tys_] at hr
  refine ⟨_, _, fun k => ([t0, t1, t2, t3] : List Nat).getD k 0, ⟨hK, fun w hw => va_Nw.of (nsc_on w hw) (hts w (nsc_in w hw)), aT, aS⟩, fun l q => ⟨hK, fun w hw => va_Nw.of (nst_on w hw) (hts w (nst_in w hw)), e0, e1, e2, e3⟩⟩
/-! the worlds as constructors leave them -/
def X0_ : St_ := fun k => match k with
  | 4 => fun _ => iI_ (-1)
  | 8 => upd (upd (upd (fun _ => iI_ 0) (iI_ 0).toNatClampNeg (iI_ 3)) (iI_ 1).toNatClampNeg (iI_ 2)) (iI_ 2).toNatClampNeg (iI_ 1)
  | 10 => fun _ => iI_ (-1)
  | 24 => fun _ => iI_ 1
  | 30 => fun _ => iI_ (-1)
  | 39 => fun _ => iI_ (-1)
  | _ => fun _ => iI_ 0
def M0_ : St_ := fun k => match k with
  | 10 => upd (upd (upd (fun _ => iI_ 0) (iI_ 0).toNatClampNeg (iI_ 3)) (iI_ 1).toNatClampNeg (iI_ 2)) (iI_ 2).toNatClampNeg (iI_ 1)
  | _ => fun _ => iI_ 0
theorem z_0 : (iI_ 0).toInt = 0 := by decide
theorem z_m : (iI_ (-1)).toInt = -1 := by decide
theorem X0_wf : Wf_ X0_ := by
  refine ⟨⟨0, 0, by decide, by decide, rfl, rfl, fun i h => absurd h (Nat.not_lt_zero i), fun i h => absurd h (Nat.not_lt_zero i), rfl, rfl, fun i h => absurd h (Nat.not_lt_zero i), rfl, rfl, fun i h => absurd h (Nat.not_lt_zero i)⟩, ⟨0, by decide, rfl, fun i h => absurd h (Nat.not_lt_zero i)⟩, ⟨0, by decide, rfl, fun i h => absurd h (Nat.not_lt_zero i)⟩, ⟨0, by decide, rfl, fun i h => absurd h (Nat.not_lt_zero i)⟩, ?_, ?_⟩
  · intro s hs
    rcases (show s = 0 ∨ s = 1 ∨ s = 2 by omega) with rfl | rfl | rfl <;> decide +kernel
  · intro s hs
    show (-1 ≤ (iI_ (-1)).toInt ∧ (iI_ (-1)).toInt ≤ 2) ∧ 0 ≤ (iI_ 0).toInt ∧ (iI_ 0).toInt ≤ 60
    rw [z_0, z_m]
    decide
theorem M0_rm : Rm_ X0_ M0_ := by
  refine ⟨?_, ?_, fun _ _ => rfl, rfl, fun _ _ => ⟨rfl, rfl, rfl⟩, rfl, fun _ _ => rfl, rfl, fun i _ => ⟨rfl, ?_⟩, fun s _ => ?_, fun s _ h => absurd rfl h, rfl⟩
  · intro t ht
    rcases (show t = 0 ∨ t = 1 by omega) with rfl | rfl <;> rfl
  · intro t ht i h
    exfalso
    have e : X0_ 0 t = iI_ 0 := rfl
    rw [e, z_0] at h
    omega
  · show iI_ 0 = if iI_ 0 = iI_ (-1) then iI_ 3 else iI_ 0
    decide
  · show iI_ 0 = bi_ (!decide (iI_ (-1) = iI_ (-1)))
    decide
theorem va_D.adr {A : Nat → Prop} {w w' : va_W} (h : w.map Prod.fst = w'.map Prod.fst) (hD : va_D A w) : va_D A w' := by
  have key : ∀ (i : Nat) (x : Nat × va_E), w'[i]? = some x → ∃ y, w[i]? = some y ∧ y.1 = x.1 := by
    intro i x hx
    have e := congrArg (fun z => z[i]?) h
    simp only [List.getElem?_map, hx, Option.map_some, Option.map_eq_some_iff] at e
    exact e
  refine ⟨fun i j x y hx hy e => ?_, fun k x hx => ?_⟩
  · obtain ⟨x0, h1, h2⟩ := key i x hx
    obtain ⟨y0, h3, h4⟩ := key j y hy
    exact hD.1 i j x0 y0 h1 h3 (by rw [h2, h4]; exact e)
  · obtain ⟨x0, h1, h2⟩ := key k x hx
    rw [← h2]
    exact hD.2 k x0 h1
def wX0_ (cA : Nat → ClassId) (q : Nat → Nat) : va_W := [((q 0), .inr (9, [.ref (q 1), .ref (q 2), .ref (q 7), .ref (q 11), .ref (q 15), .ref (q 17), .ref (q 20), .ref (q 25), .ref (q 27), .ref (q 28), .ref (q 29), .ref (q 30), .ref (q 31), .int (iI_ 0)])), ((q 1), .inl (cA 2, 2, .inr (.inr (.inr (.inr (va_up (va_up (fun _ => none) (iI_ 0).toNatClampNeg (some (q 32))) (iI_ 1).toNatClampNeg (some (q 33)))))))), ((q 2), .inr (4, [.int (iI_ 0), .int (iI_ (-1)), .ref (q 3), .ref (q 4), .ref (q 5), .ref (q 6)])), ((q 3), .inl (cA 0, 8, .inl (fun _ => iI_ 0))), ((q 4), .inl (cA 0, 8, .inl (fun _ => iI_ 0))), ((q 5), .inl (cA 0, 8, .inl (fun _ => iI_ 0))), ((q 6), .inl (cA 0, 3, .inl (upd (upd (upd (fun _ => iI_ 0) (iI_ 0).toNatClampNeg (iI_ 3)) (iI_ 1).toNatClampNeg (iI_ 2)) (iI_ 2).toNatClampNeg (iI_ 1)))), ((q 7), .inr (3, [.int (iI_ 0), .int (iI_ (-1)), .ref (q 8), .ref (q 9), .ref (q 10)])), ((q 8), .inl (cA 0, 10, .inl (fun _ => iI_ 0))), ((q 9), .inl (cA 0, 10, .inl (fun _ => iI_ 0))), ((q 10), .inl (cA 0, 10, .inl (fun _ => iI_ 0))), ((q 11), .inr (1, [.int (iI_ 0), .ref (q 12), .ref (q 13), .ref (q 14)])), ((q 12), .inl (cA 0, 8, .inl (fun _ => iI_ 0))), ((q 13), .inl (cA 0, 8, .inl (fun _ => iI_ 0))), ((q 14), .inl (cA 0, 8, .inl (fun _ => iI_ 0))), ((q 15), .inr (2, [.int (iI_ 0), .ref (q 16)])), ((q 16), .inl (cA 0, 6, .inl (fun _ => iI_ 0))), ((q 17), .inr (7, [.int (iI_ 0), .ref (q 18), .ref (q 19)])), ((q 18), .inl (cA 0, 8, .inl (fun _ => iI_ 0))), ((q 19), .inl (cA 0, 8, .inl (fun _ => iI_ 0))), ((q 20), .inr (0, [.ref (q 2), .ref (q 7), .ref (q 11), .int (iI_ 0), .int (iI_ 1), .int (iI_ 0), .ref (q 21), .ref (q 22), .ref (q 23), .ref (q 24), .int (iI_ (-1)), .int (iI_ 0), .int (iI_ 0)])), ((q 21), .inl (cA 0, 8, .inl (fun _ => iI_ 0))), ((q 22), .inl (cA 0, 8, .inl (fun _ => iI_ 0))), ((q 23), .inl (cA 0, 6, .inl (fun _ => iI_ 0))), ((q 24), .inl (cA 0, 8, .inl (fun _ => iI_ 0))), ((q 25), .inr (5, [.ref (q 2), .ref (q 26)])), ((q 26), .inl (cA 0, 256, .inl (fun _ => iI_ 0))), ((q 27), .inl (cA 3, 4, .inr (.inr (.inr (.inr (va_up (va_up (va_up (va_up (fun _ => none) (iI_ 0).toNatClampNeg (some (q 36))) (iI_ 1).toNatClampNeg (some (q 37))) (iI_ 2).toNatClampNeg (some (q 38))) (iI_ 3).toNatClampNeg (some (q 39)))))))), ((q 28), .inl (cA 0, 8, .inl (fun _ => iI_ 0))), ((q 29), .inl (cA 0, 8, .inl (fun _ => iI_ 0))), ((q 30), .inl (cA 0, 2, .inl (fun _ => iI_ 0))), ((q 31), .inl (cA 0, 4, .inl (fun _ => iI_ 0))), ((q 32), .inr (8, [.ref (q 34), .int (iI_ 0)])), ((q 33), .inr (8, [.ref (q 35), .int (iI_ 0)])), ((q 34), .inl (cA 0, 47, .inl (fun _ => iI_ 0))), ((q 35), .inl (cA 0, 30, .inl (fun _ => iI_ 0))), ((q 36), .inr (6, [.int (iI_ (-1)), .int (iI_ 0), .ref (q 40)])), ((q 37), .inr (6, [.int (iI_ (-1)), .int (iI_ 0), .ref (q 41)])), ((q 38), .inr (6, [.int (iI_ (-1)), .int (iI_ 0), .ref (q 42)])), ((q 39), .inr (6, [.int (iI_ (-1)), .int (iI_ 0), .ref (q 43)])), ((q 40), .inl (cA 0, 60, .inl (fun _ => iI_ 0))), ((q 41), .inl (cA 0, 60, .inl (fun _ => iI_ 0))), ((q 42), .inl (cA 0, 60, .inl (fun _ => iI_ 0))), ((q 43), .inl (cA 0, 60, .inl (fun _ => iI_ 0)))]
def wM0_ (cA : Nat → ClassId) (q : Nat → Nat) : va_W := [((q 0), .inr (10, [.ref (q 1), .ref (q 2), .int (iI_ 0), .ref (q 3), .ref (q 4), .ref (q 5), .int (iI_ 0), .ref (q 6), .ref (q 7), .ref (q 8), .ref (q 9), .int (iI_ 0), .ref (q 10), .ref (q 11), .ref (q 12), .int (iI_ 0), .ref (q 13), .ref (q 14), .ref (q 15), .int (iI_ 0), .int (iI_ 0), .int (iI_ 0), .int (iI_ 0), .int (iI_ 0), .int (iI_ 0), .int (iI_ 0), .ref (q 16), .ref (q 17), .ref (q 18), .ref (q 19), .ref (q 20), .ref (q 21), .ref (q 22), .int (iI_ 0), .ref (q 23), .ref (q 24), .ref (q 25), .ref (q 26), .ref (q 27), .ref (q 28), .ref (q 29), .ref (q 30), .ref (q 31), .int (iI_ 0)])), ((q 1), .inl (cA 0, 2, .inl (fun _ => iI_ 0))), ((q 2), .inl (cA 0, 94, .inl (fun _ => iI_ 0))), ((q 3), .inl (cA 0, 9, .inl (fun _ => iI_ 0))), ((q 4), .inl (cA 0, 9, .inl (fun _ => iI_ 0))), ((q 5), .inl (cA 0, 27, .inl (fun _ => iI_ 0))), ((q 6), .inl (cA 0, 11, .inl (fun _ => iI_ 0))), ((q 7), .inl (cA 0, 11, .inl (fun _ => iI_ 0))), ((q 8), .inl (cA 0, 11, .inl (fun _ => iI_ 0))), ((q 9), .inl (cA 0, 3, .inl (upd (upd (upd (fun _ => iI_ 0) (iI_ 0).toNatClampNeg (iI_ 3)) (iI_ 1).toNatClampNeg (iI_ 2)) (iI_ 2).toNatClampNeg (iI_ 1)))), ((q 10), .inl (cA 0, 8, .inl (fun _ => iI_ 0))), ((q 11), .inl (cA 0, 8, .inl (fun _ => iI_ 0))), ((q 12), .inl (cA 0, 8, .inl (fun _ => iI_ 0))), ((q 13), .inl (cA 0, 6, .inl (fun _ => iI_ 0))), ((q 14), .inl (cA 0, 8, .inl (fun _ => iI_ 0))), ((q 15), .inl (cA 0, 8, .inl (fun _ => iI_ 0))), ((q 16), .inl (cA 0, 80, .inl (fun _ => iI_ 0))), ((q 17), .inl (cA 0, 80, .inl (fun _ => iI_ 0))), ((q 18), .inl (cA 0, 10, .inl (fun _ => iI_ 0))), ((q 19), .inl (cA 0, 10, .inl (fun _ => iI_ 0))), ((q 20), .inl (cA 0, 10, .inl (fun _ => iI_ 0))), ((q 21), .inl (cA 0, 10, .inl (fun _ => iI_ 0))), ((q 22), .inl (cA 0, 2, .inl (fun _ => iI_ 0))), ((q 23), .inl (cA 0, 8, .inl (fun _ => iI_ 0))), ((q 24), .inl (cA 0, 8, .inl (fun _ => iI_ 0))), ((q 25), .inl (cA 0, 60, .inl (fun _ => iI_ 0))), ((q 26), .inl (cA 0, 10, .inl (fun _ => iI_ 0))), ((q 27), .inl (cA 1, 4, .inl (fun _ => iI_ 0))), ((q 28), .inl (cA 0, 4, .inl (fun _ => iI_ 0))), ((q 29), .inl (cA 0, 4, .inl (fun _ => iI_ 0))), ((q 30), .inl (cA 0, 240, .inl (fun _ => iI_ 0))), ((q 31), .inl (cA 0, 60, .inl (fun _ => iI_ 0)))]
theorem n_0 : (iI_ 0).toNatClampNeg = 0 := by decide
theorem n_1 : (iI_ 1).toNatClampNeg = 1 := by decide
theorem n_2 : (iI_ 2).toNatClampNeg = 2 := by decide
theorem n_3 : (iI_ 3).toNatClampNeg = 3 := by decide
theorem ar_same {cA : ClassId} {n : Nat} {f g : Nat → Option Nat} (h : ∀ j, j < n → f j = g j) : vp_cell cA (n, .inr (.inr (.inr (.inr f)))) = vp_cell cA (n, .inr (.inr (.inr (.inr g)))) := by
  show arrV cA n (fun j => va_rf (f j)) = arrV cA n (fun j => va_rf (g j))
  unfold arrV
  congr 1
  apply congrArg Array.ofFn
  funext j
  show va_rf (f j.val) = va_rf (g j.val)
  rw [h j.val j.isLt]
set_option maxRecDepth 100000 in
theorem pX0 {D : va_G} {cA : Nat → ClassId} {q : Nat → Nat} {H : Heap} (h : va_P D cls_ (wX0_ cA q) H) : va_P D cls_ (wdX_ cA q X0_) H := by
  intro k x hx
  match k, hx with
  | 0, hx => cases hx; exact h 0 _ rfl
  | 1, hx =>
    cases hx
    have e : H[q 1]? = some (vp_cell (cA 2) (2, .inr (.inr (.inr (.inr (va_up (va_up (fun _ => none) (iI_ 0).toNatClampNeg (some (q 32))) (iI_ 1).toNatClampNeg (some (q 33)))))))) := h 1 _ rfl
    show H[q 1]? = some (vp_cell (cA 2) (2, .inr (.inr (.inr (.inr (fun j => some (q (32 + j))))))))
    rw [e]
    refine congrArg some (ar_same (fun j hj => ?_))
    rw [n_0, n_1]
    rcases (show j = 0 ∨ j = 1 by omega) with rfl | rfl <;> rfl
  | 2, hx => cases hx; exact h 2 _ rfl
  | 3, hx => cases hx; exact h 3 _ rfl
  | 4, hx => cases hx; exact h 4 _ rfl
  | 5, hx => cases hx; exact h 5 _ rfl
  | 6, hx => cases hx; exact h 6 _ rfl
  | 7, hx => cases hx; exact h 7 _ rfl
  | 8, hx => cases hx; exact h 8 _ rfl
  | 9, hx => cases hx; exact h 9 _ rfl
  | 10, hx => cases hx; exact h 10 _ rfl
  | 11, hx => cases hx; exact h 11 _ rfl
  | 12, hx => cases hx; exact h 12 _ rfl
  | 13, hx => cases hx; exact h 13 _ rfl
  | 14, hx => cases hx; exact h 14 _ rfl
  | 15, hx => cases hx; exact h 15 _ rfl
  | 16, hx => cases hx; exact h 16 _ rfl
  | 17, hx => cases hx; exact h 17 _ rfl
  | 18, hx => cases hx; exact h 18 _ rfl
  | 19, hx => cases hx; exact h 19 _ rfl
  | 20, hx => cases hx; exact h 20 _ rfl
  | 21, hx => cases hx; exact h 21 _ rfl
  | 22, hx => cases hx; exact h 22 _ rfl
  | 23, hx => cases hx; exact h 23 _ rfl
  | 24, hx => cases hx; exact h 24 _ rfl
  | 25, hx => cases hx; exact h 25 _ rfl
  | 26, hx => cases hx; exact h 26 _ rfl
  | 27, hx =>
    cases hx
    have e : H[q 27]? = some (vp_cell (cA 3) (4, .inr (.inr (.inr (.inr (va_up (va_up (va_up (va_up (fun _ => none) (iI_ 0).toNatClampNeg (some (q 36))) (iI_ 1).toNatClampNeg (some (q 37))) (iI_ 2).toNatClampNeg (some (q 38))) (iI_ 3).toNatClampNeg (some (q 39)))))))) := h 27 _ rfl
    show H[q 27]? = some (vp_cell (cA 3) (4, .inr (.inr (.inr (.inr (fun j => some (q (36 + j))))))))
    rw [e]
    refine congrArg some (ar_same (fun j hj => ?_))
    rw [n_0, n_1, n_2, n_3]
    rcases (show j = 0 ∨ j = 1 ∨ j = 2 ∨ j = 3 by omega) with rfl | rfl | rfl | rfl <;> rfl
  | 28, hx => cases hx; exact h 28 _ rfl
  | 29, hx => cases hx; exact h 29 _ rfl
  | 30, hx => cases hx; exact h 30 _ rfl
  | 31, hx => cases hx; exact h 31 _ rfl
  | 32, hx => cases hx; exact h 32 _ rfl
  | 33, hx => cases hx; exact h 33 _ rfl
  | 34, hx => cases hx; exact h 34 _ rfl
  | 35, hx => cases hx; exact h 35 _ rfl
  | 36, hx => cases hx; exact h 36 _ rfl
  | 37, hx => cases hx; exact h 37 _ rfl
  | 38, hx => cases hx; exact h 38 _ rfl
  | 39, hx => cases hx; exact h 39 _ rfl
  | 40, hx => cases hx; exact h 40 _ rfl
  | 41, hx => cases hx; exact h 41 _ rfl
  | 42, hx => cases hx; exact h 42 _ rfl
  | 43, hx => cases hx; exact h 43 _ rfl
  | k + 44, hx => simp [wdX_] at hx
theorem pM0 (cA : Nat → ClassId) (q : Nat → Nat) : wM0_ cA q = wdM_ cA q M0_ := rfl
theorem adX (cA : Nat → ClassId) (q : Nat → Nat) (σ : St_) : (wX0_ cA q).map Prod.fst = (wdX_ cA q σ).map Prod.fst := rfl
theorem adM (cA : Nat → ClassId) (q : Nat → Nat) (σ : St_) : (wM0_ cA q).map Prod.fst = (wdM_ cA q σ).map Prod.fst := rfl
