/-! ===== the law from its entry ===== -/
theorem ls_init {p : Program} {e : Env} {s : State} {m : MethodId} {below : List Frame} {meth : Method} {c : Code} {b L : Nat} {xs : Nat → Int32} {l : Launch} {D : va_G} {cA : Nat → ClassId} (C : lw_At p s m meth c b L xs) (hE : Ek_ D cA s) {y' : MI_} {idx K' N' a k n pc : Nat} {wc wr w : va_W} {rest : List Value} {ls : Array Slot} {H : Heap} {locs : List Loc} {Lv : List (Nat × Value)} {Post' : va_W → Prop} (isC isR : List Nat) (hndC : va_nd isC = true) (hC : isC.map (fun i => w[i]?) = wc.map some) (hR : isR.map (fun i => w[i]?) = wr.map some) (hnd : va_nd isR = true) (hdis : ∀ i ∈ isR, i ∉ isC) (w1 : Cond.methodLink R_law idx y'.1 ∈ tg_) (w2 : Cond.instanceMethod y'.1 ∈ tg_) (w4 : Cond.initialized y'.1.cls ∈ tg_) (w5 : Cond.code y'.1 y'.2.1 y'.2.2.1 y'.2.2.2.1 ∈ tg_) (hr0 : y'.2.2.2.1 = none) (hi : y'.1.name = "<init>")
    (hdd : y'.1.cls ≠ "java/lang/invoke/MethodHandle" ∧ y'.1.cls ≠ "java/lang/invoke/VarHandle" ∧ (parseMethodDescriptor y'.1.desc).map (fun d => d.parameters.length) = some 0) (hRm : y'.2.2.2.2.1 + 1 ≤ 14 ∧ 8 + (y'.2.2.1 + 11) + y'.2.2.2.2.2 ≤ 566) (h8 : (rest.map fun v => v.category).sum ≤ 8) (hd : decode code pc = .ok (.invokespecial idx, 3)) (hkK : k + K' ≤ 600000) (hnN : n + N' ≤ 7302250) (hM : KM_ l D cA y' K' N' [.ref a] wc Post') (hl : lv_has ls 4 Lv) (hP : va_P D cls_ w H) (hD : va_D (Al_ s) w) (hS : va_S (Al_ s) s.heap H locs)
    (kk : ∀ (w1 : va_W) (H1 : Heap) (locs1 : List Loc), Post' w1 → va_P D cls_ (wr ++ w1) H1 → va_D (Al_ s) (wr ++ w1) → va_S (Al_ s) s.heap H1 locs1 → W p l e room_1 s m #[Value.ref b] below meth c H1 locs1 (k + K') (n + N') (lw_Z below #[Value.ref b] s) (F0 m (pc + 3) ls rest)) : W p l e room_1 s m #[Value.ref b] below meth c H locs k n (lw_Z below #[Value.ref b] s) (F0 m pc ls (.ref a :: rest)) := by
  have hts := C.2.2.2.2.2.1
  have ok : ∀ x ∈ tg_, x.before #[Value.ref b] s = true := fun x h => hts x (tg_in h)
  have hDc : va_D (fun _ => True) wc := (hD.sub isC hndC hC).weaken (fun _ _ _ _ => trivial)
  have hFc := va_free (wc := wc) hD hS (fun _ h => h) isC hC
  have hpre : PreS s H (PK_ D cA [.ref a] wc H.size) [.ref a] := by
    refine ⟨pk_blind, fun U hU hW => ⟨rfl, by rw [hU], ?_, hE.warm hW⟩⟩
    rw [hU]
    refine hP.sub isC ?_
    have e1 : isC.filterMap (fun i => w[i]?) = (isC.map (fun i => w[i]?)).filterMap id := by rw [List.filterMap_map]; rfl
    rw [e1, hC, List.filterMap_map]
    simp
  have hr := va_runI (p := p) (l := l) (e := e) (R := room_1) (s := s) (m := m) (args := #[Value.ref b]) (below := below) (meth := meth) (c := c) (H := H) (locs := locs) (cells := k) (slots := n) (g := F0 m pc ls (.ref a :: rest)) (As := []) (rest := rest) (b := a) (n := 0) ⟨C.1, C.2.1, C.2.2.2.1, C.2.2.2.2.1, hts⟩ (hM hDc H.size) ⟨callB_of (ret := none) 0 hts (good_law w5) (by show ws_ y' = _; rw [ws_, hr0]) rfl rfl (ok _ w4) (ok _ w1) hdd hRm, hi, ok _ w2⟩ hpre rfl rfl hl.1 rfl (lv_room h8) hd ⟨hkK, hnN⟩
  refine va_callv hr hS (fun q _ h => hFc q h) hFc (fun w1 t H1 locs1 ht hvm hw hB hz1 hk1 hS1 => ?_)
  obtain ⟨hP1, hD1⟩ := hB
  rw [ht] at hP1
  obtain ⟨hP2, hD2⟩ := va_join hP hD isC isR hC hR hnd hdis hk1 hFc hP1 hD1
  exact kk w1 H1 locs1 hw hP2 hD2 hS1
set_option maxHeartbeats 4000000 in
set_option maxRecDepth 100000 in
/-- from the entry, for every script of at most 384 ints, the law comes to its end with true -/
theorem whole_start {p : Program} {e : Env} {s : State} {m : MethodId} {below : List Frame} {meth : Method} {c : Code} (l : Launch) (hflags : l.flags = flags0) {b L : Nat} {xs : Nat → Int32} (hL : L ≤ 384) (C0 : lw_At p s m meth c b L xs) : W p l e room_1 s m #[Value.ref b] below meth c s.heap [] 0 0 (lw_Z below #[Value.ref b] s) (entryFrame m ([Value.ref b] : List Value).toArray 4) := by
  obtain ⟨D, cA, tb, hE, hV⟩ := start_ C0
  have hx := C0.1
  have hb := C0.2.1
  have hts := C0.2.2.2.2.2.1
  have ok : ∀ x ∈ tg_, x.before #[Value.ref b] s = true := fun x h => hts x (tg_in h)
  have hS0 : va_S (Al_ s) s.heap s.heap [] := va_S.rf
  have hP0 : va_P D cls_ [] s.heap := fun k q h => by simp at h
  have hD0 : va_D (Al_ s) [] := ⟨fun i j p q h => by simp at h, fun k q h => by simp at h⟩
  have hl := lv_entry ([.ref b]) (n := 4) (Nat.le_of_ble_eq_true rfl)
  rw [lg_entry_eq]
  generalize (lg_sl ([.ref b]) ++ List.replicate (4 - (lg_sl ([.ref b])).length) Slot.unset).toArray = ls at hl ⊢
  have hl : lv_has ls 4 [(0, .ref b)] := hl
  refine va_new (ci := 9) (fs := [.null, .null, .null, .null, .null, .null, .null, .null, .null, .null, .null, .null, .null, .int (iI_ 0)]) (C := RX9) (T := TX9) (N := 14) hx hb hts (fun x h => tg_in (inX9 x h)) tyX9 tyX9_ok C0.2.2.2.2.1 (ok _ w_86) (ok _ w_87) (ok _ w_72) hE.1 hP0 hD0 hS0 (fun _ h => h) rfl (fun j hj => by rcases (show j = 0 ∨ j = 1 ∨ j = 2 ∨ j = 3 ∨ j = 4 ∨ j = 5 ∨ j = 6 ∨ j = 7 ∨ j = 8 ∨ j = 9 ∨ j = 10 ∨ j = 11 ∨ j = 12 ∨ j = 13 by omega) with rfl | rfl | rfl | rfl | rfl | rfl | rfl | rfl | rfl | rfl | rfl | rfl | rfl | rfl <;> rfl) (Nat.le_of_ble_eq_true rfl) (Nat.le_of_ble_eq_true rfl) dL_law_0 (fun a1 H1 hP1 hD1 hS1 => ?_)
  refine lv_dup hx hb dL_law_3 rfl ?_
  refine ls_init C0 hE (y' := mX9_init) (K' := 43) (N' := 785) (wc := [(a1, .inr (9, [.null, .null, .null, .null, .null, .null, .null, .null, .null, .null, .null, .null, .null, .int (iI_ 0)]))]) (wr := []) [0] [] (by decide) rfl rfl (by decide) (by decide) w_88 w_89 w_72 w_90 rfl rfl (by decide +kernel) ⟨Nat.le_of_ble_eq_true rfl, Nat.le_of_ble_eq_true rfl⟩ (Nat.le_of_ble_eq_true rfl) dL_law_4 (Nat.le_of_ble_eq_true rfl) (Nat.le_of_ble_eq_true rfl) (kt_X9_init l D cA a1) hl hP1 hD1 hS1 (fun w1 H2 locs2 hw hP2 hD2 hS2 => ?_)
  obtain ⟨q, hq, hw⟩ := hw
  subst hq
  have hw : w1 = wX0_ cA q := hw
  subst hw
  have hP2 : va_P D cls_ (wX0_ cA q) H2 := hP2
  have hD2 : va_D (Al_ s) (wX0_ cA q) := hD2
  refine lv_astore_n (lv' := [(1, .ref (q 0)), (0, .ref b)]) hx hb dL_law_7 rfl hl (by decide) rfl (fun ls hl => ?_)
  refine va_new (ci := 10) (fs := [.null, .null, .int (iI_ 0), .null, .null, .null, .int (iI_ 0), .null, .null, .null, .null, .int (iI_ 0), .null, .null, .null, .int (iI_ 0), .null, .null, .null, .int (iI_ 0), .int (iI_ 0), .int (iI_ 0), .int (iI_ 0), .int (iI_ 0), .int (iI_ 0), .int (iI_ 0), .null, .null, .null, .null, .null, .null, .null, .int (iI_ 0), .null, .null, .null, .null, .null, .null, .null, .null, .null, .int (iI_ 0)]) (C := RX10) (T := TX10) (N := 44) hx hb hts (fun x h => tg_in (inX10 x h)) tyX10 tyX10_ok C0.2.2.2.2.1 (ok _ w_807) (ok _ w_808) (ok _ w_83) hE.1 hP2 hD2 hS2 (fun _ h => h) rfl (fun j hj => by rcases (show j = 0 ∨ j = 1 ∨ j = 2 ∨ j = 3 ∨ j = 4 ∨ j = 5 ∨ j = 6 ∨ j = 7 ∨ j = 8 ∨ j = 9 ∨ j = 10 ∨ j = 11 ∨ j = 12 ∨ j = 13 ∨ j = 14 ∨ j = 15 ∨ j = 16 ∨ j = 17 ∨ j = 18 ∨ j = 19 ∨ j = 20 ∨ j = 21 ∨ j = 22 ∨ j = 23 ∨ j = 24 ∨ j = 25 ∨ j = 26 ∨ j = 27 ∨ j = 28 ∨ j = 29 ∨ j = 30 ∨ j = 31 ∨ j = 32 ∨ j = 33 ∨ j = 34 ∨ j = 35 ∨ j = 36 ∨ j = 37 ∨ j = 38 ∨ j = 39 ∨ j = 40 ∨ j = 41 ∨ j = 42 ∨ j = 43 by omega) with rfl | rfl | rfl | rfl | rfl | rfl | rfl | rfl | rfl | rfl | rfl | rfl | rfl | rfl | rfl | rfl | rfl | rfl | rfl | rfl | rfl | rfl | rfl | rfl | rfl | rfl | rfl | rfl | rfl | rfl | rfl | rfl | rfl | rfl | rfl | rfl | rfl | rfl | rfl | rfl | rfl | rfl | rfl | rfl <;> rfl) (Nat.le_of_ble_eq_true rfl) (Nat.le_of_ble_eq_true rfl) dL_law_8 (fun a2 H3 hP3 hD3 hS3 => ?_)
  refine lv_dup hx hb dL_law_11 rfl ?_
  refine ls_init C0 hE (y' := mX10_init) (K' := 31) (N' := 823) (wc := [(a2, .inr (10, [.null, .null, .int (iI_ 0), .null, .null, .null, .int (iI_ 0), .null, .null, .null, .null, .int (iI_ 0), .null, .null, .null, .int (iI_ 0), .null, .null, .null, .int (iI_ 0), .int (iI_ 0), .int (iI_ 0), .int (iI_ 0), .int (iI_ 0), .int (iI_ 0), .int (iI_ 0), .null, .null, .null, .null, .null, .null, .null, .int (iI_ 0), .null, .null, .null, .null, .null, .null, .null, .null, .null, .int (iI_ 0)]))]) (wr := wX0_ cA q) [44] [0, 1, 2, 3, 4, 5, 6, 7, 8, 9, 10, 11, 12, 13, 14, 15, 16, 17, 18, 19, 20, 21, 22, 23, 24, 25, 26, 27, 28, 29, 30, 31, 32, 33, 34, 35, 36, 37, 38, 39, 40, 41, 42, 43] (by decide) rfl rfl (by decide) (by decide) w_809 w_810 w_83 w_811 rfl rfl (by decide +kernel) ⟨Nat.le_of_ble_eq_true rfl, Nat.le_of_ble_eq_true rfl⟩ (Nat.le_of_ble_eq_true rfl) dL_law_12 (Nat.le_of_ble_eq_true rfl) (Nat.le_of_ble_eq_true rfl) (kt_X10_init l D cA a2) hl hP3 hD3 hS3 (fun w1 H4 locs4 hw hP4 hD4 hS4 => ?_)
  obtain ⟨q', hq, hw⟩ := hw
  subst hq
  have hw : w1 = wM0_ cA q' := hw
  subst hw
  refine lv_astore_n (lv' := [(2, .ref (q' 0)), (1, .ref (q 0)), (0, .ref b)]) hx hb dL_law_15 rfl hl (by decide) rfl (fun ls hl => ?_)
  refine lv_iconst (v := iI_ (0 : Nat)) hx hb dL_law_16 (by decide) ?_
  refine lv_istore_n (lv' := [(3, .int (iI_ (0 : Nat))), (2, .ref (q' 0)), (1, .ref (q 0)), (0, .ref b)]) hx hb dL_law_17 rfl hl (by decide) rfl (fun ls hl => ?_)
  have C : Lw_ p s m meth c b L xs l D cA q q' tb := ⟨C0, hV l q, fun σ σ' => hD4.adr (by rw [List.map_append, List.map_append, adX cA q σ, adM cA q' σ'])⟩
  have hPX : va_P D cls_ (wdX_ cA q X0_) H4 := pX0 (fun k x hk => hP4 k x (by rw [List.getElem?_append_left (List.getElem?_eq_some_iff.mp hk).1]; exact hk))
  have hPM : va_P D cls_ (wdM_ cA q' M0_) H4 := fun k x hk => hP4 (44 + k) x (by rw [List.getElem?_append_right (by show 44 ≤ 44 + k; omega)]; show (wM0_ cA q')[44 + k - 44]? = some x; rw [show 44 + k - 44 = k by omega, pM0]; exact hk)
  exact law_loop C hL L 0 (by omega) (by omega) X0_ M0_ X0_wf M0_rm ls H4 locs4 (lv_sub hl [3, 2, 1, 0] rfl) hPX hPM hS4
