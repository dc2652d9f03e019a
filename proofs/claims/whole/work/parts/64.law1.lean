/-! ===== the law's body: points of it, over both worlds ===== -/
abbrev Al_ (s : State) : Nat → Prop := fun a => s.heap.size ≤ a
def Lw_ (p : Program) (s : State) (m : MethodId) (meth : Method) (c : Code) (b L : Nat) (xs : Nat → Int32) (l : Launch) (D : va_G) (cA : Nat → ClassId) (q q' tb : Nat → Nat) : Prop :=
  lw_At p s m meth c b L xs ∧ Ev_ (zx_ (l, D, cA, q, tb)) (Al_ s) s s.heap ∧ ∀ σ σ', va_D (Al_ s) (wdX_ cA q σ ++ wdM_ cA q' σ')
/-- a point of the law's loop -/
def LG_ (p : Program) (e : Env) (s : State) (m : MethodId) (below : List Frame) (meth : Method) (c : Code) (b : Nat) (l : Launch) (D : va_G) (cA : Nat → ClassId) (q q' : Nat → Nat) (pc : Nat) (Lv : List (Nat × Value)) (st : List Value) (a σ : St_) : Prop :=
  ∀ (ls : Array Slot) (H : Heap) (locs : List Loc), lv_has ls 4 Lv → va_P D cls_ (wdX_ cA q a) H → va_P D cls_ (wdM_ cA q' σ) H → va_S (Al_ s) s.heap H locs → W p l e room_1 s m #[Value.ref b] below meth c H locs 76 1666 (lw_Z below #[Value.ref b] s) (F0 m pc ls st)
theorem tg_in {w : Cond} (h : w ∈ tg_) : w ∈ lw_tbl := (List.mem_filter.mp h).1
theorem good_law {w : MI_} (hc : Cond.code w.1 w.2.1 w.2.2.1 w.2.2.2.1 ∈ tg_) : GoodIn lw_tbl (ws_ w) := by
  intro x hx
  have h : x ∈ tg_ := by
    rcases List.mem_cons.mp hx with rfl | h
    · exact hc
    · exact h
  exact ⟨tg_in h, tg_good h⟩
section LR
variable {p : Program} {e : Env} {s : State} {m : MethodId} {below : List Frame} {meth : Method} {c : Code} {b L : Nat} {xs : Nat → Int32} {l : Launch} {D : va_G} {cA : Nat → ClassId} {q q' tb : Nat → Nat} {pc : Nat} {Lv : List (Nat × Value)} {st : List Value} {a σ : St_}
theorem l_iconst (C : Lw_ p s m meth c b L xs l D cA q q' tb) {z : Int} {v : Int32} (hd : decode code pc = .ok (.iconst z, 1)) (hv : Int32.ofInt z = v) (kk : LG_ p e s m below meth c b l D cA q q' (pc + 1) Lv (.int v :: st) a σ) : LG_ p e s m below meth c b l D cA q q' pc Lv st a σ :=
  fun ls H locs hl hP hM hS => lv_iconst C.1.1 C.1.2.1 hd hv (kk ls H locs hl hP hM hS)
theorem l_bipush (C : Lw_ p s m meth c b L xs l D cA q q' tb) {z : Int} {v : Int32} (hd : decode code pc = .ok (.bipush z, 2)) (hv : (Int8.ofInt z).toInt32 = v) (kk : LG_ p e s m below meth c b l D cA q q' (pc + 2) Lv (.int v :: st) a σ) : LG_ p e s m below meth c b l D cA q q' pc Lv st a σ :=
  fun ls H locs hl hP hM hS => lv_bipush C.1.1 C.1.2.1 hd hv (kk ls H locs hl hP hM hS)
theorem l_iload_n (C : Lw_ p s m meth c b L xs l D cA q q' tb) {j : Fin 4} {i : Nat} {x : Int32} (hd : decode code pc = .ok (.iload_n j, 1)) (kl : Nat) (hk : Lv[kl]? = some (i, .int x)) (hi : (j : Nat) = i) (kk : LG_ p e s m below meth c b l D cA q q' (pc + 1) Lv (.int x :: st) a σ) : LG_ p e s m below meth c b l D cA q q' pc Lv st a σ :=
  fun ls H locs hl hP hM hS => lv_iload_n C.1.1 C.1.2.1 hd hi (lv_at hl kl hk) (kk ls H locs hl hP hM hS)
theorem l_aload_n (C : Lw_ p s m meth c b L xs l D cA q q' tb) {j : Fin 4} {i : Nat} {x : Nat} (hd : decode code pc = .ok (.aload_n j, 1)) (kl : Nat) (hk : Lv[kl]? = some (i, .ref x)) (hi : (j : Nat) = i) (kk : LG_ p e s m below meth c b l D cA q q' (pc + 1) Lv (.ref x :: st) a σ) : LG_ p e s m below meth c b l D cA q q' pc Lv st a σ :=
  fun ls H locs hl hP hM hS => lv_aload_n C.1.1 C.1.2.1 hd hi (lv_at hl kl hk) (kk ls H locs hl hP hM hS)
theorem l_iadd (C : Lw_ p s m meth c b L xs l D cA q q' tb) {x y : Int32} (hd : decode code pc = .ok (.iadd, 1)) (kk : LG_ p e s m below meth c b l D cA q q' (pc + 1) Lv (.int (x + y) :: st) a σ) : LG_ p e s m below meth c b l D cA q q' pc Lv (.int y :: .int x :: st) a σ :=
  fun ls H locs hl hP hM hS => lv_iadd C.1.1 C.1.2.1 hd (kk ls H locs hl hP hM hS)
theorem l_isub (C : Lw_ p s m meth c b L xs l D cA q q' tb) {x y : Int32} (hd : decode code pc = .ok (.isub, 1)) (kk : LG_ p e s m below meth c b l D cA q q' (pc + 1) Lv (.int (x - y) :: st) a σ) : LG_ p e s m below meth c b l D cA q q' pc Lv (.int y :: .int x :: st) a σ :=
  fun ls H locs hl hP hM hS => lv_isub C.1.1 C.1.2.1 hd (kk ls H locs hl hP hM hS)
theorem l_iand (C : Lw_ p s m meth c b L xs l D cA q q' tb) {x y : Int32} (hd : decode code pc = .ok (.iand, 1)) (kk : LG_ p e s m below meth c b l D cA q q' (pc + 1) Lv (.int (x &&& y) :: st) a σ) : LG_ p e s m below meth c b l D cA q q' pc Lv (.int y :: .int x :: st) a σ :=
  fun ls H locs hl hP hM hS => lv_iand C.1.1 C.1.2.1 hd (kk ls H locs hl hP hM hS)
theorem l_len (C : Lw_ p s m meth c b L xs l D cA q q' tb) (hd : decode code pc = .ok (.arraylength, 1)) (kk : LG_ p e s m below meth c b l D cA q q' (pc + 1) Lv (.int (iI_ L) :: st) a σ) : LG_ p e s m below meth c b l D cA q q' pc Lv (.ref b :: st) a σ :=
  fun ls H locs hl hP hM hS => va_slen C.1.1 C.1.2.1 C.1.2.2.2.2.2.2.1 C.1.2.2.2.2.2.2.2.1 (Nat.not_le.mpr C.1.2.2.2.2.2.2.2.1) hS hd (kk ls H locs hl hP hM hS)
theorem l_ld (C : Lw_ p s m meth c b L xs l D cA q q' tb) {i : Int32} (hin : vp_in i L) (hd : decode code pc = .ok (.iaload, 1)) (kk : LG_ p e s m below meth c b l D cA q q' (pc + 1) Lv (.int (xs i.toNatClampNeg) :: st) a σ) : LG_ p e s m below meth c b l D cA q q' pc Lv (.int i :: .ref b :: st) a σ :=
  fun ls H locs hl hP hM hS => va_sld C.1.1 C.1.2.1 C.1.2.2.2.2.2.2.1 C.1.2.2.2.2.2.2.2.1 (Nat.not_le.mpr C.1.2.2.2.2.2.2.2.1) hS hin hd (kk ls H locs hl hP hM hS)
theorem l_icmp_gt (C : Lw_ p s m meth c b L xs l D cA q q' tb) {x y : Int32} {off : Int} (tgt : Nat) (hd : decode code pc = .ok (.if_icmp .gt off, 3)) (ht : (pc : Int) + off = (tgt : Int)) (kt : y < x → LG_ p e s m below meth c b l D cA q q' tgt Lv st a σ) (kf : ¬ (y < x) → LG_ p e s m below meth c b l D cA q q' (pc + 3) Lv st a σ) : LG_ p e s m below meth c b l D cA q q' pc Lv (.int y :: .int x :: st) a σ :=
  fun ls H locs hl hP hM hS => lv_icmp_gt C.1.1 C.1.2.1 hd ht (fun h => kt h ls H locs hl hP hM hS) (fun h => kf h ls H locs hl hP hM hS)
theorem l_icmp_eq (C : Lw_ p s m meth c b L xs l D cA q q' tb) {x : Int32} {off : Int} (tgt : Nat) (hd : decode code pc = .ok (.if_icmp .eq off, 3)) (ht : (pc : Int) + off = (tgt : Int)) (kt : LG_ p e s m below meth c b l D cA q q' tgt Lv st a σ) : LG_ p e s m below meth c b l D cA q q' pc Lv (.int x :: .int x :: st) a σ :=
  fun ls H locs hl hP hM hS => lv_icmp_eq C.1.1 C.1.2.1 hd ht (fun _ => kt ls H locs hl hP hM hS) (fun h => absurd rfl h)
theorem l_lcmp_eq (C : Lw_ p s m meth c b L xs l D cA q q' tb) {x : Int64} {off : Int} (tgt : Nat) (hd : decode code pc = .ok (.lcmp, 1)) (hd2 : decode code (pc + 1) = .ok (.ifCond .eq off, 3)) (ht : ((pc + 1 : Nat) : Int) + off = (tgt : Int)) (kt : LG_ p e s m below meth c b l D cA q q' tgt Lv st a σ) : LG_ p e s m below meth c b l D cA q q' pc Lv (.long x :: .long x :: st) a σ :=
  fun ls H locs hl hP hM hS => W.lcmp C.1.1 C.1.2.1 hd (lv_if_eq C.1.1 C.1.2.1 hd2 ht (fun _ => kt ls H locs hl hP hM hS) (fun h => absurd ((lg_cmp_eq x x).mpr rfl) h))
theorem l_iinc (C : Lw_ p s m meth c b L xs l D cA q q' tb) {i : Nat} {z : Int} {x v : Int32} {Lv' : List (Nat × Value)} (hd : decode code pc = .ok (.iinc i z, 3)) (kl : Nat) (hk : Lv[kl]? = some (i, .int x)) (hv : x + Int32.ofInt z = v) (hn : i < 4) (hL : (i, Value.int v) :: Lv.filter (fun q => !(q.1 == i) && !(q.1 + 1 == i && q.2.category == 2)) = Lv') (kk : LG_ p e s m below meth c b l D cA q q' (pc + 3) Lv' st a σ) : LG_ p e s m below meth c b l D cA q q' pc Lv st a σ :=
  fun ls H locs hl hP hM hS => lv_iinc C.1.1 C.1.2.1 hd hl hk hv hn hL (fun ls hl => kk ls H locs hl hP hM hS)
theorem l_goto (C : Lw_ p s m meth c b L xs l D cA q q' tb) {off : Int} (tgt : Nat) (hd : decode code pc = .ok (.goto off, 3)) (ht : (pc : Int) + off = (tgt : Int)) (kk : LG_ p e s m below meth c b l D cA q q' tgt Lv st a σ) : LG_ p e s m below meth c b l D cA q q' pc Lv st a σ :=
  fun ls H locs hl hP hM hS => lv_goto C.1.1 C.1.2.1 hd ht (kk ls H locs hl hP hM hS)
theorem l_loc {Lv' : List (Nat × Value)} (h : ∀ x ∈ Lv', x ∈ Lv) (kk : LG_ p e s m below meth c b l D cA q q' pc Lv' st a σ) : LG_ p e s m below meth c b l D cA q q' pc Lv st a σ :=
  fun ls H locs hl hP hM hS => kk ls H locs ⟨hl.1, hl.2.1, fun x hx => hl.2.2 x (h x hx)⟩ hP hM hS
theorem l_end (C : Lw_ p s m meth c b L xs l D cA q q' tb) (hd : decode code pc = .ok (.iconst 1, 1)) (hd2 : decode code (pc + 1) = .ok (.ireturn, 1)) : LG_ p e s m below meth c b l D cA q q' pc Lv [] a σ := by
  intro ls H locs hl hP hM hS
  refine lv_iconst (v := 1) C.1.1 C.1.2.1 hd (by decide) ?_
  refine va_forget (fun x hx => hS.2.2 x hx) ?_
  refine W.widen (k := 600000) (n := 7302250) (by decide) (by decide) ?_
  exact lw_ret C.1.1 C.1.2.1 C.1.2.2.1 C.1.2.2.2.2.2.2.2.2.1 hd2
theorem l_tab (C : Lw_ p s m meth c b L xs l D cA q q' tb) {dflt hi : Int} {offs : Array Int} {len : Nat} {x : Int32} (n : Nat) (tgs : List Nat) (hd : decode code pc = .ok (.tableswitch dflt 0 hi offs, len)) (hhi : hi + 1 = (n : Int)) (hn : n < 2 ^ 31) (hoff : offs.toList.map (fun o => (pc : Int) + o) = tgs.map (fun (t : Nat) => (t : Int))) (hlen : tgs.length = n) (dt : Nat) (hdt : (pc : Int) + dflt = (dt : Int)) (kin : ∀ (j t : Nat), tgs[j]? = some t → LG_ p e s m below meth c b l D cA q q' t Lv st a σ) (kout : LG_ p e s m below meth c b l D cA q q' dt Lv st a σ) : LG_ p e s m below meth c b l D cA q q' pc Lv (.int x :: st) a σ := by
  intro ls H locs hl hP hM hS
  by_cases h : x.toInt < 0 ∨ hi < x.toInt
  · exact lv_tableOut C.1.1 C.1.2.1 hd h hdt (kout ls H locs hl hP hM hS)
  · have h1 : ¬ x.toInt < 0 := fun q => h (Or.inl q)
    have h2 : ¬ hi < x.toInt := fun q => h (Or.inr q)
    obtain ⟨j, hj, rfl⟩ : ∃ j : Nat, j < n ∧ x = iI_ j := by
      refine ⟨x.toInt.toNat, by omega, Int32.toInt_inj.mp ?_⟩
      show x.toInt = (nI x.toInt.toNat).toInt
      rw [nI_toInt (by omega)]
      omega
    have e1 : ((iI_ (j : Int)).toInt - 0).toNat = j := by show ((nI j).toInt - 0).toNat = j; rw [nI_toInt (by omega)]; omega
    have hl2 : offs.toList.length = n := by
      have := congrArg List.length hoff
      simpa [hlen] using this
    obtain ⟨o, ho⟩ : ∃ o, offs.toList[j]? = some o := ⟨_, List.getElem?_eq_getElem (by omega)⟩
    obtain ⟨t, ht⟩ : ∃ t, tgs[j]? = some t := ⟨_, List.getElem?_eq_getElem (by omega)⟩
    have e2 := congrArg (fun q => q[j]?) hoff
    simp only [List.getElem?_map, ho, ht, Option.map_some, Option.some.injEq] at e2
    exact lv_tableIn C.1.1 C.1.2.1 hd h1 h2 (off := o) (tgt := t) (by rw [e1, ← Array.getElem?_toList]; exact ho) e2 (kin j t ht ls H locs hl hP hM hS)
/-! a call -/
theorem wdX_len (σ : St_) : (wdX_ cA q σ).length = 44 := rfl
theorem dis_XM (C : Lw_ p s m meth c b L xs l D cA q q' tb) {σ1 σ2 : St_} {i j : Nat} {x y : Nat × va_E} (hx : (wdX_ cA q σ1)[i]? = some x) (hy : (wdM_ cA q' σ2)[j]? = some y) : ¬ x.1 = y.1 := by
  intro h
  have hi : i < 44 := (List.getElem?_eq_some_iff.mp hx).1
  have := (C.2.2 σ1 σ2).1 i (44 + j) x y (by rw [List.getElem?_append_left (by rw [wdX_len]; exact hi)]; exact hx) (by rw [List.getElem?_append_right (by rw [wdX_len]; omega), wdX_len, show 44 + j - 44 = j by omega]; exact hy) h
  omega
theorem dX_ (C : Lw_ p s m meth c b L xs l D cA q q' tb) (σ1 : St_) : va_D (Al_ s) (wdX_ cA q σ1) := by
  have h := C.2.2 σ1 σ1
  refine ⟨fun i j x y hx hy => ?_, fun k x hx => ?_⟩
  · have hi : i < 44 := (List.getElem?_eq_some_iff.mp hx).1
    have hj : j < 44 := (List.getElem?_eq_some_iff.mp hy).1
    exact h.1 i j x y (by rw [List.getElem?_append_left (by rw [wdX_len]; exact hi)]; exact hx) (by rw [List.getElem?_append_left (by rw [wdX_len]; exact hj)]; exact hy)
  · have hi : k < 44 := (List.getElem?_eq_some_iff.mp hx).1
    exact h.2 k x (by rw [List.getElem?_append_left (by rw [wdX_len]; exact hi)]; exact hx)
theorem dM_ (C : Lw_ p s m meth c b L xs l D cA q q' tb) (σ1 : St_) : va_D (Al_ s) (wdM_ cA q' σ1) := by
  have h := C.2.2 σ1 σ1
  have ap : ∀ (i : Nat) (x : Nat × va_E), (wdM_ cA q' σ1)[i]? = some x → (wdX_ cA q σ1 ++ wdM_ cA q' σ1)[44 + i]? = some x := fun i x hx => by
    rw [List.getElem?_append_right (by rw [wdX_len]; omega), wdX_len, show 44 + i - 44 = i by omega]; exact hx
  refine ⟨fun i j x y hx hy e => ?_, fun k x hx => h.2 (44 + k) x (ap k x hx)⟩
  have := h.1 (44 + i) (44 + j) x y (ap i x hx) (ap j y hy) e
  omega
theorem l_callX (C : Lw_ p s m meth c b L xs l D cA q q' tb) {w : MI_} {index : Nat} {As rest : List Value} {Q : Option Value → St_ → Prop} (n : Nat) (w1 : Cond.methodLink R_law index w.1 ∈ tg_) (w2 : Cond.instanceMethod w.1 ∈ tg_) (w3 : Cond.selects RX9 w.1 w.1 ∈ tg_) (w4 : Cond.initialized w.1.cls ∈ tg_) (w5 : Cond.code w.1 w.2.1 w.2.2.1 w.2.2.2.1 ∈ tg_)
    (hdd : w.1.cls ≠ "java/lang/invoke/MethodHandle" ∧ w.1.cls ≠ "java/lang/invoke/VarHandle" ∧ (parseMethodDescriptor w.1.desc).map (fun d => d.parameters.length) = some n) (hR : w.2.2.2.2.1 + 1 ≤ 14 ∧ 8 + (w.2.2.1 + 11) + w.2.2.2.2.2 ≤ 566) (hn : As.length = n) (hst : st = As.reverse ++ .ref (q 0) :: rest) (h8 : (rest.map fun v => v.category).sum ≤ 8) (hd : decode code pc = .ok (.invokevirtual index, 3))
    (hM0 : MM_ (zx_ (l, D, cA, q, tb)) w (.ref (q 0) :: As) a Q) (hk : ∀ v a', Q v a' → LG_ p e s m below meth c b l D cA q q' (pc + 3) Lv (v.toList ++ rest) a' σ) : LG_ p e s m below meth c b l D cA q q' pc Lv st a σ := by
  intro ls H locs hl hP hM hS
  subst hst
  have hts := C.1.2.2.2.2.2.1
  have ok : ∀ x ∈ tg_, x.before #[Value.ref b] s = true := fun x h => hts x (tg_in h)
  have hWk : Wok_ (zx_ (l, D, cA, q, tb)) := fun σ => (dX_ C σ).weaken (fun _ _ _ _ => trivial)
  have hr := va_runV (p := p) (l := l) (e := e) (R := room_1) (s := s) (m := m) (args := #[Value.ref b]) (below := below) (meth := meth) (c := c) (H := H) (locs := locs) (cells := 76) (slots := 1666) (g := F0 m pc ls (As.reverse ++ .ref (q 0) :: rest)) (As := As) (rest := rest) (b := q 0) (C := RX9) (n := n) ⟨C.1.1, C.1.2.1, C.1.2.2.2.1, C.1.2.2.2.2.1, hts⟩ (hM0 hWk H.size) ⟨callB_of n hts (good_law w5) rfl rfl rfl (ok _ w4) (ok _ w1) hdd hR, ok _ w2, ok _ w3⟩ ⟨pc_blind, va_recv (ci := 9) (q0 := 0) C.2.1.1 hP rfl rfl, fun U hU hW => pc_pre C.2.1 (fun σ => dX_ C σ) (fun _ h => h) hP hS hU hW⟩ rfl hn hl.1 rfl (lv_room h8) hd ⟨by decide, by decide⟩
  have hAB : ∀ x, Aw_ (zx_ (l, D, cA, q, tb)) H.size x → Al_ s x := fun x h => by
    rcases h with ⟨σ', k, e, h⟩ | h
    · exact (dX_ C σ').2 k _ h
    · exact Nat.le_trans hS.1 h
  intro T hT X
  obtain ⟨v, st₀, t, T', L', h0, X', hL', e1, e2, ⟨⟨v', a', hv, hp, hb⟩, hz, hq⟩, stp⟩ := hr T hT X
  cases hv
  rw [h0] at hz hq
  obtain ⟨t2, a1, b1⟩ := hk v a' hp ls T'.heap (locs ++ L') hl (by rw [e1]; exact hb) (hM.kept (fun k x hx => by
    have hlt := (hM k x hx).lt
    rw [e1]
    refine hq x.1 hlt (fun h => ?_)
    rcases h with ⟨σ', k', e', h⟩ | h
    · exact dis_XM C h hx rfl
    · omega))
    ⟨Nat.le_trans hS.1 (by rw [e1]; exact hz), fun x h1 h2 => by rw [e1, hq x (Nat.lt_of_lt_of_le h1 hS.1) (fun z => h2 (hAB x z))]; exact hS.2.1 x h1 h2, fun x hx => by
      rcases List.mem_append.mp hx with h | h
      · exact hS.2.2 x h
      · exact hAB _ (hL' x h)⟩ T' rfl X'
  exact ⟨t2, stp t2 a1, b1⟩
theorem l_callM (C : Lw_ p s m meth c b L xs l D cA q q' tb) {w : MI_} {index : Nat} {As rest : List Value} {Q : Option Value → St_ → Prop} (n : Nat) (w1 : Cond.methodLink R_law index w.1 ∈ tg_) (w2 : Cond.instanceMethod w.1 ∈ tg_) (w3 : Cond.selects RX10 w.1 w.1 ∈ tg_) (w4 : Cond.initialized w.1.cls ∈ tg_) (w5 : Cond.code w.1 w.2.1 w.2.2.1 w.2.2.2.1 ∈ tg_)
    (hdd : w.1.cls ≠ "java/lang/invoke/MethodHandle" ∧ w.1.cls ≠ "java/lang/invoke/VarHandle" ∧ (parseMethodDescriptor w.1.desc).map (fun d => d.parameters.length) = some n) (hR : w.2.2.2.2.1 + 1 ≤ 14 ∧ 8 + (w.2.2.1 + 11) + w.2.2.2.2.2 ≤ 566) (hn : As.length = n) (hst : st = As.reverse ++ .ref (q' 0) :: rest) (h8 : (rest.map fun v => v.category).sum ≤ 8) (hd : decode code pc = .ok (.invokevirtual index, 3))
    (hM0 : MM_ (zm_ (l, D, cA, q', tb)) w (.ref (q' 0) :: As) σ Q) (hk : ∀ v σ', Q v σ' → LG_ p e s m below meth c b l D cA q q' (pc + 3) Lv (v.toList ++ rest) a σ') : LG_ p e s m below meth c b l D cA q q' pc Lv st a σ := by
  intro ls H locs hl hP hM hS
  subst hst
  have hts := C.1.2.2.2.2.2.1
  have ok : ∀ x ∈ tg_, x.before #[Value.ref b] s = true := fun x h => hts x (tg_in h)
  have hEm : Ev_ (zm_ (l, D, cA, q', tb)) (Al_ s) s s.heap := C.2.1
  have hWk : Wok_ (zm_ (l, D, cA, q', tb)) := fun σ => (dM_ C σ).weaken (fun _ _ _ _ => trivial)
  have hr := va_runV (p := p) (l := l) (e := e) (R := room_1) (s := s) (m := m) (args := #[Value.ref b]) (below := below) (meth := meth) (c := c) (H := H) (locs := locs) (cells := 76) (slots := 1666) (g := F0 m pc ls (As.reverse ++ .ref (q' 0) :: rest)) (As := As) (rest := rest) (b := q' 0) (C := RX10) (n := n) ⟨C.1.1, C.1.2.1, C.1.2.2.2.1, C.1.2.2.2.2.1, hts⟩ (hM0 hWk H.size) ⟨callB_of n hts (good_law w5) rfl rfl rfl (ok _ w4) (ok _ w1) hdd hR, ok _ w2, ok _ w3⟩ ⟨pc_blind, va_recv (ci := 10) (q0 := 0) hEm.1 hM rfl rfl, fun U hU hW => pc_pre hEm (fun σ => dM_ C σ) (fun _ h => h) hM hS hU hW⟩ rfl hn hl.1 rfl (lv_room h8) hd ⟨by decide, by decide⟩
  have hAB : ∀ x, Aw_ (zm_ (l, D, cA, q', tb)) H.size x → Al_ s x := fun x h => by
    rcases h with ⟨σ', k, e, h⟩ | h
    · exact (dM_ C σ').2 k _ h
    · exact Nat.le_trans hS.1 h
  intro T hT X
  obtain ⟨v, st₀, t, T', L', h0, X', hL', e1, e2, ⟨⟨v', σ1, hv, hp, hb⟩, hz, hq⟩, stp⟩ := hr T hT X
  cases hv
  rw [h0] at hz hq
  obtain ⟨t2, a1, b1⟩ := hk v σ1 hp ls T'.heap (locs ++ L') hl (hP.kept (fun k x hx => by
    have hlt := (hP k x hx).lt
    rw [e1]
    refine hq x.1 hlt (fun h => ?_)
    rcases h with ⟨σ', k', e', h⟩ | h
    · exact dis_XM C hx h rfl
    · omega)) (by rw [e1]; exact hb)
    ⟨Nat.le_trans hS.1 (by rw [e1]; exact hz), fun x h1 h2 => by rw [e1, hq x (Nat.lt_of_lt_of_le h1 hS.1) (fun z => h2 (hAB x z))]; exact hS.2.1 x h1 h2, fun x hx => by
      rcases List.mem_append.mp hx with h | h
      · exact hS.2.2 x h
      · exact hAB _ (hL' x h)⟩ T' rfl X'
  exact ⟨t2, stp t2 a1, b1⟩
end LR
