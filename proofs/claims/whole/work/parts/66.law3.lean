/-! ===== the law's loop ===== -/
theorem law_next {p : Program} {e : Env} {s : State} {m : MethodId} {below : List Frame} {meth : Method} {c : Code} {b L : Nat} {xs : Nat → Int32} {l : Launch} {D : va_G} {cA : Nat → ClassId} {q q' tb : Nat → Nat} (C : Lw_ p s m meth c b L xs l D cA q q' tb) {i : Nat} (ih : ∀ a σ, Wf_ a → Rm_ a σ → LG_ p e s m below meth c b l D cA q q' 18 [(0, .ref b), (1, .ref (q 0)), (2, .ref (q' 0)), (3, .int (iI_ (i + 6 : Nat)))] [] a σ) : Nx_ p e s m below meth c b l D cA q q' i := by
  intro a σ hW hR
  refine l_iinc C (v := iI_ (i + 6 : Nat)) (Lv' := [(3, .int (iI_ (i + 6 : Nat))), (0, .ref b), (1, .ref (q 0)), (2, .ref (q' 0))]) dL_law_1253 3 rfl (by rw [show Int32.ofInt 6 = iI_ 6 from rfl, iI_add]; rfl) (by decide) rfl ?_
  refine l_goto C 18 dL_law_1256 (by decide) ?_
  refine l_loc (Lv' := [(0, .ref b), (1, .ref (q 0)), (2, .ref (q' 0)), (3, .int (iI_ (i + 6 : Nat)))]) (fun x hx => ?_) (ih a σ hW hR)
  simp only [List.mem_cons, List.not_mem_nil, or_false] at hx ⊢
  rcases hx with h | h | h | h
  · exact Or.inr (Or.inl h)
  · exact Or.inr (Or.inr (Or.inl h))
  · exact Or.inr (Or.inr (Or.inr h))
  · exact Or.inl h
set_option maxRecDepth 100000 in
theorem law_loop {p : Program} {e : Env} {s : State} {m : MethodId} {below : List Frame} {meth : Method} {c : Code} {b L : Nat} {xs : Nat → Int32} {l : Launch} {D : va_G} {cA : Nat → ClassId} {q q' tb : Nat → Nat} (C : Lw_ p s m meth c b L xs l D cA q q' tb) (hL : L ≤ 384) : ∀ (k i : Nat), L ≤ i + k → i ≤ 390 → ∀ a σ, Wf_ a → Rm_ a σ → LG_ p e s m below meth c b l D cA q q' 18 [(0, .ref b), (1, .ref (q 0)), (2, .ref (q' 0)), (3, .int (iI_ i))] [] a σ := by
  intro k
  induction k with
  | zero =>
    intro i h1 h2 a σ hW hR
    refine l_iload_n C dL_law_18 3 rfl rfl ?_
    refine l_aload_n C dL_law_19 0 rfl rfl ?_
    refine l_len C dL_law_20 ?_
    refine l_bipush C (v := iI_ 6) dL_law_21 (by decide) ?_
    refine l_isub C dL_law_23 ?_
    refine l_icmp_gt C 1259 dL_law_24 (by decide) (fun _ => l_end C dL_law_1259 dL_law_1260) (fun h => absurd ?_ h)
    rw [iI_sub, iI_lt (by omega) (by omega)]
    omega
  | succ k ih =>
    intro i h1 h2 a σ hW hR
    refine l_iload_n C dL_law_18 3 rfl rfl ?_
    refine l_aload_n C dL_law_19 0 rfl rfl ?_
    refine l_len C dL_law_20 ?_
    refine l_bipush C (v := iI_ 6) dL_law_21 (by decide) ?_
    refine l_isub C dL_law_23 ?_
    refine l_icmp_gt C 1259 dL_law_24 (by decide) (fun _ => l_end C dL_law_1259 dL_law_1260) (fun h => ?_)
    rw [iI_sub, iI_lt (by omega) (by omega)] at h
    have hi : i + 6 ≤ L := by omega
    have N : Nx_ p e s m below meth c b l D cA q q' i := law_next C (ih (i + 6) (by omega) (by omega))
    refine l_aload_n C dL_law_27 0 rfl rfl ?_
    refine l_iload_n C dL_law_28 3 rfl rfl ?_
    refine l_ld C ((iI_in (by omega)).mpr (by omega)) dL_law_29 ?_
    refine l_bipush C (v := iI_ 63) dL_law_30 (by decide) ?_
    refine l_iand C dL_law_32 ?_
    exact l_tab C 36 [192, 225, 248, 271, 294, 327, 360, 393, 436, 459, 482, 505, 548, 581, 604, 617, 630, 663, 686, 720, 733, 766, 799, 812, 825, 848, 871, 935, 968, 1011, 1034, 1087, 1130, 1193, 1216, 1239] dL_law_33 (by decide) (by decide) (by decide +kernel) rfl 1253 (by decide) (lc_in C hi hL N hW hR) (N a σ hW hR)
