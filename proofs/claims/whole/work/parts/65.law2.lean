/-! ===== the law's cases ===== -/
/-- from here on the loop goes on with any state that keeps to the rules -/
def Nx_ (p : Program) (e : Env) (s : State) (m : MethodId) (below : List Frame) (meth : Method) (c : Code) (b : Nat) (l : Launch) (D : va_G) (cA : Nat → ClassId) (q q' : Nat → Nat) (i : Nat) : Prop := ∀ a σ, Wf_ a → Rm_ a σ → LG_ p e s m below meth c b l D cA q q' 1253 [(0, .ref b), (1, .ref (q 0)), (2, .ref (q' 0)), (3, .int (iI_ i))] [] a σ
theorem ld_in {L i : Nat} (j : Nat) (hj : j < 6) (hi : i + 6 ≤ L) (hL : L ≤ 384) : vp_in (iI_ i + iI_ j) L := by
  rw [iI_add]; exact (iI_in (by omega)).mpr (by omega)
theorem lc_type {p : Program} {e : Env} {s : State} {m : MethodId} {below : List Frame} {meth : Method} {c : Code} {b L : Nat} {xs : Nat → Int32} {l : Launch} {D : va_G} {cA : Nat → ClassId} {q q' tb : Nat → Nat} (C : Lw_ p s m meth c b L xs l D cA q q' tb) {i : Nat} (hi : i + 6 ≤ L) (hL : L ≤ 384) (H : Nx_ p e s m below meth c b l D cA q q' i) {a σ : St_} (hW : Wf_ a) (hR : Rm_ a σ) : LG_ p e s m below meth c b l D cA q q' 192 [(0, .ref b), (1, .ref (q 0)), (2, .ref (q' 0)), (3, .int (iI_ i))] [] a σ := by
  obtain ⟨r, b2, hX, hMm⟩ := op_type (xs (iI_ i + iI_ 1).toNatClampNeg) (xs (iI_ i + iI_ 2).toNatClampNeg) (l, D, cA, q, tb) (l, D, cA, q', tb) a σ hW hR
  refine l_aload_n C dL_law_192 1 rfl rfl ?_
  refine l_aload_n C dL_law_193 0 rfl rfl ?_
  refine l_iload_n C dL_law_194 3 rfl rfl ?_
  refine l_iconst C (v := iI_ 1) dL_law_195 (by decide) ?_
  refine l_iadd C dL_law_196 ?_
  refine l_ld C (ld_in 1 (by omega) hi hL) dL_law_197 ?_
  refine l_aload_n C dL_law_198 0 rfl rfl ?_
  refine l_iload_n C dL_law_199 3 rfl rfl ?_
  refine l_iconst C (v := iI_ 2) dL_law_200 (by decide) ?_
  refine l_iadd C dL_law_201 ?_
  refine l_ld C (ld_in 2 (by omega) hi hL) dL_law_202 ?_
  refine l_callX C (w := mX9_type) (As := [.int (xs (iI_ i + iI_ 1).toNatClampNeg), .int (xs (iI_ i + iI_ 2).toNatClampNeg)]) (rest := []) 2 w_366 w_367 w_368 w_72 w_369 (by decide +kernel) ⟨Nat.le_of_ble_eq_true rfl, Nat.le_of_ble_eq_true rfl⟩ rfl rfl (Nat.le_of_ble_eq_true rfl) dL_law_203 hX (fun v a1 h1 => ?_)
  obtain ⟨rfl, hW1, hC1⟩ := h1
  refine l_aload_n C dL_law_206 2 rfl rfl ?_
  refine l_aload_n C dL_law_207 0 rfl rfl ?_
  refine l_iload_n C dL_law_208 3 rfl rfl ?_
  refine l_iconst C (v := iI_ 1) dL_law_209 (by decide) ?_
  refine l_iadd C dL_law_210 ?_
  refine l_ld C (ld_in 1 (by omega) hi hL) dL_law_211 ?_
  refine l_aload_n C dL_law_212 0 rfl rfl ?_
  refine l_iload_n C dL_law_213 3 rfl rfl ?_
  refine l_iconst C (v := iI_ 2) dL_law_214 (by decide) ?_
  refine l_iadd C dL_law_215 ?_
  refine l_ld C (ld_in 2 (by omega) hi hL) dL_law_216 ?_
  refine l_callM C (w := mX10_type) (As := [.int (xs (iI_ i + iI_ 1).toNatClampNeg), .int (xs (iI_ i + iI_ 2).toNatClampNeg)]) (rest := [.int r]) 2 w_947 w_948 w_949 w_83 w_950 (by decide +kernel) ⟨Nat.le_of_ble_eq_true rfl, Nat.le_of_ble_eq_true rfl⟩ rfl rfl (Nat.le_of_ble_eq_true rfl) dL_law_217 hMm (fun v s1 h2 => ?_)
  obtain ⟨rfl, hR1⟩ := h2
  exact l_icmp_eq C 1253 dL_law_220 (by decide) (H a1 s1 hW1 (hR1.co hC1))
theorem lc_wipe {p : Program} {e : Env} {s : State} {m : MethodId} {below : List Frame} {meth : Method} {c : Code} {b L : Nat} {xs : Nat → Int32} {l : Launch} {D : va_G} {cA : Nat → ClassId} {q q' tb : Nat → Nat} (C : Lw_ p s m meth c b L xs l D cA q q' tb) {i : Nat} (hi : i + 6 ≤ L) (hL : L ≤ 384) (H : Nx_ p e s m below meth c b l D cA q q' i) {a σ : St_} (hW : Wf_ a) (hR : Rm_ a σ) : LG_ p e s m below meth c b l D cA q q' 225 [(0, .ref b), (1, .ref (q 0)), (2, .ref (q' 0)), (3, .int (iI_ i))] [] a σ := by
  obtain ⟨r, b2, hX, hMm⟩ := op_wipe (xs (iI_ i + iI_ 1).toNatClampNeg) (l, D, cA, q, tb) (l, D, cA, q', tb) a σ hW hR
  refine l_aload_n C dL_law_225 1 rfl rfl ?_
  refine l_aload_n C dL_law_226 0 rfl rfl ?_
  refine l_iload_n C dL_law_227 3 rfl rfl ?_
  refine l_iconst C (v := iI_ 1) dL_law_228 (by decide) ?_
  refine l_iadd C dL_law_229 ?_
  refine l_ld C (ld_in 1 (by omega) hi hL) dL_law_230 ?_
  refine l_callX C (w := mX9_wipe) (As := [.int (xs (iI_ i + iI_ 1).toNatClampNeg)]) (rest := []) 1 w_415 w_416 w_417 w_72 w_418 (by decide +kernel) ⟨Nat.le_of_ble_eq_true rfl, Nat.le_of_ble_eq_true rfl⟩ rfl rfl (Nat.le_of_ble_eq_true rfl) dL_law_231 hX (fun v a1 h1 => ?_)
  obtain ⟨rfl, hW1, hC1⟩ := h1
  refine l_aload_n C dL_law_234 2 rfl rfl ?_
  refine l_aload_n C dL_law_235 0 rfl rfl ?_
  refine l_iload_n C dL_law_236 3 rfl rfl ?_
  refine l_iconst C (v := iI_ 1) dL_law_237 (by decide) ?_
  refine l_iadd C dL_law_238 ?_
  refine l_ld C (ld_in 1 (by omega) hi hL) dL_law_239 ?_
  refine l_callM C (w := mX10_wipe) (As := [.int (xs (iI_ i + iI_ 1).toNatClampNeg)]) (rest := [.int r]) 1 w_957 w_958 w_959 w_83 w_960 (by decide +kernel) ⟨Nat.le_of_ble_eq_true rfl, Nat.le_of_ble_eq_true rfl⟩ rfl rfl (Nat.le_of_ble_eq_true rfl) dL_law_240 hMm (fun v s1 h2 => ?_)
  obtain ⟨rfl, hR1⟩ := h2
  exact l_icmp_eq C 1253 dL_law_243 (by decide) (H a1 s1 hW1 (hR1.co hC1))
theorem lc_undo {p : Program} {e : Env} {s : State} {m : MethodId} {below : List Frame} {meth : Method} {c : Code} {b L : Nat} {xs : Nat → Int32} {l : Launch} {D : va_G} {cA : Nat → ClassId} {q q' tb : Nat → Nat} (C : Lw_ p s m meth c b L xs l D cA q q' tb) {i : Nat} (hi : i + 6 ≤ L) (hL : L ≤ 384) (H : Nx_ p e s m below meth c b l D cA q q' i) {a σ : St_} (hW : Wf_ a) (hR : Rm_ a σ) : LG_ p e s m below meth c b l D cA q q' 248 [(0, .ref b), (1, .ref (q 0)), (2, .ref (q' 0)), (3, .int (iI_ i))] [] a σ := by
  obtain ⟨r, b2, hX, hMm⟩ := op_undo (xs (iI_ i + iI_ 1).toNatClampNeg) (l, D, cA, q, tb) (l, D, cA, q', tb) a σ hW hR
  refine l_aload_n C dL_law_248 1 rfl rfl ?_
  refine l_aload_n C dL_law_249 0 rfl rfl ?_
  refine l_iload_n C dL_law_250 3 rfl rfl ?_
  refine l_iconst C (v := iI_ 1) dL_law_251 (by decide) ?_
  refine l_iadd C dL_law_252 ?_
  refine l_ld C (ld_in 1 (by omega) hi hL) dL_law_253 ?_
  refine l_callX C (w := mX9_undo) (As := [.int (xs (iI_ i + iI_ 1).toNatClampNeg)]) (rest := []) 1 w_419 w_420 w_421 w_72 w_422 (by decide +kernel) ⟨Nat.le_of_ble_eq_true rfl, Nat.le_of_ble_eq_true rfl⟩ rfl rfl (Nat.le_of_ble_eq_true rfl) dL_law_254 hX (fun v a1 h1 => ?_)
  obtain ⟨rfl, hW1, hC1⟩ := h1
  refine l_aload_n C dL_law_257 2 rfl rfl ?_
  refine l_aload_n C dL_law_258 0 rfl rfl ?_
  refine l_iload_n C dL_law_259 3 rfl rfl ?_
  refine l_iconst C (v := iI_ 1) dL_law_260 (by decide) ?_
  refine l_iadd C dL_law_261 ?_
  refine l_ld C (ld_in 1 (by omega) hi hL) dL_law_262 ?_
  refine l_callM C (w := mX10_undo) (As := [.int (xs (iI_ i + iI_ 1).toNatClampNeg)]) (rest := [.int r]) 1 w_961 w_962 w_963 w_83 w_964 (by decide +kernel) ⟨Nat.le_of_ble_eq_true rfl, Nat.le_of_ble_eq_true rfl⟩ rfl rfl (Nat.le_of_ble_eq_true rfl) dL_law_263 hMm (fun v s1 h2 => ?_)
  obtain ⟨rfl, hR1⟩ := h2
  exact l_icmp_eq C 1253 dL_law_266 (by decide) (H a1 s1 hW1 (hR1.co hC1))
theorem lc_fault {p : Program} {e : Env} {s : State} {m : MethodId} {below : List Frame} {meth : Method} {c : Code} {b L : Nat} {xs : Nat → Int32} {l : Launch} {D : va_G} {cA : Nat → ClassId} {q q' tb : Nat → Nat} (C : Lw_ p s m meth c b L xs l D cA q q' tb) {i : Nat} (hi : i + 6 ≤ L) (hL : L ≤ 384) (H : Nx_ p e s m below meth c b l D cA q q' i) {a σ : St_} (hW : Wf_ a) (hR : Rm_ a σ) : LG_ p e s m below meth c b l D cA q q' 271 [(0, .ref b), (1, .ref (q 0)), (2, .ref (q' 0)), (3, .int (iI_ i))] [] a σ := by
  obtain ⟨r, b2, hX, hMm⟩ := op_fault (xs (iI_ i + iI_ 1).toNatClampNeg) (l, D, cA, q, tb) (l, D, cA, q', tb) a σ hW hR
  refine l_aload_n C dL_law_271 1 rfl rfl ?_
  refine l_aload_n C dL_law_272 0 rfl rfl ?_
  refine l_iload_n C dL_law_273 3 rfl rfl ?_
  refine l_iconst C (v := iI_ 1) dL_law_274 (by decide) ?_
  refine l_iadd C dL_law_275 ?_
  refine l_ld C (ld_in 1 (by omega) hi hL) dL_law_276 ?_
  refine l_callX C (w := mX9_fault) (As := [.int (xs (iI_ i + iI_ 1).toNatClampNeg)]) (rest := []) 1 w_423 w_424 w_425 w_72 w_426 (by decide +kernel) ⟨Nat.le_of_ble_eq_true rfl, Nat.le_of_ble_eq_true rfl⟩ rfl rfl (Nat.le_of_ble_eq_true rfl) dL_law_277 hX (fun v a1 h1 => ?_)
  obtain ⟨rfl, hW1, hC1⟩ := h1
  refine l_aload_n C dL_law_280 2 rfl rfl ?_
  refine l_aload_n C dL_law_281 0 rfl rfl ?_
  refine l_iload_n C dL_law_282 3 rfl rfl ?_
  refine l_iconst C (v := iI_ 1) dL_law_283 (by decide) ?_
  refine l_iadd C dL_law_284 ?_
  refine l_ld C (ld_in 1 (by omega) hi hL) dL_law_285 ?_
  refine l_callM C (w := mX10_fault) (As := [.int (xs (iI_ i + iI_ 1).toNatClampNeg)]) (rest := [.int r]) 1 w_965 w_966 w_967 w_83 w_968 (by decide +kernel) ⟨Nat.le_of_ble_eq_true rfl, Nat.le_of_ble_eq_true rfl⟩ rfl rfl (Nat.le_of_ble_eq_true rfl) dL_law_286 hMm (fun v s1 h2 => ?_)
  obtain ⟨rfl, hR1⟩ := h2
  exact l_icmp_eq C 1253 dL_law_289 (by decide) (H a1 s1 hW1 (hR1.co hC1))
theorem lc_member {p : Program} {e : Env} {s : State} {m : MethodId} {below : List Frame} {meth : Method} {c : Code} {b L : Nat} {xs : Nat → Int32} {l : Launch} {D : va_G} {cA : Nat → ClassId} {q q' tb : Nat → Nat} (C : Lw_ p s m meth c b L xs l D cA q q' tb) {i : Nat} (hi : i + 6 ≤ L) (hL : L ≤ 384) (H : Nx_ p e s m below meth c b l D cA q q' i) {a σ : St_} (hW : Wf_ a) (hR : Rm_ a σ) : LG_ p e s m below meth c b l D cA q q' 294 [(0, .ref b), (1, .ref (q 0)), (2, .ref (q' 0)), (3, .int (iI_ i))] [] a σ := by
  obtain ⟨r, b2, hX, hMm⟩ := op_member (xs (iI_ i + iI_ 1).toNatClampNeg) (xs (iI_ i + iI_ 2).toNatClampNeg) (l, D, cA, q, tb) (l, D, cA, q', tb) a σ hW hR
  refine l_aload_n C dL_law_294 1 rfl rfl ?_
  refine l_aload_n C dL_law_295 0 rfl rfl ?_
  refine l_iload_n C dL_law_296 3 rfl rfl ?_
  refine l_iconst C (v := iI_ 1) dL_law_297 (by decide) ?_
  refine l_iadd C dL_law_298 ?_
  refine l_ld C (ld_in 1 (by omega) hi hL) dL_law_299 ?_
  refine l_aload_n C dL_law_300 0 rfl rfl ?_
  refine l_iload_n C dL_law_301 3 rfl rfl ?_
  refine l_iconst C (v := iI_ 2) dL_law_302 (by decide) ?_
  refine l_iadd C dL_law_303 ?_
  refine l_ld C (ld_in 2 (by omega) hi hL) dL_law_304 ?_
  refine l_callX C (w := mX9_member) (As := [.int (xs (iI_ i + iI_ 1).toNatClampNeg), .int (xs (iI_ i + iI_ 2).toNatClampNeg)]) (rest := []) 2 w_427 w_428 w_429 w_72 w_430 (by decide +kernel) ⟨Nat.le_of_ble_eq_true rfl, Nat.le_of_ble_eq_true rfl⟩ rfl rfl (Nat.le_of_ble_eq_true rfl) dL_law_305 hX (fun v a1 h1 => ?_)
  obtain ⟨rfl, hW1, hC1⟩ := h1
  refine l_aload_n C dL_law_308 2 rfl rfl ?_
  refine l_aload_n C dL_law_309 0 rfl rfl ?_
  refine l_iload_n C dL_law_310 3 rfl rfl ?_
  refine l_iconst C (v := iI_ 1) dL_law_311 (by decide) ?_
  refine l_iadd C dL_law_312 ?_
  refine l_ld C (ld_in 1 (by omega) hi hL) dL_law_313 ?_
  refine l_aload_n C dL_law_314 0 rfl rfl ?_
  refine l_iload_n C dL_law_315 3 rfl rfl ?_
  refine l_iconst C (v := iI_ 2) dL_law_316 (by decide) ?_
  refine l_iadd C dL_law_317 ?_
  refine l_ld C (ld_in 2 (by omega) hi hL) dL_law_318 ?_
  refine l_callM C (w := mX10_member) (As := [.int (xs (iI_ i + iI_ 1).toNatClampNeg), .int (xs (iI_ i + iI_ 2).toNatClampNeg)]) (rest := [.int r]) 2 w_996 w_997 w_998 w_83 w_999 (by decide +kernel) ⟨Nat.le_of_ble_eq_true rfl, Nat.le_of_ble_eq_true rfl⟩ rfl rfl (Nat.le_of_ble_eq_true rfl) dL_law_319 hMm (fun v s1 h2 => ?_)
  obtain ⟨rfl, hR1⟩ := h2
  exact l_icmp_eq C 1253 dL_law_322 (by decide) (H a1 s1 hW1 (hR1.co hC1))
theorem lc_motion {p : Program} {e : Env} {s : State} {m : MethodId} {below : List Frame} {meth : Method} {c : Code} {b L : Nat} {xs : Nat → Int32} {l : Launch} {D : va_G} {cA : Nat → ClassId} {q q' tb : Nat → Nat} (C : Lw_ p s m meth c b L xs l D cA q q' tb) {i : Nat} (hi : i + 6 ≤ L) (hL : L ≤ 384) (H : Nx_ p e s m below meth c b l D cA q q' i) {a σ : St_} (hW : Wf_ a) (hR : Rm_ a σ) : LG_ p e s m below meth c b l D cA q q' 327 [(0, .ref b), (1, .ref (q 0)), (2, .ref (q' 0)), (3, .int (iI_ i))] [] a σ := by
  obtain ⟨r, b2, hX, hMm⟩ := op_motion (xs (iI_ i + iI_ 1).toNatClampNeg) (xs (iI_ i + iI_ 2).toNatClampNeg) (l, D, cA, q, tb) (l, D, cA, q', tb) a σ hW hR
  refine l_aload_n C dL_law_327 1 rfl rfl ?_
  refine l_aload_n C dL_law_328 0 rfl rfl ?_
  refine l_iload_n C dL_law_329 3 rfl rfl ?_
  refine l_iconst C (v := iI_ 1) dL_law_330 (by decide) ?_
  refine l_iadd C dL_law_331 ?_
  refine l_ld C (ld_in 1 (by omega) hi hL) dL_law_332 ?_
  refine l_aload_n C dL_law_333 0 rfl rfl ?_
  refine l_iload_n C dL_law_334 3 rfl rfl ?_
  refine l_iconst C (v := iI_ 2) dL_law_335 (by decide) ?_
  refine l_iadd C dL_law_336 ?_
  refine l_ld C (ld_in 2 (by omega) hi hL) dL_law_337 ?_
  refine l_callX C (w := mX9_motion) (As := [.int (xs (iI_ i + iI_ 1).toNatClampNeg), .int (xs (iI_ i + iI_ 2).toNatClampNeg)]) (rest := []) 2 w_440 w_441 w_442 w_72 w_443 (by decide +kernel) ⟨Nat.le_of_ble_eq_true rfl, Nat.le_of_ble_eq_true rfl⟩ rfl rfl (Nat.le_of_ble_eq_true rfl) dL_law_338 hX (fun v a1 h1 => ?_)
  obtain ⟨rfl, hW1, hC1⟩ := h1
  refine l_aload_n C dL_law_341 2 rfl rfl ?_
  refine l_aload_n C dL_law_342 0 rfl rfl ?_
  refine l_iload_n C dL_law_343 3 rfl rfl ?_
  refine l_iconst C (v := iI_ 1) dL_law_344 (by decide) ?_
  refine l_iadd C dL_law_345 ?_
  refine l_ld C (ld_in 1 (by omega) hi hL) dL_law_346 ?_
  refine l_aload_n C dL_law_347 0 rfl rfl ?_
  refine l_iload_n C dL_law_348 3 rfl rfl ?_
  refine l_iconst C (v := iI_ 2) dL_law_349 (by decide) ?_
  refine l_iadd C dL_law_350 ?_
  refine l_ld C (ld_in 2 (by omega) hi hL) dL_law_351 ?_
  refine l_callM C (w := mX10_motion) (As := [.int (xs (iI_ i + iI_ 1).toNatClampNeg), .int (xs (iI_ i + iI_ 2).toNatClampNeg)]) (rest := [.int r]) 2 w_1012 w_1013 w_1014 w_83 w_1015 (by decide +kernel) ⟨Nat.le_of_ble_eq_true rfl, Nat.le_of_ble_eq_true rfl⟩ rfl rfl (Nat.le_of_ble_eq_true rfl) dL_law_352 hMm (fun v s1 h2 => ?_)
  obtain ⟨rfl, hR1⟩ := h2
  exact l_icmp_eq C 1253 dL_law_355 (by decide) (H a1 s1 hW1 (hR1.co hC1))
theorem lc_weight {p : Program} {e : Env} {s : State} {m : MethodId} {below : List Frame} {meth : Method} {c : Code} {b L : Nat} {xs : Nat → Int32} {l : Launch} {D : va_G} {cA : Nat → ClassId} {q q' tb : Nat → Nat} (C : Lw_ p s m meth c b L xs l D cA q q' tb) {i : Nat} (hi : i + 6 ≤ L) (hL : L ≤ 384) (H : Nx_ p e s m below meth c b l D cA q q' i) {a σ : St_} (hW : Wf_ a) (hR : Rm_ a σ) : LG_ p e s m below meth c b l D cA q q' 360 [(0, .ref b), (1, .ref (q 0)), (2, .ref (q' 0)), (3, .int (iI_ i))] [] a σ := by
  obtain ⟨r, b2, hX, hMm⟩ := op_weight (xs (iI_ i + iI_ 1).toNatClampNeg) (xs (iI_ i + iI_ 2).toNatClampNeg) (l, D, cA, q, tb) (l, D, cA, q', tb) a σ hW hR
  refine l_aload_n C dL_law_360 1 rfl rfl ?_
  refine l_aload_n C dL_law_361 0 rfl rfl ?_
  refine l_iload_n C dL_law_362 3 rfl rfl ?_
  refine l_iconst C (v := iI_ 1) dL_law_363 (by decide) ?_
  refine l_iadd C dL_law_364 ?_
  refine l_ld C (ld_in 1 (by omega) hi hL) dL_law_365 ?_
  refine l_aload_n C dL_law_366 0 rfl rfl ?_
  refine l_iload_n C dL_law_367 3 rfl rfl ?_
  refine l_iconst C (v := iI_ 2) dL_law_368 (by decide) ?_
  refine l_iadd C dL_law_369 ?_
  refine l_ld C (ld_in 2 (by omega) hi hL) dL_law_370 ?_
  refine l_callX C (w := mX9_weight) (As := [.int (xs (iI_ i + iI_ 1).toNatClampNeg), .int (xs (iI_ i + iI_ 2).toNatClampNeg)]) (rest := []) 2 w_447 w_448 w_449 w_72 w_450 (by decide +kernel) ⟨Nat.le_of_ble_eq_true rfl, Nat.le_of_ble_eq_true rfl⟩ rfl rfl (Nat.le_of_ble_eq_true rfl) dL_law_371 hX (fun v a1 h1 => ?_)
  obtain ⟨rfl, hW1, hC1⟩ := h1
  refine l_aload_n C dL_law_374 2 rfl rfl ?_
  refine l_aload_n C dL_law_375 0 rfl rfl ?_
  refine l_iload_n C dL_law_376 3 rfl rfl ?_
  refine l_iconst C (v := iI_ 1) dL_law_377 (by decide) ?_
  refine l_iadd C dL_law_378 ?_
  refine l_ld C (ld_in 1 (by omega) hi hL) dL_law_379 ?_
  refine l_aload_n C dL_law_380 0 rfl rfl ?_
  refine l_iload_n C dL_law_381 3 rfl rfl ?_
  refine l_iconst C (v := iI_ 2) dL_law_382 (by decide) ?_
  refine l_iadd C dL_law_383 ?_
  refine l_ld C (ld_in 2 (by omega) hi hL) dL_law_384 ?_
  refine l_callM C (w := mX10_weight) (As := [.int (xs (iI_ i + iI_ 1).toNatClampNeg), .int (xs (iI_ i + iI_ 2).toNatClampNeg)]) (rest := [.int r]) 2 w_1023 w_1024 w_1025 w_83 w_1026 (by decide +kernel) ⟨Nat.le_of_ble_eq_true rfl, Nat.le_of_ble_eq_true rfl⟩ rfl rfl (Nat.le_of_ble_eq_true rfl) dL_law_385 hMm (fun v s1 h2 => ?_)
  obtain ⟨rfl, hR1⟩ := h2
  exact l_icmp_eq C 1253 dL_law_388 (by decide) (H a1 s1 hW1 (hR1.co hC1))
theorem lc_fold {p : Program} {e : Env} {s : State} {m : MethodId} {below : List Frame} {meth : Method} {c : Code} {b L : Nat} {xs : Nat → Int32} {l : Launch} {D : va_G} {cA : Nat → ClassId} {q q' tb : Nat → Nat} (C : Lw_ p s m meth c b L xs l D cA q q' tb) {i : Nat} (hi : i + 6 ≤ L) (hL : L ≤ 384) (H : Nx_ p e s m below meth c b l D cA q q' i) {a σ : St_} (hW : Wf_ a) (hR : Rm_ a σ) : LG_ p e s m below meth c b l D cA q q' 393 [(0, .ref b), (1, .ref (q 0)), (2, .ref (q' 0)), (3, .int (iI_ i))] [] a σ := by
  obtain ⟨r, b2, hX, hMm⟩ := op_fold (xs (iI_ i + iI_ 1).toNatClampNeg) (xs (iI_ i + iI_ 2).toNatClampNeg) (xs (iI_ i + iI_ 3).toNatClampNeg) (l, D, cA, q, tb) (l, D, cA, q', tb) a σ hW hR
  refine l_aload_n C dL_law_393 1 rfl rfl ?_
  refine l_aload_n C dL_law_394 0 rfl rfl ?_
  refine l_iload_n C dL_law_395 3 rfl rfl ?_
  refine l_iconst C (v := iI_ 1) dL_law_396 (by decide) ?_
  refine l_iadd C dL_law_397 ?_
  refine l_ld C (ld_in 1 (by omega) hi hL) dL_law_398 ?_
  refine l_aload_n C dL_law_399 0 rfl rfl ?_
  refine l_iload_n C dL_law_400 3 rfl rfl ?_
  refine l_iconst C (v := iI_ 2) dL_law_401 (by decide) ?_
  refine l_iadd C dL_law_402 ?_
  refine l_ld C (ld_in 2 (by omega) hi hL) dL_law_403 ?_
  refine l_aload_n C dL_law_404 0 rfl rfl ?_
  refine l_iload_n C dL_law_405 3 rfl rfl ?_
  refine l_iconst C (v := iI_ 3) dL_law_406 (by decide) ?_
  refine l_iadd C dL_law_407 ?_
  refine l_ld C (ld_in 3 (by omega) hi hL) dL_law_408 ?_
  refine l_callX C (w := mX9_fold) (As := [.int (xs (iI_ i + iI_ 1).toNatClampNeg), .int (xs (iI_ i + iI_ 2).toNatClampNeg), .int (xs (iI_ i + iI_ 3).toNatClampNeg)]) (rest := []) 3 w_451 w_452 w_453 w_72 w_454 (by decide +kernel) ⟨Nat.le_of_ble_eq_true rfl, Nat.le_of_ble_eq_true rfl⟩ rfl rfl (Nat.le_of_ble_eq_true rfl) dL_law_409 hX (fun v a1 h1 => ?_)
  obtain ⟨rfl, hW1, hC1⟩ := h1
  refine l_aload_n C dL_law_412 2 rfl rfl ?_
  refine l_aload_n C dL_law_413 0 rfl rfl ?_
  refine l_iload_n C dL_law_414 3 rfl rfl ?_
  refine l_iconst C (v := iI_ 1) dL_law_415 (by decide) ?_
  refine l_iadd C dL_law_416 ?_
  refine l_ld C (ld_in 1 (by omega) hi hL) dL_law_417 ?_
  refine l_aload_n C dL_law_418 0 rfl rfl ?_
  refine l_iload_n C dL_law_419 3 rfl rfl ?_
  refine l_iconst C (v := iI_ 2) dL_law_420 (by decide) ?_
  refine l_iadd C dL_law_421 ?_
  refine l_ld C (ld_in 2 (by omega) hi hL) dL_law_422 ?_
  refine l_aload_n C dL_law_423 0 rfl rfl ?_
  refine l_iload_n C dL_law_424 3 rfl rfl ?_
  refine l_iconst C (v := iI_ 3) dL_law_425 (by decide) ?_
  refine l_iadd C dL_law_426 ?_
  refine l_ld C (ld_in 3 (by omega) hi hL) dL_law_427 ?_
  refine l_callM C (w := mX10_fold) (As := [.int (xs (iI_ i + iI_ 1).toNatClampNeg), .int (xs (iI_ i + iI_ 2).toNatClampNeg), .int (xs (iI_ i + iI_ 3).toNatClampNeg)]) (rest := [.int r]) 3 w_1027 w_1028 w_1029 w_83 w_1030 (by decide +kernel) ⟨Nat.le_of_ble_eq_true rfl, Nat.le_of_ble_eq_true rfl⟩ rfl rfl (Nat.le_of_ble_eq_true rfl) dL_law_428 hMm (fun v s1 h2 => ?_)
  obtain ⟨rfl, hR1⟩ := h2
  exact l_icmp_eq C 1253 dL_law_431 (by decide) (H a1 s1 hW1 (hR1.co hC1))
theorem lc_jar {p : Program} {e : Env} {s : State} {m : MethodId} {below : List Frame} {meth : Method} {c : Code} {b L : Nat} {xs : Nat → Int32} {l : Launch} {D : va_G} {cA : Nat → ClassId} {q q' tb : Nat → Nat} (C : Lw_ p s m meth c b L xs l D cA q q' tb) {i : Nat} (hi : i + 6 ≤ L) (hL : L ≤ 384) (H : Nx_ p e s m below meth c b l D cA q q' i) {a σ : St_} (hW : Wf_ a) (hR : Rm_ a σ) : LG_ p e s m below meth c b l D cA q q' 436 [(0, .ref b), (1, .ref (q 0)), (2, .ref (q' 0)), (3, .int (iI_ i))] [] a σ := by
  obtain ⟨r, b2, hX, hMm⟩ := op_jar (xs (iI_ i + iI_ 1).toNatClampNeg) (l, D, cA, q, tb) (l, D, cA, q', tb) a σ hW hR
  refine l_aload_n C dL_law_436 1 rfl rfl ?_
  refine l_aload_n C dL_law_437 0 rfl rfl ?_
  refine l_iload_n C dL_law_438 3 rfl rfl ?_
  refine l_iconst C (v := iI_ 1) dL_law_439 (by decide) ?_
  refine l_iadd C dL_law_440 ?_
  refine l_ld C (ld_in 1 (by omega) hi hL) dL_law_441 ?_
  refine l_callX C (w := mX9_jar) (As := [.int (xs (iI_ i + iI_ 1).toNatClampNeg)]) (rest := []) 1 w_462 w_463 w_464 w_72 w_465 (by decide +kernel) ⟨Nat.le_of_ble_eq_true rfl, Nat.le_of_ble_eq_true rfl⟩ rfl rfl (Nat.le_of_ble_eq_true rfl) dL_law_442 hX (fun v a1 h1 => ?_)
  obtain ⟨rfl, hW1, hC1⟩ := h1
  refine l_aload_n C dL_law_445 2 rfl rfl ?_
  refine l_aload_n C dL_law_446 0 rfl rfl ?_
  refine l_iload_n C dL_law_447 3 rfl rfl ?_
  refine l_iconst C (v := iI_ 1) dL_law_448 (by decide) ?_
  refine l_iadd C dL_law_449 ?_
  refine l_ld C (ld_in 1 (by omega) hi hL) dL_law_450 ?_
  refine l_callM C (w := mX10_jar) (As := [.int (xs (iI_ i + iI_ 1).toNatClampNeg)]) (rest := [.int r]) 1 w_1031 w_1032 w_1033 w_83 w_1034 (by decide +kernel) ⟨Nat.le_of_ble_eq_true rfl, Nat.le_of_ble_eq_true rfl⟩ rfl rfl (Nat.le_of_ble_eq_true rfl) dL_law_451 hMm (fun v s1 h2 => ?_)
  obtain ⟨rfl, hR1⟩ := h2
  exact l_icmp_eq C 1253 dL_law_454 (by decide) (H a1 s1 hW1 (hR1.co hC1))
theorem lc_back {p : Program} {e : Env} {s : State} {m : MethodId} {below : List Frame} {meth : Method} {c : Code} {b L : Nat} {xs : Nat → Int32} {l : Launch} {D : va_G} {cA : Nat → ClassId} {q q' tb : Nat → Nat} (C : Lw_ p s m meth c b L xs l D cA q q' tb) {i : Nat} (hi : i + 6 ≤ L) (hL : L ≤ 384) (H : Nx_ p e s m below meth c b l D cA q q' i) {a σ : St_} (hW : Wf_ a) (hR : Rm_ a σ) : LG_ p e s m below meth c b l D cA q q' 459 [(0, .ref b), (1, .ref (q 0)), (2, .ref (q' 0)), (3, .int (iI_ i))] [] a σ := by
  obtain ⟨r, b2, hX, hMm⟩ := op_back (xs (iI_ i + iI_ 1).toNatClampNeg) (l, D, cA, q, tb) (l, D, cA, q', tb) a σ hW hR
  refine l_aload_n C dL_law_459 1 rfl rfl ?_
  refine l_aload_n C dL_law_460 0 rfl rfl ?_
  refine l_iload_n C dL_law_461 3 rfl rfl ?_
  refine l_iconst C (v := iI_ 1) dL_law_462 (by decide) ?_
  refine l_iadd C dL_law_463 ?_
  refine l_ld C (ld_in 1 (by omega) hi hL) dL_law_464 ?_
  refine l_callX C (w := mX9_back) (As := [.int (xs (iI_ i + iI_ 1).toNatClampNeg)]) (rest := []) 1 w_470 w_471 w_472 w_72 w_473 (by decide +kernel) ⟨Nat.le_of_ble_eq_true rfl, Nat.le_of_ble_eq_true rfl⟩ rfl rfl (Nat.le_of_ble_eq_true rfl) dL_law_465 hX (fun v a1 h1 => ?_)
  obtain ⟨rfl, hW1, hC1⟩ := h1
  refine l_aload_n C dL_law_468 2 rfl rfl ?_
  refine l_aload_n C dL_law_469 0 rfl rfl ?_
  refine l_iload_n C dL_law_470 3 rfl rfl ?_
  refine l_iconst C (v := iI_ 1) dL_law_471 (by decide) ?_
  refine l_iadd C dL_law_472 ?_
  refine l_ld C (ld_in 1 (by omega) hi hL) dL_law_473 ?_
  refine l_callM C (w := mX10_back) (As := [.int (xs (iI_ i + iI_ 1).toNatClampNeg)]) (rest := [.int r]) 1 w_1035 w_1036 w_1037 w_83 w_1038 (by decide +kernel) ⟨Nat.le_of_ble_eq_true rfl, Nat.le_of_ble_eq_true rfl⟩ rfl rfl (Nat.le_of_ble_eq_true rfl) dL_law_474 hMm (fun v s1 h2 => ?_)
  obtain ⟨rfl, hR1⟩ := h2
  exact l_icmp_eq C 1253 dL_law_477 (by decide) (H a1 s1 hW1 (hR1.co hC1))
theorem lc_read {p : Program} {e : Env} {s : State} {m : MethodId} {below : List Frame} {meth : Method} {c : Code} {b L : Nat} {xs : Nat → Int32} {l : Launch} {D : va_G} {cA : Nat → ClassId} {q q' tb : Nat → Nat} (C : Lw_ p s m meth c b L xs l D cA q q' tb) {i : Nat} (hi : i + 6 ≤ L) (hL : L ≤ 384) (H : Nx_ p e s m below meth c b l D cA q q' i) {a σ : St_} (hW : Wf_ a) (hR : Rm_ a σ) : LG_ p e s m below meth c b l D cA q q' 482 [(0, .ref b), (1, .ref (q 0)), (2, .ref (q' 0)), (3, .int (iI_ i))] [] a σ := by
  obtain ⟨r, b2, hX, hMm⟩ := op_read (xs (iI_ i + iI_ 1).toNatClampNeg) (l, D, cA, q, tb) (l, D, cA, q', tb) a σ hW hR
  refine l_aload_n C dL_law_482 1 rfl rfl ?_
  refine l_aload_n C dL_law_483 0 rfl rfl ?_
  refine l_iload_n C dL_law_484 3 rfl rfl ?_
  refine l_iconst C (v := iI_ 1) dL_law_485 (by decide) ?_
  refine l_iadd C dL_law_486 ?_
  refine l_ld C (ld_in 1 (by omega) hi hL) dL_law_487 ?_
  refine l_callX C (w := mX9_read) (As := [.int (xs (iI_ i + iI_ 1).toNatClampNeg)]) (rest := []) 1 w_474 w_475 w_476 w_72 w_477 (by decide +kernel) ⟨Nat.le_of_ble_eq_true rfl, Nat.le_of_ble_eq_true rfl⟩ rfl rfl (Nat.le_of_ble_eq_true rfl) dL_law_488 hX (fun v a1 h1 => ?_)
  obtain ⟨rfl, hW1, hC1⟩ := h1
  refine l_aload_n C dL_law_491 2 rfl rfl ?_
  refine l_aload_n C dL_law_492 0 rfl rfl ?_
  refine l_iload_n C dL_law_493 3 rfl rfl ?_
  refine l_iconst C (v := iI_ 1) dL_law_494 (by decide) ?_
  refine l_iadd C dL_law_495 ?_
  refine l_ld C (ld_in 1 (by omega) hi hL) dL_law_496 ?_
  refine l_callM C (w := mX10_read) (As := [.int (xs (iI_ i + iI_ 1).toNatClampNeg)]) (rest := [.int r]) 1 w_1039 w_1040 w_1041 w_83 w_1042 (by decide +kernel) ⟨Nat.le_of_ble_eq_true rfl, Nat.le_of_ble_eq_true rfl⟩ rfl rfl (Nat.le_of_ble_eq_true rfl) dL_law_497 hMm (fun v s1 h2 => ?_)
  obtain ⟨rfl, hR1⟩ := h2
  exact l_icmp_eq C 1253 dL_law_500 (by decide) (H a1 s1 hW1 (hR1.co hC1))
theorem lc_lies {p : Program} {e : Env} {s : State} {m : MethodId} {below : List Frame} {meth : Method} {c : Code} {b L : Nat} {xs : Nat → Int32} {l : Launch} {D : va_G} {cA : Nat → ClassId} {q q' tb : Nat → Nat} (C : Lw_ p s m meth c b L xs l D cA q q' tb) {i : Nat} (hi : i + 6 ≤ L) (hL : L ≤ 384) (H : Nx_ p e s m below meth c b l D cA q q' i) {a σ : St_} (hW : Wf_ a) (hR : Rm_ a σ) : LG_ p e s m below meth c b l D cA q q' 505 [(0, .ref b), (1, .ref (q 0)), (2, .ref (q' 0)), (3, .int (iI_ i))] [] a σ := by
  obtain ⟨r, b2, hX, hMm⟩ := op_lies (xs (iI_ i + iI_ 1).toNatClampNeg) (xs (iI_ i + iI_ 2).toNatClampNeg) (xs (iI_ i + iI_ 3).toNatClampNeg) (l, D, cA, q, tb) (l, D, cA, q', tb) a σ hW hR
  refine l_aload_n C dL_law_505 1 rfl rfl ?_
  refine l_aload_n C dL_law_506 0 rfl rfl ?_
  refine l_iload_n C dL_law_507 3 rfl rfl ?_
  refine l_iconst C (v := iI_ 1) dL_law_508 (by decide) ?_
  refine l_iadd C dL_law_509 ?_
  refine l_ld C (ld_in 1 (by omega) hi hL) dL_law_510 ?_
  refine l_aload_n C dL_law_511 0 rfl rfl ?_
  refine l_iload_n C dL_law_512 3 rfl rfl ?_
  refine l_iconst C (v := iI_ 2) dL_law_513 (by decide) ?_
  refine l_iadd C dL_law_514 ?_
  refine l_ld C (ld_in 2 (by omega) hi hL) dL_law_515 ?_
  refine l_aload_n C dL_law_516 0 rfl rfl ?_
  refine l_iload_n C dL_law_517 3 rfl rfl ?_
  refine l_iconst C (v := iI_ 3) dL_law_518 (by decide) ?_
  refine l_iadd C dL_law_519 ?_
  refine l_ld C (ld_in 3 (by omega) hi hL) dL_law_520 ?_
  refine l_callX C (w := mX9_lies) (As := [.int (xs (iI_ i + iI_ 1).toNatClampNeg), .int (xs (iI_ i + iI_ 2).toNatClampNeg), .int (xs (iI_ i + iI_ 3).toNatClampNeg)]) (rest := []) 3 w_482 w_483 w_484 w_72 w_485 (by decide +kernel) ⟨Nat.le_of_ble_eq_true rfl, Nat.le_of_ble_eq_true rfl⟩ rfl rfl (Nat.le_of_ble_eq_true rfl) dL_law_521 hX (fun v a1 h1 => ?_)
  obtain ⟨rfl, hW1, hC1⟩ := h1
  refine l_aload_n C dL_law_524 2 rfl rfl ?_
  refine l_aload_n C dL_law_525 0 rfl rfl ?_
  refine l_iload_n C dL_law_526 3 rfl rfl ?_
  refine l_iconst C (v := iI_ 1) dL_law_527 (by decide) ?_
  refine l_iadd C dL_law_528 ?_
  refine l_ld C (ld_in 1 (by omega) hi hL) dL_law_529 ?_
  refine l_aload_n C dL_law_530 0 rfl rfl ?_
  refine l_iload_n C dL_law_531 3 rfl rfl ?_
  refine l_iconst C (v := iI_ 2) dL_law_532 (by decide) ?_
  refine l_iadd C dL_law_533 ?_
  refine l_ld C (ld_in 2 (by omega) hi hL) dL_law_534 ?_
  refine l_aload_n C dL_law_535 0 rfl rfl ?_
  refine l_iload_n C dL_law_536 3 rfl rfl ?_
  refine l_iconst C (v := iI_ 3) dL_law_537 (by decide) ?_
  refine l_iadd C dL_law_538 ?_
  refine l_ld C (ld_in 3 (by omega) hi hL) dL_law_539 ?_
  refine l_callM C (w := mX10_lies) (As := [.int (xs (iI_ i + iI_ 1).toNatClampNeg), .int (xs (iI_ i + iI_ 2).toNatClampNeg), .int (xs (iI_ i + iI_ 3).toNatClampNeg)]) (rest := [.int r]) 3 w_1051 w_1052 w_1053 w_83 w_1054 (by decide +kernel) ⟨Nat.le_of_ble_eq_true rfl, Nat.le_of_ble_eq_true rfl⟩ rfl rfl (Nat.le_of_ble_eq_true rfl) dL_law_540 hMm (fun v s1 h2 => ?_)
  obtain ⟨rfl, hR1⟩ := h2
  exact l_icmp_eq C 1253 dL_law_543 (by decide) (H a1 s1 hW1 (hR1.co hC1))
theorem lc_vote {p : Program} {e : Env} {s : State} {m : MethodId} {below : List Frame} {meth : Method} {c : Code} {b L : Nat} {xs : Nat → Int32} {l : Launch} {D : va_G} {cA : Nat → ClassId} {q q' tb : Nat → Nat} (C : Lw_ p s m meth c b L xs l D cA q q' tb) {i : Nat} (hi : i + 6 ≤ L) (hL : L ≤ 384) (H : Nx_ p e s m below meth c b l D cA q q' i) {a σ : St_} (hW : Wf_ a) (hR : Rm_ a σ) : LG_ p e s m below meth c b l D cA q q' 548 [(0, .ref b), (1, .ref (q 0)), (2, .ref (q' 0)), (3, .int (iI_ i))] [] a σ := by
  obtain ⟨r, b2, hX, hMm⟩ := op_vote (xs (iI_ i + iI_ 1).toNatClampNeg) (xs (iI_ i + iI_ 2).toNatClampNeg) (l, D, cA, q, tb) (l, D, cA, q', tb) a σ hW hR
  refine l_aload_n C dL_law_548 1 rfl rfl ?_
  refine l_aload_n C dL_law_549 0 rfl rfl ?_
  refine l_iload_n C dL_law_550 3 rfl rfl ?_
  refine l_iconst C (v := iI_ 1) dL_law_551 (by decide) ?_
  refine l_iadd C dL_law_552 ?_
  refine l_ld C (ld_in 1 (by omega) hi hL) dL_law_553 ?_
  refine l_aload_n C dL_law_554 0 rfl rfl ?_
  refine l_iload_n C dL_law_555 3 rfl rfl ?_
  refine l_iconst C (v := iI_ 2) dL_law_556 (by decide) ?_
  refine l_iadd C dL_law_557 ?_
  refine l_ld C (ld_in 2 (by omega) hi hL) dL_law_558 ?_
  refine l_callX C (w := mX9_vote) (As := [.int (xs (iI_ i + iI_ 1).toNatClampNeg), .int (xs (iI_ i + iI_ 2).toNatClampNeg)]) (rest := []) 2 w_541 w_542 w_543 w_72 w_544 (by decide +kernel) ⟨Nat.le_of_ble_eq_true rfl, Nat.le_of_ble_eq_true rfl⟩ rfl rfl (Nat.le_of_ble_eq_true rfl) dL_law_559 hX (fun v a1 h1 => ?_)
  obtain ⟨rfl, hW1, hC1⟩ := h1
  refine l_aload_n C dL_law_562 2 rfl rfl ?_
  refine l_aload_n C dL_law_563 0 rfl rfl ?_
  refine l_iload_n C dL_law_564 3 rfl rfl ?_
  refine l_iconst C (v := iI_ 1) dL_law_565 (by decide) ?_
  refine l_iadd C dL_law_566 ?_
  refine l_ld C (ld_in 1 (by omega) hi hL) dL_law_567 ?_
  refine l_aload_n C dL_law_568 0 rfl rfl ?_
  refine l_iload_n C dL_law_569 3 rfl rfl ?_
  refine l_iconst C (v := iI_ 2) dL_law_570 (by decide) ?_
  refine l_iadd C dL_law_571 ?_
  refine l_ld C (ld_in 2 (by omega) hi hL) dL_law_572 ?_
  refine l_callM C (w := mX10_vote) (As := [.int (xs (iI_ i + iI_ 1).toNatClampNeg), .int (xs (iI_ i + iI_ 2).toNatClampNeg)]) (rest := [.int r]) 2 w_1091 w_1092 w_1093 w_83 w_1094 (by decide +kernel) ⟨Nat.le_of_ble_eq_true rfl, Nat.le_of_ble_eq_true rfl⟩ rfl rfl (Nat.le_of_ble_eq_true rfl) dL_law_573 hMm (fun v s1 h2 => ?_)
  obtain ⟨rfl, hR1⟩ := h2
  exact l_icmp_eq C 1253 dL_law_576 (by decide) (H a1 s1 hW1 (hR1.co hC1))
theorem lc_house {p : Program} {e : Env} {s : State} {m : MethodId} {below : List Frame} {meth : Method} {c : Code} {b L : Nat} {xs : Nat → Int32} {l : Launch} {D : va_G} {cA : Nat → ClassId} {q q' tb : Nat → Nat} (C : Lw_ p s m meth c b L xs l D cA q q' tb) {i : Nat} (hi : i + 6 ≤ L) (hL : L ≤ 384) (H : Nx_ p e s m below meth c b l D cA q q' i) {a σ : St_} (hW : Wf_ a) (hR : Rm_ a σ) : LG_ p e s m below meth c b l D cA q q' 581 [(0, .ref b), (1, .ref (q 0)), (2, .ref (q' 0)), (3, .int (iI_ i))] [] a σ := by
  obtain ⟨r, b2, hX, hMm⟩ := op_house (xs (iI_ i + iI_ 1).toNatClampNeg) (l, D, cA, q, tb) (l, D, cA, q', tb) a σ hW hR
  refine l_aload_n C dL_law_581 1 rfl rfl ?_
  refine l_aload_n C dL_law_582 0 rfl rfl ?_
  refine l_iload_n C dL_law_583 3 rfl rfl ?_
  refine l_iconst C (v := iI_ 1) dL_law_584 (by decide) ?_
  refine l_iadd C dL_law_585 ?_
  refine l_ld C (ld_in 1 (by omega) hi hL) dL_law_586 ?_
  refine l_callX C (w := mX9_house) (As := [.int (xs (iI_ i + iI_ 1).toNatClampNeg)]) (rest := []) 1 w_548 w_549 w_550 w_72 w_551 (by decide +kernel) ⟨Nat.le_of_ble_eq_true rfl, Nat.le_of_ble_eq_true rfl⟩ rfl rfl (Nat.le_of_ble_eq_true rfl) dL_law_587 hX (fun v a1 h1 => ?_)
  obtain ⟨rfl, hW1, hC1⟩ := h1
  refine l_aload_n C dL_law_590 2 rfl rfl ?_
  refine l_aload_n C dL_law_591 0 rfl rfl ?_
  refine l_iload_n C dL_law_592 3 rfl rfl ?_
  refine l_iconst C (v := iI_ 1) dL_law_593 (by decide) ?_
  refine l_iadd C dL_law_594 ?_
  refine l_ld C (ld_in 1 (by omega) hi hL) dL_law_595 ?_
  refine l_callM C (w := mX10_house) (As := [.int (xs (iI_ i + iI_ 1).toNatClampNeg)]) (rest := [.int r]) 1 w_1103 w_1104 w_1105 w_83 w_1106 (by decide +kernel) ⟨Nat.le_of_ble_eq_true rfl, Nat.le_of_ble_eq_true rfl⟩ rfl rfl (Nat.le_of_ble_eq_true rfl) dL_law_596 hMm (fun v s1 h2 => ?_)
  obtain ⟨rfl, hR1⟩ := h2
  exact l_icmp_eq C 1253 dL_law_599 (by decide) (H a1 s1 hW1 (hR1.co hC1))
theorem lc_told {p : Program} {e : Env} {s : State} {m : MethodId} {below : List Frame} {meth : Method} {c : Code} {b L : Nat} {xs : Nat → Int32} {l : Launch} {D : va_G} {cA : Nat → ClassId} {q q' tb : Nat → Nat} (C : Lw_ p s m meth c b L xs l D cA q q' tb) {i : Nat} (hi : i + 6 ≤ L) (hL : L ≤ 384) (H : Nx_ p e s m below meth c b l D cA q q' i) {a σ : St_} (hW : Wf_ a) (hR : Rm_ a σ) : LG_ p e s m below meth c b l D cA q q' 604 [(0, .ref b), (1, .ref (q 0)), (2, .ref (q' 0)), (3, .int (iI_ i))] [] a σ := by
  obtain ⟨r, b2, hX, hMm⟩ := op_told (l, D, cA, q, tb) (l, D, cA, q', tb) a σ hW hR
  refine l_aload_n C dL_law_604 1 rfl rfl ?_
  refine l_callX C (w := mX9_told) (As := []) (rest := []) 0 w_559 w_560 w_561 w_72 w_562 (by decide +kernel) ⟨Nat.le_of_ble_eq_true rfl, Nat.le_of_ble_eq_true rfl⟩ rfl rfl (Nat.le_of_ble_eq_true rfl) dL_law_605 hX (fun v a1 h1 => ?_)
  obtain ⟨rfl, hW1, hC1⟩ := h1
  refine l_aload_n C dL_law_608 2 rfl rfl ?_
  refine l_callM C (w := mX10_told) (As := []) (rest := [.int r]) 0 w_1115 w_1116 w_1117 w_83 w_1118 (by decide +kernel) ⟨Nat.le_of_ble_eq_true rfl, Nat.le_of_ble_eq_true rfl⟩ rfl rfl (Nat.le_of_ble_eq_true rfl) dL_law_609 hMm (fun v s1 h2 => ?_)
  obtain ⟨rfl, hR1⟩ := h2
  exact l_icmp_eq C 1253 dL_law_612 (by decide) (H a1 s1 hW1 (hR1.co hC1))
theorem lc_pleased {p : Program} {e : Env} {s : State} {m : MethodId} {below : List Frame} {meth : Method} {c : Code} {b L : Nat} {xs : Nat → Int32} {l : Launch} {D : va_G} {cA : Nat → ClassId} {q q' tb : Nat → Nat} (C : Lw_ p s m meth c b L xs l D cA q q' tb) {i : Nat} (hi : i + 6 ≤ L) (hL : L ≤ 384) (H : Nx_ p e s m below meth c b l D cA q q' i) {a σ : St_} (hW : Wf_ a) (hR : Rm_ a σ) : LG_ p e s m below meth c b l D cA q q' 617 [(0, .ref b), (1, .ref (q 0)), (2, .ref (q' 0)), (3, .int (iI_ i))] [] a σ := by
  obtain ⟨r, b2, hX, hMm⟩ := op_pleased (l, D, cA, q, tb) (l, D, cA, q', tb) a σ hW hR
  refine l_aload_n C dL_law_617 1 rfl rfl ?_
  refine l_callX C (w := mX9_pleased) (As := []) (rest := []) 0 w_563 w_564 w_565 w_72 w_566 (by decide +kernel) ⟨Nat.le_of_ble_eq_true rfl, Nat.le_of_ble_eq_true rfl⟩ rfl rfl (Nat.le_of_ble_eq_true rfl) dL_law_618 hX (fun v a1 h1 => ?_)
  obtain ⟨rfl, hW1, hC1⟩ := h1
  refine l_aload_n C dL_law_621 2 rfl rfl ?_
  refine l_callM C (w := mX10_pleased) (As := []) (rest := [.int r]) 0 w_1123 w_1124 w_1125 w_83 w_1126 (by decide +kernel) ⟨Nat.le_of_ble_eq_true rfl, Nat.le_of_ble_eq_true rfl⟩ rfl rfl (Nat.le_of_ble_eq_true rfl) dL_law_622 hMm (fun v s1 h2 => ?_)
  obtain ⟨rfl, hR1⟩ := h2
  exact l_icmp_eq C 1253 dL_law_625 (by decide) (H a1 s1 hW1 (hR1.co hC1))
theorem lc_lift {p : Program} {e : Env} {s : State} {m : MethodId} {below : List Frame} {meth : Method} {c : Code} {b L : Nat} {xs : Nat → Int32} {l : Launch} {D : va_G} {cA : Nat → ClassId} {q q' tb : Nat → Nat} (C : Lw_ p s m meth c b L xs l D cA q q' tb) {i : Nat} (hi : i + 6 ≤ L) (hL : L ≤ 384) (H : Nx_ p e s m below meth c b l D cA q q' i) {a σ : St_} (hW : Wf_ a) (hR : Rm_ a σ) : LG_ p e s m below meth c b l D cA q q' 630 [(0, .ref b), (1, .ref (q 0)), (2, .ref (q' 0)), (3, .int (iI_ i))] [] a σ := by
  obtain ⟨r, b2, hX, hMm⟩ := op_lift (xs (iI_ i + iI_ 1).toNatClampNeg) (xs (iI_ i + iI_ 2).toNatClampNeg) (l, D, cA, q, tb) (l, D, cA, q', tb) a σ hW hR
  refine l_aload_n C dL_law_630 1 rfl rfl ?_
  refine l_aload_n C dL_law_631 0 rfl rfl ?_
  refine l_iload_n C dL_law_632 3 rfl rfl ?_
  refine l_iconst C (v := iI_ 1) dL_law_633 (by decide) ?_
  refine l_iadd C dL_law_634 ?_
  refine l_ld C (ld_in 1 (by omega) hi hL) dL_law_635 ?_
  refine l_aload_n C dL_law_636 0 rfl rfl ?_
  refine l_iload_n C dL_law_637 3 rfl rfl ?_
  refine l_iconst C (v := iI_ 2) dL_law_638 (by decide) ?_
  refine l_iadd C dL_law_639 ?_
  refine l_ld C (ld_in 2 (by omega) hi hL) dL_law_640 ?_
  refine l_callX C (w := mX9_lift) (As := [.int (xs (iI_ i + iI_ 1).toNatClampNeg), .int (xs (iI_ i + iI_ 2).toNatClampNeg)]) (rest := []) 2 w_568 w_569 w_570 w_72 w_571 (by decide +kernel) ⟨Nat.le_of_ble_eq_true rfl, Nat.le_of_ble_eq_true rfl⟩ rfl rfl (Nat.le_of_ble_eq_true rfl) dL_law_641 hX (fun v a1 h1 => ?_)
  obtain ⟨rfl, hW1, hC1⟩ := h1
  refine l_aload_n C dL_law_644 2 rfl rfl ?_
  refine l_aload_n C dL_law_645 0 rfl rfl ?_
  refine l_iload_n C dL_law_646 3 rfl rfl ?_
  refine l_iconst C (v := iI_ 1) dL_law_647 (by decide) ?_
  refine l_iadd C dL_law_648 ?_
  refine l_ld C (ld_in 1 (by omega) hi hL) dL_law_649 ?_
  refine l_aload_n C dL_law_650 0 rfl rfl ?_
  refine l_iload_n C dL_law_651 3 rfl rfl ?_
  refine l_iconst C (v := iI_ 2) dL_law_652 (by decide) ?_
  refine l_iadd C dL_law_653 ?_
  refine l_ld C (ld_in 2 (by omega) hi hL) dL_law_654 ?_
  refine l_callM C (w := mX10_lift) (As := [.int (xs (iI_ i + iI_ 1).toNatClampNeg), .int (xs (iI_ i + iI_ 2).toNatClampNeg)]) (rest := [.int r]) 2 w_1135 w_1136 w_1137 w_83 w_1138 (by decide +kernel) ⟨Nat.le_of_ble_eq_true rfl, Nat.le_of_ble_eq_true rfl⟩ rfl rfl (Nat.le_of_ble_eq_true rfl) dL_law_655 hMm (fun v s1 h2 => ?_)
  obtain ⟨rfl, hR1⟩ := h2
  exact l_icmp_eq C 1253 dL_law_658 (by decide) (H a1 s1 hW1 (hR1.co hC1))
theorem lc_agenda {p : Program} {e : Env} {s : State} {m : MethodId} {below : List Frame} {meth : Method} {c : Code} {b L : Nat} {xs : Nat → Int32} {l : Launch} {D : va_G} {cA : Nat → ClassId} {q q' tb : Nat → Nat} (C : Lw_ p s m meth c b L xs l D cA q q' tb) {i : Nat} (hi : i + 6 ≤ L) (hL : L ≤ 384) (H : Nx_ p e s m below meth c b l D cA q q' i) {a σ : St_} (hW : Wf_ a) (hR : Rm_ a σ) : LG_ p e s m below meth c b l D cA q q' 663 [(0, .ref b), (1, .ref (q 0)), (2, .ref (q' 0)), (3, .int (iI_ i))] [] a σ := by
  obtain ⟨r, b2, hX, hMm⟩ := op_agenda (xs (iI_ i + iI_ 1).toNatClampNeg) (l, D, cA, q, tb) (l, D, cA, q', tb) a σ hW hR
  refine l_aload_n C dL_law_663 1 rfl rfl ?_
  refine l_aload_n C dL_law_664 0 rfl rfl ?_
  refine l_iload_n C dL_law_665 3 rfl rfl ?_
  refine l_iconst C (v := iI_ 1) dL_law_666 (by decide) ?_
  refine l_iadd C dL_law_667 ?_
  refine l_ld C (ld_in 1 (by omega) hi hL) dL_law_668 ?_
  refine l_callX C (w := mX9_agenda) (As := [.int (xs (iI_ i + iI_ 1).toNatClampNeg)]) (rest := []) 1 w_588 w_589 w_590 w_72 w_591 (by decide +kernel) ⟨Nat.le_of_ble_eq_true rfl, Nat.le_of_ble_eq_true rfl⟩ rfl rfl (Nat.le_of_ble_eq_true rfl) dL_law_669 hX (fun v a1 h1 => ?_)
  obtain ⟨rfl, hW1, hC1⟩ := h1
  refine l_aload_n C dL_law_672 2 rfl rfl ?_
  refine l_aload_n C dL_law_673 0 rfl rfl ?_
  refine l_iload_n C dL_law_674 3 rfl rfl ?_
  refine l_iconst C (v := iI_ 1) dL_law_675 (by decide) ?_
  refine l_iadd C dL_law_676 ?_
  refine l_ld C (ld_in 1 (by omega) hi hL) dL_law_677 ?_
  refine l_callM C (w := mX10_agenda) (As := [.int (xs (iI_ i + iI_ 1).toNatClampNeg)]) (rest := [.int r]) 1 w_1151 w_1152 w_1153 w_83 w_1154 (by decide +kernel) ⟨Nat.le_of_ble_eq_true rfl, Nat.le_of_ble_eq_true rfl⟩ rfl rfl (Nat.le_of_ble_eq_true rfl) dL_law_678 hMm (fun v s1 h2 => ?_)
  obtain ⟨rfl, hR1⟩ := h2
  exact l_icmp_eq C 1253 dL_law_681 (by decide) (H a1 s1 hW1 (hR1.co hC1))
theorem lc_power {p : Program} {e : Env} {s : State} {m : MethodId} {below : List Frame} {meth : Method} {c : Code} {b L : Nat} {xs : Nat → Int32} {l : Launch} {D : va_G} {cA : Nat → ClassId} {q q' tb : Nat → Nat} (C : Lw_ p s m meth c b L xs l D cA q q' tb) {i : Nat} (hi : i + 6 ≤ L) (hL : L ≤ 384) (H : Nx_ p e s m below meth c b l D cA q q' i) {a σ : St_} (hW : Wf_ a) (hR : Rm_ a σ) : LG_ p e s m below meth c b l D cA q q' 686 [(0, .ref b), (1, .ref (q 0)), (2, .ref (q' 0)), (3, .int (iI_ i))] [] a σ := by
  obtain ⟨r, b2, hX, hMm⟩ := op_power (xs (iI_ i + iI_ 1).toNatClampNeg) (xs (iI_ i + iI_ 2).toNatClampNeg) (l, D, cA, q, tb) (l, D, cA, q', tb) a σ hW hR
  refine l_aload_n C dL_law_686 1 rfl rfl ?_
  refine l_aload_n C dL_law_687 0 rfl rfl ?_
  refine l_iload_n C dL_law_688 3 rfl rfl ?_
  refine l_iconst C (v := iI_ 1) dL_law_689 (by decide) ?_
  refine l_iadd C dL_law_690 ?_
  refine l_ld C (ld_in 1 (by omega) hi hL) dL_law_691 ?_
  refine l_aload_n C dL_law_692 0 rfl rfl ?_
  refine l_iload_n C dL_law_693 3 rfl rfl ?_
  refine l_iconst C (v := iI_ 2) dL_law_694 (by decide) ?_
  refine l_iadd C dL_law_695 ?_
  refine l_ld C (ld_in 2 (by omega) hi hL) dL_law_696 ?_
  refine l_callX C (w := mX9_power) (As := [.int (xs (iI_ i + iI_ 1).toNatClampNeg), .int (xs (iI_ i + iI_ 2).toNatClampNeg)]) (rest := []) 2 w_605 w_606 w_607 w_72 w_608 (by decide +kernel) ⟨Nat.le_of_ble_eq_true rfl, Nat.le_of_ble_eq_true rfl⟩ rfl rfl (Nat.le_of_ble_eq_true rfl) dL_law_697 hX (fun v a1 h1 => ?_)
  obtain ⟨rfl, hW1, hC1⟩ := h1
  refine l_aload_n C dL_law_700 2 rfl rfl ?_
  refine l_aload_n C dL_law_701 0 rfl rfl ?_
  refine l_iload_n C dL_law_702 3 rfl rfl ?_
  refine l_iconst C (v := iI_ 1) dL_law_703 (by decide) ?_
  refine l_iadd C dL_law_704 ?_
  refine l_ld C (ld_in 1 (by omega) hi hL) dL_law_705 ?_
  refine l_aload_n C dL_law_706 0 rfl rfl ?_
  refine l_iload_n C dL_law_707 3 rfl rfl ?_
  refine l_iconst C (v := iI_ 2) dL_law_708 (by decide) ?_
  refine l_iadd C dL_law_709 ?_
  refine l_ld C (ld_in 2 (by omega) hi hL) dL_law_710 ?_
  refine l_callM C (w := mX10_power) (As := [.int (xs (iI_ i + iI_ 1).toNatClampNeg), .int (xs (iI_ i + iI_ 2).toNatClampNeg)]) (rest := [.long r]) 2 w_1163 w_1164 w_1165 w_83 w_1166 (by decide +kernel) ⟨Nat.le_of_ble_eq_true rfl, Nat.le_of_ble_eq_true rfl⟩ rfl rfl (Nat.le_of_ble_eq_true rfl) dL_law_711 hMm (fun v s1 h2 => ?_)
  obtain ⟨rfl, hR1⟩ := h2
  exact l_lcmp_eq C 1253 dL_law_714 dL_law_715 (by decide) (H a1 s1 hW1 (hR1.co hC1))
theorem lc_ring {p : Program} {e : Env} {s : State} {m : MethodId} {below : List Frame} {meth : Method} {c : Code} {b L : Nat} {xs : Nat → Int32} {l : Launch} {D : va_G} {cA : Nat → ClassId} {q q' tb : Nat → Nat} (C : Lw_ p s m meth c b L xs l D cA q q' tb) {i : Nat} (hi : i + 6 ≤ L) (hL : L ≤ 384) (H : Nx_ p e s m below meth c b l D cA q q' i) {a σ : St_} (hW : Wf_ a) (hR : Rm_ a σ) : LG_ p e s m below meth c b l D cA q q' 720 [(0, .ref b), (1, .ref (q 0)), (2, .ref (q' 0)), (3, .int (iI_ i))] [] a σ := by
  obtain ⟨r, b2, hX, hMm⟩ := op_ring (l, D, cA, q, tb) (l, D, cA, q', tb) a σ hW hR
  refine l_aload_n C dL_law_720 1 rfl rfl ?_
  refine l_callX C (w := mX9_ring) (As := []) (rest := []) 0 w_642 w_643 w_644 w_72 w_645 (by decide +kernel) ⟨Nat.le_of_ble_eq_true rfl, Nat.le_of_ble_eq_true rfl⟩ rfl rfl (Nat.le_of_ble_eq_true rfl) dL_law_721 hX (fun v a1 h1 => ?_)
  obtain ⟨rfl, hW1, hC1⟩ := h1
  refine l_aload_n C dL_law_724 2 rfl rfl ?_
  refine l_callM C (w := mX10_ring) (As := []) (rest := [.int r]) 0 w_1185 w_1186 w_1187 w_83 w_1188 (by decide +kernel) ⟨Nat.le_of_ble_eq_true rfl, Nat.le_of_ble_eq_true rfl⟩ rfl rfl (Nat.le_of_ble_eq_true rfl) dL_law_725 hMm (fun v s1 h2 => ?_)
  obtain ⟨rfl, hR1⟩ := h2
  exact l_icmp_eq C 1253 dL_law_728 (by decide) (H a1 s1 hW1 (hR1.co hC1))
theorem lc_sham {p : Program} {e : Env} {s : State} {m : MethodId} {below : List Frame} {meth : Method} {c : Code} {b L : Nat} {xs : Nat → Int32} {l : Launch} {D : va_G} {cA : Nat → ClassId} {q q' tb : Nat → Nat} (C : Lw_ p s m meth c b L xs l D cA q q' tb) {i : Nat} (hi : i + 6 ≤ L) (hL : L ≤ 384) (H : Nx_ p e s m below meth c b l D cA q q' i) {a σ : St_} (hW : Wf_ a) (hR : Rm_ a σ) : LG_ p e s m below meth c b l D cA q q' 733 [(0, .ref b), (1, .ref (q 0)), (2, .ref (q' 0)), (3, .int (iI_ i))] [] a σ := by
  obtain ⟨r, b2, hX, hMm⟩ := op_sham (xs (iI_ i + iI_ 1).toNatClampNeg) (xs (iI_ i + iI_ 2).toNatClampNeg) (l, D, cA, q, tb) (l, D, cA, q', tb) a σ hW hR
  refine l_aload_n C dL_law_733 1 rfl rfl ?_
  refine l_aload_n C dL_law_734 0 rfl rfl ?_
  refine l_iload_n C dL_law_735 3 rfl rfl ?_
  refine l_iconst C (v := iI_ 1) dL_law_736 (by decide) ?_
  refine l_iadd C dL_law_737 ?_
  refine l_ld C (ld_in 1 (by omega) hi hL) dL_law_738 ?_
  refine l_aload_n C dL_law_739 0 rfl rfl ?_
  refine l_iload_n C dL_law_740 3 rfl rfl ?_
  refine l_iconst C (v := iI_ 2) dL_law_741 (by decide) ?_
  refine l_iadd C dL_law_742 ?_
  refine l_ld C (ld_in 2 (by omega) hi hL) dL_law_743 ?_
  refine l_callX C (w := mX9_sham) (As := [.int (xs (iI_ i + iI_ 1).toNatClampNeg), .int (xs (iI_ i + iI_ 2).toNatClampNeg)]) (rest := []) 2 w_651 w_652 w_653 w_72 w_654 (by decide +kernel) ⟨Nat.le_of_ble_eq_true rfl, Nat.le_of_ble_eq_true rfl⟩ rfl rfl (Nat.le_of_ble_eq_true rfl) dL_law_744 hX (fun v a1 h1 => ?_)
  obtain ⟨rfl, hW1, hC1⟩ := h1
  refine l_aload_n C dL_law_747 2 rfl rfl ?_
  refine l_aload_n C dL_law_748 0 rfl rfl ?_
  refine l_iload_n C dL_law_749 3 rfl rfl ?_
  refine l_iconst C (v := iI_ 1) dL_law_750 (by decide) ?_
  refine l_iadd C dL_law_751 ?_
  refine l_ld C (ld_in 1 (by omega) hi hL) dL_law_752 ?_
  refine l_aload_n C dL_law_753 0 rfl rfl ?_
  refine l_iload_n C dL_law_754 3 rfl rfl ?_
  refine l_iconst C (v := iI_ 2) dL_law_755 (by decide) ?_
  refine l_iadd C dL_law_756 ?_
  refine l_ld C (ld_in 2 (by omega) hi hL) dL_law_757 ?_
  refine l_callM C (w := mX10_sham) (As := [.int (xs (iI_ i + iI_ 1).toNatClampNeg), .int (xs (iI_ i + iI_ 2).toNatClampNeg)]) (rest := [.int r]) 2 w_1197 w_1198 w_1199 w_83 w_1200 (by decide +kernel) ⟨Nat.le_of_ble_eq_true rfl, Nat.le_of_ble_eq_true rfl⟩ rfl rfl (Nat.le_of_ble_eq_true rfl) dL_law_758 hMm (fun v s1 h2 => ?_)
  obtain ⟨rfl, hR1⟩ := h2
  exact l_icmp_eq C 1253 dL_law_761 (by decide) (H a1 s1 hW1 (hR1.co hC1))
theorem lc_seen {p : Program} {e : Env} {s : State} {m : MethodId} {below : List Frame} {meth : Method} {c : Code} {b L : Nat} {xs : Nat → Int32} {l : Launch} {D : va_G} {cA : Nat → ClassId} {q q' tb : Nat → Nat} (C : Lw_ p s m meth c b L xs l D cA q q' tb) {i : Nat} (hi : i + 6 ≤ L) (hL : L ≤ 384) (H : Nx_ p e s m below meth c b l D cA q q' i) {a σ : St_} (hW : Wf_ a) (hR : Rm_ a σ) : LG_ p e s m below meth c b l D cA q q' 766 [(0, .ref b), (1, .ref (q 0)), (2, .ref (q' 0)), (3, .int (iI_ i))] [] a σ := by
  obtain ⟨r, b2, hX, hMm⟩ := op_seen (xs (iI_ i + iI_ 1).toNatClampNeg) (xs (iI_ i + iI_ 2).toNatClampNeg) (l, D, cA, q, tb) (l, D, cA, q', tb) a σ hW hR
  refine l_aload_n C dL_law_766 1 rfl rfl ?_
  refine l_aload_n C dL_law_767 0 rfl rfl ?_
  refine l_iload_n C dL_law_768 3 rfl rfl ?_
  refine l_iconst C (v := iI_ 1) dL_law_769 (by decide) ?_
  refine l_iadd C dL_law_770 ?_
  refine l_ld C (ld_in 1 (by omega) hi hL) dL_law_771 ?_
  refine l_aload_n C dL_law_772 0 rfl rfl ?_
  refine l_iload_n C dL_law_773 3 rfl rfl ?_
  refine l_iconst C (v := iI_ 2) dL_law_774 (by decide) ?_
  refine l_iadd C dL_law_775 ?_
  refine l_ld C (ld_in 2 (by omega) hi hL) dL_law_776 ?_
  refine l_callX C (w := mX9_seen) (As := [.int (xs (iI_ i + iI_ 1).toNatClampNeg), .int (xs (iI_ i + iI_ 2).toNatClampNeg)]) (rest := []) 2 w_656 w_657 w_658 w_72 w_659 (by decide +kernel) ⟨Nat.le_of_ble_eq_true rfl, Nat.le_of_ble_eq_true rfl⟩ rfl rfl (Nat.le_of_ble_eq_true rfl) dL_law_777 hX (fun v a1 h1 => ?_)
  obtain ⟨rfl, hW1, hC1⟩ := h1
  refine l_aload_n C dL_law_780 2 rfl rfl ?_
  refine l_aload_n C dL_law_781 0 rfl rfl ?_
  refine l_iload_n C dL_law_782 3 rfl rfl ?_
  refine l_iconst C (v := iI_ 1) dL_law_783 (by decide) ?_
  refine l_iadd C dL_law_784 ?_
  refine l_ld C (ld_in 1 (by omega) hi hL) dL_law_785 ?_
  refine l_aload_n C dL_law_786 0 rfl rfl ?_
  refine l_iload_n C dL_law_787 3 rfl rfl ?_
  refine l_iconst C (v := iI_ 2) dL_law_788 (by decide) ?_
  refine l_iadd C dL_law_789 ?_
  refine l_ld C (ld_in 2 (by omega) hi hL) dL_law_790 ?_
  refine l_callM C (w := mX10_seen) (As := [.int (xs (iI_ i + iI_ 1).toNatClampNeg), .int (xs (iI_ i + iI_ 2).toNatClampNeg)]) (rest := [.int r]) 2 w_1205 w_1206 w_1207 w_83 w_1208 (by decide +kernel) ⟨Nat.le_of_ble_eq_true rfl, Nat.le_of_ble_eq_true rfl⟩ rfl rfl (Nat.le_of_ble_eq_true rfl) dL_law_791 hMm (fun v s1 h2 => ?_)
  obtain ⟨rfl, hR1⟩ := h2
  exact l_icmp_eq C 1253 dL_law_794 (by decide) (H a1 s1 hW1 (hR1.co hC1))
theorem lc_forget {p : Program} {e : Env} {s : State} {m : MethodId} {below : List Frame} {meth : Method} {c : Code} {b L : Nat} {xs : Nat → Int32} {l : Launch} {D : va_G} {cA : Nat → ClassId} {q q' tb : Nat → Nat} (C : Lw_ p s m meth c b L xs l D cA q q' tb) {i : Nat} (hi : i + 6 ≤ L) (hL : L ≤ 384) (H : Nx_ p e s m below meth c b l D cA q q' i) {a σ : St_} (hW : Wf_ a) (hR : Rm_ a σ) : LG_ p e s m below meth c b l D cA q q' 799 [(0, .ref b), (1, .ref (q 0)), (2, .ref (q' 0)), (3, .int (iI_ i))] [] a σ := by
  obtain ⟨r, b2, hX, hMm⟩ := op_forget (l, D, cA, q, tb) (l, D, cA, q', tb) a σ hW hR
  refine l_aload_n C dL_law_799 1 rfl rfl ?_
  refine l_callX C (w := mX9_forget) (As := []) (rest := []) 0 w_664 w_665 w_666 w_72 w_667 (by decide +kernel) ⟨Nat.le_of_ble_eq_true rfl, Nat.le_of_ble_eq_true rfl⟩ rfl rfl (Nat.le_of_ble_eq_true rfl) dL_law_800 hX (fun v a1 h1 => ?_)
  obtain ⟨rfl, hW1, hC1⟩ := h1
  refine l_aload_n C dL_law_803 2 rfl rfl ?_
  refine l_callM C (w := mX10_forget) (As := []) (rest := [.int r]) 0 w_1209 w_1210 w_1211 w_83 w_1212 (by decide +kernel) ⟨Nat.le_of_ble_eq_true rfl, Nat.le_of_ble_eq_true rfl⟩ rfl rfl (Nat.le_of_ble_eq_true rfl) dL_law_804 hMm (fun v s1 h2 => ?_)
  obtain ⟨rfl, hR1⟩ := h2
  exact l_icmp_eq C 1253 dL_law_807 (by decide) (H a1 s1 hW1 (hR1.co hC1))
theorem lc_never {p : Program} {e : Env} {s : State} {m : MethodId} {below : List Frame} {meth : Method} {c : Code} {b L : Nat} {xs : Nat → Int32} {l : Launch} {D : va_G} {cA : Nat → ClassId} {q q' tb : Nat → Nat} (C : Lw_ p s m meth c b L xs l D cA q q' tb) {i : Nat} (hi : i + 6 ≤ L) (hL : L ≤ 384) (H : Nx_ p e s m below meth c b l D cA q q' i) {a σ : St_} (hW : Wf_ a) (hR : Rm_ a σ) : LG_ p e s m below meth c b l D cA q q' 812 [(0, .ref b), (1, .ref (q 0)), (2, .ref (q' 0)), (3, .int (iI_ i))] [] a σ := by
  obtain ⟨r, b2, hX, hMm⟩ := op_never (l, D, cA, q, tb) (l, D, cA, q', tb) a σ hW hR
  refine l_aload_n C dL_law_812 1 rfl rfl ?_
  refine l_callX C (w := mX9_never) (As := []) (rest := []) 0 w_668 w_669 w_670 w_72 w_671 (by decide +kernel) ⟨Nat.le_of_ble_eq_true rfl, Nat.le_of_ble_eq_true rfl⟩ rfl rfl (Nat.le_of_ble_eq_true rfl) dL_law_813 hX (fun v a1 h1 => ?_)
  obtain ⟨rfl, hW1, hC1⟩ := h1
  refine l_aload_n C dL_law_816 2 rfl rfl ?_
  refine l_callM C (w := mX10_never) (As := []) (rest := [.int r]) 0 w_1213 w_1214 w_1215 w_83 w_1216 (by decide +kernel) ⟨Nat.le_of_ble_eq_true rfl, Nat.le_of_ble_eq_true rfl⟩ rfl rfl (Nat.le_of_ble_eq_true rfl) dL_law_817 hMm (fun v s1 h2 => ?_)
  obtain ⟨rfl, hR1⟩ := h2
  exact l_icmp_eq C 1253 dL_law_820 (by decide) (H a1 s1 hW1 (hR1.co hC1))
theorem lc_would {p : Program} {e : Env} {s : State} {m : MethodId} {below : List Frame} {meth : Method} {c : Code} {b L : Nat} {xs : Nat → Int32} {l : Launch} {D : va_G} {cA : Nat → ClassId} {q q' tb : Nat → Nat} (C : Lw_ p s m meth c b L xs l D cA q q' tb) {i : Nat} (hi : i + 6 ≤ L) (hL : L ≤ 384) (H : Nx_ p e s m below meth c b l D cA q q' i) {a σ : St_} (hW : Wf_ a) (hR : Rm_ a σ) : LG_ p e s m below meth c b l D cA q q' 825 [(0, .ref b), (1, .ref (q 0)), (2, .ref (q' 0)), (3, .int (iI_ i))] [] a σ := by
  obtain ⟨r, b2, hX, hMm⟩ := op_would (xs (iI_ i + iI_ 1).toNatClampNeg) (l, D, cA, q, tb) (l, D, cA, q', tb) a σ hW hR
  refine l_aload_n C dL_law_825 1 rfl rfl ?_
  refine l_aload_n C dL_law_826 0 rfl rfl ?_
  refine l_iload_n C dL_law_827 3 rfl rfl ?_
  refine l_iconst C (v := iI_ 1) dL_law_828 (by decide) ?_
  refine l_iadd C dL_law_829 ?_
  refine l_ld C (ld_in 1 (by omega) hi hL) dL_law_830 ?_
  refine l_callX C (w := mX9_would) (As := [.int (xs (iI_ i + iI_ 1).toNatClampNeg)]) (rest := []) 1 w_676 w_677 w_678 w_72 w_679 (by decide +kernel) ⟨Nat.le_of_ble_eq_true rfl, Nat.le_of_ble_eq_true rfl⟩ rfl rfl (Nat.le_of_ble_eq_true rfl) dL_law_831 hX (fun v a1 h1 => ?_)
  obtain ⟨rfl, hW1, hC1⟩ := h1
  refine l_aload_n C dL_law_834 2 rfl rfl ?_
  refine l_aload_n C dL_law_835 0 rfl rfl ?_
  refine l_iload_n C dL_law_836 3 rfl rfl ?_
  refine l_iconst C (v := iI_ 1) dL_law_837 (by decide) ?_
  refine l_iadd C dL_law_838 ?_
  refine l_ld C (ld_in 1 (by omega) hi hL) dL_law_839 ?_
  refine l_callM C (w := mX10_would) (As := [.int (xs (iI_ i + iI_ 1).toNatClampNeg)]) (rest := [.int r]) 1 w_1225 w_1226 w_1227 w_83 w_1228 (by decide +kernel) ⟨Nat.le_of_ble_eq_true rfl, Nat.le_of_ble_eq_true rfl⟩ rfl rfl (Nat.le_of_ble_eq_true rfl) dL_law_840 hMm (fun v s1 h2 => ?_)
  obtain ⟨rfl, hR1⟩ := h2
  exact l_icmp_eq C 1253 dL_law_843 (by decide) (H a1 s1 hW1 (hR1.co hC1))
theorem lc_ask {p : Program} {e : Env} {s : State} {m : MethodId} {below : List Frame} {meth : Method} {c : Code} {b L : Nat} {xs : Nat → Int32} {l : Launch} {D : va_G} {cA : Nat → ClassId} {q q' tb : Nat → Nat} (C : Lw_ p s m meth c b L xs l D cA q q' tb) {i : Nat} (hi : i + 6 ≤ L) (hL : L ≤ 384) (H : Nx_ p e s m below meth c b l D cA q q' i) {a σ : St_} (hW : Wf_ a) (hR : Rm_ a σ) : LG_ p e s m below meth c b l D cA q q' 848 [(0, .ref b), (1, .ref (q 0)), (2, .ref (q' 0)), (3, .int (iI_ i))] [] a σ := by
  obtain ⟨r, b2, hX, hMm⟩ := op_ask (xs (iI_ i + iI_ 1).toNatClampNeg) (l, D, cA, q, tb) (l, D, cA, q', tb) a σ hW hR
  refine l_aload_n C dL_law_848 1 rfl rfl ?_
  refine l_aload_n C dL_law_849 0 rfl rfl ?_
  refine l_iload_n C dL_law_850 3 rfl rfl ?_
  refine l_iconst C (v := iI_ 1) dL_law_851 (by decide) ?_
  refine l_iadd C dL_law_852 ?_
  refine l_ld C (ld_in 1 (by omega) hi hL) dL_law_853 ?_
  refine l_callX C (w := mX9_ask) (As := [.int (xs (iI_ i + iI_ 1).toNatClampNeg)]) (rest := []) 1 w_688 w_689 w_690 w_72 w_691 (by decide +kernel) ⟨Nat.le_of_ble_eq_true rfl, Nat.le_of_ble_eq_true rfl⟩ rfl rfl (Nat.le_of_ble_eq_true rfl) dL_law_854 hX (fun v a1 h1 => ?_)
  obtain ⟨rfl, hW1, hC1⟩ := h1
  refine l_aload_n C dL_law_857 2 rfl rfl ?_
  refine l_aload_n C dL_law_858 0 rfl rfl ?_
  refine l_iload_n C dL_law_859 3 rfl rfl ?_
  refine l_iconst C (v := iI_ 1) dL_law_860 (by decide) ?_
  refine l_iadd C dL_law_861 ?_
  refine l_ld C (ld_in 1 (by omega) hi hL) dL_law_862 ?_
  refine l_callM C (w := mX10_ask) (As := [.int (xs (iI_ i + iI_ 1).toNatClampNeg)]) (rest := [.int r]) 1 w_1237 w_1238 w_1239 w_83 w_1240 (by decide +kernel) ⟨Nat.le_of_ble_eq_true rfl, Nat.le_of_ble_eq_true rfl⟩ rfl rfl (Nat.le_of_ble_eq_true rfl) dL_law_863 hMm (fun v s1 h2 => ?_)
  obtain ⟨rfl, hR1⟩ := h2
  exact l_icmp_eq C 1253 dL_law_866 (by decide) (H a1 s1 hW1 (hR1.co hC1))
theorem lc_ajar {p : Program} {e : Env} {s : State} {m : MethodId} {below : List Frame} {meth : Method} {c : Code} {b L : Nat} {xs : Nat → Int32} {l : Launch} {D : va_G} {cA : Nat → ClassId} {q q' tb : Nat → Nat} (C : Lw_ p s m meth c b L xs l D cA q q' tb) {i : Nat} (hi : i + 6 ≤ L) (hL : L ≤ 384) (H : Nx_ p e s m below meth c b l D cA q q' i) {a σ : St_} (hW : Wf_ a) (hR : Rm_ a σ) : LG_ p e s m below meth c b l D cA q q' 871 [(0, .ref b), (1, .ref (q 0)), (2, .ref (q' 0)), (3, .int (iI_ i))] [] a σ := by
  obtain ⟨r, b2, hX, hMm⟩ := op_ajar (xs (iI_ i + iI_ 1).toNatClampNeg) (xs (iI_ i + iI_ 2).toNatClampNeg) (xs (iI_ i + iI_ 3).toNatClampNeg) (xs (iI_ i + iI_ 4).toNatClampNeg) (xs (iI_ i + iI_ 5).toNatClampNeg) (l, D, cA, q, tb) (l, D, cA, q', tb) a σ hW hR
  refine l_aload_n C dL_law_871 1 rfl rfl ?_
  refine l_aload_n C dL_law_872 0 rfl rfl ?_
  refine l_iload_n C dL_law_873 3 rfl rfl ?_
  refine l_iconst C (v := iI_ 1) dL_law_874 (by decide) ?_
  refine l_iadd C dL_law_875 ?_
  refine l_ld C (ld_in 1 (by omega) hi hL) dL_law_876 ?_
  refine l_aload_n C dL_law_877 0 rfl rfl ?_
  refine l_iload_n C dL_law_878 3 rfl rfl ?_
  refine l_iconst C (v := iI_ 2) dL_law_879 (by decide) ?_
  refine l_iadd C dL_law_880 ?_
  refine l_ld C (ld_in 2 (by omega) hi hL) dL_law_881 ?_
  refine l_aload_n C dL_law_882 0 rfl rfl ?_
  refine l_iload_n C dL_law_883 3 rfl rfl ?_
  refine l_iconst C (v := iI_ 3) dL_law_884 (by decide) ?_
  refine l_iadd C dL_law_885 ?_
  refine l_ld C (ld_in 3 (by omega) hi hL) dL_law_886 ?_
  refine l_aload_n C dL_law_887 0 rfl rfl ?_
  refine l_iload_n C dL_law_888 3 rfl rfl ?_
  refine l_iconst C (v := iI_ 4) dL_law_889 (by decide) ?_
  refine l_iadd C dL_law_890 ?_
  refine l_ld C (ld_in 4 (by omega) hi hL) dL_law_891 ?_
  refine l_aload_n C dL_law_892 0 rfl rfl ?_
  refine l_iload_n C dL_law_893 3 rfl rfl ?_
  refine l_iconst C (v := iI_ 5) dL_law_894 (by decide) ?_
  refine l_iadd C dL_law_895 ?_
  refine l_ld C (ld_in 5 (by omega) hi hL) dL_law_896 ?_
  refine l_callX C (w := mX9_ajar) (As := [.int (xs (iI_ i + iI_ 1).toNatClampNeg), .int (xs (iI_ i + iI_ 2).toNatClampNeg), .int (xs (iI_ i + iI_ 3).toNatClampNeg), .int (xs (iI_ i + iI_ 4).toNatClampNeg), .int (xs (iI_ i + iI_ 5).toNatClampNeg)]) (rest := []) 5 w_701 w_702 w_703 w_72 w_704 (by decide +kernel) ⟨Nat.le_of_ble_eq_true rfl, Nat.le_of_ble_eq_true rfl⟩ rfl rfl (Nat.le_of_ble_eq_true rfl) dL_law_897 hX (fun v a1 h1 => ?_)
  obtain ⟨rfl, hW1, hC1⟩ := h1
  refine l_aload_n C dL_law_900 2 rfl rfl ?_
  refine l_aload_n C dL_law_901 0 rfl rfl ?_
  refine l_iload_n C dL_law_902 3 rfl rfl ?_
  refine l_iconst C (v := iI_ 1) dL_law_903 (by decide) ?_
  refine l_iadd C dL_law_904 ?_
  refine l_ld C (ld_in 1 (by omega) hi hL) dL_law_905 ?_
  refine l_aload_n C dL_law_906 0 rfl rfl ?_
  refine l_iload_n C dL_law_907 3 rfl rfl ?_
  refine l_iconst C (v := iI_ 2) dL_law_908 (by decide) ?_
  refine l_iadd C dL_law_909 ?_
  refine l_ld C (ld_in 2 (by omega) hi hL) dL_law_910 ?_
  refine l_aload_n C dL_law_911 0 rfl rfl ?_
  refine l_iload_n C dL_law_912 3 rfl rfl ?_
  refine l_iconst C (v := iI_ 3) dL_law_913 (by decide) ?_
  refine l_iadd C dL_law_914 ?_
  refine l_ld C (ld_in 3 (by omega) hi hL) dL_law_915 ?_
  refine l_aload_n C dL_law_916 0 rfl rfl ?_
  refine l_iload_n C dL_law_917 3 rfl rfl ?_
  refine l_iconst C (v := iI_ 4) dL_law_918 (by decide) ?_
  refine l_iadd C dL_law_919 ?_
  refine l_ld C (ld_in 4 (by omega) hi hL) dL_law_920 ?_
  refine l_aload_n C dL_law_921 0 rfl rfl ?_
  refine l_iload_n C dL_law_922 3 rfl rfl ?_
  refine l_iconst C (v := iI_ 5) dL_law_923 (by decide) ?_
  refine l_iadd C dL_law_924 ?_
  refine l_ld C (ld_in 5 (by omega) hi hL) dL_law_925 ?_
  refine l_callM C (w := mX10_ajar) (As := [.int (xs (iI_ i + iI_ 1).toNatClampNeg), .int (xs (iI_ i + iI_ 2).toNatClampNeg), .int (xs (iI_ i + iI_ 3).toNatClampNeg), .int (xs (iI_ i + iI_ 4).toNatClampNeg), .int (xs (iI_ i + iI_ 5).toNatClampNeg)]) (rest := [.long r]) 5 w_1245 w_1246 w_1247 w_83 w_1248 (by decide +kernel) ⟨Nat.le_of_ble_eq_true rfl, Nat.le_of_ble_eq_true rfl⟩ rfl rfl (Nat.le_of_ble_eq_true rfl) dL_law_926 hMm (fun v s1 h2 => ?_)
  obtain ⟨rfl, hR1⟩ := h2
  exact l_lcmp_eq C 1253 dL_law_929 dL_law_930 (by decide) (H a1 s1 hW1 (hR1.co hC1))
theorem lc_evenings {p : Program} {e : Env} {s : State} {m : MethodId} {below : List Frame} {meth : Method} {c : Code} {b L : Nat} {xs : Nat → Int32} {l : Launch} {D : va_G} {cA : Nat → ClassId} {q q' tb : Nat → Nat} (C : Lw_ p s m meth c b L xs l D cA q q' tb) {i : Nat} (hi : i + 6 ≤ L) (hL : L ≤ 384) (H : Nx_ p e s m below meth c b l D cA q q' i) {a σ : St_} (hW : Wf_ a) (hR : Rm_ a σ) : LG_ p e s m below meth c b l D cA q q' 935 [(0, .ref b), (1, .ref (q 0)), (2, .ref (q' 0)), (3, .int (iI_ i))] [] a σ := by
  obtain ⟨r, b2, hX, hMm⟩ := op_evenings (xs (iI_ i + iI_ 1).toNatClampNeg) (xs (iI_ i + iI_ 2).toNatClampNeg) (l, D, cA, q, tb) (l, D, cA, q', tb) a σ hW hR
  refine l_aload_n C dL_law_935 1 rfl rfl ?_
  refine l_aload_n C dL_law_936 0 rfl rfl ?_
  refine l_iload_n C dL_law_937 3 rfl rfl ?_
  refine l_iconst C (v := iI_ 1) dL_law_938 (by decide) ?_
  refine l_iadd C dL_law_939 ?_
  refine l_ld C (ld_in 1 (by omega) hi hL) dL_law_940 ?_
  refine l_aload_n C dL_law_941 0 rfl rfl ?_
  refine l_iload_n C dL_law_942 3 rfl rfl ?_
  refine l_iconst C (v := iI_ 2) dL_law_943 (by decide) ?_
  refine l_iadd C dL_law_944 ?_
  refine l_ld C (ld_in 2 (by omega) hi hL) dL_law_945 ?_
  refine l_callX C (w := mX9_evenings) (As := [.int (xs (iI_ i + iI_ 1).toNatClampNeg), .int (xs (iI_ i + iI_ 2).toNatClampNeg)]) (rest := []) 2 w_706 w_707 w_708 w_72 w_709 (by decide +kernel) ⟨Nat.le_of_ble_eq_true rfl, Nat.le_of_ble_eq_true rfl⟩ rfl rfl (Nat.le_of_ble_eq_true rfl) dL_law_946 hX (fun v a1 h1 => ?_)
  obtain ⟨rfl, hW1, hC1⟩ := h1
  refine l_aload_n C dL_law_949 2 rfl rfl ?_
  refine l_aload_n C dL_law_950 0 rfl rfl ?_
  refine l_iload_n C dL_law_951 3 rfl rfl ?_
  refine l_iconst C (v := iI_ 1) dL_law_952 (by decide) ?_
  refine l_iadd C dL_law_953 ?_
  refine l_ld C (ld_in 1 (by omega) hi hL) dL_law_954 ?_
  refine l_aload_n C dL_law_955 0 rfl rfl ?_
  refine l_iload_n C dL_law_956 3 rfl rfl ?_
  refine l_iconst C (v := iI_ 2) dL_law_957 (by decide) ?_
  refine l_iadd C dL_law_958 ?_
  refine l_ld C (ld_in 2 (by omega) hi hL) dL_law_959 ?_
  refine l_callM C (w := mX10_evenings) (As := [.int (xs (iI_ i + iI_ 1).toNatClampNeg), .int (xs (iI_ i + iI_ 2).toNatClampNeg)]) (rest := [.int r]) 2 w_1253 w_1254 w_1255 w_83 w_1256 (by decide +kernel) ⟨Nat.le_of_ble_eq_true rfl, Nat.le_of_ble_eq_true rfl⟩ rfl rfl (Nat.le_of_ble_eq_true rfl) dL_law_960 hMm (fun v s1 h2 => ?_)
  obtain ⟨rfl, hR1⟩ := h2
  exact l_icmp_eq C 1253 dL_law_963 (by decide) (H a1 s1 hW1 (hR1.co hC1))
theorem lc_sheet {p : Program} {e : Env} {s : State} {m : MethodId} {below : List Frame} {meth : Method} {c : Code} {b L : Nat} {xs : Nat → Int32} {l : Launch} {D : va_G} {cA : Nat → ClassId} {q q' tb : Nat → Nat} (C : Lw_ p s m meth c b L xs l D cA q q' tb) {i : Nat} (hi : i + 6 ≤ L) (hL : L ≤ 384) (H : Nx_ p e s m below meth c b l D cA q q' i) {a σ : St_} (hW : Wf_ a) (hR : Rm_ a σ) : LG_ p e s m below meth c b l D cA q q' 968 [(0, .ref b), (1, .ref (q 0)), (2, .ref (q' 0)), (3, .int (iI_ i))] [] a σ := by
  obtain ⟨r, b2, hX, hMm⟩ := op_sheet (xs (iI_ i + iI_ 1).toNatClampNeg) (xs (iI_ i + iI_ 2).toNatClampNeg) (xs (iI_ i + iI_ 3).toNatClampNeg) (l, D, cA, q, tb) (l, D, cA, q', tb) a σ hW hR
  refine l_aload_n C dL_law_968 1 rfl rfl ?_
  refine l_aload_n C dL_law_969 0 rfl rfl ?_
  refine l_iload_n C dL_law_970 3 rfl rfl ?_
  refine l_iconst C (v := iI_ 1) dL_law_971 (by decide) ?_
  refine l_iadd C dL_law_972 ?_
  refine l_ld C (ld_in 1 (by omega) hi hL) dL_law_973 ?_
  refine l_aload_n C dL_law_974 0 rfl rfl ?_
  refine l_iload_n C dL_law_975 3 rfl rfl ?_
  refine l_iconst C (v := iI_ 2) dL_law_976 (by decide) ?_
  refine l_iadd C dL_law_977 ?_
  refine l_ld C (ld_in 2 (by omega) hi hL) dL_law_978 ?_
  refine l_aload_n C dL_law_979 0 rfl rfl ?_
  refine l_iload_n C dL_law_980 3 rfl rfl ?_
  refine l_iconst C (v := iI_ 3) dL_law_981 (by decide) ?_
  refine l_iadd C dL_law_982 ?_
  refine l_ld C (ld_in 3 (by omega) hi hL) dL_law_983 ?_
  refine l_callX C (w := mX9_sheet) (As := [.int (xs (iI_ i + iI_ 1).toNatClampNeg), .int (xs (iI_ i + iI_ 2).toNatClampNeg), .int (xs (iI_ i + iI_ 3).toNatClampNeg)]) (rest := []) 3 w_719 w_720 w_721 w_72 w_722 (by decide +kernel) ⟨Nat.le_of_ble_eq_true rfl, Nat.le_of_ble_eq_true rfl⟩ rfl rfl (Nat.le_of_ble_eq_true rfl) dL_law_984 hX (fun v a1 h1 => ?_)
  obtain ⟨rfl, hW1, hC1⟩ := h1
  refine l_aload_n C dL_law_987 2 rfl rfl ?_
  refine l_aload_n C dL_law_988 0 rfl rfl ?_
  refine l_iload_n C dL_law_989 3 rfl rfl ?_
  refine l_iconst C (v := iI_ 1) dL_law_990 (by decide) ?_
  refine l_iadd C dL_law_991 ?_
  refine l_ld C (ld_in 1 (by omega) hi hL) dL_law_992 ?_
  refine l_aload_n C dL_law_993 0 rfl rfl ?_
  refine l_iload_n C dL_law_994 3 rfl rfl ?_
  refine l_iconst C (v := iI_ 2) dL_law_995 (by decide) ?_
  refine l_iadd C dL_law_996 ?_
  refine l_ld C (ld_in 2 (by omega) hi hL) dL_law_997 ?_
  refine l_aload_n C dL_law_998 0 rfl rfl ?_
  refine l_iload_n C dL_law_999 3 rfl rfl ?_
  refine l_iconst C (v := iI_ 3) dL_law_1000 (by decide) ?_
  refine l_iadd C dL_law_1001 ?_
  refine l_ld C (ld_in 3 (by omega) hi hL) dL_law_1002 ?_
  refine l_callM C (w := mX10_sheet) (As := [.int (xs (iI_ i + iI_ 1).toNatClampNeg), .int (xs (iI_ i + iI_ 2).toNatClampNeg), .int (xs (iI_ i + iI_ 3).toNatClampNeg)]) (rest := [.int r]) 3 w_1262 w_1263 w_1264 w_83 w_1265 (by decide +kernel) ⟨Nat.le_of_ble_eq_true rfl, Nat.le_of_ble_eq_true rfl⟩ rfl rfl (Nat.le_of_ble_eq_true rfl) dL_law_1003 hMm (fun v s1 h2 => ?_)
  obtain ⟨rfl, hR1⟩ := h2
  exact l_icmp_eq C 1253 dL_law_1006 (by decide) (H a1 s1 hW1 (hR1.co hC1))
theorem lc_lose {p : Program} {e : Env} {s : State} {m : MethodId} {below : List Frame} {meth : Method} {c : Code} {b L : Nat} {xs : Nat → Int32} {l : Launch} {D : va_G} {cA : Nat → ClassId} {q q' tb : Nat → Nat} (C : Lw_ p s m meth c b L xs l D cA q q' tb) {i : Nat} (hi : i + 6 ≤ L) (hL : L ≤ 384) (H : Nx_ p e s m below meth c b l D cA q q' i) {a σ : St_} (hW : Wf_ a) (hR : Rm_ a σ) : LG_ p e s m below meth c b l D cA q q' 1011 [(0, .ref b), (1, .ref (q 0)), (2, .ref (q' 0)), (3, .int (iI_ i))] [] a σ := by
  obtain ⟨r, b2, hX, hMm⟩ := op_lose (xs (iI_ i + iI_ 1).toNatClampNeg) (l, D, cA, q, tb) (l, D, cA, q', tb) a σ hW hR
  refine l_aload_n C dL_law_1011 1 rfl rfl ?_
  refine l_aload_n C dL_law_1012 0 rfl rfl ?_
  refine l_iload_n C dL_law_1013 3 rfl rfl ?_
  refine l_iconst C (v := iI_ 1) dL_law_1014 (by decide) ?_
  refine l_iadd C dL_law_1015 ?_
  refine l_ld C (ld_in 1 (by omega) hi hL) dL_law_1016 ?_
  refine l_callX C (w := mX9_lose) (As := [.int (xs (iI_ i + iI_ 1).toNatClampNeg)]) (rest := []) 1 w_729 w_730 w_731 w_72 w_732 (by decide +kernel) ⟨Nat.le_of_ble_eq_true rfl, Nat.le_of_ble_eq_true rfl⟩ rfl rfl (Nat.le_of_ble_eq_true rfl) dL_law_1017 hX (fun v a1 h1 => ?_)
  obtain ⟨rfl, hW1, hC1⟩ := h1
  refine l_aload_n C dL_law_1020 2 rfl rfl ?_
  refine l_aload_n C dL_law_1021 0 rfl rfl ?_
  refine l_iload_n C dL_law_1022 3 rfl rfl ?_
  refine l_iconst C (v := iI_ 1) dL_law_1023 (by decide) ?_
  refine l_iadd C dL_law_1024 ?_
  refine l_ld C (ld_in 1 (by omega) hi hL) dL_law_1025 ?_
  refine l_callM C (w := mX10_lose) (As := [.int (xs (iI_ i + iI_ 1).toNatClampNeg)]) (rest := [.int r]) 1 w_1266 w_1267 w_1268 w_83 w_1269 (by decide +kernel) ⟨Nat.le_of_ble_eq_true rfl, Nat.le_of_ble_eq_true rfl⟩ rfl rfl (Nat.le_of_ble_eq_true rfl) dL_law_1026 hMm (fun v s1 h2 => ?_)
  obtain ⟨rfl, hR1⟩ := h2
  exact l_icmp_eq C 1253 dL_law_1029 (by decide) (H a1 s1 hW1 (hR1.co hC1))
theorem lc_put {p : Program} {e : Env} {s : State} {m : MethodId} {below : List Frame} {meth : Method} {c : Code} {b L : Nat} {xs : Nat → Int32} {l : Launch} {D : va_G} {cA : Nat → ClassId} {q q' tb : Nat → Nat} (C : Lw_ p s m meth c b L xs l D cA q q' tb) {i : Nat} (hi : i + 6 ≤ L) (hL : L ≤ 384) (H : Nx_ p e s m below meth c b l D cA q q' i) {a σ : St_} (hW : Wf_ a) (hR : Rm_ a σ) : LG_ p e s m below meth c b l D cA q q' 1034 [(0, .ref b), (1, .ref (q 0)), (2, .ref (q' 0)), (3, .int (iI_ i))] [] a σ := by
  obtain ⟨r, b2, hX, hMm⟩ := op_put (xs (iI_ i + iI_ 1).toNatClampNeg) (xs (iI_ i + iI_ 2).toNatClampNeg) (xs (iI_ i + iI_ 3).toNatClampNeg) (xs (iI_ i + iI_ 4).toNatClampNeg) (l, D, cA, q, tb) (l, D, cA, q', tb) a σ hW hR
  refine l_aload_n C dL_law_1034 1 rfl rfl ?_
  refine l_aload_n C dL_law_1035 0 rfl rfl ?_
  refine l_iload_n C dL_law_1036 3 rfl rfl ?_
  refine l_iconst C (v := iI_ 1) dL_law_1037 (by decide) ?_
  refine l_iadd C dL_law_1038 ?_
  refine l_ld C (ld_in 1 (by omega) hi hL) dL_law_1039 ?_
  refine l_aload_n C dL_law_1040 0 rfl rfl ?_
  refine l_iload_n C dL_law_1041 3 rfl rfl ?_
  refine l_iconst C (v := iI_ 2) dL_law_1042 (by decide) ?_
  refine l_iadd C dL_law_1043 ?_
  refine l_ld C (ld_in 2 (by omega) hi hL) dL_law_1044 ?_
  refine l_aload_n C dL_law_1045 0 rfl rfl ?_
  refine l_iload_n C dL_law_1046 3 rfl rfl ?_
  refine l_iconst C (v := iI_ 3) dL_law_1047 (by decide) ?_
  refine l_iadd C dL_law_1048 ?_
  refine l_ld C (ld_in 3 (by omega) hi hL) dL_law_1049 ?_
  refine l_aload_n C dL_law_1050 0 rfl rfl ?_
  refine l_iload_n C dL_law_1051 3 rfl rfl ?_
  refine l_iconst C (v := iI_ 4) dL_law_1052 (by decide) ?_
  refine l_iadd C dL_law_1053 ?_
  refine l_ld C (ld_in 4 (by omega) hi hL) dL_law_1054 ?_
  refine l_callX C (w := mX9_put) (As := [.int (xs (iI_ i + iI_ 1).toNatClampNeg), .int (xs (iI_ i + iI_ 2).toNatClampNeg), .int (xs (iI_ i + iI_ 3).toNatClampNeg), .int (xs (iI_ i + iI_ 4).toNatClampNeg)]) (rest := []) 4 w_733 w_734 w_735 w_72 w_736 (by decide +kernel) ⟨Nat.le_of_ble_eq_true rfl, Nat.le_of_ble_eq_true rfl⟩ rfl rfl (Nat.le_of_ble_eq_true rfl) dL_law_1055 hX (fun v a1 h1 => ?_)
  obtain ⟨rfl, hW1, hC1⟩ := h1
  refine l_aload_n C dL_law_1058 2 rfl rfl ?_
  refine l_aload_n C dL_law_1059 0 rfl rfl ?_
  refine l_iload_n C dL_law_1060 3 rfl rfl ?_
  refine l_iconst C (v := iI_ 1) dL_law_1061 (by decide) ?_
  refine l_iadd C dL_law_1062 ?_
  refine l_ld C (ld_in 1 (by omega) hi hL) dL_law_1063 ?_
  refine l_aload_n C dL_law_1064 0 rfl rfl ?_
  refine l_iload_n C dL_law_1065 3 rfl rfl ?_
  refine l_iconst C (v := iI_ 2) dL_law_1066 (by decide) ?_
  refine l_iadd C dL_law_1067 ?_
  refine l_ld C (ld_in 2 (by omega) hi hL) dL_law_1068 ?_
  refine l_aload_n C dL_law_1069 0 rfl rfl ?_
  refine l_iload_n C dL_law_1070 3 rfl rfl ?_
  refine l_iconst C (v := iI_ 3) dL_law_1071 (by decide) ?_
  refine l_iadd C dL_law_1072 ?_
  refine l_ld C (ld_in 3 (by omega) hi hL) dL_law_1073 ?_
  refine l_aload_n C dL_law_1074 0 rfl rfl ?_
  refine l_iload_n C dL_law_1075 3 rfl rfl ?_
  refine l_iconst C (v := iI_ 4) dL_law_1076 (by decide) ?_
  refine l_iadd C dL_law_1077 ?_
  refine l_ld C (ld_in 4 (by omega) hi hL) dL_law_1078 ?_
  refine l_callM C (w := mX10_put) (As := [.int (xs (iI_ i + iI_ 1).toNatClampNeg), .int (xs (iI_ i + iI_ 2).toNatClampNeg), .int (xs (iI_ i + iI_ 3).toNatClampNeg), .int (xs (iI_ i + iI_ 4).toNatClampNeg)]) (rest := [.int r]) 4 w_1270 w_1271 w_1272 w_83 w_1273 (by decide +kernel) ⟨Nat.le_of_ble_eq_true rfl, Nat.le_of_ble_eq_true rfl⟩ rfl rfl (Nat.le_of_ble_eq_true rfl) dL_law_1079 hMm (fun v s1 h2 => ?_)
  obtain ⟨rfl, hR1⟩ := h2
  exact l_icmp_eq C 1253 dL_law_1082 (by decide) (H a1 s1 hW1 (hR1.co hC1))
theorem lc_get {p : Program} {e : Env} {s : State} {m : MethodId} {below : List Frame} {meth : Method} {c : Code} {b L : Nat} {xs : Nat → Int32} {l : Launch} {D : va_G} {cA : Nat → ClassId} {q q' tb : Nat → Nat} (C : Lw_ p s m meth c b L xs l D cA q q' tb) {i : Nat} (hi : i + 6 ≤ L) (hL : L ≤ 384) (H : Nx_ p e s m below meth c b l D cA q q' i) {a σ : St_} (hW : Wf_ a) (hR : Rm_ a σ) : LG_ p e s m below meth c b l D cA q q' 1087 [(0, .ref b), (1, .ref (q 0)), (2, .ref (q' 0)), (3, .int (iI_ i))] [] a σ := by
  obtain ⟨r, b2, hX, hMm⟩ := op_get (xs (iI_ i + iI_ 1).toNatClampNeg) (xs (iI_ i + iI_ 2).toNatClampNeg) (xs (iI_ i + iI_ 3).toNatClampNeg) (l, D, cA, q, tb) (l, D, cA, q', tb) a σ hW hR
  refine l_aload_n C dL_law_1087 1 rfl rfl ?_
  refine l_aload_n C dL_law_1088 0 rfl rfl ?_
  refine l_iload_n C dL_law_1089 3 rfl rfl ?_
  refine l_iconst C (v := iI_ 1) dL_law_1090 (by decide) ?_
  refine l_iadd C dL_law_1091 ?_
  refine l_ld C (ld_in 1 (by omega) hi hL) dL_law_1092 ?_
  refine l_aload_n C dL_law_1093 0 rfl rfl ?_
  refine l_iload_n C dL_law_1094 3 rfl rfl ?_
  refine l_iconst C (v := iI_ 2) dL_law_1095 (by decide) ?_
  refine l_iadd C dL_law_1096 ?_
  refine l_ld C (ld_in 2 (by omega) hi hL) dL_law_1097 ?_
  refine l_aload_n C dL_law_1098 0 rfl rfl ?_
  refine l_iload_n C dL_law_1099 3 rfl rfl ?_
  refine l_iconst C (v := iI_ 3) dL_law_1100 (by decide) ?_
  refine l_iadd C dL_law_1101 ?_
  refine l_ld C (ld_in 3 (by omega) hi hL) dL_law_1102 ?_
  refine l_callX C (w := mX9_get) (As := [.int (xs (iI_ i + iI_ 1).toNatClampNeg), .int (xs (iI_ i + iI_ 2).toNatClampNeg), .int (xs (iI_ i + iI_ 3).toNatClampNeg)]) (rest := []) 3 w_745 w_746 w_747 w_72 w_748 (by decide +kernel) ⟨Nat.le_of_ble_eq_true rfl, Nat.le_of_ble_eq_true rfl⟩ rfl rfl (Nat.le_of_ble_eq_true rfl) dL_law_1103 hX (fun v a1 h1 => ?_)
  obtain ⟨rfl, hW1, hC1⟩ := h1
  refine l_aload_n C dL_law_1106 2 rfl rfl ?_
  refine l_aload_n C dL_law_1107 0 rfl rfl ?_
  refine l_iload_n C dL_law_1108 3 rfl rfl ?_
  refine l_iconst C (v := iI_ 1) dL_law_1109 (by decide) ?_
  refine l_iadd C dL_law_1110 ?_
  refine l_ld C (ld_in 1 (by omega) hi hL) dL_law_1111 ?_
  refine l_aload_n C dL_law_1112 0 rfl rfl ?_
  refine l_iload_n C dL_law_1113 3 rfl rfl ?_
  refine l_iconst C (v := iI_ 2) dL_law_1114 (by decide) ?_
  refine l_iadd C dL_law_1115 ?_
  refine l_ld C (ld_in 2 (by omega) hi hL) dL_law_1116 ?_
  refine l_aload_n C dL_law_1117 0 rfl rfl ?_
  refine l_iload_n C dL_law_1118 3 rfl rfl ?_
  refine l_iconst C (v := iI_ 3) dL_law_1119 (by decide) ?_
  refine l_iadd C dL_law_1120 ?_
  refine l_ld C (ld_in 3 (by omega) hi hL) dL_law_1121 ?_
  refine l_callM C (w := mX10_get) (As := [.int (xs (iI_ i + iI_ 1).toNatClampNeg), .int (xs (iI_ i + iI_ 2).toNatClampNeg), .int (xs (iI_ i + iI_ 3).toNatClampNeg)]) (rest := [.int r]) 3 w_1282 w_1283 w_1284 w_83 w_1285 (by decide +kernel) ⟨Nat.le_of_ble_eq_true rfl, Nat.le_of_ble_eq_true rfl⟩ rfl rfl (Nat.le_of_ble_eq_true rfl) dL_law_1122 hMm (fun v s1 h2 => ?_)
  obtain ⟨rfl, hR1⟩ := h2
  exact l_icmp_eq C 1253 dL_law_1125 (by decide) (H a1 s1 hW1 (hR1.co hC1))
theorem lc_copy {p : Program} {e : Env} {s : State} {m : MethodId} {below : List Frame} {meth : Method} {c : Code} {b L : Nat} {xs : Nat → Int32} {l : Launch} {D : va_G} {cA : Nat → ClassId} {q q' tb : Nat → Nat} (C : Lw_ p s m meth c b L xs l D cA q q' tb) {i : Nat} (hi : i + 6 ≤ L) (hL : L ≤ 384) (H : Nx_ p e s m below meth c b l D cA q q' i) {a σ : St_} (hW : Wf_ a) (hR : Rm_ a σ) : LG_ p e s m below meth c b l D cA q q' 1130 [(0, .ref b), (1, .ref (q 0)), (2, .ref (q' 0)), (3, .int (iI_ i))] [] a σ := by
  obtain ⟨r, b2, hX, hMm⟩ := op_copy (xs (iI_ i + iI_ 1).toNatClampNeg) (xs (iI_ i + iI_ 2).toNatClampNeg) (xs (iI_ i + iI_ 3).toNatClampNeg) (xs (iI_ i + iI_ 4).toNatClampNeg) (xs (iI_ i + iI_ 5).toNatClampNeg) (l, D, cA, q, tb) (l, D, cA, q', tb) a σ hW hR
  refine l_aload_n C dL_law_1130 1 rfl rfl ?_
  refine l_aload_n C dL_law_1131 0 rfl rfl ?_
  refine l_iload_n C dL_law_1132 3 rfl rfl ?_
  refine l_iconst C (v := iI_ 1) dL_law_1133 (by decide) ?_
  refine l_iadd C dL_law_1134 ?_
  refine l_ld C (ld_in 1 (by omega) hi hL) dL_law_1135 ?_
  refine l_aload_n C dL_law_1136 0 rfl rfl ?_
  refine l_iload_n C dL_law_1137 3 rfl rfl ?_
  refine l_iconst C (v := iI_ 2) dL_law_1138 (by decide) ?_
  refine l_iadd C dL_law_1139 ?_
  refine l_ld C (ld_in 2 (by omega) hi hL) dL_law_1140 ?_
  refine l_aload_n C dL_law_1141 0 rfl rfl ?_
  refine l_iload_n C dL_law_1142 3 rfl rfl ?_
  refine l_iconst C (v := iI_ 3) dL_law_1143 (by decide) ?_
  refine l_iadd C dL_law_1144 ?_
  refine l_ld C (ld_in 3 (by omega) hi hL) dL_law_1145 ?_
  refine l_aload_n C dL_law_1146 0 rfl rfl ?_
  refine l_iload_n C dL_law_1147 3 rfl rfl ?_
  refine l_iconst C (v := iI_ 4) dL_law_1148 (by decide) ?_
  refine l_iadd C dL_law_1149 ?_
  refine l_ld C (ld_in 4 (by omega) hi hL) dL_law_1150 ?_
  refine l_aload_n C dL_law_1151 0 rfl rfl ?_
  refine l_iload_n C dL_law_1152 3 rfl rfl ?_
  refine l_iconst C (v := iI_ 5) dL_law_1153 (by decide) ?_
  refine l_iadd C dL_law_1154 ?_
  refine l_ld C (ld_in 5 (by omega) hi hL) dL_law_1155 ?_
  refine l_callX C (w := mX9_copy) (As := [.int (xs (iI_ i + iI_ 1).toNatClampNeg), .int (xs (iI_ i + iI_ 2).toNatClampNeg), .int (xs (iI_ i + iI_ 3).toNatClampNeg), .int (xs (iI_ i + iI_ 4).toNatClampNeg), .int (xs (iI_ i + iI_ 5).toNatClampNeg)]) (rest := []) 5 w_750 w_751 w_752 w_72 w_753 (by decide +kernel) ⟨Nat.le_of_ble_eq_true rfl, Nat.le_of_ble_eq_true rfl⟩ rfl rfl (Nat.le_of_ble_eq_true rfl) dL_law_1156 hX (fun v a1 h1 => ?_)
  obtain ⟨rfl, hW1, hC1⟩ := h1
  refine l_aload_n C dL_law_1159 2 rfl rfl ?_
  refine l_aload_n C dL_law_1160 0 rfl rfl ?_
  refine l_iload_n C dL_law_1161 3 rfl rfl ?_
  refine l_iconst C (v := iI_ 1) dL_law_1162 (by decide) ?_
  refine l_iadd C dL_law_1163 ?_
  refine l_ld C (ld_in 1 (by omega) hi hL) dL_law_1164 ?_
  refine l_aload_n C dL_law_1165 0 rfl rfl ?_
  refine l_iload_n C dL_law_1166 3 rfl rfl ?_
  refine l_iconst C (v := iI_ 2) dL_law_1167 (by decide) ?_
  refine l_iadd C dL_law_1168 ?_
  refine l_ld C (ld_in 2 (by omega) hi hL) dL_law_1169 ?_
  refine l_aload_n C dL_law_1170 0 rfl rfl ?_
  refine l_iload_n C dL_law_1171 3 rfl rfl ?_
  refine l_iconst C (v := iI_ 3) dL_law_1172 (by decide) ?_
  refine l_iadd C dL_law_1173 ?_
  refine l_ld C (ld_in 3 (by omega) hi hL) dL_law_1174 ?_
  refine l_aload_n C dL_law_1175 0 rfl rfl ?_
  refine l_iload_n C dL_law_1176 3 rfl rfl ?_
  refine l_iconst C (v := iI_ 4) dL_law_1177 (by decide) ?_
  refine l_iadd C dL_law_1178 ?_
  refine l_ld C (ld_in 4 (by omega) hi hL) dL_law_1179 ?_
  refine l_aload_n C dL_law_1180 0 rfl rfl ?_
  refine l_iload_n C dL_law_1181 3 rfl rfl ?_
  refine l_iconst C (v := iI_ 5) dL_law_1182 (by decide) ?_
  refine l_iadd C dL_law_1183 ?_
  refine l_ld C (ld_in 5 (by omega) hi hL) dL_law_1184 ?_
  refine l_callM C (w := mX10_copy) (As := [.int (xs (iI_ i + iI_ 1).toNatClampNeg), .int (xs (iI_ i + iI_ 2).toNatClampNeg), .int (xs (iI_ i + iI_ 3).toNatClampNeg), .int (xs (iI_ i + iI_ 4).toNatClampNeg), .int (xs (iI_ i + iI_ 5).toNatClampNeg)]) (rest := [.int r]) 5 w_1287 w_1288 w_1289 w_83 w_1290 (by decide +kernel) ⟨Nat.le_of_ble_eq_true rfl, Nat.le_of_ble_eq_true rfl⟩ rfl rfl (Nat.le_of_ble_eq_true rfl) dL_law_1185 hMm (fun v s1 h2 => ?_)
  obtain ⟨rfl, hR1⟩ := h2
  exact l_icmp_eq C 1253 dL_law_1188 (by decide) (H a1 s1 hW1 (hR1.co hC1))
theorem lc_write {p : Program} {e : Env} {s : State} {m : MethodId} {below : List Frame} {meth : Method} {c : Code} {b L : Nat} {xs : Nat → Int32} {l : Launch} {D : va_G} {cA : Nat → ClassId} {q q' tb : Nat → Nat} (C : Lw_ p s m meth c b L xs l D cA q q' tb) {i : Nat} (hi : i + 6 ≤ L) (hL : L ≤ 384) (H : Nx_ p e s m below meth c b l D cA q q' i) {a σ : St_} (hW : Wf_ a) (hR : Rm_ a σ) : LG_ p e s m below meth c b l D cA q q' 1193 [(0, .ref b), (1, .ref (q 0)), (2, .ref (q' 0)), (3, .int (iI_ i))] [] a σ := by
  obtain ⟨r, b2, hX, hMm⟩ := op_write (xs (iI_ i + iI_ 1).toNatClampNeg) (l, D, cA, q, tb) (l, D, cA, q', tb) a σ hW hR
  refine l_aload_n C dL_law_1193 1 rfl rfl ?_
  refine l_aload_n C dL_law_1194 0 rfl rfl ?_
  refine l_iload_n C dL_law_1195 3 rfl rfl ?_
  refine l_iconst C (v := iI_ 1) dL_law_1196 (by decide) ?_
  refine l_iadd C dL_law_1197 ?_
  refine l_ld C (ld_in 1 (by omega) hi hL) dL_law_1198 ?_
  refine l_callX C (w := mX9_write) (As := [.int (xs (iI_ i + iI_ 1).toNatClampNeg)]) (rest := []) 1 w_761 w_762 w_763 w_72 w_764 (by decide +kernel) ⟨Nat.le_of_ble_eq_true rfl, Nat.le_of_ble_eq_true rfl⟩ rfl rfl (Nat.le_of_ble_eq_true rfl) dL_law_1199 hX (fun v a1 h1 => ?_)
  obtain ⟨rfl, hW1, hC1⟩ := h1
  refine l_aload_n C dL_law_1202 2 rfl rfl ?_
  refine l_aload_n C dL_law_1203 0 rfl rfl ?_
  refine l_iload_n C dL_law_1204 3 rfl rfl ?_
  refine l_iconst C (v := iI_ 1) dL_law_1205 (by decide) ?_
  refine l_iadd C dL_law_1206 ?_
  refine l_ld C (ld_in 1 (by omega) hi hL) dL_law_1207 ?_
  refine l_callM C (w := mX10_write) (As := [.int (xs (iI_ i + iI_ 1).toNatClampNeg)]) (rest := [.int r]) 1 w_1291 w_1292 w_1293 w_83 w_1294 (by decide +kernel) ⟨Nat.le_of_ble_eq_true rfl, Nat.le_of_ble_eq_true rfl⟩ rfl rfl (Nat.le_of_ble_eq_true rfl) dL_law_1208 hMm (fun v s1 h2 => ?_)
  obtain ⟨rfl, hR1⟩ := h2
  exact l_icmp_eq C 1253 dL_law_1211 (by decide) (H a1 s1 hW1 (hR1.co hC1))
theorem lc_count {p : Program} {e : Env} {s : State} {m : MethodId} {below : List Frame} {meth : Method} {c : Code} {b L : Nat} {xs : Nat → Int32} {l : Launch} {D : va_G} {cA : Nat → ClassId} {q q' tb : Nat → Nat} (C : Lw_ p s m meth c b L xs l D cA q q' tb) {i : Nat} (hi : i + 6 ≤ L) (hL : L ≤ 384) (H : Nx_ p e s m below meth c b l D cA q q' i) {a σ : St_} (hW : Wf_ a) (hR : Rm_ a σ) : LG_ p e s m below meth c b l D cA q q' 1216 [(0, .ref b), (1, .ref (q 0)), (2, .ref (q' 0)), (3, .int (iI_ i))] [] a σ := by
  obtain ⟨r, b2, hX, hMm⟩ := op_count (xs (iI_ i + iI_ 1).toNatClampNeg) (l, D, cA, q, tb) (l, D, cA, q', tb) a σ hW hR
  refine l_aload_n C dL_law_1216 1 rfl rfl ?_
  refine l_aload_n C dL_law_1217 0 rfl rfl ?_
  refine l_iload_n C dL_law_1218 3 rfl rfl ?_
  refine l_iconst C (v := iI_ 1) dL_law_1219 (by decide) ?_
  refine l_iadd C dL_law_1220 ?_
  refine l_ld C (ld_in 1 (by omega) hi hL) dL_law_1221 ?_
  refine l_callX C (w := mX9_count) (As := [.int (xs (iI_ i + iI_ 1).toNatClampNeg)]) (rest := []) 1 w_765 w_766 w_767 w_72 w_768 (by decide +kernel) ⟨Nat.le_of_ble_eq_true rfl, Nat.le_of_ble_eq_true rfl⟩ rfl rfl (Nat.le_of_ble_eq_true rfl) dL_law_1222 hX (fun v a1 h1 => ?_)
  obtain ⟨rfl, hW1, hC1⟩ := h1
  refine l_aload_n C dL_law_1225 2 rfl rfl ?_
  refine l_aload_n C dL_law_1226 0 rfl rfl ?_
  refine l_iload_n C dL_law_1227 3 rfl rfl ?_
  refine l_iconst C (v := iI_ 1) dL_law_1228 (by decide) ?_
  refine l_iadd C dL_law_1229 ?_
  refine l_ld C (ld_in 1 (by omega) hi hL) dL_law_1230 ?_
  refine l_callM C (w := mX10_count) (As := [.int (xs (iI_ i + iI_ 1).toNatClampNeg)]) (rest := [.int r]) 1 w_1295 w_1296 w_1297 w_83 w_1298 (by decide +kernel) ⟨Nat.le_of_ble_eq_true rfl, Nat.le_of_ble_eq_true rfl⟩ rfl rfl (Nat.le_of_ble_eq_true rfl) dL_law_1231 hMm (fun v s1 h2 => ?_)
  obtain ⟨rfl, hR1⟩ := h2
  exact l_icmp_eq C 1253 dL_law_1234 (by decide) (H a1 s1 hW1 (hR1.co hC1))
theorem lc_digest {p : Program} {e : Env} {s : State} {m : MethodId} {below : List Frame} {meth : Method} {c : Code} {b L : Nat} {xs : Nat → Int32} {l : Launch} {D : va_G} {cA : Nat → ClassId} {q q' tb : Nat → Nat} (C : Lw_ p s m meth c b L xs l D cA q q' tb) {i : Nat} (hi : i + 6 ≤ L) (hL : L ≤ 384) (H : Nx_ p e s m below meth c b l D cA q q' i) {a σ : St_} (hW : Wf_ a) (hR : Rm_ a σ) : LG_ p e s m below meth c b l D cA q q' 1239 [(0, .ref b), (1, .ref (q 0)), (2, .ref (q' 0)), (3, .int (iI_ i))] [] a σ := by
  obtain ⟨r, b2, hX, hMm⟩ := op_digest (l, D, cA, q, tb) (l, D, cA, q', tb) a σ hW hR
  refine l_aload_n C dL_law_1239 1 rfl rfl ?_
  refine l_callX C (w := mX9_digest) (As := []) (rest := []) 0 w_770 w_771 w_772 w_72 w_773 (by decide +kernel) ⟨Nat.le_of_ble_eq_true rfl, Nat.le_of_ble_eq_true rfl⟩ rfl rfl (Nat.le_of_ble_eq_true rfl) dL_law_1240 hX (fun v a1 h1 => ?_)
  obtain ⟨rfl, hW1, hC1⟩ := h1
  refine l_aload_n C dL_law_1243 2 rfl rfl ?_
  refine l_callM C (w := mX10_digest) (As := []) (rest := [.long r]) 0 w_1303 w_1304 w_1305 w_83 w_1306 (by decide +kernel) ⟨Nat.le_of_ble_eq_true rfl, Nat.le_of_ble_eq_true rfl⟩ rfl rfl (Nat.le_of_ble_eq_true rfl) dL_law_1244 hMm (fun v s1 h2 => ?_)
  obtain ⟨rfl, hR1⟩ := h2
  exact l_lcmp_eq C 1253 dL_law_1247 dL_law_1248 (by decide) (H a1 s1 hW1 (hR1.co hC1))
theorem lc_in {p : Program} {e : Env} {s : State} {m : MethodId} {below : List Frame} {meth : Method} {c : Code} {b L : Nat} {xs : Nat → Int32} {l : Launch} {D : va_G} {cA : Nat → ClassId} {q q' tb : Nat → Nat} (C : Lw_ p s m meth c b L xs l D cA q q' tb) {i : Nat} (hi : i + 6 ≤ L) (hL : L ≤ 384) (H : Nx_ p e s m below meth c b l D cA q q' i) {a σ : St_} (hW : Wf_ a) (hR : Rm_ a σ) : ∀ (j t : Nat), ([192, 225, 248, 271, 294, 327, 360, 393, 436, 459, 482, 505, 548, 581, 604, 617, 630, 663, 686, 720, 733, 766, 799, 812, 825, 848, 871, 935, 968, 1011, 1034, 1087, 1130, 1193, 1216, 1239] : List Nat)[j]? = some t → LG_ p e s m below meth c b l D cA q q' t [(0, .ref b), (1, .ref (q 0)), (2, .ref (q' 0)), (3, .int (iI_ i))] [] a σ := by
  intro j t h
  match j, h with
  | 0, h => cases h; exact lc_type C hi hL H hW hR
  | 1, h => cases h; exact lc_wipe C hi hL H hW hR
  | 2, h => cases h; exact lc_undo C hi hL H hW hR
  | 3, h => cases h; exact lc_fault C hi hL H hW hR
  | 4, h => cases h; exact lc_member C hi hL H hW hR
  | 5, h => cases h; exact lc_motion C hi hL H hW hR
  | 6, h => cases h; exact lc_weight C hi hL H hW hR
  | 7, h => cases h; exact lc_fold C hi hL H hW hR
  | 8, h => cases h; exact lc_jar C hi hL H hW hR
  | 9, h => cases h; exact lc_back C hi hL H hW hR
  | 10, h => cases h; exact lc_read C hi hL H hW hR
  | 11, h => cases h; exact lc_lies C hi hL H hW hR
  | 12, h => cases h; exact lc_vote C hi hL H hW hR
  | 13, h => cases h; exact lc_house C hi hL H hW hR
  | 14, h => cases h; exact lc_told C hi hL H hW hR
  | 15, h => cases h; exact lc_pleased C hi hL H hW hR
  | 16, h => cases h; exact lc_lift C hi hL H hW hR
  | 17, h => cases h; exact lc_agenda C hi hL H hW hR
  | 18, h => cases h; exact lc_power C hi hL H hW hR
  | 19, h => cases h; exact lc_ring C hi hL H hW hR
  | 20, h => cases h; exact lc_sham C hi hL H hW hR
  | 21, h => cases h; exact lc_seen C hi hL H hW hR
  | 22, h => cases h; exact lc_forget C hi hL H hW hR
  | 23, h => cases h; exact lc_never C hi hL H hW hR
  | 24, h => cases h; exact lc_would C hi hL H hW hR
  | 25, h => cases h; exact lc_ask C hi hL H hW hR
  | 26, h => cases h; exact lc_ajar C hi hL H hW hR
  | 27, h => cases h; exact lc_evenings C hi hL H hW hR
  | 28, h => cases h; exact lc_sheet C hi hL H hW hR
  | 29, h => cases h; exact lc_lose C hi hL H hW hR
  | 30, h => cases h; exact lc_put C hi hL H hW hR
  | 31, h => cases h; exact lc_get C hi hL H hW hR
  | 32, h => cases h; exact lc_copy C hi hL H hW hR
  | 33, h => cases h; exact lc_write C hi hL H hW hR
  | 34, h => cases h; exact lc_count C hi hL H hW hR
  | 35, h => cases h; exact lc_digest C hi hL H hW hR
  | j + 36, h => simp at h
