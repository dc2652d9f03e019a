/-! ===== constructors: a judgement over a world that grows ===== -/
def nsc_ : List Cond := [.methodLinkNest "LinenHouse" 17 yX4_init "LinenHouse", .methodLinkNest "LinenHouse" 24 yX3_init "LinenHouse", .methodLinkNest "LinenHouse" 31 yX1_init "LinenHouse", .methodLinkNest "LinenHouse" 38 yX2_init "LinenHouse", .methodLinkNest "LinenHouse" 45 yX7_init "LinenHouse", .methodLinkNest "LinenHouse" 94 yX6_init "LinenHouse"]
def Ek_ (D : va_G) (cA : Nat → ClassId) (U : State) : Prop := va_K D cls_ (tys_ cA) U ∧ (∀ w ∈ nsc_, va_Nw w U) ∧ va_AO "LinenHouse$Text" U ∧ va_AO "LinenHouse$Sheet" U
theorem nsc_on : ∀ w ∈ nsc_, w.onTables = true := by decide +kernel
theorem Ek_.same {D : va_G} {cA : Nat → ClassId} {u U : State} (h : u.vm = U.vm) (hE : Ek_ D cA u) : Ek_ D cA U := by
  have hv : u.vm.Alike U.vm := by rw [h]; exact Vm.Alike.refl _
  exact ⟨va_K.moved hv hE.1, fun w hw => va_Nw.same (nsc_on w hw) h (hE.2.1 w hw), hE.2.2.1.moved hv, hE.2.2.2.moved hv⟩
theorem Ek_.warm {D : va_G} {cA : Nat → ClassId} {s U : State} (hW : s.WarmedH U.vm) (hE : Ek_ D cA s) : Ek_ D cA U := by
  have hv := hW.alike
  refine ⟨va_K.moved hv hE.1, fun w hw => ?_, hE.2.2.1.moved hv, hE.2.2.2.moved hv⟩
  have h := hE.2.1 w hw
  simp only [nsc_, List.mem_cons, List.not_mem_nil, or_false] at hw
  rcases hw with rfl | rfl | rfl | rfl | rfl | rfl <;> exact va_Nw.warmM hW h
def rk_ (y : MI_) (K N : Nat) : Room := { frames := y.2.2.2.2.1, cells := K, slots := N, locals := y.2.2.2.2.2 }
abbrev QK_ (D : va_G) (Post : va_W → Prop) (A : Nat → Prop) : Array Value → State → Outcome → State → Prop := va_Qv Post (fun w1 t => va_P D cls_ w1 t.heap ∧ va_D A w1) A
def PK_ (D : va_G) (cA : Nat → ClassId) (as : List Value) (w : va_W) (sz : Nat) : Array Value → State → Prop := va_Pc as (fun U => U.heap.size = sz ∧ va_P D cls_ w U.heap ∧ Ek_ D cA U)
def KM_ (l : Launch) (D : va_G) (cA : Nat → ClassId) (y : MI_) (K N : Nat) (as : List Value) (w : va_W) (Post : va_W → Prop) : Prop := va_D (fun _ => True) w → ∀ sz : Nat, Met l y.1 (ws_ y) (rk_ y K N) (PK_ D cA as w sz) (QK_ D Post (va_A w sz)) K N (va_A w sz)
def Kc_ (p : Program) (s : State) (m : MethodId) (args : Array Value) (meth : Method) (c : Code) (y : MI_) (D : va_G) (cA : Nat → ClassId) (A : Nat → Prop) : Prop :=
  p.tables.exec = Jvm.exec ∧ c.code = y.2.1 ∧ c.maxLocals = y.2.2.1 ∧ s.vm.findClass y.1.cls = some m.cls ∧ (∀ w ∈ ws_ y, w.before args s = true) ∧ Ek_ D cA s ∧ (∀ q : Nat, s.heap.size ≤ q → A q) ∧ meth.name = "<init>" ∧ meth.sig.returnType = none ∧ meth.locks = false
def KK_ (l : Launch) (D : va_G) (cA : Nat → ClassId) (y : MI_) (K N : Nat) (Post : va_W → Prop) (pc : Nat) (L : List (Nat × Value)) (st : List Value) (k n : Nat) (w : va_W) : Prop :=
  ∀ (p : Program) (e : Env) (s : State) (m : MethodId) (args : Array Value) (below : List Frame) (meth : Method) (c : Code) (A : Nat → Prop), Kc_ p s m args meth c y D cA A →
  ∀ (ls : Array Slot) (H : Heap) (locs : List Loc), lv_has ls y.2.2.1 L → va_P D cls_ w H → va_D A w → va_S A s.heap H locs → W p l e (rk_ y K N) s m args below meth c H locs k n (MQ below (QK_ D Post A) args s K N A) (F0 m pc ls st)
theorem KM_.of {l : Launch} {D : va_G} {cA : Nat → ClassId} {y : MI_} {K N : Nat} {as : List Value} {w : va_W} {Post : va_W → Prop} (hy : plainName y.1.cls = true) (hi : y.1.name = "<init>") (hr : y.2.2.2.1 = none) (hn : (lg_sl as).length ≤ y.2.2.1) {L : List (Nat × Value)} (hL : lv_args 0 as = L) (k : KK_ l D cA y K N Post 0 L [] 0 0 w) : KM_ l D cA y K N as w Post := by
  intro hD sz
  refine Met.ofW (cc := y.2.1) (maxL := y.2.2.1) (ret := y.2.2.2.1) hy rfl ?_
  intro p e s m args below meth c s₁ B hml hv
  obtain ⟨rfl, hsz, hP, hE⟩ := hv
  subst hsz
  have hl := lv_entry as (n := y.2.2.1) hn
  rw [lg_entry_eq]
  generalize (lg_sl as ++ List.replicate (y.2.2.1 - (lg_sl as).length) Slot.unset).toArray = ls at hl ⊢
  rw [hL] at hl
  exact k p e s m as.toArray below meth c (va_A w s.heap.size) ⟨B.exec, B.bytes, hml, findClass_of_methodNamed B.named, atoms_spec (ws := ws_ y) B.pre, hE, fun q h => Or.inr h, (name_of_methodNamed B.named B.method).1.trans hi, B.returns.trans hr, B.notSynchronized⟩ ls s.heap [] hl hP hD.self va_S.rf
section KR
variable {l : Launch} {D : va_G} {cA : Nat → ClassId} {y : MI_} {K N : Nat} {Post : va_W → Prop} {pc : Nat} {L : List (Nat × Value)} {st : List Value} {k n : Nat} {w : va_W}
theorem k_iconst {z : Int} {v : Int32} (hd : decode y.2.1 pc = .ok (.iconst z, 1)) (hv : Int32.ofInt z = v) (kk : KK_ l D cA y K N Post (pc + 1) L (.int v :: st) k n w) : KK_ l D cA y K N Post pc L st k n w :=
  fun p e s m args below meth c A C ls H locs hl hP hD hS => lv_iconst C.1 C.2.1 hd hv (kk p e s m args below meth c A C ls H locs hl hP hD hS)
theorem k_bipush {z : Int} {v : Int32} (hd : decode y.2.1 pc = .ok (.bipush z, 2)) (hv : (Int8.ofInt z).toInt32 = v) (kk : KK_ l D cA y K N Post (pc + 2) L (.int v :: st) k n w) : KK_ l D cA y K N Post pc L st k n w :=
  fun p e s m args below meth c A C ls H locs hl hP hD hS => lv_bipush C.1 C.2.1 hd hv (kk p e s m args below meth c A C ls H locs hl hP hD hS)
theorem k_sipush {z : Int} {v : Int32} (hd : decode y.2.1 pc = .ok (.sipush z, 3)) (hv : (Int16.ofInt z).toInt32 = v) (kk : KK_ l D cA y K N Post (pc + 3) L (.int v :: st) k n w) : KK_ l D cA y K N Post pc L st k n w :=
  fun p e s m args below meth c A C ls H locs hl hP hD hS => lv_sipush C.1 C.2.1 hd hv (kk p e s m args below meth c A C ls H locs hl hP hD hS)
theorem k_iload_n {j : Fin 4} {i : Nat} {x : Int32} (hd : decode y.2.1 pc = .ok (.iload_n j, 1)) (kl : Nat) (hk : L[kl]? = some (i, .int x)) (hi : (j : Nat) = i) (kk : KK_ l D cA y K N Post (pc + 1) L (.int x :: st) k n w) : KK_ l D cA y K N Post pc L st k n w :=
  fun p e s m args below meth c A C ls H locs hl hP hD hS => lv_iload_n C.1 C.2.1 hd hi (lv_at hl kl hk) (kk p e s m args below meth c A C ls H locs hl hP hD hS)
theorem k_aload_n {j : Fin 4} {i : Nat} {x : Nat} (hd : decode y.2.1 pc = .ok (.aload_n j, 1)) (kl : Nat) (hk : L[kl]? = some (i, .ref x)) (hi : (j : Nat) = i) (kk : KK_ l D cA y K N Post (pc + 1) L (.ref x :: st) k n w) : KK_ l D cA y K N Post pc L st k n w :=
  fun p e s m args below meth c A C ls H locs hl hP hD hS => lv_aload_n C.1 C.2.1 hd hi (lv_at hl kl hk) (kk p e s m args below meth c A C ls H locs hl hP hD hS)
theorem k_istore_n {j : Fin 4} {i : Nat} {x : Int32} {L' : List (Nat × Value)} (hd : decode y.2.1 pc = .ok (.istore_n j, 1)) (hi : (j : Nat) = i) (hn : i < y.2.2.1) (hL : (i, Value.int x) :: L.filter (fun q => !(q.1 == i) && !(q.1 + 1 == i && q.2.category == 2)) = L') (kk : KK_ l D cA y K N Post (pc + 1) L' st k n w) : KK_ l D cA y K N Post pc L (.int x :: st) k n w :=
  fun p e s m args below meth c A C ls H locs hl hP hD hS => lv_istore_n C.1 C.2.1 hd hi hl hn hL (fun ls hl => kk p e s m args below meth c A C ls H locs hl hP hD hS)
theorem k_iinc {i : Nat} {z : Int} {x v : Int32} {L' : List (Nat × Value)} (hd : decode y.2.1 pc = .ok (.iinc i z, 3)) (kl : Nat) (hk : L[kl]? = some (i, .int x)) (hv : x + Int32.ofInt z = v) (hn : i < y.2.2.1) (hL : (i, Value.int v) :: L.filter (fun q => !(q.1 == i) && !(q.1 + 1 == i && q.2.category == 2)) = L') (kk : KK_ l D cA y K N Post (pc + 3) L' st k n w) : KK_ l D cA y K N Post pc L st k n w :=
  fun p e s m args below meth c A C ls H locs hl hP hD hS => lv_iinc C.1 C.2.1 hd hl hk hv hn hL (fun ls hl => kk p e s m args below meth c A C ls H locs hl hP hD hS)
theorem k_goto {off : Int} (tgt : Nat) (hd : decode y.2.1 pc = .ok (.goto off, 3)) (ht : (pc : Int) + off = (tgt : Int)) (kk : KK_ l D cA y K N Post tgt L st k n w) : KK_ l D cA y K N Post pc L st k n w :=
  fun p e s m args below meth c A C ls H locs hl hP hD hS => lv_goto C.1 C.2.1 hd ht (kk p e s m args below meth c A C ls H locs hl hP hD hS)
theorem k_icmp_ge {a b : Int32} {off : Int} (tgt : Nat) (hd : decode y.2.1 pc = .ok (.if_icmp .ge off, 3)) (ht : (pc : Int) + off = (tgt : Int)) (kt : b ≤ a → KK_ l D cA y K N Post tgt L st k n w) (kf : ¬ (b ≤ a) → KK_ l D cA y K N Post (pc + 3) L st k n w) : KK_ l D cA y K N Post pc L (.int b :: .int a :: st) k n w :=
  fun p e s m args below meth c A C ls H locs hl hP hD hS => lv_icmp_ge C.1 C.2.1 hd ht (fun q => kt q p e s m args below meth c A C ls H locs hl hP hD hS) (fun q => kf q p e s m args below meth c A C ls H locs hl hP hD hS)
theorem k_dup {v : Value} (hd : decode y.2.1 pc = .ok (.dup, 1)) (hv : v.category = 1) (kk : KK_ l D cA y K N Post (pc + 1) L (v :: v :: st) k n w) : KK_ l D cA y K N Post pc L (v :: st) k n w :=
  fun p e s m args below meth c A C ls H locs hl hP hD hS => lv_dup C.1 C.2.1 hd hv (kk p e s m args below meth c A C ls H locs hl hP hD hS)
theorem k_oinit {own : String} {idx a : Nat} (w1 : Cond.methodLink own idx objectInit ∈ tg_) (w2 : Cond.instanceMethod objectInit ∈ tg_) (w3 : Cond.code objectInit ⟨#[0xb1]⟩ 1 none ∈ tg_) (ho : y.1.cls = own) (hd : decode y.2.1 pc = .ok (.invokespecial idx, 3)) (hf : 1 ≤ y.2.2.2.2.1) (hc : (st.map fun v => v.category).sum + 12 ≤ y.2.2.2.2.2) (kk : KK_ l D cA y K N Post (pc + 3) L st k n w) : KK_ l D cA y K N Post pc L (.ref a :: st) k n w := by
  intro p e s m args below meth c A C ls H locs hl hP hD hS
  subst ho
  have ok : ∀ x ∈ tg_, x.before args s = true := fun x h => C.2.2.2.2.1 x (List.mem_cons_of_mem _ h)
  refine W.objInit C.1 C.2.1 C.2.2.2.1 (ok _ w1) (ok _ w2) (ok _ w3) rfl (by rw [C.2.2.1]; exact hl.1) rfl hd hf (by show 2 * 0 + _ + 12 ≤ _; rw [Nat.mul_zero, Nat.zero_add]; exact hc) ?_
  exact kk p e s m args below meth c A C ls H locs hl hP hD hS
theorem k_get {own ref nm ds Cn : String} {T : u_T} {M ci idx a : Nat} {fs : List Value} {v : Value} (q0 : Nat) (he : w[q0]? = some (a, .inr (ci, fs))) (hc : cls_[ci]? = some (Cn, T, M)) (hin : ∀ x ∈ u_ws Cn T M, x ∈ tg_) (f : Nat) (hf : f < M) (hT : T f = (ref, nm, ds, (T f).2.2.2)) (hv : fs[f]? = some v) (hw : Cond.fieldLink own idx ref nm ds ∈ tg_) (ho : y.1.cls = own) (hd : decode y.2.1 pc = .ok (.getfield idx, 3)) (kk : KK_ l D cA y K N Post (pc + 3) L (v :: st) k n w) : KK_ l D cA y K N Post pc L (.ref a :: st) k n w := by
  intro p e s m args below meth c A C ls H locs hl hP hD hS
  subst ho
  have hlink := C.2.2.2.2.1 _ (List.mem_cons_of_mem (Cond.code y.1 y.2.1 y.2.2.1 y.2.2.2.1) hw)
  refine va_get (ref := ref) C.1 C.2.1 C.2.2.2.2.1 (fun x h => List.mem_cons_of_mem _ (hin x h)) C.2.2.2.1 C.2.2.2.2.2.1.1 hP q0 he hc f hf (by rw [hT]; exact hlink) (by rw [hT]; exact fun _ h => h) hv hd (kk p e s m args below meth c A C ls H locs hl hP hD hS)
theorem k_put {own ref nm ds Cn : String} {T : u_T} {ty0 : Nat → FieldType} {M ci idx a : Nat} {fs : List Value} {v : Value} {ty : FieldType} {w' : va_W} (q0 : Nat) (he : w[q0]? = some (a, .inr (ci, fs))) (hc : cls_[ci]? = some (Cn, T, M)) (hin : ∀ x ∈ u_ws Cn T M, x ∈ tg_) (hty : ∀ k, k < M → parseFieldDescriptor (T k).2.2.1 = some (ty0 k)) (hnm : ∀ a, a < M → ∀ b, b < M → a ≠ b → (T a).2.1 ≠ (T b).2.1) (f : Nat) (hf : f < M) (hT : T f = (ref, nm, ds, false)) (hd' : parseFieldDescriptor ds = some ty) (hn : narrow ty v = v) (hfit : fits ty v = true) (hfl : f < fs.length) (hσ : w.set q0 (a, .inr (ci, fs.set f v)) = w') (hw : Cond.fieldLink own idx ref nm ds ∈ tg_) (ho : y.1.cls = own) (hd : decode y.2.1 pc = .ok (.putfield idx, 3)) (kk : KK_ l D cA y K N Post (pc + 3) L st k n w') : KK_ l D cA y K N Post pc L (v :: .ref a :: st) k n w := by
  intro p e s m args below meth c A C ls H locs hl hP hD hS
  subst ho
  have hlink := C.2.2.2.2.1 _ (List.mem_cons_of_mem (Cond.code y.1 y.2.1 y.2.2.1 y.2.2.2.1) hw)
  refine va_put (ref := ref) (ty := ty) C.1 C.2.1 C.2.2.2.2.1 (fun x h => List.mem_cons_of_mem _ (hin x h)) ty0 hty hnm C.2.2.2.1 C.2.2.2.2.2.1.1 hP hD hS q0 he hc f hf (by rw [hT]; exact hlink) (by rw [hT]; exact fun _ h => h) (by rw [hT]) (by rw [hT]; exact hd') hn hfit hfl hd (fun H1 locs1 hP1 hD1 hS1 => ?_)
  rw [hσ] at hP1 hD1
  exact kk p e s m args below meth c A C ls H1 locs1 hl hP1 hD1 hS1
theorem k_putF {own nm ds Cn : String} {T : u_T} {ty0 : Nat → FieldType} {M ci idx a : Nat} {fs : List Value} {v : Value} {ty : FieldType} {w' : va_W} (q0 : Nat) (he : w[q0]? = some (a, .inr (ci, fs))) (hc : cls_[ci]? = some (Cn, T, M)) (hin : ∀ x ∈ u_ws Cn T M, x ∈ tg_) (hty : ∀ k, k < M → parseFieldDescriptor (T k).2.2.1 = some (ty0 k)) (hnm : ∀ a, a < M → ∀ b, b < M → a ≠ b → (T a).2.1 ≠ (T b).2.1) (f : Nat) (hf : f < M) (hT : T f = (own, nm, ds, true)) (hd' : parseFieldDescriptor ds = some ty) (hn : narrow ty v = v) (hfit : fits ty v = true) (hfl : f < fs.length) (hσ : w.set q0 (a, .inr (ci, fs.set f v)) = w') (hw : Cond.fieldLink own idx own nm ds ∈ tg_) (ho : y.1.cls = own) (hd : decode y.2.1 pc = .ok (.putfield idx, 3)) (kk : KK_ l D cA y K N Post (pc + 3) L st k n w') : KK_ l D cA y K N Post pc L (v :: .ref a :: st) k n w := by
  intro p e s m args below meth c A C ls H locs hl hP hD hS
  subst ho
  have hlink := C.2.2.2.2.1 _ (List.mem_cons_of_mem (Cond.code y.1 y.2.1 y.2.2.1 y.2.2.2.1) hw)
  refine va_putF (own := y.1.cls) (ref := y.1.cls) (ty := ty) C.1 C.2.1 C.2.2.2.2.1 (fun x h => List.mem_cons_of_mem _ (hin x h)) ty0 hty hnm C.2.2.2.1 C.2.2.2.2.2.1.1 hP hD hS q0 he hc f hf (by rw [hT]; exact hlink) (by rw [hT]; exact fun _ h => h) (by rw [hT]) C.2.2.2.2.2.2.2.1 (by rw [hT]) (by rw [hT]; exact hd') hn hfit hfl hd (fun H1 locs1 hP1 hD1 hS1 => ?_)
  rw [hσ] at hP1 hD1
  exact kk p e s m args below meth c A C ls H1 locs1 hl hP1 hD1 hS1
theorem k_iast {c0 : ClassId} {M a : Nat} {f : Nat → Int32} {i x : Int32} {w' : va_W} (q0 t0 : Nat) (he : w[q0]? = some (a, .inl (c0, M, .inl f))) (ht : (tys_ cA)[t0]? = some (c0, .int)) (hin : vp_in i M) (hσ : w.set q0 (a, .inl (c0, M, .inl (upd f i.toNatClampNeg x))) = w') (hd : decode y.2.1 pc = .ok (.iastore, 1)) (kk : KK_ l D cA y K N Post (pc + 1) L st k n w') : KK_ l D cA y K N Post pc L (.int x :: .int i :: .ref a :: st) k n w :=
  fun p e s m args below meth c A C ls H locs hl hP hD hS => va_iast C.1 C.2.1 C.2.2.2.2.2.1.1 hP hD hS q0 t0 he ht hin hd (fun H1 locs1 hP1 hD1 hS1 => kk p e s m args below meth c A C ls H1 locs1 hl (by rw [hσ] at hP1; exact hP1) (by rw [hσ] at hD1; exact hD1) hS1)
theorem k_aast {c0 : ClassId} {r : vw_C} {M a v ci : Nat} {vs : List Value} {f : Nat → Option Nat} {i : Int32} {w' : va_W} (q0 t0 qk : Nat) (he : w[q0]? = some (a, .inl (c0, M, .inr (.inr (.inr (.inr f)))))) (ht : (tys_ cA)[t0]? = some (c0, .object r.1)) (hv : w[qk]? = some (v, .inr (ci, vs))) (hc : cls_[ci]? = some r) (hin : vp_in i M) (hσ : w.set q0 (a, .inl (c0, M, .inr (.inr (.inr (.inr (va_up f i.toNatClampNeg (some v))))))) = w') (hd : decode y.2.1 pc = .ok (.aastore, 1)) (kk : KK_ l D cA y K N Post (pc + 1) L st k n w') : KK_ l D cA y K N Post pc L (.ref v :: .int i :: .ref a :: st) k n w :=
  fun p e s m args below meth c A C ls H locs hl hP hD hS => va_astq C.1 C.2.1 C.2.2.2.2.2.1.1 hP hD hS q0 t0 qk ci he ht hv hc hin hd (fun H1 locs1 hP1 hD1 hS1 => kk p e s m args below meth c A C ls H1 locs1 hl (by rw [hσ] at hP1; exact hP1) (by rw [hσ] at hD1; exact hD1) hS1)
theorem k_newi {M : Nat} {v : Int32} (hw : Cond.arrayClass .int ∈ tg_) (hv : ¬ v < 0) (hM : v.toNatClampNeg = M) (hb : M * 4 ≤ 536870912) (hk : k + 1 ≤ K) (hn : n + M ≤ N) (hd : decode y.2.1 pc = .ok (.newarray .int, 2)) (kk : ∀ q : Nat, KK_ l D cA y K N Post (pc + 2) L (.ref q :: st) (k + 1) (n + M) (w ++ [(q, .inl (cA 0, M, .inl (fun _ => iI_ 0)))])) : KK_ l D cA y K N Post pc L (.int v :: st) k n w := by
  intro p e s m args below meth c A C ls H locs hl hP hD hS
  have ok : ∀ x ∈ tg_, x.before args s = true := fun x h => C.2.2.2.2.1 x (List.mem_cons_of_mem _ h)
  refine va_newa (atype := .int) (ty := .int) (a0 := (M, .inl (fun _ => iI_ 0))) C.1 C.2.1 (ok _ hw) rfl C.2.2.2.2.2.1.1 hP hD hS C.2.2.2.2.2.2.1 (fun _ => rfl) hv hM hb hk hn hd (fun q c0 H1 hK1 hP1 hD1 hS1 => ?_)
  have e1 := va_nm_int (hK1.2 4 (c0, .int) rfl).2
  have e2 := va_nm_int (C.2.2.2.2.2.1.1.2 0 (cA 0, .int) rfl).2
  have e3 : c0 = cA 0 := Option.some.inj (e1.symm.trans e2)
  subst e3
  exact kk q p e s m args below meth c A C ls H1 locs hl hP1 hD1 hS1
theorem k_newz {M : Nat} {v : Int32} (hw : Cond.arrayClass .boolean ∈ tg_) (hv : ¬ v < 0) (hM : v.toNatClampNeg = M) (hb : M * 1 ≤ 536870912) (hk : k + 1 ≤ K) (hn : n + M ≤ N) (hd : decode y.2.1 pc = .ok (.newarray .boolean, 2)) (kk : ∀ q : Nat, KK_ l D cA y K N Post (pc + 2) L (.ref q :: st) (k + 1) (n + M) (w ++ [(q, .inl (cA 1, M, .inl (fun _ => iI_ 0)))])) : KK_ l D cA y K N Post pc L (.int v :: st) k n w := by
  intro p e s m args below meth c A C ls H locs hl hP hD hS
  have ok : ∀ x ∈ tg_, x.before args s = true := fun x h => C.2.2.2.2.1 x (List.mem_cons_of_mem _ h)
  refine va_newa (atype := .boolean) (ty := .boolean) (a0 := (M, .inl (fun _ => iI_ 0))) C.1 C.2.1 (ok _ hw) rfl C.2.2.2.2.2.1.1 hP hD hS C.2.2.2.2.2.2.1 (fun _ => rfl) hv hM hb hk hn hd (fun q c0 H1 hK1 hP1 hD1 hS1 => ?_)
  have e1 := va_nm_boolean (hK1.2 4 (c0, .boolean) rfl).2
  have e2 := va_nm_boolean (C.2.2.2.2.2.1.1.2 1 (cA 1, .boolean) rfl).2
  have e3 : c0 = cA 1 := Option.some.inj (e1.symm.trans e2)
  subst e3
  exact kk q p e s m args below meth c A C ls H1 locs hl hP1 hD1 hS1
theorem k_newq {own Cn : String} {idx M t0 : Nat} {v : Int32} (hw : Cond.classLink own idx Cn ∈ tg_) (hAO : ∀ U, Ek_ D cA U → va_AO Cn U) (ht : (tys_ cA)[t0]? = some (cA t0, .object Cn)) (ho : y.1.cls = own) (hv : ¬ v < 0) (hM : v.toNatClampNeg = M) (hb : M * 4 ≤ 536870912) (hk : k + 1 ≤ K) (hn : n + M ≤ N) (hd : decode y.2.1 pc = .ok (.anewarray idx, 3)) (kk : ∀ q : Nat, KK_ l D cA y K N Post (pc + 3) L (.ref q :: st) (k + 1) (n + M) (w ++ [(q, .inl (cA t0, M, .inr (.inr (.inr (.inr (fun _ => none))))))])) : KK_ l D cA y K N Post pc L (.int v :: st) k n w := by
  intro p e s m args below meth c A C ls H locs hl hP hD hS
  subst ho
  have ok : ∀ x ∈ tg_, x.before args s = true := fun x h => C.2.2.2.2.1 x (List.mem_cons_of_mem _ h)
  refine va_newq C.1 C.2.1 C.2.2.2.1 (ok _ hw) (hAO _ C.2.2.2.2.2.1) C.2.2.2.2.2.1.1 hP hD hS C.2.2.2.2.2.2.1 hv hM hb hk hn hd (fun q c0 H1 hK1 hP1 hD1 hS1 => ?_)
  have e1 := va_nmO (hK1.2 4 (c0, .object Cn) rfl).2 rfl
  have e2 := va_nmO (C.2.2.2.2.2.1.1.2 t0 (cA t0, .object Cn) ht).2 rfl
  have e3 : c0 = cA t0 := Option.some.inj (e1.symm.trans e2)
  subst e3
  exact kk q p e s m args below meth c A C ls H1 locs hl hP1 hD1 hS1
theorem k_new {own Cn : String} {T : u_T} {ty0 : Nat → FieldType} {M ci idx : Nat} {fs : List Value} (hin : ∀ x ∈ u_ws Cn T M, x ∈ tg_) (hty : ∀ k, k < M → parseFieldDescriptor (T k).2.2.1 = some (ty0 k)) (w1 : Cond.classLink own idx Cn ∈ tg_) (w2 : Cond.instantiable Cn M ∈ tg_) (w3 : Cond.initialized Cn ∈ tg_) (hc : cls_[ci]? = some (Cn, T, M)) (hfs : ∀ j, j < M → defaultValue (ty0 j) = vp_V fs j) (ho : y.1.cls = own) (hk : k + 1 ≤ K) (hn : n + M ≤ N) (hd : decode y.2.1 pc = .ok (.new idx, 3)) (kk : ∀ q : Nat, KK_ l D cA y K N Post (pc + 3) L (.ref q :: st) (k + 1) (n + M) (w ++ [(q, .inr (ci, fs))])) : KK_ l D cA y K N Post pc L st k n w := by
  intro p e s m args below meth c A C ls H locs hl hP hD hS
  subst ho
  have ok : ∀ x ∈ tg_, x.before args s = true := fun x h => C.2.2.2.2.1 x (List.mem_cons_of_mem _ h)
  exact va_new C.1 C.2.1 C.2.2.2.2.1 (fun x h => List.mem_cons_of_mem _ (hin x h)) ty0 hty C.2.2.2.1 (ok _ w1) (ok _ w2) (ok _ w3) C.2.2.2.2.2.1.1 hP hD hS C.2.2.2.2.2.2.1 hc hfs hk hn hd (fun q H1 hP1 hD1 hS1 => kk q p e s m args below meth c A C ls H1 locs hl hP1 hD1 hS1)
theorem k_ret (hd : decode y.2.1 pc = .ok (.return_, 1)) (hk : k = K) (hn : n = N) (is : List Nat) (hnd : va_nd is = true) {w' : va_W} (hs : is.map (fun i => w[i]?) = w'.map some) (h : Post w') : KK_ l D cA y K N Post pc L [] k n w := by
  intro p e s m args below meth c A C ls H locs hl hP hD hS
  subst hk
  subst hn
  have hP9 : va_P D cls_ w' H := by
    refine hP.sub is ?_
    have e1 : is.filterMap (fun i => w[i]?) = (is.map (fun i => w[i]?)).filterMap id := by rw [List.filterMap_map]; rfl
    rw [e1, hs, List.filterMap_map]
    simp
  exact W.vret C.1 C.2.1 C.2.2.2.2.2.2.2.2.1 (fun t ht hW => ⟨⟨w', rfl, h, by rw [ht]; exact hP9, hD.sub is hnd hs⟩, hS.F ht⟩) hS.2.2 hd C.2.2.2.2.2.2.2.2.2
theorem k_max {own : String} {idx : Nat} {a b : Int32} (w1 : Cond.methodLink own idx Lib.Math.max.name ∈ tg_) (ho : y.1.cls = own) (hR : 1 ≤ y.2.2.2.2.1) (h8 : (st.map fun v => v.category).sum + 13 ≤ y.2.2.2.2.2) (hk : k ≤ K) (hn : n ≤ N) (hd : decode y.2.1 pc = .ok (.invokestatic idx, 3)) (kk : KK_ l D cA y K N Post (pc + 3) L (.int (if a < b then b else a) :: st) k n w) : KK_ l D cA y K N Post pc L (.int b :: .int a :: st) k n w := by
  intro p e s m args below meth c A C ls H locs hl hP hD hS
  subst ho
  have ok : ∀ x ∈ tg_, x.before args s = true := fun x h => C.2.2.2.2.1 x (List.mem_cons_of_mem _ h)
  exact va_mmax C.1 C.2.1 (C.2.2.1.trans hl.1.symm) C.2.2.2.1 (ok _ w1) (ok _ w_293) (ok _ w_81) (ok _ w_294) hR h8 hk hn hd (kk p e s m args below meth c A C ls H locs hl hP hD hS)
theorem pk_blind {as : List Value} {sz : Nat} : FrameBlind (PK_ D cA as w sz) := fun a U g mk q => by
  obtain ⟨h1, h2, h3, h4⟩ := q
  exact ⟨h1, h2, h3, Ek_.same (u := U) (U := U.calling g mk a) rfl h4⟩
theorem k_on {K' N' b : Nat} {As rest : List Value} {wc wr : va_W} {Post' : va_W → Prop} {p : Program} {e : Env} {s : State} {m : MethodId} {args : Array Value} {below : List Frame} {meth : Method} {c : Code} {A : Nat → Prop} (C : Kc_ p s m args meth c y D cA A) {ls : Array Slot} {H : Heap} {locs : List Loc} (hl : lv_has ls y.2.2.1 L) (hP : va_P D cls_ w H) (hD : va_D A w) (hS : va_S A s.heap H locs) (isC isR : List Nat) (hC : isC.map (fun i => w[i]?) = wc.map some) (hR : isR.map (fun i => w[i]?) = wr.map some) (hnd : va_nd isR = true) (hdis : ∀ i ∈ isR, i ∉ isC)
    (hr : va_Run p l e (rk_ y K N) s m args below meth c H locs k n K' N' (F0 m pc ls st) rest (QK_ D Post' (va_A wc H.size) (Value.ref b :: As).toArray) (va_A wc H.size)) (kk : ∀ w1, Post' w1 → KK_ l D cA y K N Post (pc + 3) L rest (k + K') (n + N') (wr ++ w1)) : W p l e (rk_ y K N) s m args below meth c H locs k n (MQ below (QK_ D Post A) args s K N A) (F0 m pc ls st) := by
  have hFc := va_free (wc := wc) hD hS C.2.2.2.2.2.2.1 isC hC
  refine va_callv hr hS (fun q _ h => hFc q h) hFc (fun w1 t H1 locs1 ht hvm hw hB hz1 hk1 hS1 => ?_)
  obtain ⟨hP1, hD1⟩ := hB
  rw [ht] at hP1
  obtain ⟨hP2, hD2⟩ := va_join hP hD isC isR hC hR hnd hdis hk1 hFc hP1 hD1
  exact kk w1 hw p e s m args below meth c A C ls H1 locs1 hl hP2 hD2 hS1
theorem k_pre {H : Heap} {s : State} {A : Nat → Prop} {p : Program} {m : MethodId} {args : Array Value} {meth : Method} {c : Code} (C : Kc_ p s m args meth c y D cA A) {as : List Value} {wc : va_W} (hP : va_P D cls_ w H) (isC : List Nat) (hC : isC.map (fun i => w[i]?) = wc.map some) : PreS s H (PK_ D cA as wc H.size) as := by
  refine ⟨pk_blind, fun U hU hW => ⟨rfl, by rw [hU], ?_, C.2.2.2.2.2.1.warm hW⟩⟩
  rw [hU]
  refine hP.sub isC ?_
  have e1 : isC.filterMap (fun i => w[i]?) = (isC.map (fun i => w[i]?)).filterMap id := by rw [List.filterMap_map]; rfl
  rw [e1, hC, List.filterMap_map]
  simp
theorem k_call {y' : MI_} {own : String} {idx K' N' b : Nat} {As rest : List Value} {wc wr : va_W} {Post' : va_W → Prop} (na : Nat) (isC isR : List Nat) (hndC : va_nd isC = true) (hC : isC.map (fun i => w[i]?) = wc.map some) (hR : isR.map (fun i => w[i]?) = wr.map some) (hnd : va_nd isR = true) (hdis : ∀ i ∈ isR, i ∉ isC) (w1 : Cond.methodLink own idx y'.1 ∈ tg_) (w2 : Cond.instanceMethod y'.1 ∈ tg_) (w4 : Cond.initialized y'.1.cls ∈ tg_) (w5 : Cond.code y'.1 y'.2.1 y'.2.2.1 y'.2.2.2.1 ∈ tg_) (hr0 : y'.2.2.2.1 = none) (hi : y'.1.name = "<init>") (ho : y.1.cls = own)
    (hdd : y'.1.cls ≠ "java/lang/invoke/MethodHandle" ∧ y'.1.cls ≠ "java/lang/invoke/VarHandle" ∧ (parseMethodDescriptor y'.1.desc).map (fun d => d.parameters.length) = some na) (hRm : y'.2.2.2.2.1 + 1 ≤ y.2.2.2.2.1 ∧ 8 + (y'.2.2.1 + 11) + y'.2.2.2.2.2 ≤ y.2.2.2.2.2) (hn : As.length = na) (hst : st = As.reverse ++ .ref b :: rest) (h8 : (rest.map fun v => v.category).sum ≤ 8) (hd : decode y.2.1 pc = .ok (.invokespecial idx, 3)) (hkK : k + K' ≤ K) (hnN : n + N' ≤ N)
    (hM : KM_ l D cA y' K' N' (.ref b :: As) wc Post') (kk : ∀ w1, Post' w1 → KK_ l D cA y K N Post (pc + 3) L rest (k + K') (n + N') (wr ++ w1)) : KK_ l D cA y K N Post pc L st k n w := by
  intro p e s m args below meth c A C ls H locs hl hP hD hS
  subst ho
  subst hst
  have ok : ∀ x ∈ tg_, x.before args s = true := fun x h => C.2.2.2.2.1 x (List.mem_cons_of_mem _ h)
  have hDc : va_D (fun _ => True) wc := (hD.sub isC hndC hC).weaken (fun _ _ _ _ => trivial)
  refine k_on C hl hP hD hS isC isR hC hR hnd hdis (va_runI (As := As) (rest := rest) (b := b) (n := na) ⟨C.1, C.2.1, C.2.2.1, C.2.2.2.1, C.2.2.2.2.1⟩ (hM hDc H.size) ⟨callB_of (ret := none) na C.2.2.2.2.1 (good_in w5) (by show ws_ y' = _; rw [ws_, hr0]) rfl rfl (ok _ w4) (ok _ w1) hdd hRm, hi, ok _ w2⟩ (k_pre C hP isC hC) rfl hn hl.1 rfl (lv_room h8) hd ⟨hkK, hnN⟩) kk
theorem k_callN {y' : MI_} {own host : String} {idx K' N' b : Nat} {As rest : List Value} {wc wr : va_W} {Post' : va_W → Prop} (na : Nat) (isC isR : List Nat) (hndC : va_nd isC = true) (hC : isC.map (fun i => w[i]?) = wc.map some) (hR : isR.map (fun i => w[i]?) = wr.map some) (hnd : va_nd isR = true) (hdis : ∀ i ∈ isR, i ∉ isC) (w1 : Cond.methodLinkNest own idx y'.1 host ∈ nsc_) (w2 : Cond.instanceMethod y'.1 ∈ tg_) (w4 : Cond.initialized y'.1.cls ∈ tg_) (w5 : Cond.code y'.1 y'.2.1 y'.2.2.1 y'.2.2.2.1 ∈ tg_) (hr0 : y'.2.2.2.1 = none) (hi : y'.1.name = "<init>") (ho : y.1.cls = own)
    (hdd : y'.1.cls ≠ "java/lang/invoke/MethodHandle" ∧ y'.1.cls ≠ "java/lang/invoke/VarHandle" ∧ (parseMethodDescriptor y'.1.desc).map (fun d => d.parameters.length) = some na) (hRm : y'.2.2.2.2.1 + 1 ≤ y.2.2.2.2.1 ∧ 8 + (y'.2.2.1 + 11) + y'.2.2.2.2.2 ≤ y.2.2.2.2.2) (hn : As.length = na) (hst : st = As.reverse ++ .ref b :: rest) (h8 : (rest.map fun v => v.category).sum ≤ 8) (hd : decode y.2.1 pc = .ok (.invokespecial idx, 3)) (hkK : k + K' ≤ K) (hnN : n + N' ≤ N)
    (hM : KM_ l D cA y' K' N' (.ref b :: As) wc Post') (kk : ∀ w1, Post' w1 → KK_ l D cA y K N Post (pc + 3) L rest (k + K') (n + N') (wr ++ w1)) : KK_ l D cA y K N Post pc L st k n w := by
  intro p e s m args below meth c A C ls H locs hl hP hD hS
  subst ho
  subst hst
  have ok : ∀ x ∈ tg_, x.before args s = true := fun x h => C.2.2.2.2.1 x (List.mem_cons_of_mem _ h)
  have hDc : va_D (fun _ => True) wc := (hD.sub isC hndC hC).weaken (fun _ _ _ _ => trivial)
  refine k_on C hl hP hD hS isC isR hC hR hnd hdis (va_runIN (As := As) (rest := rest) (b := b) (n := na) ⟨C.1, C.2.1, C.2.2.1, C.2.2.2.1, C.2.2.2.2.1⟩ (hM hDc H.size) ⟨va_cnB (ret := none) na C.2.2.2.2.1 (good_in w5) (by show ws_ y' = _; rw [ws_, hr0]) rfl rfl (C.2.2.2.2.2.1.2.1 _ w1) (ok _ w4) hdd hRm, hi, ok _ w2⟩ (k_pre C hP isC hC) rfl hn hl.1 rfl (lv_room h8) hd ⟨hkK, hnN⟩) kk
end KR
