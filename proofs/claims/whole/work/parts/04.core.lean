/-! ===== the core: a method's contract MM_ over a whole world of int components, a point of its body GG_, a rule an instruction ===== -/
/-- a state of a world: component i, place j (a field of ints is the place 0 of its component) -/
abbrev St_ : Type := Nat → Nat → Int32
/-- an int by its value -/
def iI_ (a : Int) : Int32 := Int32.ofInt a
def iL_ (a : Int) : Int64 := Int64.ofInt a
theorem iI_0 : iI_ 0 = 0 := by decide
def su_ (σ : St_) (i j : Nat) (v : Int32) : St_ := fun k => if k = i then upd (σ k) j v else σ k
def sf_ (σ : St_) (i : Nat) (f : Nat → Int32) : St_ := fun k => if k = i then f else σ k
/-- a method: name, bytes, locals, answer's type; frames and words of locals that its calls may take -/
abbrev MI_ : Type := MethodName × ByteArray × Nat × Option FieldType × Nat × Nat
/-- launch, class numbers, array classes, world, the cells of the static tables -/
abbrev Zt_ : Type := Launch × va_G × List (ClassId × FieldType) × (St_ → va_W) × (Nat → Nat)
def cls_ : List vw_C := [(RX0, TX0, 13), (RX1, TX1, 4), (RX2, TX2, 2), (RX3, TX3, 5), (RX4, TX4, 6), (RX5, TX5, 2), (RX6, TX6, 3), (RX7, TX7, 3), (RX8, TX8, 2), (RX9, TX9, 14), (RX10, TX10, 44)]
def tg_ : List Cond := lw_tbl.filter goodWord
theorem tg_m {w : Cond} (i : Nat) (h : lw_tbl[i]? = some w) (hg : goodWord w = true) : w ∈ tg_ := List.mem_filter.mpr ⟨List.mem_of_getElem? h, hg⟩
theorem tg_good {w : Cond} (h : w ∈ tg_) : (w.onTables && w.keeps) = true ∨ ∃ ty, w = .arrayClass ty := good_of_word (List.mem_filter.mp h).2
def ws_ (y : MI_) : List Cond := Cond.code y.1 y.2.1 y.2.2.1 y.2.2.2.1 :: tg_
def rm_ (y : MI_) : Room := { frames := y.2.2.2.2.1, cells := 0, slots := 0, locals := y.2.2.2.2.2 }
def nst_ : List Cond := [.methodLinkNest "LinenHouse$Chamber" 64 yX9_within "LinenHouse", .methodLinkNest "LinenHouse$Chamber" 109 yX9_rather "LinenHouse", .methodLinkNest "LinenHouse$Chamber" 113 yX9_warmth "LinenHouse", .methodLinkNest "LinenHouse$Shares" 41 yX9_factorial "LinenHouse", .methodLinkNest "LinenHouse$Roll" 56 yX9_rather "LinenHouse"]
def tW_ (j : Nat) : Int32 := ([0, 1, 2, 0, 2, 1, 1, 0, 2, 1, 2, 0, 2, 0, 1, 2, 1, 0] : List Int32).getD j 0
def tP_ (j : Nat) : Int32 := ([0, 1, 2, 0, 2, 1, 1, 0, 2, 2, 0, 1, 1, 2, 0, 2, 1, 0] : List Int32).getD j 0
def tD_ (j : Nat) : Int32 := ([0, 4, 9] : List Int32).getD j 0
def tF_ (j : Nat) : Int32 := ([1, 1, 2, 6, 24, 120, 720, 5040, 40320] : List Int32).getD j 0
/-- a static table: the field holds the cell t, which holds N ints -/
def Tb_ (nm : String) (t N : Nat) (f : Nat → Int32) (A : Nat → Prop) (U : State) (H : Heap) : Prop := va_Z "LinenHouse" nm "[I" (.ref t) A U H ∧ va_T .int t N (fun j => .int (f j)) A U H
/-- what every method here takes as given of tables and statics -/
def Ev_ (z : Zt_) (A : Nat → Prop) (U : State) (H : Heap) : Prop := va_K z.2.1 cls_ z.2.2.1 U ∧ (∀ w ∈ nst_, va_Nw w U) ∧ Tb_ "WANTED" (z.2.2.2.2 0) 18 tW_ A U H ∧ Tb_ "PLACE" (z.2.2.2.2 1) 18 tP_ A U H ∧ Tb_ "DIGESTED_NIGHTS" (z.2.2.2.2 2) 3 tD_ A U H ∧ Tb_ "FACTORIAL" (z.2.2.2.2 3) 9 tF_ A U H
theorem Tb_.moved {nm : String} {t N : Nat} {f : Nat → Int32} {A : Nat → Prop} {u U : State} {H : Heap} (hvm : u.vm.Alike U.vm) (h : Tb_ nm t N f A u H) : Tb_ nm t N f A U H := ⟨va_Z.moved hvm h.1, va_T.moved hvm h.2⟩
theorem Tb_.kept {nm : String} {t N : Nat} {f : Nat → Int32} {A : Nat → Prop} {U : State} {H H1 : Heap} (h : Tb_ nm t N f A U H) (hq : ∀ a : Nat, a < H.size → ¬ A a → H1[a]? = H[a]?) : Tb_ nm t N f A U H1 := ⟨h.1.kept hq, h.2.kept hq⟩
theorem Tb_.narrow {nm : String} {t N : Nat} {f : Nat → Int32} {A B : Nat → Prop} {U : State} {H : Heap} (h : Tb_ nm t N f A U H) (hAB : ∀ q, B q → A q) : Tb_ nm t N f B U H := ⟨h.1.narrow hAB, h.2.narrow hAB⟩
theorem nst_same {u U : State} (h : u.vm = U.vm) (hN : ∀ w ∈ nst_, va_Nw w u) : ∀ w ∈ nst_, va_Nw w U := by
  have ho : ∀ w ∈ nst_, w.onTables = true := by decide +kernel
  exact fun w hw => va_Nw.same (ho w hw) h (hN w hw)
theorem nst_warm {s U : State} (hW : s.WarmedH U.vm) (hN : ∀ w ∈ nst_, va_Nw w s) : ∀ w ∈ nst_, va_Nw w U := by
  intro w hw
  have h := hN w hw
  simp only [nst_, List.mem_cons, List.not_mem_nil, or_false] at hw
  rcases hw with rfl | rfl | rfl | rfl | rfl <;> first | exact va_Nw.warmM hW h | exact va_Nw.warmF hW h
theorem Ev_.calling {z : Zt_} {A : Nat → Prop} {U : State} {g : JFrame} {mk : MethodId} {a : Array Value} (h : Ev_ z A U U.heap) : Ev_ z A (U.calling g mk a) (U.calling g mk a).heap := by
  have hv : U.vm.Alike (U.calling g mk a).vm := Vm.Alike.refl U.vm
  exact ⟨va_K.moved hv h.1, nst_same (u := U) (U := U.calling g mk a) rfl h.2.1, h.2.2.1.moved hv, h.2.2.2.1.moved hv, h.2.2.2.2.1.moved hv, h.2.2.2.2.2.moved hv⟩
theorem Ev_.on {z : Zt_} {A B : Nat → Prop} {s U : State} {H : Heap} {locs : List Loc} (h : Ev_ z A s s.heap) (hS : va_S A s.heap H locs) (hAB : ∀ q, B q → A q) (hU : U.heap = H) (hW : s.WarmedH U.vm) : Ev_ z B U U.heap := by
  have hv := hW.alike
  have hq : ∀ a : Nat, a < s.heap.size → ¬ A a → U.heap[a]? = s.heap[a]? := by rw [hU]; exact hS.2.1
  exact ⟨va_K.moved hv h.1, nst_warm hW h.2.1, ((h.2.2.1.kept hq).narrow hAB).moved hv, ((h.2.2.2.1.kept hq).narrow hAB).moved hv, ((h.2.2.2.2.1.kept hq).narrow hAB).moved hv, ((h.2.2.2.2.2.kept hq).narrow hAB).moved hv⟩
/-- the cells of a world, whatever its state, and what is made -/
def Aw_ (z : Zt_) (sz : Nat) : Nat → Prop := fun a => (∃ (σ : St_) (k : Nat) (e : va_E), (z.2.2.2.1 σ)[k]? = some (a, e)) ∨ sz ≤ a
def Wok_ (z : Zt_) : Prop := ∀ σ, va_D (fun _ => True) (z.2.2.2.1 σ)
def Qx_ (z : Zt_) (Post : Option Value → St_ → Prop) (A : Nat → Prop) : Array Value → State → Outcome → State → Prop := fun _ st oc t => (∃ (v : Option Value) (σ : St_), oc = .returned v ∧ Post v σ ∧ va_P z.2.1 cls_ (z.2.2.2.1 σ) t.heap) ∧ va_F A st t
def Pc_ (z : Zt_) (as : List Value) (σ : St_) (sz : Nat) : Array Value → State → Prop := va_Pc as (fun U => U.heap.size = sz ∧ va_P z.2.1 cls_ (z.2.2.2.1 σ) U.heap ∧ Ev_ z (Aw_ z sz) U U.heap)
/-- the method, called at as in a world that stands at σ, returns, with an answer and a world that Post takes -/
def MM_ (z : Zt_) (y : MI_) (as : List Value) (σ : St_) (Post : Option Value → St_ → Prop) : Prop := Wok_ z → ∀ sz : Nat, Met z.1 y.1 (ws_ y) (rm_ y) (Pc_ z as σ sz) (Qx_ z Post (Aw_ z sz)) 0 0 (Aw_ z sz)
theorem MM_.mono {z : Zt_} {y : MI_} {as : List Value} {σ : St_} {P P' : Option Value → St_ → Prop} (h : MM_ z y as σ P) (hP : ∀ v σ', P v σ' → P' v σ') : MM_ z y as σ P' := by
  intro hz sz
  refine MetFree.mono (h hz sz) (fun _ _ h => h) (fun _ _ _ _ _ h => h) ?_
  rintro a s o s' - ⟨⟨⟨v, σ', h1, h2, h3⟩, h4⟩, h5⟩
  exact ⟨⟨⟨v, σ', h1, hP v σ' h2, h3⟩, h4⟩, h5⟩
abbrev MMi_ (z : Zt_) (y : MI_) (as : List Value) (σ : St_) (P : Int32 → St_ → Prop) : Prop := MM_ z y as σ (fun v σ' => ∃ r : Int32, v = some (.int r) ∧ P r σ')
abbrev MMl_ (z : Zt_) (y : MI_) (as : List Value) (σ : St_) (P : Int64 → St_ → Prop) : Prop := MM_ z y as σ (fun v σ' => ∃ r : Int64, v = some (.long r) ∧ P r σ')
abbrev MMv_ (z : Zt_) (y : MI_) (as : List Value) (σ : St_) (P : St_ → Prop) : Prop := MM_ z y as σ (fun v σ' => v = none ∧ P σ')
theorem MMi_mono {z : Zt_} {y : MI_} {as : List Value} {σ : St_} {P P' : Int32 → St_ → Prop} (h : MMi_ z y as σ P) (hP : ∀ r σ', P r σ' → P' r σ') : MMi_ z y as σ P' := MM_.mono h (fun _ σ' ⟨r, e, q⟩ => ⟨r, e, hP r σ' q⟩)
theorem MMl_mono {z : Zt_} {y : MI_} {as : List Value} {σ : St_} {P P' : Int64 → St_ → Prop} (h : MMl_ z y as σ P) (hP : ∀ r σ', P r σ' → P' r σ') : MMl_ z y as σ P' := MM_.mono h (fun _ σ' ⟨r, e, q⟩ => ⟨r, e, hP r σ' q⟩)
theorem MMv_mono {z : Zt_} {y : MI_} {as : List Value} {σ : St_} {P P' : St_ → Prop} (h : MMv_ z y as σ P) (hP : ∀ σ', P σ' → P' σ') : MMv_ z y as σ P' := MM_.mono h (fun _ σ' ⟨e, q⟩ => ⟨e, hP σ' q⟩)
/-- what holds all through a method's body -/
def Cx_ (z : Zt_) (y : MI_) (p : Program) (s : State) (m : MethodId) (args : Array Value) (meth : Method) (c : Code) (A : Nat → Prop) : Prop :=
  p.tables.exec = Jvm.exec ∧ c.code = y.2.1 ∧ c.maxLocals = y.2.2.1 ∧ meth.sig.returnType = y.2.2.2.1 ∧ meth.locks = false ∧ s.vm.findClass y.1.cls = some m.cls ∧ (∀ w ∈ ws_ y, w.before args s = true) ∧ Ev_ z A s s.heap ∧ (∀ σ, va_D A (z.2.2.2.1 σ)) ∧ ∀ q : Nat, s.heap.size ≤ q → A q
/-- a point of a method's body: from it the method comes to its end, with Post -/
def GG_ (z : Zt_) (y : MI_) (Post : Option Value → St_ → Prop) (pc : Nat) (L : List (Nat × Value)) (st : List Value) (σ : St_) : Prop :=
  ∀ (p : Program) (e : Env) (s : State) (m : MethodId) (args : Array Value) (below : List Frame) (meth : Method) (c : Code) (A : Nat → Prop), Cx_ z y p s m args meth c A →
  ∀ (ls : Array Slot) (H : Heap) (locs : List Loc), lv_has ls y.2.2.1 L → va_P z.2.1 cls_ (z.2.2.2.1 σ) H → va_S A s.heap H locs → W p z.1 e (rm_ y) s m args below meth c H locs 0 0 (MQ below (Qx_ z Post A) args s 0 0 A) (F0 m pc ls st)
theorem MM_.of {z : Zt_} {y : MI_} {as : List Value} {σ : St_} {Post : Option Value → St_ → Prop} (hy : plainName y.1.cls = true) (hn : (lg_sl as).length ≤ y.2.2.1) {L : List (Nat × Value)} (hL : lv_args 0 as = L) (k : GG_ z y Post 0 L [] σ) : MM_ z y as σ Post := by
  intro hz sz
  refine Met.ofW (cc := y.2.1) (maxL := y.2.2.1) (ret := y.2.2.2.1) hy rfl ?_
  intro p e s m args below meth c s₁ B hml hv
  obtain ⟨rfl, hsz, hP, hE⟩ := hv
  subst hsz
  have hl := lv_entry as (n := y.2.2.1) hn
  rw [lg_entry_eq]
  generalize (lg_sl as ++ List.replicate (y.2.2.1 - (lg_sl as).length) Slot.unset).toArray = ls at hl ⊢
  rw [hL] at hl
  refine k p e s m as.toArray below meth c (Aw_ z s.heap.size) ⟨B.exec, B.bytes, hml, B.returns, B.notSynchronized, findClass_of_methodNamed B.named, atoms_spec (ws := ws_ y) B.pre, hE, fun σ => ⟨(hz σ).1, fun k q hk => Or.inl ⟨σ, k, q.2, hk⟩⟩, fun q h => Or.inr h⟩ ls s.heap [] hl hP va_S.rf
section GR
variable {z : Zt_} {y : MI_} {Post : Option Value → St_ → Prop} {pc : Nat} {L : List (Nat × Value)} {st : List Value} {σ : St_}
theorem GG_.sub {L' : List (Nat × Value)} (ks : List Nat) (h : lv_pick L ks = L') (k : GG_ z y Post pc L' st σ) : GG_ z y Post pc L st σ :=
  fun p e s m args below meth c A C ls H locs hl hP hS => k p e s m args below meth c A C ls H locs (lv_sub hl ks h) hP hS
/-- locals by what they hold, in any order -/
theorem GG_.loc {L' : List (Nat × Value)} (h : ∀ q ∈ L', q ∈ L) (k : GG_ z y Post pc L' st σ) : GG_ z y Post pc L st σ :=
  fun p e s m args below meth c A C ls H locs hl hP hS => k p e s m args below meth c A C ls H locs ⟨hl.1, hl.2.1, fun q hq => hl.2.2 q (h q hq)⟩ hP hS
theorem g_iconst {n : Int} {v : Int32} (hd : decode y.2.1 pc = .ok (.iconst n, 1)) (hv : Int32.ofInt n = v) (k : GG_ z y Post (pc + 1) L (.int v :: st) σ) : GG_ z y Post pc L (st) σ :=
  fun p e s m args below meth c A C ls H locs hl hP hS => lv_iconst C.1 C.2.1 hd hv (k p e s m args below meth c A C ls H locs hl hP hS)
theorem g_bipush {n : Int} {v : Int32} (hd : decode y.2.1 pc = .ok (.bipush n, 2)) (hv : (Int8.ofInt n).toInt32 = v) (k : GG_ z y Post (pc + 2) L (.int v :: st) σ) : GG_ z y Post pc L (st) σ :=
  fun p e s m args below meth c A C ls H locs hl hP hS => lv_bipush C.1 C.2.1 hd hv (k p e s m args below meth c A C ls H locs hl hP hS)
theorem g_sipush {n : Int} {v : Int32} (hd : decode y.2.1 pc = .ok (.sipush n, 3)) (hv : (Int16.ofInt n).toInt32 = v) (k : GG_ z y Post (pc + 3) L (.int v :: st) σ) : GG_ z y Post pc L (st) σ :=
  fun p e s m args below meth c A C ls H locs hl hP hS => lv_sipush C.1 C.2.1 hd hv (k p e s m args below meth c A C ls H locs hl hP hS)
theorem g_lconst {n : Fin 2} {v : Int64} (hd : decode y.2.1 pc = .ok (.lconst n, 1)) (hv : Int64.ofNat (n : Nat) = v) (k : GG_ z y Post (pc + 1) L (.long v :: st) σ) : GG_ z y Post pc L (st) σ :=
  fun p e s m args below meth c A C ls H locs hl hP hS => lv_lconst C.1 C.2.1 hd hv (k p e s m args below meth c A C ls H locs hl hP hS)
theorem g_iload_n {j : Fin 4} {i : Nat} {x : Int32} (hd : decode y.2.1 pc = .ok (.iload_n j, 1)) (kl : Nat) (hk : L[kl]? = some (i, .int x)) (hi : (j : Nat) = i) (k : GG_ z y Post (pc + 1) L (.int x :: st) σ) : GG_ z y Post pc L (st) σ :=
  fun p e s m args below meth c A C ls H locs hl hP hS => lv_iload_n C.1 C.2.1 hd hi (lv_at hl kl hk) (k p e s m args below meth c A C ls H locs hl hP hS)
theorem g_iload {i : Nat} {x : Int32} (hd : decode y.2.1 pc = .ok (.iload i, 2)) (kl : Nat) (hk : L[kl]? = some (i, .int x)) (k : GG_ z y Post (pc + 2) L (.int x :: st) σ) : GG_ z y Post pc L (st) σ :=
  fun p e s m args below meth c A C ls H locs hl hP hS => lv_iload C.1 C.2.1 hd (lv_at hl kl hk) (k p e s m args below meth c A C ls H locs hl hP hS)
theorem g_lload_n {j : Fin 4} {i : Nat} {x : Int64} (hd : decode y.2.1 pc = .ok (.lload_n j, 1)) (kl : Nat) (hk : L[kl]? = some (i, .long x)) (hi : (j : Nat) = i) (k : GG_ z y Post (pc + 1) L (.long x :: st) σ) : GG_ z y Post pc L (st) σ :=
  fun p e s m args below meth c A C ls H locs hl hP hS => lv_lload_n C.1 C.2.1 hd hi (lv_at hl kl hk) (k p e s m args below meth c A C ls H locs hl hP hS)
theorem g_lload {i : Nat} {x : Int64} (hd : decode y.2.1 pc = .ok (.lload i, 2)) (kl : Nat) (hk : L[kl]? = some (i, .long x)) (k : GG_ z y Post (pc + 2) L (.long x :: st) σ) : GG_ z y Post pc L (st) σ :=
  fun p e s m args below meth c A C ls H locs hl hP hS => lv_lload C.1 C.2.1 hd (lv_at hl kl hk) (k p e s m args below meth c A C ls H locs hl hP hS)
theorem g_aload_n {j : Fin 4} {i : Nat} {x : Nat} (hd : decode y.2.1 pc = .ok (.aload_n j, 1)) (kl : Nat) (hk : L[kl]? = some (i, .ref x)) (hi : (j : Nat) = i) (k : GG_ z y Post (pc + 1) L (.ref x :: st) σ) : GG_ z y Post pc L (st) σ :=
  fun p e s m args below meth c A C ls H locs hl hP hS => lv_aload_n C.1 C.2.1 hd hi (lv_at hl kl hk) (k p e s m args below meth c A C ls H locs hl hP hS)
theorem g_aload {i : Nat} {x : Nat} (hd : decode y.2.1 pc = .ok (.aload i, 2)) (kl : Nat) (hk : L[kl]? = some (i, .ref x)) (k : GG_ z y Post (pc + 2) L (.ref x :: st) σ) : GG_ z y Post pc L (st) σ :=
  fun p e s m args below meth c A C ls H locs hl hP hS => lv_aload C.1 C.2.1 hd (lv_at hl kl hk) (k p e s m args below meth c A C ls H locs hl hP hS)
theorem g_istore_n {j : Fin 4} {i : Nat} {x : Int32} {L' : List (Nat × Value)} (hd : decode y.2.1 pc = .ok (.istore_n j, 1)) (hi : (j : Nat) = i) (hn : i < y.2.2.1) (hL : (i, Value.int x) :: L.filter (fun q => !(q.1 == i) && !(q.1 + 1 == i && q.2.category == 2)) = L') (k : GG_ z y Post (pc + 1) L' st σ) : GG_ z y Post pc L (.int x :: st) σ :=
  fun p e s m args below meth c A C ls H locs hl hP hS => lv_istore_n C.1 C.2.1 hd hi hl hn hL (fun ls hl => k p e s m args below meth c A C ls H locs hl hP hS)
theorem g_istore {i : Nat} {x : Int32} {L' : List (Nat × Value)} (hd : decode y.2.1 pc = .ok (.istore i, 2)) (hn : i < y.2.2.1) (hL : (i, Value.int x) :: L.filter (fun q => !(q.1 == i) && !(q.1 + 1 == i && q.2.category == 2)) = L') (k : GG_ z y Post (pc + 2) L' st σ) : GG_ z y Post pc L (.int x :: st) σ :=
  fun p e s m args below meth c A C ls H locs hl hP hS => lv_istore C.1 C.2.1 hd hl hn hL (fun ls hl => k p e s m args below meth c A C ls H locs hl hP hS)
theorem g_lstore_n {j : Fin 4} {i : Nat} {x : Int64} {L' : List (Nat × Value)} (hd : decode y.2.1 pc = .ok (.lstore_n j, 1)) (hi : (j : Nat) = i) (hn : i + 1 < y.2.2.1) (hL : (i, Value.long x) :: L.filter (fun q => !(q.1 == i) && (!(q.1 == i + 1) && !(q.1 + 1 == i && q.2.category == 2))) = L') (k : GG_ z y Post (pc + 1) L' st σ) : GG_ z y Post pc L (.long x :: st) σ :=
  fun p e s m args below meth c A C ls H locs hl hP hS => lv_lstore_n C.1 C.2.1 hd hi hl hn hL (fun ls hl => k p e s m args below meth c A C ls H locs hl hP hS)
theorem g_lstore {i : Nat} {x : Int64} {L' : List (Nat × Value)} (hd : decode y.2.1 pc = .ok (.lstore i, 2)) (hn : i + 1 < y.2.2.1) (hL : (i, Value.long x) :: L.filter (fun q => !(q.1 == i) && (!(q.1 == i + 1) && !(q.1 + 1 == i && q.2.category == 2))) = L') (k : GG_ z y Post (pc + 2) L' st σ) : GG_ z y Post pc L (.long x :: st) σ :=
  fun p e s m args below meth c A C ls H locs hl hP hS => lv_lstore C.1 C.2.1 hd hl hn hL (fun ls hl => k p e s m args below meth c A C ls H locs hl hP hS)
theorem g_astore_n {j : Fin 4} {i : Nat} {x : Nat} {L' : List (Nat × Value)} (hd : decode y.2.1 pc = .ok (.astore_n j, 1)) (hi : (j : Nat) = i) (hn : i < y.2.2.1) (hL : (i, Value.ref x) :: L.filter (fun q => !(q.1 == i) && !(q.1 + 1 == i && q.2.category == 2)) = L') (k : GG_ z y Post (pc + 1) L' st σ) : GG_ z y Post pc L (.ref x :: st) σ :=
  fun p e s m args below meth c A C ls H locs hl hP hS => lv_astore_n C.1 C.2.1 hd hi hl hn hL (fun ls hl => k p e s m args below meth c A C ls H locs hl hP hS)
theorem g_astore {i : Nat} {x : Nat} {L' : List (Nat × Value)} (hd : decode y.2.1 pc = .ok (.astore i, 2)) (hn : i < y.2.2.1) (hL : (i, Value.ref x) :: L.filter (fun q => !(q.1 == i) && !(q.1 + 1 == i && q.2.category == 2)) = L') (k : GG_ z y Post (pc + 2) L' st σ) : GG_ z y Post pc L (.ref x :: st) σ :=
  fun p e s m args below meth c A C ls H locs hl hP hS => lv_astore C.1 C.2.1 hd hl hn hL (fun ls hl => k p e s m args below meth c A C ls H locs hl hP hS)
theorem g_iinc {i : Nat} {n : Int} {x v : Int32} {L' : List (Nat × Value)} (hd : decode y.2.1 pc = .ok (.iinc i n, 3)) (kl : Nat) (hk : L[kl]? = some (i, .int x)) (hv : x + Int32.ofInt n = v) (hn : i < y.2.2.1) (hL : (i, Value.int v) :: L.filter (fun q => !(q.1 == i) && !(q.1 + 1 == i && q.2.category == 2)) = L') (k : GG_ z y Post (pc + 3) L' st σ) : GG_ z y Post pc L st σ :=
  fun p e s m args below meth c A C ls H locs hl hP hS => lv_iinc C.1 C.2.1 hd hl hk hv hn hL (fun ls hl => k p e s m args below meth c A C ls H locs hl hP hS)
theorem g_iadd {a b : Int32} (hd : decode y.2.1 pc = .ok (.iadd, 1)) (k : GG_ z y Post (pc + 1) L (.int (a + b) :: st) σ) : GG_ z y Post pc L (.int b :: .int a :: st) σ :=
  fun p e s m args below meth c A C ls H locs hl hP hS => lv_iadd C.1 C.2.1 hd (k p e s m args below meth c A C ls H locs hl hP hS)
theorem g_isub {a b : Int32} (hd : decode y.2.1 pc = .ok (.isub, 1)) (k : GG_ z y Post (pc + 1) L (.int (a - b) :: st) σ) : GG_ z y Post pc L (.int b :: .int a :: st) σ :=
  fun p e s m args below meth c A C ls H locs hl hP hS => lv_isub C.1 C.2.1 hd (k p e s m args below meth c A C ls H locs hl hP hS)
theorem g_imul {a b : Int32} (hd : decode y.2.1 pc = .ok (.imul, 1)) (k : GG_ z y Post (pc + 1) L (.int (a * b) :: st) σ) : GG_ z y Post pc L (.int b :: .int a :: st) σ :=
  fun p e s m args below meth c A C ls H locs hl hP hS => lv_imul C.1 C.2.1 hd (k p e s m args below meth c A C ls H locs hl hP hS)
theorem g_iand {a b : Int32} (hd : decode y.2.1 pc = .ok (.iand, 1)) (k : GG_ z y Post (pc + 1) L (.int (a &&& b) :: st) σ) : GG_ z y Post pc L (.int b :: .int a :: st) σ :=
  fun p e s m args below meth c A C ls H locs hl hP hS => lv_iand C.1 C.2.1 hd (k p e s m args below meth c A C ls H locs hl hP hS)
theorem g_ior {a b : Int32} (hd : decode y.2.1 pc = .ok (.ior, 1)) (k : GG_ z y Post (pc + 1) L (.int (a ||| b) :: st) σ) : GG_ z y Post pc L (.int b :: .int a :: st) σ :=
  fun p e s m args below meth c A C ls H locs hl hP hS => lv_ior C.1 C.2.1 hd (k p e s m args below meth c A C ls H locs hl hP hS)
theorem g_ixor {a b : Int32} (hd : decode y.2.1 pc = .ok (.ixor, 1)) (k : GG_ z y Post (pc + 1) L (.int (a ^^^ b) :: st) σ) : GG_ z y Post pc L (.int b :: .int a :: st) σ :=
  fun p e s m args below meth c A C ls H locs hl hP hS => lv_ixor C.1 C.2.1 hd (k p e s m args below meth c A C ls H locs hl hP hS)
theorem g_ishl {a b : Int32} (hd : decode y.2.1 pc = .ok (.ishl, 1)) (k : GG_ z y Post (pc + 1) L (.int (a <<< (b &&& 31)) :: st) σ) : GG_ z y Post pc L (.int b :: .int a :: st) σ :=
  fun p e s m args below meth c A C ls H locs hl hP hS => lv_ishl C.1 C.2.1 hd (k p e s m args below meth c A C ls H locs hl hP hS)
theorem g_ishr {a b : Int32} (hd : decode y.2.1 pc = .ok (.ishr, 1)) (k : GG_ z y Post (pc + 1) L (.int (a >>> (b &&& 31)) :: st) σ) : GG_ z y Post pc L (.int b :: .int a :: st) σ :=
  fun p e s m args below meth c A C ls H locs hl hP hS => lv_ishr C.1 C.2.1 hd (k p e s m args below meth c A C ls H locs hl hP hS)
theorem g_idiv {a b : Int32} (hd : decode y.2.1 pc = .ok (.idiv, 1)) (h0 : ¬ b = 0) (k : GG_ z y Post (pc + 1) L (.int (a / b) :: st) σ) : GG_ z y Post pc L (.int b :: .int a :: st) σ :=
  fun p e s m args below meth c A C ls H locs hl hP hS => lv_idiv C.1 C.2.1 hd h0 (k p e s m args below meth c A C ls H locs hl hP hS)
theorem g_irem {a b : Int32} (hd : decode y.2.1 pc = .ok (.irem, 1)) (h0 : ¬ b = 0) (k : GG_ z y Post (pc + 1) L (.int (a - a / b * b) :: st) σ) : GG_ z y Post pc L (.int b :: .int a :: st) σ :=
  fun p e s m args below meth c A C ls H locs hl hP hS => lv_irem C.1 C.2.1 hd h0 (k p e s m args below meth c A C ls H locs hl hP hS)
theorem g_ineg {a : Int32} (hd : decode y.2.1 pc = .ok (.ineg, 1)) (k : GG_ z y Post (pc + 1) L (.int (iI_ 0 - a) :: st) σ) : GG_ z y Post pc L (.int a :: st) σ :=
  fun p e s m args below meth c A C ls H locs hl hP hS => lv_ineg C.1 C.2.1 hd (by have h := k p e s m args below meth c A C ls H locs hl hP hS; rw [iI_0, Int32.zero_sub] at h; exact h)
theorem g_iushr {a b : Int32} (hd : decode y.2.1 pc = .ok (.iushr, 1)) (k : GG_ z y Post (pc + 1) L (.int ((a.toUInt32 >>> (b.toUInt32 &&& Int32.toUInt32 31)).toInt32) :: st) σ) : GG_ z y Post pc L (.int b :: .int a :: st) σ :=
  fun p e s m args below meth c A C ls H locs hl hP hS => lv_iushr C.1 C.2.1 hd rfl (k p e s m args below meth c A C ls H locs hl hP hS)
theorem g_ladd {a b : Int64} (hd : decode y.2.1 pc = .ok (.ladd, 1)) (k : GG_ z y Post (pc + 1) L (.long (a + b) :: st) σ) : GG_ z y Post pc L (.long b :: .long a :: st) σ :=
  fun p e s m args below meth c A C ls H locs hl hP hS => lv_ladd C.1 C.2.1 hd (k p e s m args below meth c A C ls H locs hl hP hS)
theorem g_lsub {a b : Int64} (hd : decode y.2.1 pc = .ok (.lsub, 1)) (k : GG_ z y Post (pc + 1) L (.long (a - b) :: st) σ) : GG_ z y Post pc L (.long b :: .long a :: st) σ :=
  fun p e s m args below meth c A C ls H locs hl hP hS => lv_lsub C.1 C.2.1 hd (k p e s m args below meth c A C ls H locs hl hP hS)
theorem g_lmul {a b : Int64} (hd : decode y.2.1 pc = .ok (.lmul, 1)) (k : GG_ z y Post (pc + 1) L (.long (a * b) :: st) σ) : GG_ z y Post pc L (.long b :: .long a :: st) σ :=
  fun p e s m args below meth c A C ls H locs hl hP hS => lv_lmul C.1 C.2.1 hd (k p e s m args below meth c A C ls H locs hl hP hS)
theorem g_ldiv {a b : Int64} (hd : decode y.2.1 pc = .ok (.ldiv, 1)) (h0 : ¬ b = 0) (k : GG_ z y Post (pc + 1) L (.long (a / b) :: st) σ) : GG_ z y Post pc L (.long b :: .long a :: st) σ :=
  fun p e s m args below meth c A C ls H locs hl hP hS => lv_ldiv C.1 C.2.1 hd h0 (k p e s m args below meth c A C ls H locs hl hP hS)
theorem g_lrem {a b : Int64} (hd : decode y.2.1 pc = .ok (.lrem, 1)) (h0 : ¬ b = 0) (k : GG_ z y Post (pc + 1) L (.long (a - a / b * b) :: st) σ) : GG_ z y Post pc L (.long b :: .long a :: st) σ :=
  fun p e s m args below meth c A C ls H locs hl hP hS => lv_lrem C.1 C.2.1 hd h0 (k p e s m args below meth c A C ls H locs hl hP hS)
theorem g_lshl {a : Int64} {b : Int32} (hd : decode y.2.1 pc = .ok (.lshl, 1)) (k : GG_ z y Post (pc + 1) L (.long (a <<< (b.toInt64 &&& 63)) :: st) σ) : GG_ z y Post pc L (.int b :: .long a :: st) σ :=
  fun p e s m args below meth c A C ls H locs hl hP hS => lv_lshl C.1 C.2.1 hd rfl (k p e s m args below meth c A C ls H locs hl hP hS)
theorem g_i2l {a : Int32} (hd : decode y.2.1 pc = .ok (.i2l, 1)) (k : GG_ z y Post (pc + 1) L (.long a.toInt64 :: st) σ) : GG_ z y Post pc L (.int a :: st) σ :=
  fun p e s m args below meth c A C ls H locs hl hP hS => lv_i2l C.1 C.2.1 hd rfl (k p e s m args below meth c A C ls H locs hl hP hS)
theorem g_i2b {a : Int32} (hd : decode y.2.1 pc = .ok (.i2b, 1)) (k : GG_ z y Post (pc + 1) L (.int a.toInt8.toInt32 :: st) σ) : GG_ z y Post pc L (.int a :: st) σ :=
  fun p e s m args below meth c A C ls H locs hl hP hS => lv_i2b C.1 C.2.1 hd rfl (k p e s m args below meth c A C ls H locs hl hP hS)
theorem g_i2s {a : Int32} (hd : decode y.2.1 pc = .ok (.i2s, 1)) (k : GG_ z y Post (pc + 1) L (.int a.toInt16.toInt32 :: st) σ) : GG_ z y Post pc L (.int a :: st) σ :=
  fun p e s m args below meth c A C ls H locs hl hP hS => lv_i2s C.1 C.2.1 hd rfl (k p e s m args below meth c A C ls H locs hl hP hS)
theorem g_lcmp {a b : Int64} (hd : decode y.2.1 pc = .ok (.lcmp, 1)) (k : GG_ z y Post (pc + 1) L (.int (lg_cmp a b) :: st) σ) : GG_ z y Post pc L (.long b :: .long a :: st) σ :=
  fun p e s m args below meth c A C ls H locs hl hP hS => W.lcmp C.1 C.2.1 hd (k p e s m args below meth c A C ls H locs hl hP hS)
theorem g_dup {v : Value} (hd : decode y.2.1 pc = .ok (.dup, 1)) (hv : v.category = 1) (k : GG_ z y Post (pc + 1) L (v :: v :: st) σ) : GG_ z y Post pc L (v :: st) σ :=
  fun p e s m args below meth c A C ls H locs hl hP hS => lv_dup C.1 C.2.1 hd hv (k p e s m args below meth c A C ls H locs hl hP hS)
theorem g_dup_x1 {v w : Value} (hd : decode y.2.1 pc = .ok (.dup_x1, 1)) (hv : v.category = 1) (hw : w.category = 1) (k : GG_ z y Post (pc + 1) L (v :: w :: v :: st) σ) : GG_ z y Post pc L (v :: w :: st) σ :=
  fun p e s m args below meth c A C ls H locs hl hP hS => lv_dup_x1 C.1 C.2.1 hd hv hw (k p e s m args below meth c A C ls H locs hl hP hS)
theorem g_dup2 {v w : Value} (hd : decode y.2.1 pc = .ok (.dup2, 1)) (hv : v.category = 1) (hw : w.category = 1) (k : GG_ z y Post (pc + 1) L (v :: w :: v :: w :: st) σ) : GG_ z y Post pc L (v :: w :: st) σ :=
  fun p e s m args below meth c A C ls H locs hl hP hS => lv_dup2_11 C.1 C.2.1 hd hv hw (k p e s m args below meth c A C ls H locs hl hP hS)
theorem g_if_eq {a : Int32} {off : Int} (tgt : Nat) (hd : decode y.2.1 pc = .ok (.ifCond .eq off, 3)) (ht : (pc : Int) + off = (tgt : Int)) (kt : a = iI_ 0 → GG_ z y Post tgt L st σ) (kf : ¬ (a = iI_ 0) → GG_ z y Post (pc + 3) L st σ) : GG_ z y Post pc L (.int a :: st) σ :=
  fun p e s m args below meth c A C ls H locs hl hP hS => lv_if_eq C.1 C.2.1 hd ht (fun q => kt (by rw [iI_0]; exact q) p e s m args below meth c A C ls H locs hl hP hS) (fun q => kf (by rw [iI_0]; exact q) p e s m args below meth c A C ls H locs hl hP hS)
theorem g_icmp_eq {a b : Int32} {off : Int} (tgt : Nat) (hd : decode y.2.1 pc = .ok (.if_icmp .eq off, 3)) (ht : (pc : Int) + off = (tgt : Int)) (kt : a = b → GG_ z y Post tgt L st σ) (kf : ¬ (a = b) → GG_ z y Post (pc + 3) L st σ) : GG_ z y Post pc L (.int b :: .int a :: st) σ :=
  fun p e s m args below meth c A C ls H locs hl hP hS => lv_icmp_eq C.1 C.2.1 hd ht (fun q => kt q p e s m args below meth c A C ls H locs hl hP hS) (fun q => kf q p e s m args below meth c A C ls H locs hl hP hS)
theorem g_if_ne {a : Int32} {off : Int} (tgt : Nat) (hd : decode y.2.1 pc = .ok (.ifCond .ne off, 3)) (ht : (pc : Int) + off = (tgt : Int)) (kt : ¬ a = iI_ 0 → GG_ z y Post tgt L st σ) (kf : a = iI_ 0 → GG_ z y Post (pc + 3) L st σ) : GG_ z y Post pc L (.int a :: st) σ :=
  fun p e s m args below meth c A C ls H locs hl hP hS => lv_if_ne C.1 C.2.1 hd ht (fun q => kt (by rw [iI_0]; exact q) p e s m args below meth c A C ls H locs hl hP hS) (fun q => kf (by rw [iI_0]; exact q) p e s m args below meth c A C ls H locs hl hP hS)
theorem g_icmp_ne {a b : Int32} {off : Int} (tgt : Nat) (hd : decode y.2.1 pc = .ok (.if_icmp .ne off, 3)) (ht : (pc : Int) + off = (tgt : Int)) (kt : ¬ a = b → GG_ z y Post tgt L st σ) (kf : a = b → GG_ z y Post (pc + 3) L st σ) : GG_ z y Post pc L (.int b :: .int a :: st) σ :=
  fun p e s m args below meth c A C ls H locs hl hP hS => lv_icmp_ne C.1 C.2.1 hd ht (fun q => kt q p e s m args below meth c A C ls H locs hl hP hS) (fun q => kf q p e s m args below meth c A C ls H locs hl hP hS)
theorem g_if_lt {a : Int32} {off : Int} (tgt : Nat) (hd : decode y.2.1 pc = .ok (.ifCond .lt off, 3)) (ht : (pc : Int) + off = (tgt : Int)) (kt : a < iI_ 0 → GG_ z y Post tgt L st σ) (kf : ¬ (a < iI_ 0) → GG_ z y Post (pc + 3) L st σ) : GG_ z y Post pc L (.int a :: st) σ :=
  fun p e s m args below meth c A C ls H locs hl hP hS => lv_if_lt C.1 C.2.1 hd ht (fun q => kt (by rw [iI_0]; exact q) p e s m args below meth c A C ls H locs hl hP hS) (fun q => kf (by rw [iI_0]; exact q) p e s m args below meth c A C ls H locs hl hP hS)
theorem g_icmp_lt {a b : Int32} {off : Int} (tgt : Nat) (hd : decode y.2.1 pc = .ok (.if_icmp .lt off, 3)) (ht : (pc : Int) + off = (tgt : Int)) (kt : a < b → GG_ z y Post tgt L st σ) (kf : ¬ (a < b) → GG_ z y Post (pc + 3) L st σ) : GG_ z y Post pc L (.int b :: .int a :: st) σ :=
  fun p e s m args below meth c A C ls H locs hl hP hS => lv_icmp_lt C.1 C.2.1 hd ht (fun q => kt q p e s m args below meth c A C ls H locs hl hP hS) (fun q => kf q p e s m args below meth c A C ls H locs hl hP hS)
theorem g_if_ge {a : Int32} {off : Int} (tgt : Nat) (hd : decode y.2.1 pc = .ok (.ifCond .ge off, 3)) (ht : (pc : Int) + off = (tgt : Int)) (kt : iI_ 0 ≤ a → GG_ z y Post tgt L st σ) (kf : ¬ (iI_ 0 ≤ a) → GG_ z y Post (pc + 3) L st σ) : GG_ z y Post pc L (.int a :: st) σ :=
  fun p e s m args below meth c A C ls H locs hl hP hS => lv_if_ge C.1 C.2.1 hd ht (fun q => kt (by rw [iI_0]; exact q) p e s m args below meth c A C ls H locs hl hP hS) (fun q => kf (by rw [iI_0]; exact q) p e s m args below meth c A C ls H locs hl hP hS)
theorem g_icmp_ge {a b : Int32} {off : Int} (tgt : Nat) (hd : decode y.2.1 pc = .ok (.if_icmp .ge off, 3)) (ht : (pc : Int) + off = (tgt : Int)) (kt : b ≤ a → GG_ z y Post tgt L st σ) (kf : ¬ (b ≤ a) → GG_ z y Post (pc + 3) L st σ) : GG_ z y Post pc L (.int b :: .int a :: st) σ :=
  fun p e s m args below meth c A C ls H locs hl hP hS => lv_icmp_ge C.1 C.2.1 hd ht (fun q => kt q p e s m args below meth c A C ls H locs hl hP hS) (fun q => kf q p e s m args below meth c A C ls H locs hl hP hS)
theorem g_if_gt {a : Int32} {off : Int} (tgt : Nat) (hd : decode y.2.1 pc = .ok (.ifCond .gt off, 3)) (ht : (pc : Int) + off = (tgt : Int)) (kt : iI_ 0 < a → GG_ z y Post tgt L st σ) (kf : ¬ (iI_ 0 < a) → GG_ z y Post (pc + 3) L st σ) : GG_ z y Post pc L (.int a :: st) σ :=
  fun p e s m args below meth c A C ls H locs hl hP hS => lv_if_gt C.1 C.2.1 hd ht (fun q => kt (by rw [iI_0]; exact q) p e s m args below meth c A C ls H locs hl hP hS) (fun q => kf (by rw [iI_0]; exact q) p e s m args below meth c A C ls H locs hl hP hS)
theorem g_icmp_gt {a b : Int32} {off : Int} (tgt : Nat) (hd : decode y.2.1 pc = .ok (.if_icmp .gt off, 3)) (ht : (pc : Int) + off = (tgt : Int)) (kt : b < a → GG_ z y Post tgt L st σ) (kf : ¬ (b < a) → GG_ z y Post (pc + 3) L st σ) : GG_ z y Post pc L (.int b :: .int a :: st) σ :=
  fun p e s m args below meth c A C ls H locs hl hP hS => lv_icmp_gt C.1 C.2.1 hd ht (fun q => kt q p e s m args below meth c A C ls H locs hl hP hS) (fun q => kf q p e s m args below meth c A C ls H locs hl hP hS)
theorem g_if_le {a : Int32} {off : Int} (tgt : Nat) (hd : decode y.2.1 pc = .ok (.ifCond .le off, 3)) (ht : (pc : Int) + off = (tgt : Int)) (kt : a ≤ iI_ 0 → GG_ z y Post tgt L st σ) (kf : ¬ (a ≤ iI_ 0) → GG_ z y Post (pc + 3) L st σ) : GG_ z y Post pc L (.int a :: st) σ :=
  fun p e s m args below meth c A C ls H locs hl hP hS => lv_if_le C.1 C.2.1 hd ht (fun q => kt (by rw [iI_0]; exact q) p e s m args below meth c A C ls H locs hl hP hS) (fun q => kf (by rw [iI_0]; exact q) p e s m args below meth c A C ls H locs hl hP hS)
theorem g_icmp_le {a b : Int32} {off : Int} (tgt : Nat) (hd : decode y.2.1 pc = .ok (.if_icmp .le off, 3)) (ht : (pc : Int) + off = (tgt : Int)) (kt : a ≤ b → GG_ z y Post tgt L st σ) (kf : ¬ (a ≤ b) → GG_ z y Post (pc + 3) L st σ) : GG_ z y Post pc L (.int b :: .int a :: st) σ :=
  fun p e s m args below meth c A C ls H locs hl hP hS => lv_icmp_le C.1 C.2.1 hd ht (fun q => kt q p e s m args below meth c A C ls H locs hl hP hS) (fun q => kf q p e s m args below meth c A C ls H locs hl hP hS)
theorem g_goto {off : Int} (tgt : Nat) (hd : decode y.2.1 pc = .ok (.goto off, 3)) (ht : (pc : Int) + off = (tgt : Int)) (k : GG_ z y Post tgt L st σ) : GG_ z y Post pc L st σ :=
  fun p e s m args below meth c A C ls H locs hl hP hS => lv_goto C.1 C.2.1 hd ht (k p e s m args below meth c A C ls H locs hl hP hS)
-- constants of the pool
theorem g_ldcw {own : String} {index : Nat} {v v0 : Int32} (hv : v0 = v) (hw : Cond.constant own index v0 ∈ tg_) (ho : y.1.cls = own) (hd : decode y.2.1 pc = .ok (.ldc_w index, 3)) (k : GG_ z y Post (pc + 3) L (.int v :: st) σ) : GG_ z y Post pc L st σ :=
  fun p e s m args below meth c A C ls H locs hl hP hS => lv_ldcw (v := v) C.1 C.2.1 (ho ▸ C.2.2.2.2.2.1) (hv ▸ C.2.2.2.2.2.2.1 _ (List.mem_cons_of_mem _ hw)) hd (k p e s m args below meth c A C ls H locs hl hP hS)
theorem g_ldc2 {own : String} {index : Nat} {v v0 : Int64} (hv : v0 = v) (hw : Cond.constantLong own index v0 ∈ tg_) (ho : y.1.cls = own) (hd : decode y.2.1 pc = .ok (.ldc2_w index, 3)) (k : GG_ z y Post (pc + 3) L (.long v :: st) σ) : GG_ z y Post pc L st σ :=
  fun p e s m args below meth c A C ls H locs hl hP hS => lv_ldc2 (v := v) C.1 C.2.1 (ho ▸ C.2.2.2.2.2.1) (hv ▸ C.2.2.2.2.2.2.1 _ (List.mem_cons_of_mem _ hw)) hd (k p e s m args below meth c A C ls H locs hl hP hS)
-- switches
theorem g_table {dflt lo hi : Int} {offs : Array Int} {len : Nat} {x : Int32} (hd : decode y.2.1 pc = .ok (.tableswitch dflt lo hi offs, len)) (kin : ∀ (off : Int) (tgt : Nat), ¬ x.toInt < lo → ¬ hi < x.toInt → offs[(x.toInt - lo).toNat]? = some off → (pc : Int) + off = (tgt : Int) → GG_ z y Post tgt L st σ) (tg : Nat → Nat) (htg : ∀ (j : Nat) (off : Int), offs[j]? = some off → (pc : Int) + off = (tg j : Int)) (hsz : hi - lo < offs.size) (dt : Nat) (hdt : (pc : Int) + dflt = (dt : Int)) (kout : x.toInt < lo ∨ hi < x.toInt → GG_ z y Post dt L st σ) : GG_ z y Post pc L (.int x :: st) σ := by
  intro p e s m args below meth c A C ls H locs hl hP hS
  by_cases h : x.toInt < lo ∨ hi < x.toInt
  · exact lv_tableOut C.1 C.2.1 hd h hdt (kout h p e s m args below meth c A C ls H locs hl hP hS)
  · have h1 : ¬ x.toInt < lo := fun q => h (Or.inl q)
    have h2 : ¬ hi < x.toInt := fun q => h (Or.inr q)
    have h3 : (x.toInt - lo).toNat < offs.size := by omega
    obtain ⟨off, ho⟩ : ∃ off, offs[(x.toInt - lo).toNat]? = some off := ⟨_, Array.getElem?_eq_getElem h3⟩
    exact lv_tableIn C.1 C.2.1 hd h1 h2 ho (htg _ off ho) (kin off _ h1 h2 ho (htg _ off ho) p e s m args below meth c A C ls H locs hl hP hS)
theorem g_lookup {dflt : Int} {ps : Array (Int × Int)} {len : Nat} {x : Int32} (hd : decode y.2.1 pc = .ok (.lookupswitch dflt ps, len)) (hp : (ps.toList.zip (ps.toList.drop 1)).all (fun (a, next) => a.1 < next.1) = true) {off : Int} (tgt : Nat) (ho : Op.lookupswitch.offset ps.toList dflt x.toInt = off) (ht : (pc : Int) + off = (tgt : Int)) (k : GG_ z y Post tgt L st σ) : GG_ z y Post pc L (.int x :: st) σ :=
  fun p e s m args below meth c A C ls H locs hl hP hS => lv_lookup C.1 C.2.1 hd hp ho ht (k p e s m args below meth c A C ls H locs hl hP hS)
-- fields, arrays
theorem g_get {own ref nm ds C : String} {T : u_T} {N ci index a : Nat} {fs : List Value} {v : Value} (q0 : Nat) (he : (z.2.2.2.1 σ)[q0]? = some (a, .inr (ci, fs))) (hc : cls_[ci]? = some (C, T, N)) (hin : ∀ w ∈ u_ws C T N, w ∈ tg_) (f : Nat) (hf : f < N) (b0 : Bool) (hT : T f = (ref, nm, ds, b0)) (hv : fs[f]? = some v) (hw : Cond.fieldLink own index ref nm ds ∈ tg_) (ho : y.1.cls = own) (hd : decode y.2.1 pc = .ok (.getfield index, 3)) (k : GG_ z y Post (pc + 3) L (v :: st) σ) : GG_ z y Post pc L (.ref a :: st) σ := by
  intro p e s m args below meth c A C ls H locs hl hP hS
  subst ho
  have hlink := C.2.2.2.2.2.2.1 _ (List.mem_cons_of_mem (Cond.code y.1 y.2.1 y.2.2.1 y.2.2.2.1) hw)
  exact va_get (ref := ref) C.1 C.2.1 C.2.2.2.2.2.2.1 (fun w h => List.mem_cons_of_mem _ (hin w h)) C.2.2.2.2.2.1 C.2.2.2.2.2.2.2.1.1 hP q0 he hc f hf (by rw [hT]; exact hlink) (by rw [hT]; exact fun _ h => h) hv hd (k p e s m args below meth c A C ls H locs hl hP hS)
theorem g_put {own ref nm ds C : String} {T : u_T} {N ci index a : Nat} {fs : List Value} {v : Value} {ty : FieldType} {σ' : St_} (q0 : Nat) (he : (z.2.2.2.1 σ)[q0]? = some (a, .inr (ci, fs))) (hc : cls_[ci]? = some (C, T, N)) (hin : ∀ w ∈ u_ws C T N, w ∈ tg_) (ty0 : Nat → FieldType) (hty : ∀ k, k < N → parseFieldDescriptor (T k).2.2.1 = some (ty0 k)) (hnm : ∀ a, a < N → ∀ b, b < N → a ≠ b → (T a).2.1 ≠ (T b).2.1) (f : Nat) (hf : f < N) (hT : T f = (ref, nm, ds, false)) (hd' : parseFieldDescriptor ds = some ty) (hn : narrow ty v = v) (hfit : fits ty v = true) (hfl : f < fs.length) (hσ : (z.2.2.2.1 σ).set q0 (a, .inr (ci, fs.set f v)) = z.2.2.2.1 σ') (hw : Cond.fieldLink own index ref nm ds ∈ tg_) (ho : y.1.cls = own) (hd : decode y.2.1 pc = .ok (.putfield index, 3)) (k : GG_ z y Post (pc + 3) L st σ') : GG_ z y Post pc L (v :: .ref a :: st) σ := by
  intro p e s m args below meth c A C ls H locs hl hP hS
  subst ho
  have hlink := C.2.2.2.2.2.2.1 _ (List.mem_cons_of_mem (Cond.code y.1 y.2.1 y.2.2.1 y.2.2.2.1) hw)
  refine va_put (ref := ref) (ty := ty) C.1 C.2.1 C.2.2.2.2.2.2.1 (fun w h => List.mem_cons_of_mem _ (hin w h)) ty0 hty hnm C.2.2.2.2.2.1 C.2.2.2.2.2.2.2.1.1 hP (C.2.2.2.2.2.2.2.2.1 σ) hS q0 he hc f hf (by rw [hT]; exact hlink) (by rw [hT]; exact fun _ h => h) (by rw [hT]) (by rw [hT]; exact hd') hn hfit hfl hd (fun H1 locs1 hP1 hD1 hS1 => ?_)
  rw [hσ] at hP1
  exact k p e s m args below meth c A C ls H1 locs1 hl hP1 hS1
theorem g_iald {cA : ClassId} {n a : Nat} {f : Nat → Int32} {i : Int32} (q0 t0 : Nat) (he : (z.2.2.2.1 σ)[q0]? = some (a, .inl (cA, n, .inl f))) (ht : z.2.2.1[t0]? = some (cA, .int)) (hin : vp_in i n) (hd : decode y.2.1 pc = .ok (.iaload, 1)) (k : GG_ z y Post (pc + 1) L (.int (f i.toNatClampNeg) :: st) σ) : GG_ z y Post pc L (.int i :: .ref a :: st) σ :=
  fun p e s m args below meth c A C ls H locs hl hP hS => va_iald C.1 C.2.1 C.2.2.2.2.2.2.2.1.1 hP q0 t0 he ht hin hd (k p e s m args below meth c A C ls H locs hl hP hS)
theorem g_zald {cA : ClassId} {n a : Nat} {f : Nat → Int32} {i : Int32} (q0 t0 : Nat) (he : (z.2.2.2.1 σ)[q0]? = some (a, .inl (cA, n, .inl f))) (ht : z.2.2.1[t0]? = some (cA, .boolean)) (hin : vp_in i n) (hd : decode y.2.1 pc = .ok (.baload, 1)) (k : GG_ z y Post (pc + 1) L (.int (f i.toNatClampNeg) :: st) σ) : GG_ z y Post pc L (.int i :: .ref a :: st) σ :=
  fun p e s m args below meth c A C ls H locs hl hP hS => va_zald C.1 C.2.1 C.2.2.2.2.2.2.2.1.1 hP q0 t0 he ht hin hd (k p e s m args below meth c A C ls H locs hl hP hS)
theorem g_aald {cA : ClassId} {C0 : String} {n a b : Nat} {f : Nat → Option Nat} {i : Int32} (q0 t0 : Nat) (he : (z.2.2.2.1 σ)[q0]? = some (a, .inl (cA, n, .inr (.inr (.inr (.inr f)))))) (ht : z.2.2.1[t0]? = some (cA, .object C0)) (hin : vp_in i n) (hf : f i.toNatClampNeg = some b) (hd : decode y.2.1 pc = .ok (.aaload, 1)) (k : GG_ z y Post (pc + 1) L (.ref b :: st) σ) : GG_ z y Post pc L (.int i :: .ref a :: st) σ :=
  fun p e s m args below meth c A C ls H locs hl hP hS => va_aldq C.1 C.2.1 C.2.2.2.2.2.2.2.1.1 hP q0 t0 he ht hin hd (by rw [hf]; exact k p e s m args below meth c A C ls H locs hl hP hS)
theorem g_iast {cA : ClassId} {n a : Nat} {f : Nat → Int32} {i x : Int32} {σ' : St_} (q0 t0 : Nat) (he : (z.2.2.2.1 σ)[q0]? = some (a, .inl (cA, n, .inl f))) (ht : z.2.2.1[t0]? = some (cA, .int)) (hin : vp_in i n) (hσ : (z.2.2.2.1 σ).set q0 (a, .inl (cA, n, .inl (upd f i.toNatClampNeg x))) = z.2.2.2.1 σ') (hd : decode y.2.1 pc = .ok (.iastore, 1)) (k : GG_ z y Post (pc + 1) L st σ') : GG_ z y Post pc L (.int x :: .int i :: .ref a :: st) σ :=
  fun p e s m args below meth c A C ls H locs hl hP hS => va_iast C.1 C.2.1 C.2.2.2.2.2.2.2.1.1 hP (C.2.2.2.2.2.2.2.2.1 σ) hS q0 t0 he ht hin hd (fun H1 locs1 hP1 hD1 hS1 => k p e s m args below meth c A C ls H1 locs1 hl (by rw [hσ] at hP1; exact hP1) hS1)
theorem g_zast {cA : ClassId} {n a : Nat} {f : Nat → Int32} {i x : Int32} {σ' : St_} (q0 t0 : Nat) (he : (z.2.2.2.1 σ)[q0]? = some (a, .inl (cA, n, .inl f))) (ht : z.2.2.1[t0]? = some (cA, .boolean)) (hin : vp_in i n) (hx : vp_nar .boolean x = x) (hσ : (z.2.2.2.1 σ).set q0 (a, .inl (cA, n, .inl (upd f i.toNatClampNeg x))) = z.2.2.2.1 σ') (hd : decode y.2.1 pc = .ok (.bastore, 1)) (k : GG_ z y Post (pc + 1) L st σ') : GG_ z y Post pc L (.int x :: .int i :: .ref a :: st) σ :=
  fun p e s m args below meth c A C ls H locs hl hP hS => va_zast C.1 C.2.1 C.2.2.2.2.2.2.2.1.1 hP (C.2.2.2.2.2.2.2.2.1 σ) hS q0 t0 he ht hin hd (fun H1 locs1 hP1 hD1 hS1 => k p e s m args below meth c A C ls H1 locs1 hl (by rw [hx, hσ] at hP1; exact hP1) hS1)
theorem g_alen {cA : ClassId} {n a : Nat} {x : vp_A} {ty : FieldType} {v : Int32} (q0 t0 : Nat) (he : (z.2.2.2.1 σ)[q0]? = some (a, .inl (cA, x))) (ht : z.2.2.1[t0]? = some (cA, ty)) (hv : Int32.ofNat x.1 = v) (hd : decode y.2.1 pc = .ok (.arraylength, 1)) (k : GG_ z y Post (pc + 1) L (.int v :: st) σ) : GG_ z y Post pc L (.ref a :: st) σ :=
  fun p e s m args below meth c A C ls H locs hl hP hS => va_alen C.1 C.2.1 C.2.2.2.2.2.2.2.1.1 hP q0 t0 he ht hv hd (k p e s m args below meth c A C ls H locs hl hP hS)
-- returns
theorem g_iret {r : Int32} (hr : y.2.2.2.1 = some .int) (hd : decode y.2.1 pc = .ok (.ireturn, 1)) (k : Post (some (.int r)) σ) : GG_ z y Post pc L [.int r] σ :=
  fun p e s m args below meth c A C ls H locs hl hP hS => W.iret C.1 C.2.1 (C.2.2.2.1.trans hr) (fun t ht hW => ⟨⟨_, σ, rfl, k, by rw [ht]; exact hP⟩, hS.F ht⟩) hS.2.2 hd C.2.2.2.2.1
theorem g_zret {r : Int32} (hr : y.2.2.2.1 = some .boolean) (hn : r = iI_ 0 ∨ r = iI_ 1) (hd : decode y.2.1 pc = .ok (.ireturn, 1)) (k : Post (some (.int r)) σ) : GG_ z y Post pc L [.int r] σ :=
  fun p e s m args below meth c A C ls H locs hl hP hS => W.zret C.1 C.2.1 (C.2.2.2.1.trans hr) (by rcases hn with rfl | rfl <;> rfl) (fun t ht hW => ⟨⟨_, σ, rfl, k, by rw [ht]; exact hP⟩, hS.F ht⟩) hS.2.2 hd C.2.2.2.2.1
theorem g_lret {r : Int64} (hr : y.2.2.2.1 = some .long) (hd : decode y.2.1 pc = .ok (.lreturn, 1)) (k : Post (some (.long r)) σ) : GG_ z y Post pc L [.long r] σ :=
  fun p e s m args below meth c A C ls H locs hl hP hS => W.lret C.1 C.2.1 (C.2.2.2.1.trans hr) (fun t ht hW => ⟨⟨_, σ, rfl, k, by rw [ht]; exact hP⟩, hS.F ht⟩) hS.2.2 hd C.2.2.2.2.1
theorem g_vret (hr : y.2.2.2.1 = none) (hd : decode y.2.1 pc = .ok (.return_, 1)) (k : Post none σ) : GG_ z y Post pc L [] σ :=
  fun p e s m args below meth c A C ls H locs hl hP hS => W.vret C.1 C.2.1 (C.2.2.2.1.trans hr) (fun t ht hW => ⟨⟨_, σ, rfl, k, by rw [ht]; exact hP⟩, hS.F ht⟩) hS.2.2 hd C.2.2.2.2.1
-- calls
theorem pc_blind {as : List Value} {sz : Nat} : FrameBlind (Pc_ z as σ sz) := fun a U g mk q => by
  obtain ⟨h1, h2, h3, h4⟩ := q
  exact ⟨h1, h2, h3, h4.calling⟩
theorem pc_pre {A : Nat → Prop} {s U : State} {H : Heap} {locs : List Loc} {as : List Value} (hE : Ev_ z A s s.heap) (hD : ∀ σ, va_D A (z.2.2.2.1 σ)) (hA : ∀ q : Nat, s.heap.size ≤ q → A q) (hP : va_P z.2.1 cls_ (z.2.2.2.1 σ) H) (hS : va_S A s.heap H locs) (hU : U.heap = H) (hW : s.WarmedH U.vm) : Pc_ z as σ H.size as.toArray U := by
  refine ⟨rfl, by rw [hU], by rw [hU]; exact hP, hE.on hS (fun q h => ?_) hU hW⟩
  rcases h with ⟨σ', k, e, h⟩ | h
  · exact (hD σ').2 k _ h
  · exact hA q (Nat.le_trans hS.1 h)
theorem good_in {w : MI_} (hc : Cond.code w.1 w.2.1 w.2.2.1 w.2.2.2.1 ∈ tg_) : GoodIn (ws_ y) (ws_ w) := by
  intro x hx
  have h : x ∈ tg_ := by
    rcases List.mem_cons.mp hx with rfl | h
    · exact hc
    · exact h
  exact ⟨List.mem_cons_of_mem _ h, tg_good h⟩
theorem run_on {as rest : List Value} {Q : Option Value → St_ → Prop} {p : Program} {e : Env} {s : State} {m : MethodId} {args : Array Value} {below : List Frame} {meth : Method} {c : Code} {A : Nat → Prop} (C : Cx_ z y p s m args meth c A) {ls : Array Slot} {H : Heap} {locs : List Loc} (hl : lv_has ls y.2.2.1 L) (hS : va_S A s.heap H locs)
    (hr : va_Run p z.1 e (rm_ y) s m args below meth c H locs 0 0 0 0 (F0 m pc ls st) rest (Qx_ z Q (Aw_ z H.size) as.toArray) (Aw_ z H.size)) (hk : ∀ v σ', Q v σ' → GG_ z y Post (pc + 3) L (v.toList ++ rest) σ') : W p z.1 e (rm_ y) s m args below meth c H locs 0 0 (MQ below (Qx_ z Post A) args s 0 0 A) (F0 m pc ls st) := by
  have hAB : ∀ q, Aw_ z H.size q → A q := fun q h => by
    rcases h with ⟨σ', k, e, h⟩ | h
    · exact (C.2.2.2.2.2.2.2.2.1 σ').2 k _ h
    · exact C.2.2.2.2.2.2.2.2.2 q (Nat.le_trans hS.1 h)
  intro T hT X
  obtain ⟨v, st₀, t, T', L', h0, X', hL, e1, e2, ⟨⟨v', σ', hv, hp, hb⟩, hz, hq⟩, stp⟩ := hr T hT X
  cases hv
  rw [h0] at hz hq
  obtain ⟨t2, a1, b1⟩ := hk v σ' hp p e s m args below meth c A C ls T'.heap (locs ++ L') hl (by rw [e1]; exact hb)
    ⟨Nat.le_trans hS.1 (by rw [e1]; exact hz), fun q h1 h2 => by rw [e1, hq q (Nat.lt_of_lt_of_le h1 hS.1) (fun z => h2 (hAB q z))]; exact hS.2.1 q h1 h2, fun q hq => by
      rcases List.mem_append.mp hq with h | h
      · exact hS.2.2 q h
      · exact hAB _ (hL q h)⟩ T' rfl X'
  exact ⟨t2, stp t2 a1, b1⟩
theorem g_callV {w : MI_} {own C : String} {index ci b : Nat} {T : u_T} {N : Nat} {fs As rest : List Value} {Q : Option Value → St_ → Prop} (n q0 : Nat) (he : (z.2.2.2.1 σ)[q0]? = some (b, .inr (ci, fs))) (hc : cls_[ci]? = some (C, T, N)) (w1 : Cond.methodLink own index w.1 ∈ tg_) (w2 : Cond.instanceMethod w.1 ∈ tg_) (w3 : Cond.selects C w.1 w.1 ∈ tg_) (w4 : Cond.initialized w.1.cls ∈ tg_) (w5 : Cond.code w.1 w.2.1 w.2.2.1 w.2.2.2.1 ∈ tg_) (ho : y.1.cls = own)
    (hdd : w.1.cls ≠ "java/lang/invoke/MethodHandle" ∧ w.1.cls ≠ "java/lang/invoke/VarHandle" ∧ (parseMethodDescriptor w.1.desc).map (fun d => d.parameters.length) = some n) (hR : w.2.2.2.2.1 + 1 ≤ y.2.2.2.2.1 ∧ 8 + (w.2.2.1 + 11) + w.2.2.2.2.2 ≤ y.2.2.2.2.2) (hn : As.length = n) (hst : st = As.reverse ++ .ref b :: rest) (h8 : (rest.map fun v => v.category).sum ≤ 8) (hd : decode y.2.1 pc = .ok (.invokevirtual index, 3))
    (hM : MM_ z w (.ref b :: As) σ Q) (hk : ∀ v σ', Q v σ' → GG_ z y Post (pc + 3) L (v.toList ++ rest) σ') : GG_ z y Post pc L st σ := by
  intro p e s m args below meth c A Cc ls H locs hl hP hS
  subst ho
  subst hst
  have hts := Cc.2.2.2.2.2.2.1
  have ok : ∀ x ∈ tg_, x.before args s = true := fun x h => hts x (List.mem_cons_of_mem _ h)
  have hWk : Wok_ z := fun σ => (Cc.2.2.2.2.2.2.2.2.1 σ).weaken (fun _ _ _ _ => trivial)
  refine run_on (as := .ref b :: As) Cc hl hS (va_runV (As := As) (rest := rest) (b := b) (C := C) (n := n) ⟨Cc.1, Cc.2.1, Cc.2.2.1, Cc.2.2.2.2.2.1, hts⟩ (hM hWk H.size) ⟨callB_of n hts (good_in w5) rfl rfl rfl (ok _ w4) (ok _ w1) hdd hR, ok _ w2, ok _ w3⟩ ⟨pc_blind, va_recv Cc.2.2.2.2.2.2.2.1.1 hP hc he, fun U hU hW => pc_pre Cc.2.2.2.2.2.2.2.1 Cc.2.2.2.2.2.2.2.2.1 Cc.2.2.2.2.2.2.2.2.2 hP hS hU hW⟩ rfl hn hl.1 rfl (lv_room h8) hd ⟨Nat.le_refl _, Nat.le_refl _⟩) hk
theorem g_callS {w : MI_} {own : String} {index : Nat} {As rest : List Value} {Q : Option Value → St_ → Prop} (n : Nat) (w1 : Cond.methodLink own index w.1 ∈ tg_) (w2 : Cond.static w.1 ∈ tg_) (w4 : Cond.initialized w.1.cls ∈ tg_) (w5 : Cond.code w.1 w.2.1 w.2.2.1 w.2.2.2.1 ∈ tg_) (ho : y.1.cls = own)
    (hdd : w.1.cls ≠ "java/lang/invoke/MethodHandle" ∧ w.1.cls ≠ "java/lang/invoke/VarHandle" ∧ (parseMethodDescriptor w.1.desc).map (fun d => d.parameters.length) = some n) (hR : w.2.2.2.2.1 + 1 ≤ y.2.2.2.2.1 ∧ 8 + (w.2.2.1 + 11) + w.2.2.2.2.2 ≤ y.2.2.2.2.2) (hn : As.length = n) (hst : st = As.reverse ++ rest) (h8 : (rest.map fun v => v.category).sum ≤ 8) (hd : decode y.2.1 pc = .ok (.invokestatic index, 3))
    (hM : MM_ z w As σ Q) (hk : ∀ v σ', Q v σ' → GG_ z y Post (pc + 3) L (v.toList ++ rest) σ') : GG_ z y Post pc L st σ := by
  intro p e s m args below meth c A Cc ls H locs hl hP hS
  subst ho
  subst hst
  have hts := Cc.2.2.2.2.2.2.1
  have ok : ∀ x ∈ tg_, x.before args s = true := fun x h => hts x (List.mem_cons_of_mem _ h)
  have hWk : Wok_ z := fun σ => (Cc.2.2.2.2.2.2.2.2.1 σ).weaken (fun _ _ _ _ => trivial)
  refine run_on (as := As) Cc hl hS (va_runS (As := As) (rest := rest) (n := n) ⟨Cc.1, Cc.2.1, Cc.2.2.1, Cc.2.2.2.2.2.1, hts⟩ (hM hWk H.size) ⟨callB_of n hts (good_in w5) rfl rfl rfl (ok _ w4) (ok _ w1) hdd hR, ok _ w2⟩ ⟨pc_blind, fun U hU hW => pc_pre Cc.2.2.2.2.2.2.2.1 Cc.2.2.2.2.2.2.2.2.1 Cc.2.2.2.2.2.2.2.2.2 hP hS hU hW⟩ rfl hn hl.1 rfl (lv_room h8) hd ⟨Nat.le_refl _, Nat.le_refl _⟩) hk
theorem g_callSN {w : MI_} {own host : String} {index : Nat} {As rest : List Value} {Q : Option Value → St_ → Prop} (n : Nat) (w1 : Cond.methodLinkNest own index w.1 host ∈ nst_) (w2 : Cond.static w.1 ∈ tg_) (w4 : Cond.initialized w.1.cls ∈ tg_) (w5 : Cond.code w.1 w.2.1 w.2.2.1 w.2.2.2.1 ∈ tg_) (ho : y.1.cls = own)
    (hdd : w.1.cls ≠ "java/lang/invoke/MethodHandle" ∧ w.1.cls ≠ "java/lang/invoke/VarHandle" ∧ (parseMethodDescriptor w.1.desc).map (fun d => d.parameters.length) = some n) (hR : w.2.2.2.2.1 + 1 ≤ y.2.2.2.2.1 ∧ 8 + (w.2.2.1 + 11) + w.2.2.2.2.2 ≤ y.2.2.2.2.2) (hn : As.length = n) (hst : st = As.reverse ++ rest) (h8 : (rest.map fun v => v.category).sum ≤ 8) (hd : decode y.2.1 pc = .ok (.invokestatic index, 3))
    (hM : MM_ z w As σ Q) (hk : ∀ v σ', Q v σ' → GG_ z y Post (pc + 3) L (v.toList ++ rest) σ') : GG_ z y Post pc L st σ := by
  intro p e s m args below meth c A Cc ls H locs hl hP hS
  subst ho
  subst hst
  have hts := Cc.2.2.2.2.2.2.1
  have ok : ∀ x ∈ tg_, x.before args s = true := fun x h => hts x (List.mem_cons_of_mem _ h)
  have hWk : Wok_ z := fun σ => (Cc.2.2.2.2.2.2.2.2.1 σ).weaken (fun _ _ _ _ => trivial)
  refine run_on (as := As) Cc hl hS (va_runSN (As := As) (rest := rest) (n := n) ⟨Cc.1, Cc.2.1, Cc.2.2.1, Cc.2.2.2.2.2.1, hts⟩ (hM hWk H.size) ⟨va_cnB n hts (good_in w5) rfl rfl rfl (Cc.2.2.2.2.2.2.2.1.2.1 _ w1) (ok _ w4) hdd hR, ok _ w2, trivial⟩ ⟨pc_blind, fun U hU hW => pc_pre Cc.2.2.2.2.2.2.2.1 Cc.2.2.2.2.2.2.2.2.1 Cc.2.2.2.2.2.2.2.2.2 hP hS hU hW⟩ rfl hn hl.1 rfl (lv_room h8) hd ⟨Nat.le_refl _, Nat.le_refl _⟩) hk
-- static tables
theorem g_gets {own nm : String} {index t N : Nat} {f : Nat → Int32} (hT : ∀ A U H, Ev_ z A U H → Tb_ nm t N f A U H) (hw : Cond.fieldLink own index "LinenHouse" nm "[I" ∈ tg_) (ho : y.1.cls = own) (hd : decode y.2.1 pc = .ok (.getstatic index, 3)) (k : GG_ z y Post (pc + 3) L (.ref t :: st) σ) : GG_ z y Post pc L st σ := by
  intro p e s m args below meth c A C ls H locs hl hP hS
  subst ho
  exact va_gets C.1 C.2.1 (hT _ _ _ C.2.2.2.2.2.2.2.1).1 hS C.2.2.2.2.2.1 (C.2.2.2.2.2.2.1 _ (List.mem_cons_of_mem _ hw)) (fun _ h => h) hd (k p e s m args below meth c A C ls H locs hl hP hS)
theorem g_getsN {own nm : String} {index t N : Nat} {f : Nat → Int32} (hT : ∀ A U H, Ev_ z A U H → Tb_ nm t N f A U H) (hw : Cond.fieldLinkNest own index "LinenHouse" nm "[I" "LinenHouse" ∈ nst_) (ho : y.1.cls = own) (hd : decode y.2.1 pc = .ok (.getstatic index, 3)) (k : GG_ z y Post (pc + 3) L (.ref t :: st) σ) : GG_ z y Post pc L st σ := by
  intro p e s m args below meth c A C ls H locs hl hP hS
  subst ho
  exact va_getsN C.1 C.2.1 (hT _ _ _ C.2.2.2.2.2.2.2.1).1 hS C.2.2.2.2.2.1 (va_Nw.use rfl (C.2.2.2.2.2.2.2.1.2.1 _ hw)) (fun _ h => h) hd (k p e s m args below meth c A C ls H locs hl hP hS)
theorem g_tbl {nm : String} {t N : Nat} {f : Nat → Int32} {i : Int32} (hT : ∀ A U H, Ev_ z A U H → Tb_ nm t N f A U H) (hin : vp_in i N) (hd : decode y.2.1 pc = .ok (.iaload, 1)) (k : GG_ z y Post (pc + 1) L (.int (f i.toNatClampNeg) :: st) σ) : GG_ z y Post pc L (.int i :: .ref t :: st) σ :=
  fun p e s m args below meth c A C ls H locs hl hP hS => va_ti C.1 C.2.1 (hT _ _ _ C.2.2.2.2.2.2.2.1).2 hS hin rfl hd (k p e s m args below meth c A C ls H locs hl hP hS)
end GR
