/-! ===== the reference: leaning, carrying ===== -/
/-- as Rd_, with orders that may not be the members' own -/
def Ro_ (a σ : St_) (n mn : Nat) (or : Nat → Int32) : Prop := σ 2 0 = iI_ n ∧ σ 6 0 = iI_ mn ∧ (∀ j, j < n → σ 3 j = a 5 j ∧ σ 4 j = a 6 j ∧ ∀ i, i < 3 → σ 5 (3 * j + i) = tW_ (3 * (or j).toInt.toNat + i)) ∧ ∀ j, j < mn → σ 7 j = a 11 j ∧ σ 8 j = a 12 j ∧ σ 9 j = a 13 j
theorem Rd_.ro {a σ : St_} {n mn : Nat} (h : Rd_ a σ n mn) : Ro_ a σ n mn (a 7) := h
theorem Ro_.rd {a σ : St_} {n mn : Nat} (h : Ro_ a σ n mn (a 7)) : Rd_ a σ n mn := h
theorem Ro_.ke {a σ σ' : St_} {n mn : Nat} {or : Nat → Int32} (h : Ro_ a σ n mn or) (e : ∀ k, 2 ≤ k ∧ k < 10 → σ' k = σ k) : Ro_ a σ' n mn or := by
  unfold Ro_ at *
  rw [e 2 (by omega), e 3 (by omega), e 4 (by omega), e 5 (by omega), e 6 (by omega), e 7 (by omega), e 8 (by omega), e 9 (by omega)]
  exact h
def or6_ (n : Nat) (or : Nat → Int32) : Prop := ∀ j, j < n → 0 ≤ (or j).toInt ∧ (or j).toInt < 6
theorem Vx_.o6 {a : St_} {n mn nf nj : Nat} (h : Vx_ a n mn nf nj) : or6_ n (a 7) := fun j hj => (h.1.2.2 j hj).2.2
def iso_ (o x y : Nat) : Bool := if tW_ (3 * o) = iI_ x then false else if tW_ (3 * o) = iI_ y then true else if tW_ (3 * o + 1) = iI_ x then false else if tW_ (3 * o + 1) = iI_ y then true else if tW_ (3 * o + 2) = iI_ x then false else decide (tW_ (3 * o + 2) = iI_ y)
theorem iso_rat : ∀ (o : Fin 6) (x y : Fin 3), x ≠ y → iso_ o.val x.val y.val = !rat_ (iI_ (o.val : Nat)) (iI_ (x.val : Nat)) (iI_ (y.val : Nat)) := by decide +kernel
def one3_ (x : Int32) : Prop := 0 ≤ x.toInt ∧ x.toInt < 3
theorem m_isOther (u : Ux_) {P : Int32 → St_ → Prop} (a σ : St_) {n mn : Nat} {or : Nat → Int32} (hn : n ≤ 8) (hd : Ro_ a σ n mn or) (ho : or6_ n or) {k : Nat} (hk : k < n) {x y : Int32} (hx : one3_ x) (hy : one3_ y) (hxy : ¬ x = y) (H : P (bi_ (!rat_ (or k) x y)) σ) : MMi_ (zm_ u) mX10_isOther [.ref (uq_ u 0), .int (iI_ k), .int x, .int y] σ P := by
  obtain ⟨xn, rfl, hxn⟩ := iI_nat hx.1
  obtain ⟨yn, rfl, hyn⟩ := iI_nat hy.1
  have o6 := ho k hk
  obtain ⟨o, eo, hon⟩ := iI_nat o6.1
  rw [eo, iI_toInt (by omega)] at o6
  unfold one3_ at hx hy
  rw [iI_toInt (by omega)] at hx hy
  have w := (hd.2.2.1 k hk).2.2
  rw [eo, iI_toInt (by omega), show ((o : Nat) : Int).toNat = o by omega] at w
  have t := iso_rat ⟨o, by omega⟩ ⟨xn, by omega⟩ ⟨yn, by omega⟩ (fun e => hxy (by rw [Fin.mk.inj e]))
  simp only at t
  rw [eo, ← t] at H
  have w0 := w 0 (by omega)
  have w1 := w 1 (by omega)
  have w2 := w 2 (by omega)
  simp only [Nat.add_zero] at w0
  have x0 : iI_ 3 * iI_ k + iI_ 0 = iI_ (3 * k : Nat) := by rw [iI_mul, iI_add]; congr 1
  have x1 : iI_ 3 * iI_ k + (iI_ 0 + iI_ 1) = iI_ (3 * k + 1 : Nat) := by rw [iI_mul, iI_add, iI_add]; congr 1
  have x2 : iI_ 3 * iI_ k + (iI_ 0 + iI_ 1 + iI_ 1) = iI_ (3 * k + 2 : Nat) := by rw [iI_mul, iI_add, iI_add, iI_add]; congr 1
  have i0 : vp_in (iI_ (3 * k : Nat)) 27 := (iI_in (by omega)).mpr (by omega)
  have i1 : vp_in (iI_ (3 * k + 1 : Nat)) 27 := (iI_in (by omega)).mpr (by omega)
  have i2 : vp_in (iI_ (3 * k + 2 : Nat)) 27 := (iI_in (by omega)).mpr (by omega)
  unfold iso_ at H
  refine eX10_isOther u σ _ _ _ (bX10_isOther_3 u σ _ _ _ _ (cs_ (fun q => absurd q (by decide)) (fun _ => ?_)))
  rw [x0, iI_ix (by omega), w0]
  refine ⟨i0, fun c0 => ⟨i0, fun d0 => ?_, fun d0 => ?_⟩, fun c0 => ?_⟩
  · rw [if_neg c0, if_neg d0] at H
    refine bX10_isOther_3 u σ _ _ _ _ (cs_ (fun q => absurd q (by decide)) (fun _ => ?_))
    rw [x1, iI_ix (by omega), w1]
    refine ⟨i1, fun c1 => ⟨i1, fun d1 => ?_, fun d1 => ?_⟩, fun c1 => ?_⟩
    · rw [if_neg c1, if_neg d1] at H
      refine bX10_isOther_3 u σ _ _ _ _ (cs_ (fun q => absurd q (by decide)) (fun _ => ?_))
      rw [x2, iI_ix (by omega), w2]
      refine ⟨i2, fun c2 => ⟨i2, fun d2 => ?_, fun d2 => ?_⟩, fun c2 => ?_⟩
      · rw [if_neg c2, decide_eq_false d2] at H
        exact bX10_isOther_3 u σ _ _ _ _ (cs_ (fun _ => H) (fun q => absurd (by decide) q))
      · rw [if_neg c2, decide_eq_true d2] at H; exact H
      · rw [if_pos c2] at H; exact H
    · rw [if_neg c1, if_pos d1] at H; exact H
    · rw [if_pos c1] at H; exact H
  · rw [if_neg c0, if_pos d0] at H; exact H
  · rw [if_pos c0] at H; exact H
/-- where members lie now, and how warm -/
def Ly_ (σ : St_) (n : Nat) (pos : Nat → Int32) (j : Bool) : Prop := ∀ k, k < n → σ 17 k = pos k ∧ σ 18 k = iI_ (wm_ (pos k).toInt j) ∧ 0 ≤ (pos k).toInt ∧ (pos k).toInt < 6
theorem wm_bd {p : Int} {j : Bool} (h : 0 ≤ p ∧ p < 6) : 0 ≤ wm_ p j ∧ wm_ p j ≤ 5 := by
  unfold wm_
  cases j <;> simp <;> split <;> omega
theorem m_leansOther (u : Ux_) {P : Int32 → St_ → Prop} (a σ : St_) {n mn : Nat} {or pos : Nat → Int32} {j : Bool} (hn : n ≤ 8) (hd : Ro_ a σ n mn or) (ho : or6_ n or) (hL : Ly_ σ n pos j) {k : Nat} (hk : k < n) {x y : Int32} (hx : one3_ x) (hy : one3_ y) (hxy : ¬ x = y) (H : P (bi_ (!v1_ n or pos j x y k)) σ) : MMi_ (zm_ u) mX10_leansOther [.ref (uq_ u 0), .int (iI_ k), .int x, .int y] σ P := by
  obtain ⟨l17, l18, lb⟩ := hL k hk
  have wb := wm_bd (j := j) lb
  have hin : vp_in (iI_ k) 8 := (iI_in (by omega)).mpr (by omega)
  have iso : P (bi_ (!rat_ (or k) x y)) σ → MMi_ (zm_ u) mX10_isOther [.ref (uq_ u 0), .int (iI_ k), .int x, .int y] σ (fun r5 σ4 => (r5 = iI_ 0 ∨ r5 = iI_ 1) ∧ P r5 σ4) := fun h => m_isOther u a σ hn hd ho hk hx hy hxy ⟨bi_01 _, h⟩
  refine eX10_leansOther u σ _ _ _ ?_
  by_cases hw : wm_ (pos k).toInt j < 2
  · have key : ∀ d i : Nat, i + d = n → GG_ (zm_ u) mX10_leansOther (Pi_ P) 6 [(0, .ref (uq_ u 0)), (1, .int (iI_ k)), (2, .int x), (3, .int y), (4, .int (iI_ (-shl_ or pos x y (pos k) i))), (5, .int (iI_ i))] [] σ := by
      intro d
      induction d with
      | zero =>
        intro i hi
        have : i = n := by omega
        subst this
        have sb := shl_bd or pos x y (pos k) i
        refine bX10_leansOther_6 u σ _ _ _ _ _ (cs_ (fun _ => ?_) (fun q => absurd (by rw [hd.1]; exact Int32.le_refl _) q))
        refine ⟨fun c => cs_ (fun c2 => ?_) (fun c2 => ?_), fun c => iso ?_⟩
        · rw [iI_eq (by omega) (by omega)] at c
          rw [iI_le (by omega) (by omega)] at c2
          rw [v1_, if_pos ⟨hw, by omega⟩, decide_eq_true (by omega)] at H; exact H
        · rw [iI_eq (by omega) (by omega)] at c
          rw [iI_le (by omega) (by omega)] at c2
          rw [v1_, if_pos ⟨hw, by omega⟩, decide_eq_false (by omega)] at H; exact H
        · rw [iI_eq (by omega) (by omega)] at c
          rw [v1_, if_neg (fun q => q.2 (by omega))] at H; exact H
      | succ d ih =>
        intro i hi
        obtain ⟨m17, -, mb⟩ := hL i (by omega)
        have sb := shl_bd or pos x y (pos k) i
        have := ih (i + 1) (by omega)
        unfold shl_ at this
        refine bX10_leansOther_6 u σ _ _ _ _ _ (cs_ (fun q => absurd q (by rw [hd.1, iI_le (by omega) (by omega)]; omega)) (fun _ => ⟨hin, ?_⟩))
        rw [iI_ix (by omega), iI_ix (by omega), l18, l17, m17, iI_succ, iI_add, iI_add]
        refine cs_ (fun q => absurd q (by rw [iI_le (by omega) (by omega)]; omega)) (fun _ => ⟨(iI_in (by omega)).mpr (by omega), hin, fun c => ?_, fun c => m_isOther u a σ hn hd ho (by omega) hx hy hxy ?_⟩)
        · rw [if_neg c] at this
          simpa using this
        · rw [if_pos c] at this
          refine nxb (fun h => ?_) (fun h => ?_)
          · rw [if_pos (by simpa using h), Int.neg_add] at this; exact this
          · rw [if_neg (by simpa using h), Int.neg_add] at this; exact this
    exact key n 0 (by omega)
  · refine bX10_leansOther_6 u σ _ _ _ _ _ ?_
    rw [v1_, if_neg (fun q => hw q.1)] at H
    refine cs_ (fun _ => ⟨fun c => absurd rfl c, fun _ => iso H⟩) (fun _ => ⟨hin, cs_ (fun _ => ⟨fun c => absurd rfl c, fun _ => iso H⟩) (fun q => absurd ?_ q)⟩)
    rw [iI_ix (by omega), l18, iI_le (by omega) (by omega)]; omega
theorem m_leans (u : Ux_) {P : St_ → Prop} (a σ : St_) {n mn : Nat} {or pos : Nat → Int32} {j : Bool} (hn : n ≤ 8) (hd : Ro_ a σ n mn or) (ho : or6_ n or) (hL : Ly_ σ n pos j) {x y : Int32} (hx : one3_ x) (hy : one3_ y) (hxy : ¬ x = y) (H : ∀ σ', Ke_ [19, 21] σ σ' → σ' 19 0 = bs_ (fun k => !v1_ n or pos j x y k) n → σ' 21 0 = iI_ (spk_ pos n) → P σ') : MMv_ (zm_ u) mX10_leans [.ref (uq_ u 0), .int x, .int y] σ P := by
  refine eX10_leans u σ _ _ (fun σ1 e1 σ2 e2 => ?_)
  have key : ∀ (d k : Nat) (τ : St_), k + d = n → Ke_ [19, 21] σ τ → τ 19 0 = bs_ (fun k => !v1_ n or pos j x y k) k → τ 21 0 = iI_ (spk_ pos k) → GG_ (zm_ u) mX10_leans (Pv_ P) 12 [(0, .ref (uq_ u 0)), (1, .int x), (2, .int y), (3, .int (iI_ k))] [] τ := by
    intro d
    induction d with
    | zero =>
      intro k τ hk ke h19 h21
      have : k = n := by omega
      subst this
      exact bX10_leans_12 u τ _ _ _ (cs_ (fun _ => H τ ke h19 h21) (fun q => absurd (by rw [ke 2 (by decide), hd.1]; exact Int32.le_refl _) q))
    | succ d ih =>
      intro k τ hk ke h19 h21
      have hdt : Ro_ a τ n mn or := hd.ke (fun i hi => ke i (by simp; omega))
      have hLt : Ly_ τ n pos j := fun i hi => by rw [ke 17 (by decide), ke 18 (by decide)]; exact hL i hi
      have sb := spk_bd pos k
      have fin : ∀ y0, bs_ (fun k => !v1_ n or pos j x y k) k ||| y0 = bs_ (fun k => !v1_ n or pos j x y k) (k + 1) → GG_ (zm_ u) mX10_leans (Pv_ P) 42 [(0, .ref (uq_ u 0)), (1, .int x), (2, .int y), (3, .int (iI_ k))] [.int y0, .int (τ 19 0), .ref (uq_ u 0)] τ := by
        intro y0 hy0
        refine bX10_leans_42 u τ _ _ _ _ _ (fun σ1 e1 => ?_)
        rw [h19, hy0] at e1
        have ke1 : Ke_ [19, 21] σ σ1 := by rw [e1]; exact ke.su (by decide)
        have h191 : σ1 19 0 = bs_ (fun k => !v1_ n or pos j x y k) (k + 1) := by rw [e1, su_same]
        have h211 : σ1 21 0 = iI_ (spk_ pos k) := by rw [e1, su_i _ _ _ (by decide), h21]
        have e17 : σ1 17 = σ 17 := ke1 17 (by decide)
        have nxt : ∀ (v : Int32) (τ' : St_), τ' = su_ σ1 21 0 v → v = iI_ (spk_ pos (k + 1)) → GG_ (zm_ u) mX10_leans (Pv_ P) 12 [(0, .ref (uq_ u 0)), (1, .int x), (2, .int y), (3, .int (iI_ k + iI_ 1))] [] τ' := by
          intro v τ' e hv
          rw [iI_succ]
          exact ih (k + 1) τ' (by omega) (by rw [e]; exact ke1.su (by decide)) (by rw [e, su_i _ _ _ (by decide)]; exact h191) (by rw [e, su_same]; exact hv)
        rw [h211, iI_eq (by omega) (by omega)]
        refine cs_ (fun c => fun τ' e => nxt _ τ' e ?_) (fun c => ?_)
        · rw [spk_, if_pos c]
        · have es : iI_ (spk_ pos k) = iI_ ((spk_ pos k).toNat : Nat) := by congr 1; omega
          refine ⟨(iI_in (by omega)).mpr (by omega), (iI_in (by omega)).mpr (by omega), ?_⟩
          rw [es, iI_ix (by omega), iI_ix (by omega), e17, (hL (spk_ pos k).toNat (by omega)).1, (hL k (by omega)).1, iI_leI]
          refine cs_ (fun c2 => fun τ' e => nxt _ τ' e ?_) (fun c2 => fun τ' e => nxt _ τ' e ?_)
          · rw [spk_, if_neg c, if_neg (by omega), ← es]
          · rw [spk_, if_neg c, if_pos (by omega)]
      refine bX10_leans_12 u τ _ _ _ (cs_ (fun q => absurd q (by rw [hdt.1, iI_le (by omega) (by omega)]; omega)) (fun _ => m_leansOther u a τ hn hdt ho hLt (by omega) hx hy hxy (nxb (fun h => fin _ ?_) (fun h => fin _ ?_))))
      · rw [or_0]; conv => rhs; unfold bs_
        rw [if_neg (by simp [h])]
      · conv => rhs; unfold bs_
        rw [if_pos h]
  exact key n 0 σ2 (by omega) (by rw [e2, e1]; exact (Ke_.rf.su (by decide)).su (by decide)) (by rw [e2, su_i _ _ _ (by decide), e1, su_same]; rfl) (by rw [e2, su_same]; rfl)
/-- what carries by votes v, members' weights w, a speaker sp -/
def cr2_ (n : Nat) (v : Nat → Bool) (w : Nat → Int) (sp : Nat) (fs ot : Int32) : Int32 := if n = 0 then iI_ (-1) else if ld_ v w n = 0 then (if v sp = true then fs else ot) else if 0 < ld_ v w n then fs else ot
theorem m_carries (u : Ux_) {P : Int32 → St_ → Prop} (a σ : St_) {n mn nf nj : Nat} {or : Nat → Int32} (hV : Vx_ a n mn nf nj) (hR : Rm_ a σ) (hd : Ro_ a σ n mn or) {v : Nat → Bool} {w : Nat → Int} {sp : Nat} {x y how tu : Int32} (hv : ∀ k, k < n → bt (σ 19 0 ^^^ tu) k = !v k) (hw : ∀ k, k < n → w k = if how = iI_ 1 then 1 else (wg_ a k).toInt) (hs : 0 < n → sp < n ∧ σ 21 0 = iI_ sp) (H : ∀ σ', Ke_ [20] σ σ' → σ' 20 0 = iI_ ((ld_ v w n).natAbs) → P (cr2_ n v w sp x y) σ') : MMi_ (zm_ u) mX10_carries [.ref (uq_ u 0), .int x, .int y, .int how, .int tu] σ P := by
  have h8 := hV.1.1
  have wb : ∀ k, k < n → 0 ≤ w k ∧ w k ≤ 9 := fun k hk => by
    have := wg_bd hV hk
    rw [hw k hk]; split <;> omega
  refine eX10_carries u σ _ _ _ _ ?_
  have key : ∀ d k : Nat, k + d = n → GG_ (zm_ u) mX10_carries (Pi_ P) 15 [(0, .ref (uq_ u 0)), (1, .int x), (2, .int y), (3, .int how), (5, .int (σ 19 0 ^^^ tu)), (6, .int (iI_ (-ld_ v w k))), (7, .int (iI_ k))] [] σ := by
    intro d
    induction d with
    | zero =>
      intro k hk
      have : k = n := by omega
      subst this
      have lb := ld_bd v w k wb
      have tail : ∀ σ3, Ke_ [20] σ σ3 → σ3 20 0 = iI_ ((ld_ v w k).natAbs) → ((¬ (σ3 2 0) = iI_ 0 → ((iI_ 0 < iI_ (-ld_ v w k) → P y σ3) ∧ (¬ iI_ 0 < iI_ (-ld_ v w k) → ((¬ iI_ (-ld_ v w k) = iI_ 0 → P x σ3) ∧ (iI_ (-ld_ v w k) = iI_ 0 → MMi_ (zm_ u) mX10_isIn [.int (σ 19 0 ^^^ tu), .int (σ3 21 0)] σ3 (fun r8 σ7 => ((r8 = iI_ 0 → P x σ7) ∧ (¬ r8 = iI_ 0 → P y σ7)))))))) ∧ ((σ3 2 0) = iI_ 0 → P (iI_ (-1)) σ3)) := by
        intro σ3 ke e20
        have H := H σ3 ke e20
        rw [ke 2 (by decide), hd.1, iI_eq (by omega) (by omega), iI_lt (by omega) (by omega), iI_eq (by omega) (by omega)]
        unfold cr2_ at H
        refine ⟨fun c => ⟨fun c2 => ?_, fun c2 => ⟨fun c3 => ?_, fun c3 => ?_⟩⟩, fun c => ?_⟩
        · rw [if_neg (by omega), if_neg (by omega), if_neg (by omega)] at H; exact H
        · rw [if_neg (by omega), if_neg (by omega), if_pos (by omega)] at H; exact H
        · obtain ⟨s1, s2⟩ := hs (by omega)
          rw [if_neg (by omega), if_pos (by omega)] at H
          rw [ke 21 (by decide), s2]
          refine m_isIn u σ3 _ (by omega) ?_
          rw [hv sp s1]
          refine nxb (fun h => ?_) (fun h => ?_)
          · rw [if_pos (by simpa using h)] at H; exact H
          · rw [if_neg (by simpa using h)] at H; exact H
        · rw [if_pos (by omega)] at H; exact H
      refine bX10_carries_15 u σ _ _ _ _ _ _ (cs_ (fun _ => cs_ (fun c => fun σ3 e3 => ?_) (fun c => fun σ3 e3 => ?_)) (fun q => absurd (by rw [hd.1]; exact Int32.le_refl _) q))
      · rw [iI_le (by omega) (by omega)] at c
        refine tail σ3 (by rw [e3]; exact Ke_.rf.su (by decide)) ?_
        rw [e3, su_same]; congr 1; omega
      · rw [iI_le (by omega) (by omega)] at c
        refine tail σ3 (by rw [e3]; exact Ke_.rf.su (by decide)) ?_
        rw [e3, su_same, iI_sub]; congr 1; omega
    | succ d ih =>
      intro k hk
      have := ih (k + 1) (by omega)
      unfold ld_ at this
      obtain ⟨d3, -, -⟩ := hd.2.2.1 k (by omega)
      have r5 := (hV.1.2.2 k (by omega)).1
      have wk := hw k (by omega)
      have w10 : σ 10 (a 5 k).toNatClampNeg = wg_ a k := hR.2.2.1 _ (by rw [clampI]; omega)
      refine bX10_carries_15 u σ _ _ _ _ _ _ (cs_ (fun q => absurd q (by rw [hd.1, iI_le (by omega) (by omega)]; omega)) (fun _ => ?_))
      rw [iI_ix (by omega), d3, iI_succ, w10]
      refine ⟨fun c => ⟨(iI_in (by omega)).mpr (by omega), vp_in_iff.mpr (by omega), m_isIn u σ _ (by omega) ?_⟩, fun c => m_isIn u σ _ (by omega) ?_⟩
      · rw [if_neg c] at wk
        rw [hv k (by omega)]
        have ew : wg_ a k = iI_ (w k) := by rw [wk, iI_of]
        rw [ew, iI_sub, iI_add, iI_add]
        refine nxb (fun h => ?_) (fun h => ?_)
        · rw [if_pos (by simpa using h), Int.neg_add] at this
          simpa using this
        · rw [if_neg (by simpa using h), Int.neg_add, Int.neg_neg] at this; exact this
      · rw [if_pos c] at wk
        rw [hv k (by omega), iI_sub, iI_add, iI_add]
        refine nxb (fun h => ?_) (fun h => ?_)
        · rw [if_pos (by simpa using h), Int.neg_add, wk] at this
          exact this
        · rw [if_neg (by simpa using h), Int.neg_add, Int.neg_neg, wk] at this; exact this
  exact key n 0 (by omega)
