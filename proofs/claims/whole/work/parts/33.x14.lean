/-! ===== the class: ajar, power ===== -/
def no_ : Int64 := iL_ (-9223372036854775808) - (iI_ (-2)).toInt64
/-- sixteenths, of the chance c up to night last -/
def sx_ (a : St_) (n mn nf : Nat) (c last one night : Int32) : Nat := (if ca_ a n mn nf (a 7) true (iI_ (-1)) (lp_ mn night) = one then (if last.toInt < (lp_ mn night).toInt then 0 else c.toInt.toNat) else 0) + (if ca_ a n mn nf (a 7) false (iI_ (-1)) (lp_ mn night) = one then 16 - (if last.toInt < (lp_ mn night).toInt then 0 else c.toInt.toNat) else 0)
def q_ajar (a : St_) (n mn nf : Nat) (c last one night w : Int32) : Int64 := if inr_ c (iI_ 17) = true ∧ inr_ last (iI_ 10) = true ∧ inr_ one (iI_ 3) = true ∧ inr_ night (iI_ 10) = true ∧ inr_ w (iI_ 2) = true then lw_ (sx_ a n mn nf c last one night) 16 w else no_
theorem x_ajar (u : Ux_) {P : Int64 → St_ → Prop} (a σ : St_) {n mn nf nj : Nat} (hV : Vx_ a n mn nf nj) (hS : Sc_ a σ) (c last one night w : Int32) (H : ∀ σ', Sc_ a σ' → P (q_ajar a n mn nf c last one night w) σ') : MMl_ (zx_ u) mX9_ajar [.ref (uq_ u 0), .int c, .int last, .int one, .int night, .int w] σ P := by
  have h10 := hV.2.1.1
  refine eX9_ajar u σ c last one night w (s_within u σ _ _ (nxb (fun h1 => ?_) (fun h1 => s_isNight u σ _ (nxb (fun h2 => ?_) (fun h2 => s_within u σ _ _ (nxb (fun h3 => ?_) (fun h3 => s_isNight u σ _ (nxb (fun h4 => ?_) (fun h4 => s_within u σ _ _ (nxn (fun h5 => ?_) (fun h5 => ?_)))))))))))
  · have := H σ hS; simp [q_ajar, h1] at this; exact s_refusedLong u σ _ this
  · have := H σ hS; simp [q_ajar, h2] at this; exact s_refusedLong u σ _ this
  · have := H σ hS; simp [q_ajar, h3] at this; exact s_refusedLong u σ _ this
  · have := H σ hS; simp [q_ajar, h4] at this; exact s_refusedLong u σ _ this
  · have := H σ hS; simp [q_ajar, h5] at this; exact s_refusedLong u σ _ this
  · simp only [q_ajar, h1, h2, h3, h4, h5, and_self, if_true] at H
    have hc := inr_t.mp h1
    rw [show (iI_ 17).toInt = 17 by decide] at hc
    refine x_lastPut u σ (hV.sc hS).2.1 night ?_
    generalize hp : lp_ mn night = put at *
    have key : ∀ y : Nat, y ≤ 16 → y = (if last.toInt < put.toInt then 0 else c.toInt.toNat) → GG_ (zx_ u) mX9_ajar (Pl_ P) 78 [(0, .ref (uq_ u 0)), (3, .int one), (5, .int w), (7, .int put)] [.int (iI_ y)] σ := by
      intro y hy ey
      have HH : ∀ σ', Sc_ a σ' → P (lw_ ((if ca_ a n mn nf (a 7) true (iI_ (-1)) put = one then y else 0) + (if ca_ a n mn nf (a 7) false (iI_ (-1)) put = one then 16 - y else 0)) 16 w) σ' := by
        intro σ' s'
        have := H σ' s'
        rw [sx_, hp, ← ey] at this
        exact this
      refine bX9_ajar_78 u σ _ _ _ _ ?_
      rw [iI_sub, iI_add, iI_add, iI_add, iI_L (by decide), iI_L (by omega), iI_L (by omega), iI_L (by omega)]
      have or7 : ∀ τ, Sc_ a τ → ∀ m, m < n → τ 7 m = a 7 m := fun τ s m _ => by rw [s 7 (by omega)]
      refine x_carried u 5 7 (ap_order u) (Or.inl rfl) a σ hV hS put (iI_ (-1)) (a 7) (or7 σ hS) true (fun σ1 k1 _ => ?_)
      have s1 := CH_sc hS k1
      refine ⟨fun q => x_carried u 5 7 (ap_order u) (Or.inl rfl) a σ1 hV s1 put (iI_ (-1)) (a 7) (or7 σ1 s1) false (fun σ2 k2 _ => ⟨fun q2 => ?_, fun q2 => ?_⟩), fun q => x_carried u 5 7 (ap_order u) (Or.inl rfl) a σ1 hV s1 put (iI_ (-1)) (a 7) (or7 σ1 s1) false (fun σ2 k2 _ => ⟨fun q2 => ?_, fun q2 => ?_⟩)⟩
      · have := HH σ2 (CH_sc s1 k2)
        rw [if_neg q, if_neg q2] at this
        exact s_lowest u σ2 0 16 w (by omega) (by omega) (by omega) this
      · have := HH σ2 (CH_sc s1 k2)
        rw [if_neg q, if_pos q2] at this
        have e : iL_ (0 + (16 - (y : Int))) = iL_ ((0 + (16 - y) : Nat) : Int) := by congr 1; omega
        rw [e]
        exact s_lowest u σ2 _ 16 w (by omega) (by omega) (by omega) this
      · have := HH σ2 (CH_sc s1 k2)
        rw [if_pos q, if_neg q2] at this
        have e : iL_ (0 + (y : Int)) = iL_ ((y + 0 : Nat) : Int) := by congr 1; omega
        rw [e]
        exact s_lowest u σ2 _ 16 w (by omega) (by omega) (by omega) this
      · have := HH σ2 (CH_sc s1 k2)
        rw [if_pos q, if_pos q2] at this
        have e : iL_ (0 + (y : Int) + (16 - (y : Int))) = iL_ ((y + (16 - y) : Nat) : Int) := by congr 1; omega
        rw [e]
        exact s_lowest u σ2 _ 16 w (by omega) (by omega) (by omega) this
    refine cs_ (fun q => ?_) (fun q => ?_) <;> rw [iI_ltI] at q
    · exact key 0 (by omega) (by rw [if_pos q])
    · have e : c = iI_ (c.toInt.toNat : Nat) := by rw [show ((c.toInt.toNat : Nat) : Int) = c.toInt by omega, iI_of]
      rw [e]
      have := key c.toInt.toNat (by omega) (by rw [if_neg q])
      exact this
/-! power -/
theorem bt_nat (S k : Nat) : bt (iI_ S) k = (decide (k < 32) && S.testBit k) := by
  show (Int32.ofNat S).toBitVec.getLsbD k = _
  rw [show (Int32.ofNat S).toBitVec = BitVec.ofNat 32 S from rfl, BitVec.getLsbD_ofNat]
theorem pow_n : ∀ n : Nat, n < 11 → iI_ 1 <<< (iI_ n &&& 31) = iI_ (2 ^ n : Nat) := by decide +kernel
/-- the weight of a set, of its members below k -/
def wS_ (a : St_) (S : Nat) : Nat → Int
  | 0 => 0
  | k + 1 => wS_ a S k + (if S.testBit k = true then (wg_ a k).toInt else 0)
def wA_ (a : St_) : Nat → Int
  | 0 => 0
  | k + 1 => wA_ a k + (wg_ a k).toInt
theorem wg_bd {a : St_} {n mn nf nj : Nat} (hV : Vx_ a n mn nf nj) {k : Nat} (hk : k < n) : 0 ≤ (wg_ a k).toInt ∧ (wg_ a k).toInt ≤ 9 := by
  have q := (hV.1.2.2 k hk).1
  exact hV.2.2.2.2 (a 5 k).toNatClampNeg (by rw [clampI]; omega)
theorem wS_bd {a : St_} {n mn nf nj : Nat} (hV : Vx_ a n mn nf nj) (S : Nat) : ∀ k, k ≤ n → 0 ≤ wS_ a S k ∧ wS_ a S k ≤ 9 * k := by
  intro k
  induction k with
  | zero => intro _; simp [wS_]
  | succ k ih =>
    intro hk
    have := ih (by omega)
    have := wg_bd hV (k := k) (by omega)
    unfold wS_; split <;> omega
theorem wA_bd {a : St_} {n mn nf nj : Nat} (hV : Vx_ a n mn nf nj) : ∀ k, k ≤ n → 0 ≤ wA_ a k ∧ wA_ a k ≤ 9 * k := by
  intro k
  induction k with
  | zero => intro _; simp [wA_]
  | succ k ih =>
    intro hk
    have := ih (by omega)
    have := wg_bd hV (k := k) (by omega)
    unfold wA_; omega
theorem wsm_A (a : St_) (k : Nat) : wsm_ a k = iI_ (wA_ a k) := by
  induction k with
  | zero => rfl
  | succ k ih => unfold wsm_ wA_; rw [ih, ← iI_add, iI_of]
theorem tb_lt {S k : Nat} (h : S < 2 ^ k) : S.testBit k = false := Nat.testBit_lt_two_pow h
theorem tb_add {S k : Nat} (h : S < 2 ^ k) : (2 ^ k + S).testBit k = true := by
  rw [Nat.testBit_two_pow_add_eq, tb_lt h]; rfl
theorem tb_low {S k i : Nat} (hi : i < k) : (2 ^ k + S).testBit i = S.testBit i := Nat.testBit_two_pow_add_gt hi S
theorem wS_low (a : St_) (S k : Nat) : ∀ i, i ≤ k → wS_ a (2 ^ k + S) i = wS_ a S i := by
  intro i
  induction i with
  | zero => intro _; rfl
  | succ i ih => intro hi; unfold wS_; rw [ih (by omega), tb_low (by omega)]
theorem x_weighSets (u : Ux_) {P : St_ → Prop} (a σ : St_) {n mn nf nj : Nat} (hV : Vx_ a n mn nf nj) (hS : Sc_ a σ) (H : ∀ σ', Sc_ a σ' → (∀ S, S < 2 ^ n → σ' 33 S = iI_ (wS_ a S n)) → P σ') : MMv_ (zx_ u) mX5_weighSets [.ref (uq_ u 25)] σ P := by
  have h8 := hV.1.1
  refine eX5_weighSets u σ ?_
  rintro σ1 e1
  have key : ∀ (d m : Nat) (τ : St_), m + d = n → Sc_ a τ → (∀ S, S < 2 ^ m → τ 33 S = iI_ (wS_ a S m)) → GG_ (zx_ u) mX5_weighSets (Pv_ P) 9 [(0, .ref (uq_ u 25)), (1, .int (iI_ m))] [] τ := by
    intro d
    induction d with
    | zero =>
      intro m τ hm hs hA
      have : m = n := by omega
      subst this
      exact bX5_weighSets_9 u τ _ (cs_ (fun _ => H τ hs hA) (fun c => absurd (by rw [hs 3 (by omega), hV.1.2.1]; exact Int32.le_refl _) c))
    | succ d ih =>
      intro m τ hm hs hA
      have hp : (2 : Nat) ^ (m + 1) ≤ 2 ^ 8 := Nat.pow_le_pow_right (by decide) (by omega)
      rw [Nat.pow_succ] at hp
      have hp0 : 0 < (2 : Nat) ^ m := Nat.two_pow_pos m
      refine bX5_weighSets_9 u τ _ (cs_ (fun c => absurd c (by rw [hs 3 (by omega), hV.1.2.1, iI_le (by omega) (by omega)]; omega)) (fun _ => ?_))
      rw [pow_n m (by omega)]
      have key2 : ∀ (d2 T : Nat) (τ : St_), T + d2 = 2 ^ m → Sc_ a τ → (∀ S, S < 2 ^ m + T → τ 33 S = iI_ (if S < 2 ^ m then wS_ a S m else wS_ a S (m + 1))) → GG_ (zx_ u) mX5_weighSets (Pv_ P) 26 [(0, .ref (uq_ u 25)), (1, .int (iI_ m)), (2, .int (iI_ (2 ^ m : Nat))), (3, .int (iI_ T))] [] τ := by
        intro d2
        induction d2 with
        | zero =>
          intro T τ hT hs hA
          have : T = 2 ^ m := by omega
          subst this
          refine bX5_weighSets_26 u τ _ _ _ (cs_ (fun _ => ?_) (fun c => absurd (Int32.le_refl _) c))
          rw [iI_succ]
          refine ih (m + 1) τ (by omega) hs (fun S hS2 => ?_)
          rw [Nat.pow_succ] at hS2
          rw [hA S (by omega)]
          by_cases q : S < 2 ^ m
          · rw [if_pos q]
            conv => rhs; unfold wS_
            rw [tb_lt q]; simp
          · rw [if_neg q]
        | succ d2 ih2 =>
          intro T τ hT hs hA
          have hVs := hV.sc hs
          refine bX5_weighSets_26 u τ _ _ _ (cs_ (fun c => absurd c (by rw [iI_le (by omega) (by omega)]; omega)) (fun _ => ⟨(iI_in (by omega)).mpr (by omega), x_weightOf u τ hVs.1 (by omega) ⟨?_, ?_⟩⟩))
          · rw [iI_add]; exact (iI_in (by omega)).mpr (by omega)
          · rintro σ5 e5
            have ea : iI_ (2 ^ m : Nat) + iI_ T = iI_ (2 ^ m + T : Nat) := by rw [iI_add]; congr 1
            rw [ea, iI_ix (by omega), iI_ix (by omega), hA T (by omega), if_pos (by omega), wg_sc hs] at e5
            rw [iI_succ]
            refine ih2 (T + 1) σ5 (by omega) (by rw [e5]; exact hs.su (by decide)) (fun S hS2 => ?_)
            by_cases q : S = 2 ^ m + T
            · rw [e5, q, su_same, if_neg (by omega), wS_, wS_low a T m m (by omega), tb_add (by omega), if_pos rfl, ← iI_add, iI_of]
            · rw [e5, su_j _ _ _ q]; exact hA S (by omega)
      exact key2 (2 ^ m) 0 τ (by omega) hs (fun S hS2 => by rw [hA S (by omega), if_pos (by omega)])
  exact key n 0 σ1 (by omega) (by rw [e1]; exact hS.su (by decide)) (fun S hS2 => by
    have : S = 0 := by simpa using hS2
    rw [this, e1, show (iI_ 0).toNatClampNeg = 0 from rfl, su_same]; rfl)
/-- members of a set below k -/
def pcn_ (S : Nat) : Nat → Nat
  | 0 => 0
  | k + 1 => pcn_ S k + (if S.testBit k = true then 1 else 0)
def fac_ (k : Nat) : Nat := [1, 1, 2, 6, 24, 120, 720, 5040, 40320].getD k 0
theorem tF_fac : ∀ k, k < 9 → tF_ k = iI_ (fac_ k) := by decide +kernel
theorem fac_bd : ∀ k, k < 9 → 0 < fac_ k ∧ fac_ k ≤ 40320 := by decide +kernel
theorem fac_mul : ∀ n, n < 8 → ∀ k, k ≤ n → fac_ k * fac_ (n - k) ≤ 5040 := by decide +kernel
theorem pcn_8 : ∀ n, n < 9 → ∀ S, S < 2 ^ n → pcn_ S 8 = pcn_ S n := by decide +kernel
theorem pcn_bd (S : Nat) : ∀ k, pcn_ S k ≤ k := by
  intro k
  induction k with
  | zero => simp [pcn_]
  | succ k ih => unfold pcn_; split <;> omega
theorem pcn_lt {S m : Nat} (hm : S.testBit m = false) : ∀ k, m < k → pcn_ S k < k := by
  intro k
  induction k with
  | zero => intro h; omega
  | succ k ih =>
    intro h
    unfold pcn_
    by_cases q : m = k
    · subst q
      rw [hm]
      have := pcn_bd S m
      simp; omega
    · have := ih (by omega)
      split <;> omega
/-- the orders in which member m turns the scale, over the sets below S -/
def tc_ (a : St_) (n m S : Nat) : Bool := decide (S.testBit m = false ∧ 2 * wS_ a S n ≤ wA_ a n ∧ wA_ a n < 2 * (wS_ a S n + (wg_ a m).toInt))
def tu_ (a : St_) (n m : Nat) : Nat → Nat
  | 0 => 0
  | S + 1 => tu_ a n m S + (if tc_ a n m S = true then fac_ (pcn_ S n) * fac_ (n - 1 - pcn_ S n) else 0)
theorem tu_bd {a : St_} {n m : Nat} (hm : m < n) (h8 : n ≤ 8) : ∀ S, tu_ a n m S ≤ 5040 * S := by
  intro S
  induction S with
  | zero => simp [tu_]
  | succ S ih =>
    unfold tu_
    split
    · rename_i c
      simp only [tc_, decide_eq_true_eq] at c
      have h1 := pcn_lt c.1 n hm
      have := fac_mul (n - 1) (by omega) (pcn_ S n) (by omega)
      omega
    · omega
