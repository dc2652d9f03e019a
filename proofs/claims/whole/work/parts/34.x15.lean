/-! ===== the class: power ===== -/
def bc_ (x0 : Int32) : Int32 := ((((((((x0 - ((Int32.toUInt32 x0 >>> (Int32.toUInt32 (iI_ 1) &&& Int32.toUInt32 31)).toInt32 &&& (iI_ 1431655765))) &&& (iI_ 858993459)) + ((Int32.toUInt32 (x0 - ((Int32.toUInt32 x0 >>> (Int32.toUInt32 (iI_ 1) &&& Int32.toUInt32 31)).toInt32 &&& (iI_ 1431655765))) >>> (Int32.toUInt32 (iI_ 2) &&& Int32.toUInt32 31)).toInt32 &&& (iI_ 858993459))) + (Int32.toUInt32 (((x0 - ((Int32.toUInt32 x0 >>> (Int32.toUInt32 (iI_ 1) &&& Int32.toUInt32 31)).toInt32 &&& (iI_ 1431655765))) &&& (iI_ 858993459)) + ((Int32.toUInt32 (x0 - ((Int32.toUInt32 x0 >>> (Int32.toUInt32 (iI_ 1) &&& Int32.toUInt32 31)).toInt32 &&& (iI_ 1431655765))) >>> (Int32.toUInt32 (iI_ 2) &&& Int32.toUInt32 31)).toInt32 &&& (iI_ 858993459))) >>> (Int32.toUInt32 (iI_ 4) &&& Int32.toUInt32 31)).toInt32) &&& (iI_ 252645135)) + (Int32.toUInt32 (((((x0 - ((Int32.toUInt32 x0 >>> (Int32.toUInt32 (iI_ 1) &&& Int32.toUInt32 31)).toInt32 &&& (iI_ 1431655765))) &&& (iI_ 858993459)) + ((Int32.toUInt32 (x0 - ((Int32.toUInt32 x0 >>> (Int32.toUInt32 (iI_ 1) &&& Int32.toUInt32 31)).toInt32 &&& (iI_ 1431655765))) >>> (Int32.toUInt32 (iI_ 2) &&& Int32.toUInt32 31)).toInt32 &&& (iI_ 858993459))) + (Int32.toUInt32 (((x0 - ((Int32.toUInt32 x0 >>> (Int32.toUInt32 (iI_ 1) &&& Int32.toUInt32 31)).toInt32 &&& (iI_ 1431655765))) &&& (iI_ 858993459)) + ((Int32.toUInt32 (x0 - ((Int32.toUInt32 x0 >>> (Int32.toUInt32 (iI_ 1) &&& Int32.toUInt32 31)).toInt32 &&& (iI_ 1431655765))) >>> (Int32.toUInt32 (iI_ 2) &&& Int32.toUInt32 31)).toInt32 &&& (iI_ 858993459))) >>> (Int32.toUInt32 (iI_ 4) &&& Int32.toUInt32 31)).toInt32) &&& (iI_ 252645135)) >>> (Int32.toUInt32 (iI_ 8) &&& Int32.toUInt32 31)).toInt32) + (Int32.toUInt32 ((((((x0 - ((Int32.toUInt32 x0 >>> (Int32.toUInt32 (iI_ 1) &&& Int32.toUInt32 31)).toInt32 &&& (iI_ 1431655765))) &&& (iI_ 858993459)) + ((Int32.toUInt32 (x0 - ((Int32.toUInt32 x0 >>> (Int32.toUInt32 (iI_ 1) &&& Int32.toUInt32 31)).toInt32 &&& (iI_ 1431655765))) >>> (Int32.toUInt32 (iI_ 2) &&& Int32.toUInt32 31)).toInt32 &&& (iI_ 858993459))) + (Int32.toUInt32 (((x0 - ((Int32.toUInt32 x0 >>> (Int32.toUInt32 (iI_ 1) &&& Int32.toUInt32 31)).toInt32 &&& (iI_ 1431655765))) &&& (iI_ 858993459)) + ((Int32.toUInt32 (x0 - ((Int32.toUInt32 x0 >>> (Int32.toUInt32 (iI_ 1) &&& Int32.toUInt32 31)).toInt32 &&& (iI_ 1431655765))) >>> (Int32.toUInt32 (iI_ 2) &&& Int32.toUInt32 31)).toInt32 &&& (iI_ 858993459))) >>> (Int32.toUInt32 (iI_ 4) &&& Int32.toUInt32 31)).toInt32) &&& (iI_ 252645135)) + (Int32.toUInt32 (((((x0 - ((Int32.toUInt32 x0 >>> (Int32.toUInt32 (iI_ 1) &&& Int32.toUInt32 31)).toInt32 &&& (iI_ 1431655765))) &&& (iI_ 858993459)) + ((Int32.toUInt32 (x0 - ((Int32.toUInt32 x0 >>> (Int32.toUInt32 (iI_ 1) &&& Int32.toUInt32 31)).toInt32 &&& (iI_ 1431655765))) >>> (Int32.toUInt32 (iI_ 2) &&& Int32.toUInt32 31)).toInt32 &&& (iI_ 858993459))) + (Int32.toUInt32 (((x0 - ((Int32.toUInt32 x0 >>> (Int32.toUInt32 (iI_ 1) &&& Int32.toUInt32 31)).toInt32 &&& (iI_ 1431655765))) &&& (iI_ 858993459)) + ((Int32.toUInt32 (x0 - ((Int32.toUInt32 x0 >>> (Int32.toUInt32 (iI_ 1) &&& Int32.toUInt32 31)).toInt32 &&& (iI_ 1431655765))) >>> (Int32.toUInt32 (iI_ 2) &&& Int32.toUInt32 31)).toInt32 &&& (iI_ 858993459))) >>> (Int32.toUInt32 (iI_ 4) &&& Int32.toUInt32 31)).toInt32) &&& (iI_ 252645135)) >>> (Int32.toUInt32 (iI_ 8) &&& Int32.toUInt32 31)).toInt32) >>> (Int32.toUInt32 (iI_ 16) &&& Int32.toUInt32 31)).toInt32) &&& (iI_ 63))
theorem bc_ok : ∀ S : Nat, S < 256 → bc_ (iI_ S) = iI_ (pcn_ S 8) := by decide +kernel
theorem s_bitCount (u : Ux_) {P : Int32 → St_ → Prop} (σ : St_) {S : Nat} (hS : S < 256) (H : P (iI_ (pcn_ S 8)) σ) : MMi_ (zx_ u) mJ6_bitCount_0f7a4 [.int (iI_ S)] σ P := by
  rw [← bc_ok S hS] at H
  exact eJ6_bitCount_0f7a4 u σ _ H
theorem x_factorial (u : Ux_) {P : Int32 → St_ → Prop} (σ : St_) {k : Nat} (hk : k < 9) (H : P (iI_ (fac_ k : Nat)) σ) : MMi_ (zx_ u) mX9_factorial [.int (iI_ k)] σ P := by
  refine eX9_factorial u σ _ (cs_ (fun c => ?_) (fun _ => cs_ (fun c => ?_) (fun _ => ⟨(iI_in (by omega)).mpr (by omega), ?_⟩)))
  · rw [iI_lt (by omega) (by omega)] at c; omega
  · rw [iI_le (by omega) (by omega)] at c; omega
  · rw [iI_ix (by omega), tF_fac k (by omega)]; exact H
theorem x_turning (u : Ux_) {P : Int32 → St_ → Prop} (a σ : St_) {n mn nf nj : Nat} (hV : Vx_ a n mn nf nj) (hS : Sc_ a σ) {m : Nat} (hm : m < n) (H : ∀ σ', Sc_ a σ' → P (iI_ (tu_ a n m (2 ^ n))) σ') : MMi_ (zx_ u) mX5_turning [.ref (uq_ u 25), .int (iI_ m)] σ P := by
  have h8 := hV.1.1
  have hp : (2 : Nat) ^ n ≤ 2 ^ 8 := Nat.pow_le_pow_right (by decide) h8
  refine eX5_turning u σ _ (x_weighSets u a σ hV hS (fun σ1 s1 hA => ?_))
  have v1 := hV.sc s1
  refine x_weightOfAll u σ1 v1.1 (x_weightOf u σ1 v1.1 hm ?_)
  have eall : wsm_ σ1 n = iI_ (wA_ a n) := by
    have : ∀ k, wsm_ σ1 k = wsm_ a k := by
      intro k
      induction k with
      | zero => rfl
      | succ k ih => unfold wsm_; rw [ih, wg_sc s1]
    rw [this, wsm_A]
  have eown : wg_ σ1 m = iI_ (wg_ a m).toInt := by rw [wg_sc s1, iI_of]
  rw [eall, eown]
  have hall := wA_bd hV n (by omega)
  have hown := wg_bd hV hm
  have key : ∀ d S : Nat, S + d = 2 ^ n → GG_ (zx_ u) mX5_turning (Pi_ P) 27 [(0, .ref (uq_ u 25)), (1, .int (iI_ m)), (2, .int (iI_ (wA_ a n))), (3, .int (iI_ (wg_ a m).toInt)), (4, .int (iI_ (tu_ a n m S))), (5, .int (iI_ S))] [] σ1 := by
    intro d
    induction d with
    | zero =>
      intro S hSd
      have : S = 2 ^ n := by omega
      subst this
      refine bX5_turning_27 u σ1 _ _ _ _ _ (cs_ (fun _ => H σ1 s1) (fun c => absurd ?_ c))
      rw [v1.1.2.1, pow_n n (by omega)]
      exact Int32.le_refl _
    | succ d ih =>
      intro S hSd
      have hw := wS_bd hV S n (by omega)
      have htb := tu_bd (a := a) hm h8 S
      refine bX5_turning_27 u σ1 _ _ _ _ _ ?_
      rw [v1.1.2.1, pow_n n (by omega), iI_le (by omega) (by omega), bt_is0 _ (by omega), bt_nat, decide_eq_true (show m < 32 by omega), Bool.true_and, iI_ix (by omega), hA S (by omega)]
      have same : tc_ a n m S = false → GG_ (zx_ u) mX5_turning (Pi_ P) 27 [(0, .ref (uq_ u 25)), (1, .int (iI_ m)), (2, .int (iI_ (wA_ a n))), (3, .int (iI_ (wg_ a m).toInt)), (4, .int (iI_ (tu_ a n m S))), (5, .int (iI_ (S + 1 : Nat)))] [] σ1 := by
        intro hc
        have := ih (S + 1) (by omega)
        rw [tu_, if_neg (by simp [hc])] at this
        exact this
      refine cs_ (fun c => by omega) (fun _ => ⟨(iI_in (by omega)).mpr (by omega), ⟨fun c => ?_, fun c => ?_⟩⟩)
      · refine bX5_turning_64 u σ1 _ _ _ _ _ _ _ ⟨fun _ => ?_, fun q => absurd rfl q⟩
        rw [iI_succ]
        exact same (by rw [tc_]; exact decide_eq_false (fun z => c z.1))
      · refine bX5_turning_64 u σ1 _ _ _ _ _ _ _ ⟨fun q => absurd q (by decide), fun _ => ?_⟩
        rw [iI_succ, iI_mul, iI_add (wS_ a S n) (wg_ a m).toInt, iI_mul, iI_lt (by omega) (by omega), iI_le (by omega) (by omega)]
        refine cs_ (fun c2 => ?_) (fun c2 => cs_ (fun c3 => ?_) (fun c3 => s_bitCount u σ1 (by omega) ?_))
        · exact same (by rw [tc_]; exact decide_eq_false (by omega))
        · exact same (by rw [tc_]; exact decide_eq_false (by omega))
        · have htc : tc_ a n m S = true := by rw [tc_]; exact decide_eq_true ⟨c, by omega, by omega⟩
          have hpl := pcn_lt c n hm
          have hmul := fac_mul (n - 1) (by omega) (pcn_ S n) (by omega)
          rw [pcn_8 n (by omega) S (by omega)]
          refine x_factorial u σ1 (by omega) ?_
          rw [v1.1.2.1, iI_sub, iI_sub, show ((n : Int) - 1 - (pcn_ S n : Nat)) = ((n - 1 - pcn_ S n : Nat) : Int) by omega]
          refine x_factorial u σ1 (by omega) ?_
          rw [iI_mul, iI_add]
          have := ih (S + 1) (by omega)
          rw [tu_, if_pos htc] at this
          have e : ((tu_ a n m S : Nat) : Int) + ((fac_ (pcn_ S n) : Nat) : Int) * ((fac_ (n - 1 - pcn_ S n) : Nat) : Int) = ((tu_ a n m S + fac_ (pcn_ S n) * fac_ (n - 1 - pcn_ S n) : Nat) : Int) := by push_cast; rfl
          rw [e]
          exact this
  exact key (2 ^ n) 0 (by omega)
def q_power (a : St_) (n : Nat) (m w : Int32) : Int64 := if inr_ m (a 3 0) = true ∧ inr_ w (iI_ 2) = true then lw_ (tu_ a n m.toNatClampNeg (2 ^ n)) (fac_ n) w else no_
theorem x_power (u : Ux_) {P : Int64 → St_ → Prop} (a σ : St_) {n mn nf nj : Nat} (hV : Vx_ a n mn nf nj) (hS : Sc_ a σ) (m w : Int32) (H : ∀ σ', Sc_ a σ' → P (q_power a n m w) σ') : MMl_ (zx_ u) mX9_power [.ref (uq_ u 0), .int m, .int w] σ P := by
  have h8 := hV.1.1
  have hp : (2 : Nat) ^ n ≤ 2 ^ 8 := Nat.pow_le_pow_right (by decide) h8
  refine eX9_power u σ m w (s_isMember u σ _ (nxb (fun h => ?_) (fun h => s_within u σ _ _ (nxn (fun h2 => ?_) (fun h2 => ?_)))))
  · rw [hS 3 (by omega)] at h
    have := H σ hS; simp [q_power, h] at this; exact s_refusedLong u σ _ this
  · have := H σ hS; simp [q_power, h2] at this; exact s_refusedLong u σ _ this
  · rw [hS 3 (by omega)] at h
    simp only [q_power, h, h2, and_self, if_true] at H
    obtain ⟨k, hk, rfl⟩ := inr_nat (k := n) (by rw [hV.1.2.1] at h; exact h) (by omega)
    rw [iI_ix (by omega)] at H
    refine x_turning u a σ hV hS (by omega) (fun σ1 s1 => ?_)
    have htb := tu_bd (a := a) (m := k) (n := n) (by omega) h8 (2 ^ n)
    have hf := fac_bd n (by omega)
    rw [s1 3 (by omega), hV.1.2.1]
    refine x_factorial u σ1 (by omega) ?_
    rw [iI_L (by omega), iI_L (by omega)]
    exact s_lowest u σ1 _ _ w (by omega) (by omega) (by omega) (H σ1 s1)
