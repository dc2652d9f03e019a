/-! ===== what the whole keeps to (over the class's components) ===== -/
def Wt_ (a : St_) : Prop := ∃ n0 n1 : Nat, n0 ≤ 47 ∧ n1 ≤ 30 ∧ a 0 0 = iI_ n0 ∧ a 0 1 = iI_ n1 ∧ (∀ i, i < n0 → 0 ≤ (a 1 i).toInt ∧ (a 1 i).toInt < 256) ∧ (∀ i, i < n1 → 0 ≤ (a 2 i).toInt ∧ (a 2 i).toInt < 256) ∧
  a 4 0 = iI_ (mflt_ (a 1) n0) ∧ a 3 0 = iI_ (mcnt_ (a 1) n0) ∧ (∀ j, j < mcnt_ (a 1) n0 → a 5 j = so_ (a 1 (6 * j)) ∧ a 6 j = a 1 (6 * j + 1) - iI_ 48 ∧ a 7 j = od_ (a 1) j) ∧
  a 10 0 = iI_ (oflt_ (a 2) n1) ∧ a 9 0 = iI_ (ocnt_ (a 2) n1) ∧ ∀ j, j < ocnt_ (a 2) n1 → a 11 j = a 2 (3 * j) - iI_ 97 ∧ a 12 j = a 2 (3 * j + 1) - iI_ 97 ∧ a 13 j = a 2 (3 * j + 2) - iI_ 48
def Wl_ (a : St_) : Prop := ∃ k : Nat, k ≤ 8 ∧ a 14 0 = iI_ k ∧ ∀ i, i < k → isF_ (a 15 i) (a 16 i) (a 17 i) = true
def Wj_ (a : St_) : Prop := ∃ k : Nat, k ≤ 6 ∧ a 18 0 = iI_ k ∧ ∀ i, i < k → inr_ (a 19 i) (iI_ 10) = true
def Wn_ (a : St_) : Prop := ∃ k : Nat, k ≤ 8 ∧ a 20 0 = iI_ k ∧ ∀ i, i < k → inr_ (a 21 i) (iI_ 10) = true ∧ -1 ≤ (a 22 i).toInt ∧ (a 22 i).toInt ≤ 2
def Ww_ (a : St_) : Prop := ∀ s, s < 3 → 0 ≤ (a 8 s).toInt ∧ (a 8 s).toInt ≤ 9
def Ws_ (a : St_) : Prop := ∀ s, s < 4 → (-1 ≤ (a 39 s).toInt ∧ (a 39 s).toInt ≤ 2) ∧ 0 ≤ (a 40 s).toInt ∧ (a 40 s).toInt ≤ 60
def Wf_ (a : St_) : Prop := Wt_ a ∧ Wl_ a ∧ Wj_ a ∧ Wn_ a ∧ Ww_ a ∧ Ws_ a
/-- what is the same when components are -/
theorem Wt_.of {a b : St_} (h : Wt_ a) (e : ∀ k, k < 8 ∨ (9 ≤ k ∧ k < 14) → b k = a k) : Wt_ b := by
  unfold Wt_ at *
  rw [e 0 (by omega), e 1 (by omega), e 2 (by omega), e 3 (by omega), e 4 (by omega), e 5 (by omega), e 6 (by omega), e 7 (by omega), e 9 (by omega), e 10 (by omega), e 11 (by omega), e 12 (by omega), e 13 (by omega)]
  exact h
theorem Wl_.of {a b : St_} (h : Wl_ a) (e : ∀ k, 14 ≤ k ∧ k < 18 → b k = a k) : Wl_ b := by
  unfold Wl_ at *; rw [e 14 (by omega), e 15 (by omega), e 16 (by omega), e 17 (by omega)]; exact h
theorem Wj_.of {a b : St_} (h : Wj_ a) (e : ∀ k, 18 ≤ k ∧ k < 20 → b k = a k) : Wj_ b := by
  unfold Wj_ at *; rw [e 18 (by omega), e 19 (by omega)]; exact h
theorem Wn_.of {a b : St_} (h : Wn_ a) (e : ∀ k, 20 ≤ k ∧ k < 23 → b k = a k) : Wn_ b := by
  unfold Wn_ at *; rw [e 20 (by omega), e 21 (by omega), e 22 (by omega)]; exact h
theorem Ww_.of {a b : St_} (h : Ww_ a) (e : b 8 = a 8) : Ww_ b := by
  unfold Ww_ at *; rw [e]; exact h
theorem Ws_.of {a b : St_} (h : Ws_ a) (e : ∀ k, 39 ≤ k ∧ k < 41 → b k = a k) : Ws_ b := by
  unfold Ws_ at *; rw [e 39 (by omega), e 40 (by omega)]; exact h
theorem Wf_.sc {a b : St_} (h : Wf_ a) (e : Sc_ a b) : Wf_ b :=
  ⟨h.1.of (fun k hk => e k (by omega)), h.2.1.of (fun k hk => e k (by omega)), h.2.2.1.of (fun k hk => e k (by omega)), h.2.2.2.1.of (fun k hk => e k (by omega)), h.2.2.2.2.1.of (e 8 (by omega)), h.2.2.2.2.2.of (fun k hk => e k (by omega))⟩
/-! simple changes -/
def c_weight (a : St_) (s v : Int32) : Int32 × St_ := if inr_ s (iI_ 3) = true ∧ inr_ v (iI_ 10) = true then (a 8 s.toNatClampNeg, su_ a 8 s.toNatClampNeg v) else (iI_ (-2), a)
theorem x_weight (u : Ux_) {P : Int32 → St_ → Prop} (σ : St_) (s v : Int32) (H : P (c_weight σ s v).1 (c_weight σ s v).2) : MMi_ (zx_ u) mX9_weight [.ref (uq_ u 0), .int s, .int v] σ P := by
  refine eX9_weight u σ s v (s_within u σ _ _ (nxb (fun h => ?_) (fun h => s_within u σ _ _ (nxn (fun h2 => ?_) (fun h2 => ?_)))))
  · simp [c_weight, h] at H; exact H
  · simp [c_weight, h2] at H; exact H
  · have hh := inr_t.mp h
    rw [t_3] at hh
    have hi : vp_in s 3 := vp_in_iff.mpr (by omega)
    simp [c_weight, h, h2] at H
    exact ⟨hi, hi, fun σ8 e => e ▸ H⟩
def addF_ (a : St_) (n m s : Int32) : St_ := su_ (su_ (su_ (su_ a 15 (a 14 0).toNatClampNeg n) 16 (a 14 0).toNatClampNeg m) 17 (a 14 0).toNatClampNeg s) 14 0 (a 14 0 + iI_ 1)
theorem x_addF (u : Ux_) {P : Int32 → St_ → Prop} (σ : St_) (n m s : Int32) (hw : Wl_ σ) (Ht : (σ 14 0).toInt < 8 → P (iI_ 1) (addF_ σ n m s)) (Hf : ¬ (σ 14 0).toInt < 8 → P (iI_ 0) σ) : MMi_ (zx_ u) mX1_add [.ref (uq_ u 11), .int n, .int m, .int s] σ P := by
  obtain ⟨k, hk, e, -⟩ := hw
  refine eX1_add u σ n m s (cs_ (fun c => ?_) (fun c => ?_)) <;> rw [iI_ltI, t_8] at c
  · have ec := e
    rw [e, iI_toInt (by omega)] at c
    have hi : vp_in (σ 14 0) 8 := by rw [e]; exact (iI_in (by omega)).mpr (by omega)
    refine ⟨hi, ?_⟩
    rintro σ2 rfl
    rw [su_i _ _ _ (by decide)]
    refine ⟨hi, ?_⟩
    rintro σ4 rfl
    rw [su_i _ _ _ (by decide), su_i _ _ _ (by decide)]
    refine ⟨hi, ?_⟩
    rintro σ6 rfl σ8 rfl
    rw [su_i _ _ _ (by decide), su_i _ _ _ (by decide), su_i _ _ _ (by decide)]
    exact Ht (by rw [e, iI_toInt (by omega)]; omega)
  · exact Hf c
def c_fold (a : St_) (n m s : Int32) : Int32 × St_ := if isF_ n m s = true then (if (a 14 0).toInt < 8 then (a 14 0 + iI_ 1, addF_ a n m s) else (iI_ (-4), a)) else (iI_ (-2), a)
theorem x_fold (u : Ux_) {P : Int32 → St_ → Prop} (σ : St_) (n m s : Int32) (hw : Wl_ σ) (H : P (c_fold σ n m s).1 (c_fold σ n m s).2) : MMi_ (zx_ u) mX9_fold [.ref (uq_ u 0), .int n, .int m, .int s] σ P := by
  refine eX9_fold u σ n m s (s_isFold u σ _ _ _ (nxn (fun h => ?_) (fun h => x_addF u σ n m s hw (fun c => nx1 ?_) (fun c => nx0 ?_))))
  · simp [c_fold, h] at H; exact H
  · simp only [c_fold, h, c, if_true] at H
    rw [show addF_ σ n m s 14 0 = σ 14 0 + iI_ 1 by rw [addF_, su_same]]
    exact H
  · simp [c_fold, h, c] at H; exact H
theorem addF_wl {a : St_} {n m s : Int32} (h : Wl_ a) (hf : isF_ n m s = true) (hc : (a 14 0).toInt < 8) : Wl_ (addF_ a n m s) := by
  obtain ⟨k, hk, e, hA⟩ := h
  rw [e, iI_toInt (by omega)] at hc
  refine ⟨k + 1, by omega, by rw [addF_, su_same, e, iI_succ], fun i hi => ?_⟩
  have e1 : (a 14 0).toNatClampNeg = k := by rw [e, iI_ix (by omega)]
  simp only [addF_, su_at, e1]
  by_cases q : i = k
  · simp [q]; exact hf
  · simp [q]; exact hA i (by omega)
def c_jar (a : St_) (n : Int32) : Int32 × St_ := if inr_ n (iI_ 10) = true then (if (a 18 0).toInt < 6 then (a 18 0 + iI_ 1, su_ (su_ a 18 0 (a 18 0 + iI_ 1)) 19 (a 18 0).toNatClampNeg n) else (iI_ (-4), a)) else (iI_ (-2), a)
theorem x_jar (u : Ux_) {P : Int32 → St_ → Prop} (σ : St_) (n : Int32) (hw : Wj_ σ) (H : P (c_jar σ n).1 (c_jar σ n).2) : MMi_ (zx_ u) mX9_jar [.ref (uq_ u 0), .int n] σ P := by
  obtain ⟨k, hk, e, -⟩ := hw
  refine eX9_jar u σ n (s_isNight u σ _ (nxn (fun h => ?_) (fun h => eX2_add u σ n (cs_ (fun c => ?_) (fun c => nx0 ?_)))))
  · simp [c_jar, h] at H; exact H
  · rw [iI_ltI, t_6] at c
    simp only [c_jar, h, c, if_true] at H
    rintro σ2 rfl
    refine ⟨by rw [e]; rw [e, iI_toInt (by omega)] at c; exact (iI_in (by omega)).mpr (by omega), ?_⟩
    rintro σ3 rfl
    refine nx1 ?_
    rw [su_i _ _ _ (by decide), su_same]
    exact H
  · rw [iI_ltI, t_6] at c
    simp [c_jar, h, c] at H; exact H
def c_back (a : St_) (w : Int32) : Int32 × St_ := if inr_ w (iI_ 2) = true then (if w = iI_ 0 then (if 1 ≤ (a 14 0).toInt then (a 14 0 - iI_ 1, su_ a 14 0 (a 14 0 - iI_ 1)) else (iI_ (-3), a)) else (if 1 ≤ (a 18 0).toInt then (a 18 0 - iI_ 1, su_ a 18 0 (a 18 0 - iI_ 1)) else (iI_ (-3), a))) else (iI_ (-2), a)
theorem x_back (u : Ux_) {P : Int32 → St_ → Prop} (σ : St_) (w : Int32) (hl : Wl_ σ) (hj : Wj_ σ) (H : P (c_back σ w).1 (c_back σ w).2) : MMi_ (zx_ u) mX9_back [.ref (uq_ u 0), .int w] σ P := by
  obtain ⟨k, hk, e, -⟩ := hl
  obtain ⟨k2, hk2, e2, -⟩ := hj
  refine eX9_back u σ w (s_within u σ _ _ (nxn (fun h => ?_) (fun h => ⟨fun c => ?_, fun c => ?_⟩)))
  · simp [c_back, h] at H; exact H
  · simp only [c_back, h, if_true, if_neg c] at H
    rw [e2, iI_sub]
    rw [e2, iI_toInt (by omega), iI_sub] at H
    refine cs_ (fun c2 => ⟨fun _ σ7 e7 => ?_, fun q => absurd q c⟩) (fun c2 => ?_) <;> rw [iI_le (by omega) (by omega)] at c2
    · rw [if_pos (by omega)] at H
      exact e7 ▸ H
    · rw [if_neg (by omega)] at H; exact H
  · simp only [c_back, h, if_true, if_pos c] at H
    rw [e, iI_sub]
    rw [e, iI_toInt (by omega), iI_sub] at H
    refine cs_ (fun c2 => ⟨fun q => absurd c q, fun _ σ7 e7 => ?_⟩) (fun c2 => ?_) <;> rw [iI_le (by omega) (by omega)] at c2
    · rw [if_pos (by omega)] at H
      exact e7 ▸ H
    · rw [if_neg (by omega)] at H; exact H
def c_seen (a : St_) (n o : Int32) : Int32 × St_ := if inr_ n (iI_ 10) = true ∧ inr_ o (iI_ 4) = true then (if (a 20 0).toInt < 8 then (a 20 0 + iI_ 1, su_ (su_ (su_ a 21 (a 20 0).toNatClampNeg n) 22 (a 20 0).toNatClampNeg (if o = iI_ 3 then iI_ (-1) else o)) 20 0 (a 20 0 + iI_ 1)) else (iI_ (-4), a)) else (iI_ (-2), a)
theorem x_addS (u : Ux_) {P : Int32 → St_ → Prop} (σ : St_) (n o : Int32) (hw : Wn_ σ) (Ht : (σ 20 0).toInt < 8 → P (iI_ 1) (su_ (su_ (su_ σ 21 (σ 20 0).toNatClampNeg n) 22 (σ 20 0).toNatClampNeg o) 20 0 (σ 20 0 + iI_ 1))) (Hf : ¬ (σ 20 0).toInt < 8 → P (iI_ 0) σ) : MMi_ (zx_ u) mX7_add [.ref (uq_ u 17), .int n, .int o] σ P := by
  obtain ⟨k, hk, e, -⟩ := hw
  refine eX7_add u σ n o (cs_ (fun c => ?_) (fun c => ?_)) <;> rw [iI_ltI, t_8] at c
  · have c' := c
    rw [e, iI_toInt (by omega)] at c
    have hi : vp_in (σ 20 0) 8 := by rw [e]; exact (iI_in (by omega)).mpr (by omega)
    refine ⟨hi, ?_⟩
    rintro σ2 rfl
    rw [su_i _ _ _ (by decide)]
    refine ⟨hi, ?_⟩
    rintro σ4 rfl σ6 rfl
    rw [su_i _ _ _ (by decide), su_i _ _ _ (by decide)]
    exact Ht c'
  · exact Hf c
theorem x_seen (u : Ux_) {P : Int32 → St_ → Prop} (σ : St_) (n o : Int32) (hw : Wn_ σ) (H : P (c_seen σ n o).1 (c_seen σ n o).2) : MMi_ (zx_ u) mX9_seen [.ref (uq_ u 0), .int n, .int o] σ P := by
  refine eX9_seen u σ n o (s_isNight u σ _ (nxb (fun h => ?_) (fun h => s_within u σ _ _ (nxn (fun h2 => ?_) (fun h2 => ⟨fun c => ?_, fun c => ?_⟩)))))
  · simp [c_seen, h] at H; exact H
  · simp [c_seen, h2] at H; exact H
  · simp only [c_seen, h, h2, and_self, if_true, if_neg c] at H
    refine x_addS u σ n o hw (fun c2 => nx1 ?_) (fun c2 => nx0 ?_)
    · rw [if_pos c2] at H; rw [su_same]; exact H
    · rw [if_neg c2] at H; exact H
  · simp only [c_seen, h, h2, and_self, if_true, if_pos c] at H
    refine x_addS u σ n _ hw (fun c2 => nx1 ?_) (fun c2 => nx0 ?_)
    · rw [if_pos c2] at H; rw [su_same]; exact H
    · rw [if_neg c2] at H; exact H
theorem x_forget (u : Ux_) {P : Int32 → St_ → Prop} (σ : St_) (H : P (σ 20 0) (su_ σ 20 0 (iI_ 0))) : MMi_ (zx_ u) mX9_forget [.ref (uq_ u 0)] σ P := eX9_forget u σ (fun σ1 e => e ▸ H)
/-! reading a sheet of foldings -/
def rd_ (s : Nat) : Nat → Nat → St_ → Nat × St_
  | 0, k, a => (k, a)
  | d + 1, k, a => if 3 * k + 2 < (a 40 s).toInt ∧ isF_ (a (41 + s) (3 * k)) (a (41 + s) (3 * k + 1)) (a (41 + s) (3 * k + 2)) = true ∧ (a 14 0).toInt < 8 then rd_ s d (k + 1) (addF_ a (a (41 + s) (3 * k)) (a (41 + s) (3 * k + 1)) (a (41 + s) (3 * k + 2))) else (k, a)
def c_read (a : St_) (s : Int32) : Int32 × St_ := if inr_ s (iI_ 4) = true then (if a 39 s.toNatClampNeg = iI_ (-1) then (iI_ (-10) - iI_ 1, su_ a 38 0 (iI_ 1)) else (iI_ (rd_ s.toNatClampNeg 21 0 a).1, (rd_ s.toNatClampNeg 21 0 a).2)) else (iI_ (-2), a)
theorem x_read (u : Ux_) {P : Int32 → St_ → Prop} (σ : St_) (s : Int32) (hl : Wl_ σ) (hs : Ws_ σ) (H : P (c_read σ s).1 (c_read σ s).2) : MMi_ (zx_ u) mX9_read [.ref (uq_ u 0), .int s] σ P := by
  refine eX9_read u σ s (s_within u σ _ _ (nxn (fun h => ?_) (fun h => ?_)))
  · simp [c_read, h] at H; exact H
  · have hh := inr_t.mp h
    rw [t_4] at hh
    simp only [c_read, h, if_true] at H
    refine ⟨vp_in_iff.mpr (by omega), fun c => ?_, fun c => ?_⟩
    · rw [if_neg c] at H
      generalize hsn : s.toNatClampNeg = t at H ⊢
      have ht : t < 4 := by rw [← hsn, clampI]; omega
      have key : ∀ (d k : Nat) (τ : St_), k + d = 21 → Wl_ τ → Ws_ τ → P (iI_ (rd_ t d k τ).1) (rd_ t d k τ).2 → GG_ (zx_ u) mX9_read (Pi_ P) 37 [(0, .ref (uq_ u 0)), (2, .ref (uq_ u (36 + t))), (3, .int (iI_ k)), (4, .int (iI_ (3 * k : Nat)))] [] τ := by
        intro d
        induction d with
        | zero =>
          intro k τ hk hl hs H
          have := (hs t ht).2
          refine bX9_read_37 u τ t ht _ _ (cs_ (fun _ => H) (fun c => absurd ?_ c))
          rw [iI_add, iI_leI, iI_toInt (by omega)]
          omega
        | succ d ih =>
          intro k τ hk hl hs H
          have hz := (hs t ht).2
          have x1 : iI_ (3 * k : Nat) + iI_ 1 = iI_ (3 * k + 1 : Nat) := by rw [iI_add]; rfl
          have x2 : iI_ (3 * k : Nat) + iI_ 2 = iI_ (3 * k + 2 : Nat) := by rw [iI_add]; rfl
          have x3 : iI_ (3 * k : Nat) + iI_ 3 = iI_ (3 * (k + 1) : Nat) := by rw [iI_add]; congr 1
          unfold rd_ at H
          refine bX9_read_37 u τ t ht _ _ ?_
          rw [x1, x2, x3]
          refine cs_ (fun c2 => ?_) (fun c2 => ?_) <;> rw [iI_leI, iI_toInt (by omega)] at c2
          · rw [if_neg (by omega)] at H; exact H
          · rw [iI_ix (by omega), iI_ix (by omega), iI_ix (by omega)]
            refine ⟨(iI_in (by omega)).mpr (by omega), (iI_in (by omega)).mpr (by omega), (iI_in (by omega)).mpr (by omega), s_isFold u τ _ _ _ (nxb (fun h3 => ?_) (fun h3 => x_addF u τ _ _ _ hl (fun c3 => ?_) (fun c3 => ?_)))⟩
            · rw [if_neg (by simp [h3])] at H; exact H
            · rw [if_pos ⟨by omega, h3, c3⟩] at H
              refine ⟨fun _ => ?_, fun q => absurd q (by decide)⟩
              rw [iI_succ]
              refine ih (k + 1) _ (by omega) (addF_wl hl h3 c3) (hs.of (fun j hj => ?_)) H
              rw [addF_, su_i _ _ _ (by omega), su_i _ _ _ (by omega), su_i _ _ _ (by omega), su_i _ _ _ (by omega)]
            · rw [if_neg (fun q => c3 q.2.2)] at H
              exact ⟨fun q => absurd rfl q, fun _ => H⟩
      exact key 21 0 σ (by omega) hl hs H
    · rw [if_pos c] at H
      exact s_found u σ _ H
