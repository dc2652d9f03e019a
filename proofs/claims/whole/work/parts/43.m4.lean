/-! ===== the reference: groups of components; simple changes ===== -/
def gX_ (k : Nat) : Nat := if k < 3 then 0 else if k = 8 then 1 else if 14 ≤ k ∧ k < 18 then 2 else if 18 ≤ k ∧ k < 20 then 3 else if 20 ≤ k ∧ k < 23 then 4 else if 39 ≤ k ∧ k < 45 then 5 else if k = 38 then 6 else 7
def gM_ (k : Nat) : Nat := if k < 2 then 0 else if k = 10 then 1 else if 11 ≤ k ∧ k < 15 then 2 else if 15 ≤ k ∧ k < 17 then 3 else if 33 ≤ k ∧ k < 36 then 4 else if 38 ≤ k ∧ k < 42 then 5 else if k = 43 then 6 else 7
def Rg_ (g : Nat) (a σ : St_) : Prop := match g with
  | 0 => (∀ t, t < 2 → σ 0 t = a 0 t) ∧ (∀ t, t < 2 → ∀ i : Nat, (i : Int) < (a 0 t).toInt → σ 1 (47 * t + i) = a (1 + t) i)
  | 1 => ∀ s, s < 3 → σ 10 s = a 8 s
  | 2 => σ 11 0 = a 14 0 ∧ (∀ i, i < 8 → σ 12 i = a 15 i ∧ σ 13 i = a 16 i ∧ σ 14 i = a 17 i)
  | 3 => σ 15 0 = a 18 0 ∧ (∀ i, i < 6 → σ 16 i = a 19 i)
  | 4 => σ 33 0 = a 20 0 ∧ (∀ i, i < 8 → σ 34 i = a 21 i ∧ σ 35 i = (if a 22 i = iI_ (-1) then iI_ 3 else a 22 i))
  | 5 => (∀ s, s < 4 → σ 38 s = bi_ (!decide (a 39 s = iI_ (-1)))) ∧ (∀ s, s < 4 → ¬ a 39 s = iI_ (-1) → σ 39 s = a 39 s ∧ σ 40 s = a 40 s ∧ ∀ i, i < 60 → σ 41 (60 * s + i) = a (41 + s) i)
  | _ => σ 43 0 = a 38 0
theorem Rm_iff {a σ : St_} : Rm_ a σ ↔ Rg_ 0 a σ ∧ Rg_ 1 a σ ∧ Rg_ 2 a σ ∧ Rg_ 3 a σ ∧ Rg_ 4 a σ ∧ Rg_ 5 a σ ∧ Rg_ 6 a σ := by
  constructor
  · rintro ⟨h1, h2, h3, h4, h5, h6, h7, h8, h9, h10, h11, h12⟩
    exact ⟨⟨h1, h2⟩, h3, ⟨h4, h5⟩, ⟨h6, h7⟩, ⟨h8, h9⟩, ⟨h10, h11⟩, h12⟩
  · rintro ⟨⟨h1, h2⟩, h3, ⟨h4, h5⟩, ⟨h6, h7⟩, ⟨h8, h9⟩, ⟨h10, h11⟩, h12⟩
    exact ⟨h1, h2, h3, h4, h5, h6, h7, h8, h9, h10, h11, h12⟩
theorem Rm_.upd {a σ a' σ' : St_} (h : Rm_ a σ) (g : Nat) (ha : ∀ k, gX_ k < 7 → gX_ k ≠ g → a' k = a k) (hs : ∀ k, gM_ k < 7 → gM_ k ≠ g → σ' k = σ k) (new : Rg_ g a' σ') (hg : g < 7) : Rm_ a' σ' := by
  rw [Rm_iff] at *
  obtain ⟨r0, r1, r2, r3, r4, r5, r6⟩ := h
  refine ⟨?_, ?_, ?_, ?_, ?_, ?_, ?_⟩
  · by_cases q : g = 0
    · subst q; exact new
    · have e1 := hs 0 (by decide) (fun e => q e.symm)
      have e2 := hs 1 (by decide) (fun e => q e.symm)
      have f0 := ha 0 (by decide) (fun e => q e.symm)
      refine ⟨fun t ht => by rw [e1, f0]; exact r0.1 t ht, fun t ht i hi => ?_⟩
      have f1 : a' (1 + t) = a (1 + t) := ha (1 + t) (by unfold gX_; rw [if_pos (by omega)]; decide) (by unfold gX_; rw [if_pos (by omega)]; exact fun e => q e.symm)
      rw [f0] at hi
      rw [e2, f1]; exact r0.2 t ht i hi
  · by_cases q : g = 1
    · subst q; exact new
    · show ∀ s, s < 3 → σ' 10 s = a' 8 s
      rw [hs 10 (by decide) (fun e => q e.symm), ha 8 (by decide) (fun e => q e.symm)]; exact r1
  · by_cases q : g = 2
    · subst q; exact new
    · show σ' 11 0 = a' 14 0 ∧ (∀ i, i < 8 → σ' 12 i = a' 15 i ∧ σ' 13 i = a' 16 i ∧ σ' 14 i = a' 17 i)
      rw [hs 11 (by decide) (fun e => q e.symm), hs 12 (by decide) (fun e => q e.symm), hs 13 (by decide) (fun e => q e.symm), hs 14 (by decide) (fun e => q e.symm), ha 14 (by decide) (fun e => q e.symm), ha 15 (by decide) (fun e => q e.symm), ha 16 (by decide) (fun e => q e.symm), ha 17 (by decide) (fun e => q e.symm)]; exact r2
  · by_cases q : g = 3
    · subst q; exact new
    · show σ' 15 0 = a' 18 0 ∧ (∀ i, i < 6 → σ' 16 i = a' 19 i)
      rw [hs 15 (by decide) (fun e => q e.symm), hs 16 (by decide) (fun e => q e.symm), ha 18 (by decide) (fun e => q e.symm), ha 19 (by decide) (fun e => q e.symm)]; exact r3
  · by_cases q : g = 4
    · subst q; exact new
    · show σ' 33 0 = a' 20 0 ∧ (∀ i, i < 8 → σ' 34 i = a' 21 i ∧ σ' 35 i = (if a' 22 i = iI_ (-1) then iI_ 3 else a' 22 i))
      rw [hs 33 (by decide) (fun e => q e.symm), hs 34 (by decide) (fun e => q e.symm), hs 35 (by decide) (fun e => q e.symm), ha 20 (by decide) (fun e => q e.symm), ha 21 (by decide) (fun e => q e.symm), ha 22 (by decide) (fun e => q e.symm)]; exact r4
  · by_cases q : g = 5
    · subst q; exact new
    · have f39 := ha 39 (by decide) (fun e => q e.symm)
      have f40 := ha 40 (by decide) (fun e => q e.symm)
      have e38 := hs 38 (by decide) (fun e => q e.symm)
      have e39 := hs 39 (by decide) (fun e => q e.symm)
      have e40 := hs 40 (by decide) (fun e => q e.symm)
      have e41 := hs 41 (by decide) (fun e => q e.symm)
      refine ⟨fun s h4 => by rw [e38, f39]; exact r5.1 s h4, fun s h4 hn => ?_⟩
      rw [f39] at hn
      have g5 : gX_ (41 + s) = 5 := by unfold gX_; rw [if_neg (by omega), if_neg (by omega), if_neg (by omega), if_neg (by omega), if_neg (by omega), if_pos (by omega)]
      have f41 : a' (41 + s) = a (41 + s) := ha (41 + s) (by rw [g5]; decide) (by rw [g5]; exact fun e => q e.symm)
      rw [e39, e40, e41, f39, f40, f41]; exact r5.2 s h4 hn
  · by_cases q : g = 6
    · subst q; exact new
    · show σ' 43 0 = a' 38 0
      rw [hs 43 (by decide) (fun e => q e.symm), ha 38 (by decide) (fun e => q e.symm)]; exact r6
theorem nX {k i g : Nat} (h : gX_ k ≠ g) (hi : gX_ i = g) : k ≠ i := fun e => h (by rw [e]; exact hi)
theorem nM {k i g : Nat} (h : gM_ k ≠ g) (hi : gM_ i = g) : k ≠ i := fun e => h (by rw [e]; exact hi)
theorem gX41 {s : Nat} (h : s < 4) : gX_ (41 + s) = 5 := by unfold gX_; rw [if_neg (by omega), if_neg (by omega), if_neg (by omega), if_neg (by omega), if_neg (by omega), if_pos (by omega)]
theorem gX1 {t : Nat} (h : t < 2) : gX_ (1 + t) = 0 := by unfold gX_; rw [if_pos (by omega)]
/-! weight -/
theorem m_weight (u : Ux_) {P : Int32 → St_ → Prop} (a σ : St_) (hR : Rm_ a σ) (s v : Int32) (H : ∀ σ', Rm_ (c_weight a s v).2 σ' → P (c_weight a s v).1 σ') : MMi_ (zm_ u) mX10_weight [.ref (uq_ u 0), .int s, .int v] σ P := by
  refine eX10_weight u σ s v (m_in u σ _ _ _ ?_)
  rw [ini_inr s 2 (by decide)]
  refine nxb (fun h => ?_) (fun h => m_in u σ _ _ _ ?_)
  · simp only [show (2 : Int) + 1 = 3 from rfl] at h
    simp [c_weight, h] at H; exact H σ hR
  · rw [ini_inr v 9 (by decide)]
    simp only [show (2 : Int) + 1 = 3 from rfl, show (9 : Int) + 1 = 10 from rfl] at h ⊢
    refine nxn (fun h2 => ?_) (fun h2 => ?_)
    · simp [c_weight, h2] at H; exact H σ hR
    · have hh := inr_t.mp h
      rw [t_3] at hh
      have hv : vp_in s 3 := vp_in_iff.mpr (by omega)
      have hs : s.toNatClampNeg < 3 := by rw [clampI]; omega
      simp only [c_weight, h, h2, and_self, if_true] at H
      refine ⟨hv, hv, ?_⟩
      rintro σ8 rfl
      have e : σ 10 s.toNatClampNeg = a 8 s.toNatClampNeg := hR.2.2.1 _ hs
      rw [e]
      refine H _ (hR.upd 1 (fun k _ hk => su_i _ _ _ (nX hk rfl)) (fun k _ hk => su_i _ _ _ (nM hk rfl)) (fun i hi => ?_) (by decide))
      rw [su_at, su_at]
      by_cases q : i = s.toNatClampNeg
      · simp [q]
      · simp [q]; exact hR.2.2.1 i hi
/-! folds -/
theorem m_fold (u : Ux_) {P : Int32 → St_ → Prop} (a σ : St_) (hR : Rm_ a σ) (hl : Wl_ a) (n m s : Int32) (H : ∀ σ', Rm_ (c_fold a n m s).2 σ' → Ke_ [11, 12, 13, 14] σ σ' → P (c_fold a n m s).1 σ') : MMi_ (zm_ u) mX10_fold [.ref (uq_ u 0), .int n, .int m, .int s] σ P := by
  obtain ⟨k, hk, ek, hA⟩ := hl
  refine eX10_fold u σ n m s (m_isNight u σ _ (nxb (fun h => ?_) (fun h => m_in u σ _ _ _ ?_)))
  · simp [c_fold, isF_, h] at H; exact H σ hR Ke_.rf
  · rw [ini_inr m 7 (by decide)]
    simp only [show (7 : Int) + 1 = 8 from rfl]
    refine nxb (fun h2 => ?_) (fun h2 => m_in u σ _ _ _ ?_)
    · simp [c_fold, isF_, h2] at H; exact H σ hR Ke_.rf
    · rw [ini_inr s 5 (by decide)]
      simp only [show (5 : Int) + 1 = 6 from rfl]
      refine nxn (fun h3 => ?_) (fun h3 => ?_)
      · simp [c_fold, isF_, h3] at H; exact H σ hR Ke_.rf
      · have hf : isF_ n m s = true := by simp [isF_, h, h2, h3]
        simp only [c_fold, hf, if_true] at H
        have e11 : σ 11 0 = iI_ k := by rw [hR.2.2.2.1]; exact ek
        rw [e11, iI_eq (by omega) (by omega)]
        rw [ek, iI_toInt (by omega)] at H
        refine ⟨fun c => ⟨(iI_in (by omega)).mpr (by omega), ?_⟩, fun c => ?_⟩
        · rw [if_pos (by omega), ← ek] at H
          dsimp only at H
          rw [iI_ix (by omega)]
          rintro σ11 rfl
          rw [su_i _ _ _ (by decide), e11, iI_ix (by omega)]
          refine ⟨(iI_in (by omega)).mpr (by omega), ?_⟩
          rintro σ13 rfl
          rw [su_i _ _ _ (by decide), su_i _ _ _ (by decide), e11, iI_ix (by omega)]
          refine ⟨(iI_in (by omega)).mpr (by omega), ?_⟩
          rintro σ15 rfl σ17 rfl
          rw [su_same, su_i _ _ _ (by decide), su_i _ _ _ (by decide), su_i _ _ _ (by decide), e11, ← ek]
          refine H _ (hR.upd 2 (fun j _ hj => ?_) (fun j _ hj => ?_) ?_ (by decide)) ((((Ke_.rf.su (by decide)).su (by decide)).su (by decide)).su (by decide))
          · rw [addF_, su_i _ _ _ (nX hj rfl), su_i _ _ _ (nX hj rfl), su_i _ _ _ (nX hj rfl), su_i _ _ _ (nX hj rfl)]
          · rw [su_i _ _ _ (nM hj rfl), su_i _ _ _ (nM hj rfl), su_i _ _ _ (nM hj rfl), su_i _ _ _ (nM hj rfl)]
          · refine ⟨by rw [su_same, addF_, su_same], fun i hi => ?_⟩
            have := hR.2.2.2.2.1 i hi
            simp only [addF_, su_at, ek, iI_ix (show k < 2147483648 by omega)]
            by_cases q : i = k
            · simp [q]
            · simp [q]; exact this
        · rw [if_neg (by omega)] at H; exact H σ hR Ke_.rf
theorem m_jar (u : Ux_) {P : Int32 → St_ → Prop} (a σ : St_) (hR : Rm_ a σ) (hj : Wj_ a) (n : Int32) (H : ∀ σ', Rm_ (c_jar a n).2 σ' → P (c_jar a n).1 σ') : MMi_ (zm_ u) mX10_jar [.ref (uq_ u 0), .int n] σ P := by
  obtain ⟨k, hk, ek, hA⟩ := hj
  refine eX10_jar u σ n (m_isNight u σ _ (nxn (fun h => ?_) (fun h => ?_)))
  · simp [c_jar, h] at H; exact H σ hR
  · simp only [c_jar, h, if_true] at H
    have e15 : σ 15 0 = iI_ k := by rw [hR.2.2.2.2.2.1]; exact ek
    rw [e15, iI_eq (by omega) (by omega)]
    rw [ek, iI_toInt (by omega)] at H
    refine ⟨fun c => ⟨(iI_in (by omega)).mpr (by omega), ?_⟩, fun c => ?_⟩
    · rw [if_pos (by omega)] at H
      dsimp only at H
      rw [iI_ix (by omega)] at H ⊢
      rintro σ5 rfl σ7 rfl
      rw [su_same, su_i _ _ _ (by decide), e15]
      refine H _ (hR.upd 3 (fun j _ hj => ?_) (fun j _ hj => ?_) ?_ (by decide))
      · show su_ (su_ a 18 0 _) 19 _ _ j = _
        rw [su_i _ _ _ (nX hj rfl), su_i _ _ _ (nX hj rfl)]
      · rw [su_i _ _ _ (nM hj rfl), su_i _ _ _ (nM hj rfl)]
      · refine ⟨by simp [su_at], fun i hi => ?_⟩
        have := hR.2.2.2.2.2.2.1 i hi
        simp only [su_at]
        by_cases q : i = k
        · simp [q]
        · simp [q]; exact this
    · rw [if_neg (by omega)] at H; exact H σ hR
theorem m_back (u : Ux_) {P : Int32 → St_ → Prop} (a σ : St_) (hR : Rm_ a σ) (hl : Wl_ a) (hj : Wj_ a) (w : Int32) (H : ∀ σ', Rm_ (c_back a w).2 σ' → P (c_back a w).1 σ') : MMi_ (zm_ u) mX10_back [.ref (uq_ u 0), .int w] σ P := by
  obtain ⟨k, hk, ek, -⟩ := hl
  obtain ⟨k2, hk2, ek2, -⟩ := hj
  have e11 : σ 11 0 = iI_ k := by rw [hR.2.2.2.1]; exact ek
  have e15 : σ 15 0 = iI_ k2 := by rw [hR.2.2.2.2.2.1]; exact ek2
  refine eX10_back u σ w (m_in u σ _ _ _ ?_)
  rw [ini_inr w 1 (by decide)]
  simp only [show (1 : Int) + 1 = 2 from rfl]
  refine nxn (fun h => ?_) (fun h => ?_)
  · simp [c_back, h] at H; exact H σ hR
  · simp only [c_back, h, if_true] at H
    obtain ⟨b, hb, rfl⟩ := inr_nat h (by decide)
    rcases (show b = 0 ∨ b = 1 by omega) with rfl | rfl
    · rw [if_pos (by rfl)] at H
      refine ⟨fun q => absurd (by rfl) q, fun _ => bX10_back_27 u σ _ _ ?_⟩
      rw [e11, iI_eq (by omega) (by omega)]
      rw [ek, iI_toInt (by omega)] at H
      refine ⟨fun c => ⟨fun q => absurd (by rfl) q, fun _ => ?_⟩, fun c => ?_⟩
      · rw [if_pos (by omega)] at H
        dsimp only at H
        rintro σ7 rfl
        refine ⟨fun _ => ?_, fun q => absurd q (by decide)⟩
        rintro σ9 rfl
        refine H _ (hR.upd 2 (fun j _ hj => su_i _ _ _ (nX hj rfl)) (fun j hj7 hj => ?_) ?_ (by decide))
        · by_cases q : j = 15
          · subst q
            funext l
            rw [su_at, su_i _ _ _ (by decide), e15, iI_sub]
            by_cases q2 : l = 0
            · rw [if_pos ⟨rfl, q2⟩, q2, e15]; congr 1
            · rw [if_neg (fun z => q2 z.2)]
          · rw [su_i _ _ _ q, su_i _ _ _ (nM hj rfl)]
        · refine ⟨by rw [su_i _ _ _ (by decide), su_same, su_same], fun i hi => ?_⟩
          have := hR.2.2.2.2.1 i hi
          simp only [su_at]
          simp
          exact this
      · rw [if_neg (by omega)] at H; exact H σ hR
    · rw [if_neg (by decide)] at H
      refine ⟨fun _ => bX10_back_27 u σ _ _ ?_, fun q => absurd q (by decide)⟩
      rw [e15, iI_eq (by omega) (by omega)]
      rw [ek2, iI_toInt (by omega)] at H
      refine ⟨fun c => ⟨fun _ => ?_, fun q => absurd q (by decide)⟩, fun c => ?_⟩
      · rw [if_pos (by omega)] at H
        dsimp only at H
        rintro σ7 rfl
        refine ⟨fun q => absurd (by rfl) q, fun _ => ?_⟩
        rintro σ9 rfl
        refine H _ (hR.upd 3 (fun j _ hj => su_i _ _ _ (nX hj rfl)) (fun j hj7 hj => ?_) ?_ (by decide))
        · by_cases q : j = 11
          · subst q
            funext l
            rw [su_i _ _ _ (by decide), su_at, e11, iI_sub]
            by_cases q2 : l = 0
            · rw [if_pos ⟨rfl, q2⟩, q2, e11]; congr 1
            · rw [if_neg (fun z => q2 z.2)]
          · rw [su_i _ _ _ (nM hj rfl), su_i _ _ _ q]
        · refine ⟨by rw [su_same, su_i _ _ _ (by decide), e15, su_same], fun i hi => ?_⟩
          have := hR.2.2.2.2.2.2.1 i hi
          simp only [su_at]
          simp
          exact this
      · rw [if_neg (by omega)] at H; exact H σ hR
theorem m_seen (u : Ux_) {P : Int32 → St_ → Prop} (a σ : St_) (hR : Rm_ a σ) (hn : Wn_ a) (n o : Int32) (H : ∀ σ', Rm_ (c_seen a n o).2 σ' → P (c_seen a n o).1 σ') : MMi_ (zm_ u) mX10_seen [.ref (uq_ u 0), .int n, .int o] σ P := by
  obtain ⟨k, hk, ek, -⟩ := hn
  have e33 : σ 33 0 = iI_ k := by rw [hR.2.2.2.2.2.2.2.1]; exact ek
  refine eX10_seen u σ n o (m_isNight u σ _ (nxb (fun h => ?_) (fun h => m_in u σ _ _ _ ?_)))
  · simp [c_seen, h] at H; exact H σ hR
  · rw [ini_inr o 3 (by decide)]
    simp only [show (3 : Int) + 1 = 4 from rfl]
    refine nxn (fun h2 => ?_) (fun h2 => ?_)
    · simp [c_seen, h2] at H; exact H σ hR
    · simp only [c_seen, h, h2, and_self, if_true] at H
      rw [e33, iI_eq (by omega) (by omega)]
      rw [ek, iI_toInt (by omega)] at H
      refine ⟨fun c => ⟨(iI_in (by omega)).mpr (by omega), ?_⟩, fun c => ?_⟩
      · rw [if_pos (by omega)] at H
        dsimp only at H
        rw [iI_ix (by omega)] at H ⊢
        rintro σ8 rfl
        rw [su_i _ _ _ (by decide), e33, iI_ix (by omega)]
        refine ⟨(iI_in (by omega)).mpr (by omega), ?_⟩
        rintro σ10 rfl σ12 rfl
        rw [su_same, su_i _ _ _ (by decide), su_i _ _ _ (by decide), e33]
        refine H _ (hR.upd 4 (fun j _ hj => ?_) (fun j _ hj => ?_) ?_ (by decide))
        · show su_ (su_ (su_ a 21 _ _) 22 _ _) 20 0 _ j = _
          rw [su_i _ _ _ (nX hj rfl), su_i _ _ _ (nX hj rfl), su_i _ _ _ (nX hj rfl)]
        · rw [su_i _ _ _ (nM hj rfl), su_i _ _ _ (nM hj rfl), su_i _ _ _ (nM hj rfl)]
        · refine ⟨by simp [su_at], fun i hi => ?_⟩
          have := hR.2.2.2.2.2.2.2.2.1 i hi
          simp only [su_at]
          by_cases q : i = k
          · simp [q]
            by_cases q3 : o = iI_ 3
            · simp [q3]
            · have ho := inr_t.mp h2
              have q4 : ¬ o = iI_ (-1) := by
                intro e
                rw [e] at ho
                exact absurd ho (by decide)
              simp [q3, q4]
          · simp [q]; exact this
      · rw [if_neg (by omega)] at H; exact H σ hR
theorem m_forget (u : Ux_) {P : Int32 → St_ → Prop} (a σ : St_) (hR : Rm_ a σ) (H : ∀ σ', Rm_ (su_ a 20 0 (iI_ 0)) σ' → P (a 20 0) σ') : MMi_ (zm_ u) mX10_forget [.ref (uq_ u 0)] σ P := by
  refine eX10_forget u σ ?_
  rintro σ1 rfl
  rw [hR.2.2.2.2.2.2.2.1]
  refine H _ (hR.upd 4 (fun j _ hj => su_i _ _ _ (nX hj rfl)) (fun j _ hj => su_i _ _ _ (nM hj rfl)) ?_ (by decide))
  refine ⟨by rw [su_same, su_same], fun i hi => ?_⟩
  have := hR.2.2.2.2.2.2.2.2.1 i hi
  simp only [su_at]
  simp
  exact this
/-! texts -/
theorem m_type (u : Ux_) {P : Int32 → St_ → Prop} (a σ : St_) (hR : Rm_ a σ) (hW : Wt_ a) (t b : Int32) (H : ∀ σ', Rm_ (c_type a t b).2 σ' → P (c_type a t b).1 σ') : MMi_ (zm_ u) mX10_type [.ref (uq_ u 0), .int t, .int b] σ P := by
  refine eX10_type u σ t b (m_isText u σ _ (nxb (fun h => ?_) (fun h => m_in u σ _ _ _ ?_)))
  · simp [c_type, h] at H; exact H σ hR
  · rw [ini_inr b 255 (by decide)]
    simp only [show (255 : Int) + 1 = 256 from rfl]
    refine nxn (fun h2 => ?_) (fun h2 => ?_)
    · simp [c_type, h2] at H; exact H σ hR
    · simp only [c_type, h, h2, and_self, if_true] at H
      obtain ⟨k, hk, rfl⟩ := inr_nat h (by decide)
      have hk2 : k < 2 := by omega
      obtain ⟨n, hn, e, hB⟩ := hW.to hk2
      have hin : vp_in (iI_ k) 2 := (iI_in (by omega)).mpr (by omega)
      have htl : tl_ k ≤ 47 ∧ (k = 0 → tl_ k = 47) ∧ (k = 1 → tl_ k = 30) := by
        rcases (show k = 0 ∨ k = 1 by omega) with rfl | rfl <;> decide
      have e0 : σ 0 k = iI_ n := by rw [hR.1 k hk2]; exact e
      rw [iI_ix (by omega)] at H ⊢
      rw [e0]
      rw [e, iI_toInt (by omega)] at H
      have eidx : iI_ 47 * iI_ k + iI_ n = iI_ (47 * k + n : Nat) := by rw [iI_mul, iI_add]; congr 1
      rw [eidx, iI_ix (by omega)]
      have full : n = tl_ k → P (iI_ (-4)) σ := fun q => by rw [if_neg (by omega)] at H; exact H σ hR
      have more : n < tl_ k → vp_in (iI_ k) 2 ∧ vp_in (iI_ (47 * k + n : Nat)) 94 ∧ (∀ σ11, σ11 = su_ σ 1 (47 * k + n) b → vp_in (iI_ k) 2 ∧ vp_in (iI_ k) 2 ∧ (∀ σ14, σ14 = su_ σ11 0 k (σ11 0 k + iI_ 1) → vp_in (iI_ k) 2 ∧ P (σ14 0 k) σ14)) := by
        intro q
        rw [if_pos (by omega), ← e] at H
        dsimp only at H
        refine ⟨hin, (iI_in (by omega)).mpr (by omega), ?_⟩
        rintro σ11 rfl
        refine ⟨hin, hin, ?_⟩
        rintro σ14 rfl
        refine ⟨hin, ?_⟩
        rw [su_same, su_i _ _ _ (by decide), e0, ← e]
        refine H _ (hR.upd 0 (fun j _ hj => ?_) (fun j _ hj => ?_) ?_ (by decide))
        · rw [tadd_, su_i _ _ _ (nX hj (gX1 hk2)), su_i _ _ _ (nX hj rfl)]
        · rw [su_i _ _ _ (nM hj rfl), su_i _ _ _ (nM hj rfl)]
        · have ek : (a 0 k).toNatClampNeg = n := by rw [e, iI_ix (by omega)]
          refine ⟨fun t' ht' => ?_, fun t' ht' i hi => ?_⟩
          · have ea1 : tadd_ a k b 0 t' = su_ a 0 k (a 0 k + iI_ 1) 0 t' := by
              rw [tadd_, su_at, if_neg (by omega)]
            rw [ea1]; simp only [su_at]
            by_cases q2 : t' = k
            · subst q2; simp
            · simp [q2]; exact hR.1 t' ht'
          · have ea0 : tadd_ a k b 0 t' = if t' = k then iI_ (n + 1 : Nat) else a 0 t' := by
              rw [tadd_, su_i _ (k := 0) _ _ (by omega), su_at, e, iI_succ]; simp
            rw [ea0] at hi
            rw [su_i _ _ _ (by decide), tadd_, ek, su_at, su_at]
            by_cases q2 : t' = k
            · subst q2
              rw [if_pos rfl, iI_toInt (by omega)] at hi
              by_cases q3 : i = n
              · subst q3; simp
              · rw [if_neg (by omega), if_neg (by omega), su_i _ _ _ (by omega)]
                exact hR.2.1 t' ht' i (by rw [e, iI_toInt (by omega)]; omega)
            · rw [if_neg q2] at hi
              rw [if_neg (c := 1 + t' = 1 + k ∧ i = n) (by omega), su_i _ _ _ (by omega)]
              have hb2 := (hW.to ht')
              obtain ⟨n', hn', e', -⟩ := hb2
              have htl' : tl_ t' ≤ 47 := by unfold tl_; split <;> omega
              rw [if_neg (fun z => ?_)]
              · exact hR.2.1 t' ht' i hi
              · rw [e', iI_toInt (by have := tl_b t'; omega)] at hi
                have := z.2
                rcases (show t' = 0 ∨ t' = 1 by omega) with rfl | rfl
                · have h1 : k = 1 := by omega
                  subst h1
                  have : tl_ 0 = 47 := rfl
                  omega
                · have h0 : k = 0 := by omega
                  subst h0
                  have : tl_ 0 = 47 := rfl
                  omega
      refine ⟨hin, fun c => ⟨fun c2 => ?_, fun c2 => ?_⟩, fun c => ⟨fun c2 => ?_, fun c2 => ?_⟩⟩ <;> rw [iI_eq (by omega) (by omega)] at c c2
      · have h1 : k = 1 := by omega
        exact more (by rw [htl.2.2 h1] at hn ⊢; omega)
      · have h1 : k = 1 := by omega
        exact full (by rw [htl.2.2 h1]; omega)
      · have h1 : k = 0 := by omega
        exact more (by rw [htl.2.1 h1] at hn ⊢; omega)
      · have h1 : k = 0 := by omega
        exact full (by rw [htl.2.1 h1]; omega)
/-- a text made shorter -/
theorem Rm_.cut {a σ : St_} (hR : Rm_ a σ) {k : Nat} (hk : k < 2) {v : Int32} (hv : v.toInt ≤ (a 0 k).toInt) : Rm_ (su_ a 0 k v) (su_ σ 0 k v) := by
  refine hR.upd 0 (fun j _ hj => su_i _ _ _ (nX hj rfl)) (fun j _ hj => su_i _ _ _ (nM hj rfl)) ?_ (by decide)
  refine ⟨fun t' ht' => ?_, fun t' ht' i hi => ?_⟩
  · rw [su_at, su_at]
    by_cases q2 : t' = k
    · subst q2; simp
    · simp [q2]; exact hR.1 t' ht'
  · rw [su_i _ _ _ (by decide), su_i _ _ _ (by omega)]
    rw [su_at] at hi
    refine hR.2.1 t' ht' i ?_
    by_cases q2 : t' = k
    · subst q2; simp at hi; omega
    · simp [q2] at hi; exact hi
theorem m_wipe (u : Ux_) {P : Int32 → St_ → Prop} (a σ : St_) (hR : Rm_ a σ) (hW : Wt_ a) (t : Int32) (H : ∀ σ', Rm_ (c_wipe a t).2 σ' → P (c_wipe a t).1 σ') : MMi_ (zm_ u) mX10_wipe [.ref (uq_ u 0), .int t] σ P := by
  refine eX10_wipe u σ t (m_isText u σ _ (nxn (fun h => ?_) (fun h => ?_)))
  · simp [c_wipe, h] at H; exact H σ hR
  · simp only [c_wipe, h, if_true] at H
    obtain ⟨k, hk, rfl⟩ := inr_nat h (by decide)
    have hk2 : k < 2 := by omega
    have hin : vp_in (iI_ k) 2 := (iI_in (by omega)).mpr (by omega)
    obtain ⟨n, hn, e, hB⟩ := hW.to hk2
    have := tl_b k
    rw [iI_ix (by omega)] at H ⊢
    refine ⟨hin, hin, ?_⟩
    rintro σ5 rfl
    rw [hR.1 k hk2]
    exact H _ (hR.cut hk2 (by rw [t_0, e, iI_toInt (by omega)]; omega))
theorem m_undo (u : Ux_) {P : Int32 → St_ → Prop} (a σ : St_) (hR : Rm_ a σ) (hW : Wt_ a) (t : Int32) (H : ∀ σ', Rm_ (c_undo a t).2 σ' → P (c_undo a t).1 σ') : MMi_ (zm_ u) mX10_undo [.ref (uq_ u 0), .int t] σ P := by
  refine eX10_undo u σ t (m_isText u σ _ (nxn (fun h => ?_) (fun h => ?_)))
  · simp [c_undo, h] at H; exact H σ hR
  · simp only [c_undo, h, if_true] at H
    obtain ⟨k, hk, rfl⟩ := inr_nat h (by decide)
    have hk2 : k < 2 := by omega
    have hin : vp_in (iI_ k) 2 := (iI_in (by omega)).mpr (by omega)
    obtain ⟨n, hn, e, hB⟩ := hW.to hk2
    have := tl_b k
    rw [iI_ix (by omega)] at H ⊢
    rw [hR.1 k hk2]
    refine ⟨hin, fun c => ⟨hin, hin, ?_⟩, fun c => ?_⟩
    · rw [if_neg c] at H
      rintro σ7 rfl
      refine ⟨hin, ?_⟩
      rw [su_same]
      rw [e, iI_eq (by omega) (by omega)] at c
      exact H _ (hR.cut hk2 (by rw [e, iI_sub, iI_toInt (by omega), iI_toInt (by omega)]; omega))
    · rw [if_pos c] at H; exact H σ hR
