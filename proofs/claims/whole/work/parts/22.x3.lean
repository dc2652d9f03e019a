/-! ===== the class: taking the texts again ===== -/
def od_ (f : Nat → Int32) (j : Nat) : Int32 := iI_ 2 * (f (6 * j + 2) - iI_ 97) + (if f (6 * j + 3) ≤ f (6 * j + 4) then iI_ 0 else iI_ 1)
def mcnt_ (f : Nat → Int32) (n : Nat) : Nat := if mflt_ f n = -1 then (n + 5) / 6 else 0
def ocnt_ (f : Nat → Int32) (n : Nat) : Nat := if oflt_ f n = -1 then n / 3 else 0
theorem mflt_m1 {f : Nat → Int32} {n : Nat} (h : mflt_ f n = -1) : (n = 0 ∨ n % 6 = 5) ∧ ∀ j, j < n → mfit_ f j = true := by
  unfold mflt_ at h
  split at h
  · omega
  · rename_i c
    split at h
    · refine ⟨by assumption, fun j hj => fb_fit _ n 0 j (by omega) (by omega)⟩
    · omega
theorem oflt_m1 {f : Nat → Int32} {n : Nat} (h : oflt_ f n = -1) : n % 3 = 0 ∧ ∀ j, j < n → ofit_ f j = true := by
  unfold oflt_ at h
  split at h
  · omega
  · rename_i c
    split at h
    · refine ⟨by assumption, fun j hj => fb_fit _ n 0 j (by omega) (by omega)⟩
    · omega
theorem mflt_bd (f : Nat → Int32) (n : Nat) : -1 ≤ mflt_ f n ∧ mflt_ f n ≤ n := by
  unfold mflt_; split
  · omega
  · split <;> omega
theorem oflt_bd (f : Nat → Int32) (n : Nat) : -1 ≤ oflt_ f n ∧ oflt_ f n ≤ n := by
  unfold oflt_; split
  · omega
  · split <;> omega
theorem s_mtake (u : Ux_) {P : St_ → Prop} {t : Nat} (h : t < 2) (σ : St_) {n : Nat} (hn : σ 0 t = iI_ n) (hl : n ≤ tl_ t) (h47 : n ≤ 47)
    (H : ∀ σ', Ke_ [3, 4, 5, 6, 7] σ σ' → σ' 4 0 = iI_ (mflt_ (σ (1 + t)) n) → σ' 3 0 = iI_ (mcnt_ (σ (1 + t)) n) → (∀ j, j < mcnt_ (σ (1 + t)) n → σ' 5 j = so_ (σ (1 + t) (6 * j)) ∧ σ' 6 j = σ (1 + t) (6 * j + 1) - iI_ 48 ∧ σ' 7 j = od_ (σ (1 + t)) j) → P σ') : MMv_ (zx_ u) mX4_take [.ref (uq_ u 2), .ref (uq_ u (32 + t))] σ P := by
  have hb := tl_b t
  have hbd := mflt_bd (σ (1 + t)) n
  refine eX4_take u t h σ (s_mfault u h σ hn hl ?_)
  rintro σ3 rfl σ4 rfl
  have e4 : su_ (su_ σ 4 0 (iI_ (mflt_ (σ (1 + t)) n))) 3 0 (iI_ 0) 4 0 = iI_ (mflt_ (σ (1 + t)) n) := by rw [su_i _ _ _ (by decide), su_same]
  refine ⟨fun c => ?_, fun c => ?_⟩
  · rw [e4, iI_eq (by omega) (by omega)] at c
    obtain ⟨hn6, -⟩ := mflt_m1 c
    have hc : mcnt_ (σ (1 + t)) n = (n + 5) / 6 := by rw [mcnt_, if_pos c]
    have key : ∀ (d j : Nat) (τ : St_), j + d = mcnt_ (σ (1 + t)) n → Ke_ [3, 4, 5, 6, 7] σ τ → τ 4 0 = iI_ (mflt_ (σ (1 + t)) n) → τ 3 0 = iI_ j → (∀ i, i < j → τ 5 i = so_ (σ (1 + t) (6 * i)) ∧ τ 6 i = σ (1 + t) (6 * i + 1) - iI_ 48 ∧ τ 7 i = od_ (σ (1 + t)) i) → GG_ (zx_ u) mX4_take (Pv_ P) 24 [(0, .ref (uq_ u 2)), (1, .ref (uq_ u (32 + t))), (2, .int (iI_ (6 * j : Nat)))] [] τ := by
      intro d
      induction d with
      | zero =>
        intro j τ hj hk h4 h3 hA
        have hn2 : τ 0 t = iI_ n := by rw [hk 0 (by decide)]; exact hn
        refine bX4_take_24 u t h τ _ (cs_ (fun _ => H τ hk h4 (by rw [h3]; congr 1; omega) (fun i hi => hA i (by omega))) (fun c2 => absurd (by rw [hn2, iI_le (by omega) (by omega)]; omega) c2))
      | succ d ih =>
        intro j τ hj hk h4 h3 hA
        have hn2 : τ 0 t = iI_ n := by rw [hk 0 (by decide)]; exact hn
        have hf : τ (1 + t) = σ (1 + t) := hk (1 + t) (by simp; omega)
        refine bX4_take_24 u t h τ _ (cs_ (fun c2 => absurd c2 (by rw [hn2, iI_le (by omega) (by omega)]; omega)) (fun _ => cs_ (fun c2 => absurd c2 (by rw [h3, iI_le (by omega) (by omega)]; omega)) (fun _ => ?_)))
        have x1 : iI_ (6 * j : Nat) + iI_ 1 = iI_ (6 * j + 1 : Nat) := by rw [iI_add]; rfl
        have x2 : iI_ (6 * j : Nat) + iI_ 2 = iI_ (6 * j + 2 : Nat) := by rw [iI_add]; rfl
        have x3 : iI_ (6 * j : Nat) + iI_ 3 = iI_ (6 * j + 3 : Nat) := by rw [iI_add]; rfl
        have x4 : iI_ (6 * j : Nat) + iI_ 4 = iI_ (6 * j + 4 : Nat) := by rw [iI_add]; rfl
        have x6 : iI_ (6 * j : Nat) + iI_ 6 = iI_ (6 * (j + 1) : Nat) := by rw [iI_add]; congr 1
        have hin : vp_in (iI_ j) 8 := (iI_in (by omega)).mpr (by omega)
        refine s_at2 u h τ rfl hn2 (by omega) hl hb (s_sortOf u τ _ ⟨by rw [h3]; exact hin, ?_⟩)
        rw [hf, h3, iI_ix (by omega)]
        rintro σ7 e7
        have a7 : ∀ k, k ≠ 5 → σ7 k = τ k := fun k hk => by rw [e7, su_i _ _ _ hk]
        refine s_at2 u h σ7 x1 (by rw [a7 0 (by decide)]; exact hn2) (by omega) hl hb ⟨by rw [a7 3 (by decide), h3]; exact hin, ?_⟩
        rw [a7 3 (by decide), h3, iI_ix (by omega), a7 (1 + t) (by omega), hf]
        rintro σ11 e11
        have a11 : ∀ k, k ≠ 5 → k ≠ 6 → σ11 k = τ k := fun k hk hk2 => by rw [e11, su_i _ _ _ hk2, a7 k hk]
        have n11 : σ11 0 t = iI_ n := by rw [a11 0 (by decide) (by decide)]; exact hn2
        have f11 : σ11 (1 + t) = σ (1 + t) := by rw [a11 (1 + t) (by omega) (by omega)]; exact hf
        have t11 : σ11 3 0 = iI_ j := by rw [a11 3 (by decide) (by decide)]; exact h3
        refine s_at2 u h σ11 x3 n11 (by omega) hl hb (s_at2 u h σ11 x4 n11 (by omega) hl hb (s_at2 u h σ11 x2 n11 (by omega) hl hb ?_))
        rw [f11, t11, iI_ix (by omega), x6]
        have fin : ∀ w, w = od_ (σ (1 + t)) j → ∀ σ20, σ20 = su_ σ11 7 j w → ∀ σ22, σ22 = su_ σ20 3 0 (σ20 3 0 + iI_ 1) → GG_ (zx_ u) mX4_take (Pv_ P) 24 [(0, .ref (uq_ u 2)), (1, .ref (uq_ u (32 + t))), (2, .int (iI_ (6 * (j + 1) : Nat)))] [] σ22 := by
          intro w hw σ20 e20 σ22 e22
          have a20 : ∀ k, k ≠ 7 → σ20 k = σ11 k := fun k hk => by rw [e20, su_i _ _ _ hk]
          have a22 : ∀ k, k ≠ 3 → σ22 k = σ20 k := fun k hk => by rw [e22, su_i _ _ _ hk]
          refine ih (j + 1) σ22 (by omega) (fun k hk2 => ?_) ?_ ?_ (fun i hi => ?_)
          · simp only [List.mem_cons, List.not_mem_nil, or_false, not_or] at hk2
            rw [a22 k hk2.1, a20 k (by omega), a11 k (by omega) (by omega), hk k (by simp; omega)]
          · rw [a22 4 (by decide), a20 4 (by decide), a11 4 (by decide) (by decide)]; exact h4
          · rw [e22, su_same, a20 3 (by decide), t11, iI_succ]
          · rw [a22 5 (by decide), a22 6 (by decide), a22 7 (by decide), a20 5 (by decide), a20 6 (by decide), e20]
            by_cases e : i = j
            · subst e
              refine ⟨?_, ?_, ?_⟩
              · rw [e11, su_i _ _ _ (by decide), e7, su_same]
              · rw [e11, su_same]
              · rw [su_same, hw]
            · have q := hA i (by omega)
              rw [su_j _ _ _ e, a11 7 (by decide) (by decide)]
              refine ⟨?_, ?_, q.2.2⟩
              · rw [e11, su_i _ _ _ (by decide), e7, su_j _ _ _ e]; exact q.1
              · rw [e11, su_j _ _ _ e, a7 6 (by decide)]; exact q.2.1
        refine cs_ (fun c3 => ⟨hin, ?_⟩) (fun c3 => ⟨hin, ?_⟩)
        · intro σ20 e20 σ22 e22
          exact fin _ (by rw [od_, if_pos c3]) σ20 e20 σ22 e22
        · intro σ20 e20 σ22 e22
          exact fin _ (by rw [od_, if_neg c3]) σ20 e20 σ22 e22
    refine key (mcnt_ (σ (1 + t)) n) 0 _ (by omega) ((Ke_.rf.su (by decide)).su (by decide)) e4 (by rw [su_same]; rfl) (fun i hi => by omega)
  · rw [e4, iI_eq (by omega) (by omega)] at c
    have hc : mcnt_ (σ (1 + t)) n = 0 := by rw [mcnt_, if_neg c]
    exact H _ ((Ke_.rf.su (by decide)).su (by decide)) e4 (by rw [su_same, hc]; rfl) (fun j hj => by omega)
theorem s_otake (u : Ux_) {P : St_ → Prop} {t : Nat} (h : t < 2) (σ : St_) {n : Nat} (hn : σ 0 t = iI_ n) (hl : n ≤ tl_ t) (h30 : n ≤ 30)
    (H : ∀ σ', Ke_ [9, 10, 11, 12, 13] σ σ' → σ' 10 0 = iI_ (oflt_ (σ (1 + t)) n) → σ' 9 0 = iI_ (ocnt_ (σ (1 + t)) n) → (∀ j, j < ocnt_ (σ (1 + t)) n → σ' 11 j = σ (1 + t) (3 * j) - iI_ 97 ∧ σ' 12 j = σ (1 + t) (3 * j + 1) - iI_ 97 ∧ σ' 13 j = σ (1 + t) (3 * j + 2) - iI_ 48) → P σ') : MMv_ (zx_ u) mX3_take [.ref (uq_ u 7), .ref (uq_ u (32 + t))] σ P := by
  have hb := tl_b t
  have hbd := oflt_bd (σ (1 + t)) n
  refine eX3_take u t h σ (s_ofault u h σ hn hl ?_)
  rintro σ3 rfl σ4 rfl
  have e4 : su_ (su_ σ 10 0 (iI_ (oflt_ (σ (1 + t)) n))) 9 0 (iI_ 0) 10 0 = iI_ (oflt_ (σ (1 + t)) n) := by rw [su_i _ _ _ (by decide), su_same]
  refine ⟨fun c => ?_, fun c => ?_⟩
  · rw [e4, iI_eq (by omega) (by omega)] at c
    obtain ⟨hn6, -⟩ := oflt_m1 c
    have hc : ocnt_ (σ (1 + t)) n = n / 3 := by rw [ocnt_, if_pos c]
    have key : ∀ (d j : Nat) (τ : St_), j + d = ocnt_ (σ (1 + t)) n → Ke_ [9, 10, 11, 12, 13] σ τ → τ 10 0 = iI_ (oflt_ (σ (1 + t)) n) → τ 9 0 = iI_ j → (∀ i, i < j → τ 11 i = σ (1 + t) (3 * i) - iI_ 97 ∧ τ 12 i = σ (1 + t) (3 * i + 1) - iI_ 97 ∧ τ 13 i = σ (1 + t) (3 * i + 2) - iI_ 48) → GG_ (zx_ u) mX3_take (Pv_ P) 24 [(0, .ref (uq_ u 7)), (1, .ref (uq_ u (32 + t))), (2, .int (iI_ (3 * j : Nat)))] [] τ := by
      intro d
      induction d with
      | zero =>
        intro j τ hj hk h4 h3 hA
        have hn2 : τ 0 t = iI_ n := by rw [hk 0 (by decide)]; exact hn
        refine bX3_take_24 u t h τ _ (cs_ (fun _ => H τ hk h4 (by rw [h3]; congr 1; omega) (fun i hi => hA i (by omega))) (fun c2 => absurd (by rw [hn2, iI_le (by omega) (by omega)]; omega) c2))
      | succ d ih =>
        intro j τ hj hk h4 h3 hA
        have hn2 : τ 0 t = iI_ n := by rw [hk 0 (by decide)]; exact hn
        have hf : τ (1 + t) = σ (1 + t) := hk (1 + t) (by simp; omega)
        refine bX3_take_24 u t h τ _ (cs_ (fun c2 => absurd c2 (by rw [hn2, iI_le (by omega) (by omega)]; omega)) (fun _ => cs_ (fun c2 => absurd c2 (by rw [h3, iI_le (by omega) (by omega)]; omega)) (fun _ => ?_)))
        have x1 : iI_ (3 * j : Nat) + iI_ 1 = iI_ (3 * j + 1 : Nat) := by rw [iI_add]; rfl
        have x2 : iI_ (3 * j : Nat) + iI_ 2 = iI_ (3 * j + 2 : Nat) := by rw [iI_add]; rfl
        have x6 : iI_ (3 * j : Nat) + iI_ 3 = iI_ (3 * (j + 1) : Nat) := by rw [iI_add]; congr 1
        have hin : vp_in (iI_ j) 10 := (iI_in (by omega)).mpr (by omega)
        refine s_at2 u h τ rfl hn2 (by omega) hl hb ⟨by rw [h3]; exact hin, ?_⟩
        rw [hf, h3, iI_ix (by omega)]
        rintro σ7 e7
        have a7 : ∀ k, k ≠ 11 → σ7 k = τ k := fun k hk => by rw [e7, su_i _ _ _ hk]
        refine s_at2 u h σ7 x1 (by rw [a7 0 (by decide)]; exact hn2) (by omega) hl hb ⟨by rw [a7 9 (by decide), h3]; exact hin, ?_⟩
        rw [a7 9 (by decide), h3, iI_ix (by omega), a7 (1 + t) (by omega), hf]
        rintro σ11 e11
        have a11 : ∀ k, k ≠ 11 → k ≠ 12 → σ11 k = τ k := fun k hk hk2 => by rw [e11, su_i _ _ _ hk2, a7 k hk]
        have n11 : σ11 0 t = iI_ n := by rw [a11 0 (by decide) (by decide)]; exact hn2
        have f11 : σ11 (1 + t) = σ (1 + t) := by rw [a11 (1 + t) (by omega) (by omega)]; exact hf
        have t11 : σ11 9 0 = iI_ j := by rw [a11 9 (by decide) (by decide)]; exact h3
        refine s_at2 u h σ11 x2 n11 (by omega) hl hb ⟨by rw [t11]; exact hin, ?_⟩
        rw [f11, t11, iI_ix (by omega), x6]
        intro σ20 e20 σ22 e22
        have a20 : ∀ k, k ≠ 13 → σ20 k = σ11 k := fun k hk => by rw [e20, su_i _ _ _ hk]
        have a22 : ∀ k, k ≠ 9 → σ22 k = σ20 k := fun k hk => by rw [e22, su_i _ _ _ hk]
        refine ih (j + 1) σ22 (by omega) (fun k hk2 => ?_) ?_ ?_ (fun i hi => ?_)
        · simp only [List.mem_cons, List.not_mem_nil, or_false, not_or] at hk2
          rw [a22 k hk2.1, a20 k (by omega), a11 k (by omega) (by omega), hk k (by simp; omega)]
        · rw [a22 10 (by decide), a20 10 (by decide), a11 10 (by decide) (by decide)]; exact h4
        · rw [e22, su_same, a20 9 (by decide), t11, iI_succ]
        · rw [a22 11 (by decide), a22 12 (by decide), a22 13 (by decide), a20 11 (by decide), a20 12 (by decide), e20]
          by_cases e : i = j
          · subst e
            refine ⟨?_, ?_, ?_⟩
            · rw [e11, su_i _ _ _ (by decide), e7, su_same]
            · rw [e11, su_same]
            · rw [su_same]
          · have q := hA i (by omega)
            rw [su_j _ _ _ e, a11 13 (by decide) (by decide)]
            refine ⟨?_, ?_, q.2.2⟩
            · rw [e11, su_i _ _ _ (by decide), e7, su_j _ _ _ e]; exact q.1
            · rw [e11, su_j _ _ _ e, a7 12 (by decide)]; exact q.2.1
    refine key (ocnt_ (σ (1 + t)) n) 0 _ (by omega) ((Ke_.rf.su (by decide)).su (by decide)) e4 (by rw [su_same]; rfl) (fun i hi => by omega)
  · rw [e4, iI_eq (by omega) (by omega)] at c
    have hc : ocnt_ (σ (1 + t)) n = 0 := by rw [ocnt_, if_neg c]
    exact H _ ((Ke_.rf.su (by decide)).su (by decide)) e4 (by rw [su_same, hc]; rfl) (fun j hj => by omega)
