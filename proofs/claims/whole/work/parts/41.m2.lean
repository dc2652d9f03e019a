/-! ===== the reference: reading the members ===== -/
theorem okm_mb {a : St_} {N k : Nat} : mb_ a 0 N k = if k < N then a 1 k else iI_ (-1) := rfl
theorem m_readsMember (u : Ux_) {P : Int32 → St_ → Prop} (a σ : St_) (hR : Rm_ a σ) {N j : Nat} (hN : N ≤ 47) (eN : a 0 0 = iI_ N) (hB : ∀ i, i < N → 0 ≤ (a 1 i).toInt ∧ (a 1 i).toInt < 256) (hj : j < 8)
    (Hbad : ∀ g, g < 5 → (∀ i, i < g → okm_ (a 1) N (6 * j + i) = true) → okm_ (a 1) N (6 * j + g) = false → ∀ σ', Ke_ [3, 4, 5] σ σ' → P (iI_ g) σ')
    (Hok : (∀ i, i < 5 → okm_ (a 1) N (6 * j + i) = true) → ∀ σ', Ke_ [3, 4, 5] σ σ' → (∀ i, i < j → σ' 3 i = σ 3 i ∧ σ' 4 i = σ 4 i) → (∀ k, k < 3 * j → σ' 5 k = σ 5 k) → σ' 3 j = so_ (a 1 (6 * j)) → σ' 4 j = a 1 (6 * j + 1) - iI_ 48 → σ' 5 (3 * j) = ml_ (a 1 (6 * j + 2)) → σ' 5 (3 * j + 1) = ml_ (a 1 (6 * j + 3)) → σ' 5 (3 * j + 2) = ml_ (a 1 (6 * j + 4)) → P (iI_ 5) σ') : MMi_ (zm_ u) mX10_readsMember [.ref (uq_ u 0), .int (iI_ j), .int (iI_ (6 * j : Nat))] σ P := by
  have hR' : ∀ τ, Ke_ [3, 4, 5] σ τ → Rm_ a τ := fun τ h => hR.mk (Mk_.ke h (by decide))
  have ix : ∀ i : Nat, i < 3 → iI_ 3 * iI_ j + iI_ i = iI_ (3 * j + i : Nat) := fun i hi => by rw [iI_mul, iI_add]; congr 1
  have hlet : ∀ i, i < N → ∀ x, mb_ a 0 N i = x → x = a 1 i := fun i hi x h => by rw [← h, okm_mb, if_pos hi]
  -- behind the letters
  have g3 : ∀ (s sh seen : Int32) (τ : St_), (∀ i, i < 5 → okm_ (a 1) N (6 * j + i) = true) → s = so_ (a 1 (6 * j)) → sh = a 1 (6 * j + 1) - iI_ 48 → Ke_ [3, 4, 5] σ τ → (∀ i, i < j → τ 3 i = σ 3 i ∧ τ 4 i = σ 4 i) → (∀ k, k < 3 * j → τ 5 k = σ 5 k) → τ 5 (3 * j) = ml_ (a 1 (6 * j + 2)) → τ 5 (3 * j + 1) = ml_ (a 1 (6 * j + 3)) → τ 5 (3 * j + 2) = ml_ (a 1 (6 * j + 4)) → GG_ (zm_ u) mX10_readsMember (Pi_ P) 79 [(0, .ref (uq_ u 0)), (1, .int (iI_ j)), (2, .int (iI_ (6 * j : Nat))), (4, .int s), (5, .int sh), (6, .int seen), (7, .int (iI_ (3 : Nat)))] [] τ := by
    intro s sh seen τ hok es esh hk hA hA5 w0 w1 w2
    refine bX10_readsMember_79 u τ _ _ _ _ _ _ (cs_ (fun _ => ⟨(iI_in (by omega)).mpr (by omega), ?_⟩) (fun c => absurd (by decide) c))
    rintro σ2 e2
    refine ⟨(iI_in (by omega)).mpr (by omega), ?_⟩
    rintro σ4 e4
    rw [iI_ix (by omega)] at e2 e4
    refine Hok hok σ4 (by rw [e4, e2]; exact (hk.su (by decide)).su (by decide)) (fun i hi => ?_) (fun k hk5 => ?_) ?_ ?_ ?_ ?_ ?_
    · have := hA i hi
      exact ⟨by rw [e4, su_i _ _ _ (by decide), e2, su_j _ _ _ (by omega)]; exact this.1, by rw [e4, su_j _ _ _ (by omega), e2, su_i _ _ _ (by decide)]; exact this.2⟩
    · rw [e4, su_i _ _ _ (by decide), e2, su_i _ _ _ (by decide)]; exact hA5 k hk5
    · rw [e4, su_i _ _ _ (by decide), e2, su_same]; exact es
    · rw [e4, su_same]; exact esh
    · rw [e4, su_i _ _ _ (by decide), e2, su_i _ _ _ (by decide)]; exact w0
    · rw [e4, su_i _ _ _ (by decide), e2, su_i _ _ _ (by decide)]; exact w1
    · rw [e4, su_i _ _ _ (by decide), e2, su_i _ _ _ (by decide)]; exact w2
  -- one letter
  have step : ∀ (i : Nat) (s sh seen : Int32) (τ : St_), i < 3 → (∀ k, k < 2 + i → okm_ (a 1) N (6 * j + k) = true) → Ke_ [3, 4, 5] σ τ → (∀ l : Nat, l < 3 → (bt seen l = true ↔ ∃ q, q < i ∧ ml_ (a 1 (6 * j + 2 + q)) = iI_ l)) → (∀ l : Nat, l < 3 → ml_ (a 1 (6 * j + 2 + i)) = iI_ l → okm_ (a 1) N (6 * j + (2 + i)) = true → GG_ (zm_ u) mX10_readsMember (Pi_ P) 79 [(0, .ref (uq_ u 0)), (1, .int (iI_ j)), (2, .int (iI_ (6 * j : Nat))), (4, .int s), (5, .int sh), (6, .int (seen ||| (iI_ 1 <<< (iI_ l &&& 31)))), (7, .int (iI_ (i + 1 : Nat)))] [] (su_ τ 5 (3 * j + i) (iI_ l))) → GG_ (zm_ u) mX10_readsMember (Pi_ P) 79 [(0, .ref (uq_ u 0)), (1, .int (iI_ j)), (2, .int (iI_ (6 * j : Nat))), (4, .int s), (5, .int sh), (6, .int seen), (7, .int (iI_ i))] [] τ := by
    intro i s sh seen τ hi hpre hk hseen hnext
    have eidx : iI_ (6 * j : Nat) + iI_ 2 + iI_ i = iI_ (6 * j + 2 + i : Nat) := by rw [iI_add, iI_add]; congr 1
    have eg : iI_ 2 + iI_ i = iI_ (2 + i : Nat) := by rw [iI_add]; congr 1
    refine bX10_readsMember_79 u τ _ _ _ _ _ _ (cs_ (fun c => absurd c (by rw [iI_le (by omega) (by omega)]; omega)) (fun _ => ?_))
    rw [eg]
    refine m_letterAt u a τ (hR' τ hk) (t := 0) (by decide) hN eN hB (k := 6 * j + 2 + i) (by omega) rfl eidx ?_
    -- the byte's own fitness
    have bad : okm_ (a 1) N (6 * j + (2 + i)) = false → P (iI_ (2 + i : Nat)) τ := fun hb => Hbad (2 + i) (by omega) hpre hb τ hk
    refine cs_ (fun c => ?_) (fun c => ?_)
    · rw [ml_m1] at c
      refine bad ?_
      unfold okm_
      by_cases q : 6 * j + 2 + i < N
      · rw [okm_mb, if_pos q] at c
        have : mfit_ (a 1) (6 * j + (2 + i)) = false := by
          rw [show 6 * j + (2 + i) = 6 * j + 2 + i by omega]
          rw [Bool.eq_false_iff]
          intro hf
          rcases (show i = 0 ∨ i = 1 ∨ i = 2 by omega) with rfl | rfl | rfl
          · rw [fit2 (by omega), c] at hf; cases hf
          · rw [fit3 (by omega), c] at hf; cases hf.1
          · rw [fit4 (by omega), c] at hf; cases hf.1
        rw [this, Bool.and_false]
      · rw [decide_eq_false (by omega), Bool.false_and]
    · have hq : 6 * j + 2 + i < N := by
        rcases Nat.lt_or_ge (6 * j + 2 + i) N with q | q
        · exact q
        · exact absurd (by rw [okm_mb, if_neg (by omega)]; decide) c
      rw [okm_mb, if_pos hq] at c ⊢
      have hl : let_ (a 1 (6 * j + 2 + i)) = true := by
        cases h : let_ (a 1 (6 * j + 2 + i))
        · exact absurd (ml_m1.mpr h) c
        · rfl
      obtain ⟨l, hl3, el, -⟩ := ml_nat hl
      rw [el]
      refine m_isIn u τ seen (by omega) ?_
      -- fit is: no earlier letter is the same
      have hfit : mfit_ (a 1) (6 * j + 2 + i) = true ↔ bt seen l = false := by
        have hs := hseen l hl3
        have same : ∀ q, q < i → (ml_ (a 1 (6 * j + 2 + q)) = iI_ l ↔ a 1 (6 * j + 2 + i) = a 1 (6 * j + 2 + q)) := by
          intro q hqi
          have hfq := hpre (2 + q) (by omega)
          have hlq : let_ (a 1 (6 * j + 2 + q)) = true := by
            unfold okm_ at hfq
            simp only [Bool.and_eq_true, decide_eq_true_eq] at hfq
            have hf := hfq.2
            rw [show 6 * j + (2 + q) = 6 * j + 2 + q by omega] at hf
            rcases (show q = 0 ∨ q = 1 by omega) with rfl | rfl
            · exact (fit2 (by omega)).mp hf
            · exact ((fit3 (by omega)).mp hf).1
          obtain ⟨l2, h2, e2, v2⟩ := ml_nat hlq
          obtain ⟨l1, h1, e1, v1⟩ := ml_nat hl
          rw [el, iI_eq (by omega) (by omega)] at e1
          rw [e2, iI_eq (by omega) (by omega)]
          constructor
          · intro e; exact Int32.toInt_inj.mp (by omega)
          · intro e; rw [e] at v1; omega
        rcases (show i = 0 ∨ i = 1 ∨ i = 2 by omega) with rfl | rfl | rfl
        · rw [fit2 (by omega), hl]
          simp only [true_iff]
          rw [Bool.eq_false_iff]
          intro hb
          obtain ⟨q, hq0, -⟩ := hs.mp hb
          omega
        · rw [fit3 (by omega), hl, show 6 * j + 2 + 1 - 1 = 6 * j + 2 + 0 by omega, ← same 0 (by omega), Bool.eq_false_iff, Ne, hs]
          simp only [true_and]
          constructor
          · rintro h1 ⟨q, hq0, h2⟩
            rw [show q = 0 by omega] at h2; exact h1 h2
          · intro h1 h2; exact h1 ⟨0, by omega, h2⟩
        · rw [fit4 (by omega), hl, show 6 * j + 2 + 2 - 1 = 6 * j + 2 + 1 by omega, show 6 * j + 2 + 2 - 2 = 6 * j + 2 + 0 by omega, ← same 0 (by omega), ← same 1 (by omega), Bool.eq_false_iff, Ne, hs]
          simp only [true_and]
          constructor
          · rintro ⟨h1, h0⟩ ⟨q, hq0, h2⟩
            rcases (show q = 0 ∨ q = 1 by omega) with rfl | rfl
            · exact h0 h2
            · exact h1 h2
          · intro h1; exact ⟨fun h2 => h1 ⟨1, by omega, h2⟩, fun h2 => h1 ⟨0, by omega, h2⟩⟩
      refine nxb (fun h => ⟨?_, ?_⟩) (fun h => ?_)
      · rw [ix i hi]; exact (iI_in (by omega)).mpr (by omega)
      · rw [ix i hi, iI_ix (by omega), iI_succ]
        rintro σ12 e12
        have := hnext l hl3 el (by unfold okm_; rw [show 6 * j + (2 + i) = 6 * j + 2 + i by omega, decide_eq_true hq, hfit.mpr h]; rfl)
        rw [← e12] at this
        exact this
      · refine bad ?_
        unfold okm_
        have : mfit_ (a 1) (6 * j + 2 + i) = false := by
          rw [Bool.eq_false_iff]
          intro hf
          rw [hfit.mp hf] at h; cases h
        rw [show 6 * j + (2 + i) = 6 * j + 2 + i by omega, this, Bool.and_false]
  -- all three letters
  have letters : ∀ (s sh : Int32) (τ : St_), τ = σ → (∀ k, k < 2 → okm_ (a 1) N (6 * j + k) = true) → s = so_ (a 1 (6 * j)) → sh = a 1 (6 * j + 1) - iI_ 48 → GG_ (zm_ u) mX10_readsMember (Pi_ P) 79 [(0, .ref (uq_ u 0)), (1, .int (iI_ j)), (2, .int (iI_ (6 * j : Nat))), (4, .int s), (5, .int sh), (6, .int (iI_ 0)), (7, .int (iI_ 0))] [] τ := by
    rintro s sh τ rfl hpre es esh
    have b0 : ∀ l : Nat, bt (iI_ 0) l = false := fun l => b_0 l
    refine step 0 s sh (iI_ 0) τ (by omega) hpre Ke_.rf (fun l hl => by rw [b0]; simp) (fun l0 hl0 el0 ok0 => ?_)
    have p1 : ∀ k, k < 2 + 1 → okm_ (a 1) N (6 * j + k) = true := fun k hk => by
      by_cases q : k = 2
      · rw [q]; exact ok0
      · exact hpre k (by omega)
    refine step 1 s sh _ _ (by omega) p1 (Ke_.rf.su (by decide)) (fun l hl => ?_) (fun l1 hl1 el1 ok1 => ?_)
    · rw [b_or, b0, Bool.false_or, bt_pow (by omega), decide_eq_true_eq]
      constructor
      · intro e; exact ⟨0, by omega, by rw [el0, e]⟩
      · rintro ⟨q, hq, e⟩
        rw [show q = 0 by omega, el0, iI_eq (by omega) (by omega)] at e; omega
    have p2 : ∀ k, k < 2 + 2 → okm_ (a 1) N (6 * j + k) = true := fun k hk => by
      by_cases q : k = 3
      · rw [q]; exact ok1
      · exact p1 k (by omega)
    refine step 2 s sh _ _ (by omega) p2 ((Ke_.rf.su (by decide)).su (by decide)) (fun l hl => ?_) (fun l2 hl2 el2 ok2 => ?_)
    · rw [b_or, b_or, b0, Bool.false_or, bt_pow (by omega), bt_pow (by omega), Bool.or_eq_true, decide_eq_true_eq, decide_eq_true_eq]
      constructor
      · rintro (e | e)
        · exact ⟨0, by omega, by rw [el0, e]⟩
        · exact ⟨1, by omega, by rw [el1, e]⟩
      · rintro ⟨q, hq, e⟩
        rcases (show q = 0 ∨ q = 1 by omega) with rfl | rfl
        · rw [el0, iI_eq (by omega) (by omega)] at e; exact Or.inl (by omega)
        · rw [el1, iI_eq (by omega) (by omega)] at e; exact Or.inr (by omega)
    have p3 : ∀ k, k < 5 → okm_ (a 1) N (6 * j + k) = true := fun k hk => by
      by_cases q : k = 4
      · rw [q]; exact ok2
      · exact p2 k (by omega)
    refine g3 s sh _ _ p3 es esh (((Ke_.rf.su (by decide)).su (by decide)).su (by decide)) (fun i hi => ?_) (fun k hk => ?_) ?_ ?_ ?_
    · rw [su_i _ _ _ (by decide), su_i _ _ _ (by decide), su_i _ _ _ (by decide), su_i _ _ _ (by decide), su_i _ _ _ (by decide), su_i _ _ _ (by decide)]; exact ⟨rfl, rfl⟩
    · rw [su_j _ _ _ (by omega), su_j _ _ _ (by omega), su_j _ _ _ (by omega)]
    · rw [su_j _ _ _ (by omega), su_j _ _ _ (by omega), show 3 * j + 0 = 3 * j by omega, su_same]; exact el0.symm
    · rw [su_j _ _ _ (by omega), su_same]; exact el1.symm
    · rw [su_same]; exact el2.symm
  -- the shelf
  have shelf : ∀ s : Int32, okm_ (a 1) N (6 * j) = true → s = so_ (a 1 (6 * j)) → MMi_ (zm_ u) mX10_byteAt [.ref (uq_ u 0), .int (iI_ 0), .int (iI_ (6 * j : Nat) + iI_ 1)] σ (fun r σ9 => MMi_ (zm_ u) mX10_in [.int (r - iI_ 48), .int (iI_ 0), .int (iI_ 5)] σ9 (fun r13 σ12 => ((¬ r13 = iI_ 0 → GG_ (zm_ u) mX10_readsMember (Pi_ P) 79 [(0, .ref (uq_ u 0)), (1, .int (iI_ j)), (2, .int (iI_ (6 * j : Nat))), (4, .int s), (5, .int (r - iI_ 48)), (6, .int (iI_ 0)), (7, .int (iI_ 0))] [] σ12) ∧ (r13 = iI_ 0 → P (iI_ 1) σ12)))) := by
    intro s ok0 es
    have p0 : ∀ i, i < 1 → okm_ (a 1) N (6 * j + i) = true := fun i hi => by rw [show 6 * j + i = 6 * j by omega]; exact ok0
    refine m_byteAt u a σ hR (t := 0) (by decide) hN eN (k := 6 * j + 1) (by omega) rfl (by rw [iI_add]; congr 1) (m_in u σ _ _ _ ?_)
    have hbd := mb_bd (a := a) (t := 0) (N := N) (k := 6 * j + 1) hB
    have hi : ini_ (mb_ a 0 N (6 * j + 1) - iI_ 48) (iI_ 0) (iI_ 5) = true ↔ 48 ≤ (mb_ a 0 N (6 * j + 1)).toInt ∧ (mb_ a 0 N (6 * j + 1)).toInt < 54 := by
      rw [ini_t, sub_iI, t_0, t_5, iI_toInt (by omega)]; omega
    refine nxn (fun h => ?_) (fun h => ?_)
    · refine Hbad 1 (by omega) p0 ?_ σ Ke_.rf
      unfold okm_
      by_cases q : 6 * j + 1 < N
      · have : mfit_ (a 1) (6 * j + 1) = false := by
          rw [Bool.eq_false_iff]
          intro hf
          rw [fit1 (by omega)] at hf
          rw [hi.mpr (by rw [okm_mb, if_pos q]; exact hf)] at h; cases h
        rw [this, Bool.and_false]
      · rw [decide_eq_false q, Bool.false_and]
    · have h2 := hi.mp h
      have q : 6 * j + 1 < N := by
        rcases Nat.lt_or_ge (6 * j + 1) N with q | q
        · exact q
        · rw [okm_mb, if_neg (by omega)] at h2; exact absurd h2 (by decide)
      rw [okm_mb, if_pos q] at h2 ⊢
      refine letters s _ σ rfl (fun k hk => ?_) es rfl
      rcases (show k = 0 ∨ k = 1 by omega) with rfl | rfl
      · exact ok0
      · unfold okm_; rw [decide_eq_true q, (fit1 (by omega)).mpr h2]; rfl
  refine eX10_readsMember u σ _ _ (m_byteAt u a σ hR (t := 0) (by decide) hN eN (k := 6 * j) (by omega) rfl rfl ?_)
  have hok0 : ¬ so_ (mb_ a 0 N (6 * j)) = iI_ (-1) → okm_ (a 1) N (6 * j) = true ∧ mb_ a 0 N (6 * j) = a 1 (6 * j) := by
    intro h
    have q : 6 * j < N := by
      rcases Nat.lt_or_ge (6 * j) N with q | q
      · exact q
      · rw [okm_mb, if_neg (by omega)] at h; exact absurd (by decide) h
    rw [okm_mb, if_pos q] at h ⊢
    exact ⟨by unfold okm_; rw [decide_eq_true q, (fit0 (by omega) (by omega)).mpr h]; rfl, rfl⟩
  have done : ∀ (c s : Int32), mb_ a 0 N (6 * j) = c → so_ c = s → ¬ s = iI_ (-1) → okm_ (a 1) N (6 * j) = true ∧ s = so_ (a 1 (6 * j)) := by
    intro c s h1 h2 h3
    obtain ⟨q1, q2⟩ := hok0 (by rw [h1, h2]; exact h3)
    exact ⟨q1, by rw [← q2, h1, h2]⟩
  refine ⟨fun c1 => ⟨fun c2 => ⟨fun c3 => ?_, fun c3 => ?_⟩, fun c2 => ?_⟩, fun c1 => ?_⟩
  · refine m_byteAt u a σ hR (t := 0) (by decide) hN eN (k := 6 * j + 1) (by omega) rfl (by rw [iI_add]; congr 1) (Hbad 0 (by omega) (fun i hi => by omega) ?_ σ Ke_.rf)
    unfold okm_
    by_cases q : 6 * j < N
    · have : mfit_ (a 1) (6 * j + 0) = false := by
        rw [Bool.eq_false_iff]
        intro hf
        rw [show 6 * j + 0 = 6 * j by omega, fit0 (by omega) (by omega)] at hf
        apply hf
        rw [okm_mb, if_pos q] at c1 c2 c3
        exact so_115.mpr ⟨c1, c2, c3⟩
      rw [this, Bool.and_false]
    · rw [decide_eq_false (by omega), Bool.false_and]
  · obtain ⟨q1, q2⟩ := done _ (iI_ 2) c3 (by decide) (by decide)
    exact shelf (iI_ 2) q1 q2
  · obtain ⟨q1, q2⟩ := done _ (iI_ 1) c2 (by decide) (by decide)
    exact shelf (iI_ 1) q1 q2
  · obtain ⟨q1, q2⟩ := done _ (iI_ 0) c1 (by decide) (by decide)
    exact shelf (iI_ 0) q1 q2
