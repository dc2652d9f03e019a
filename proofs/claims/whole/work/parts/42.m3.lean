/-! ===== the reference: reading both texts ===== -/
def RdM_ (a σ : St_) (n : Nat) : Prop := ∀ j, j < n → σ 3 j = so_ (a 1 (6 * j)) ∧ σ 4 j = a 1 (6 * j + 1) - iI_ 48 ∧ σ 5 (3 * j) = ml_ (a 1 (6 * j + 2)) ∧ σ 5 (3 * j + 1) = ml_ (a 1 (6 * j + 3)) ∧ σ 5 (3 * j + 2) = ml_ (a 1 (6 * j + 4))
theorem okm_t {f : Nat → Int32} {N i : Nat} (h : okm_ f N i = true) : i < N ∧ mfit_ f i = true := by
  simpa [okm_] using h
theorem m_readsMembers (u : Ux_) {P : Int32 → St_ → Prop} (a σ : St_) (hR : Rm_ a σ) {N : Nat} (hN : N ≤ 47) (eN : a 0 0 = iI_ N) (hB : ∀ i, i < N → 0 ≤ (a 1 i).toInt ∧ (a 1 i).toInt < 256)
    (H : ∀ σ', Ke_ [2, 3, 4, 5] σ σ' → σ' 2 0 = iI_ (mcnt_ (a 1) N) → RdM_ a σ' (mcnt_ (a 1) N) → P (iI_ (mflt_ (a 1) N)) σ') : MMi_ (zm_ u) mX10_readsMembers [.ref (uq_ u 0)] σ P := by
  refine eX10_readsMembers u σ ?_
  rintro σ1 e1
  have Hbad : ∀ (k : Nat) (τ : St_), mflt_ (a 1) N = (k : Int) → Ke_ [2, 3, 4, 5] σ τ → τ 2 0 = iI_ 0 → P (iI_ k) τ := by
    intro k τ hf hk h2
    have hc : mcnt_ (a 1) N = 0 := by rw [mcnt_, if_neg (by omega)]
    have := H τ hk (by rw [hc]; exact h2) (fun j hj => by omega)
    rw [hf] at this; exact this
  have key : ∀ (d j : Nat) (τ : St_), j + d = 8 → 6 * j ≤ N → (∀ i, i < 6 * j → mfit_ (a 1) i = true) → Ke_ [2, 3, 4, 5] σ τ → τ 2 0 = iI_ 0 → RdM_ a τ j → GG_ (zm_ u) mX10_readsMembers (Pi_ P) 9 [(0, .ref (uq_ u 0)), (1, .int (iI_ j)), (2, .int (iI_ (6 * j : Nat)))] [] τ := by
    intro d
    induction d with
    | zero => intro j τ hj hl; omega
    | succ d ih =>
      intro j τ hj hl hfit hk h2 hA
      have hRt : Rm_ a τ := hR.mk (Mk_.ke hk (by decide))
      have e0 : τ 0 ((iI_ 0).toNatClampNeg) = iI_ N := by show τ 0 0 = _; rw [hRt.1 0 (by decide)]; exact eN
      have member : N ≠ 0 → MMi_ (zm_ u) mX10_readsMember [.ref (uq_ u 0), .int (iI_ j), .int (iI_ (6 * j : Nat))] τ (fun r4 σ3 => GG_ (zm_ u) mX10_readsMembers (Pi_ P) 39 [(0, .ref (uq_ u 0)), (1, .int (iI_ j)), (2, .int (iI_ (6 * j : Nat)))] [.int r4] σ3) := by
        intro hN0
        refine m_readsMember u a τ hRt hN eN hB (by omega) (fun g hg hpre hbad σ3 k3 => ?_) (fun hok σ3 k3 q3 q5 w3 w4 w50 w51 w52 => ?_)
        · have up3 : Ke_ [2, 3, 4, 5] σ σ3 := hk.tr (k3.up (by decide))
          have h23 : σ3 2 0 = iI_ 0 := by rw [k3 2 (by decide)]; exact h2
          refine bX10_readsMembers_39 u σ3 _ _ _ (cs_ (fun c => absurd c (by rw [iI_le (by omega) (by omega)]; omega)) (fun _ => ?_))
          rw [iI_add, show ((6 * j : Nat) : Int) + (g : Nat) = ((6 * j + g : Nat) : Int) by omega]
          have allf : ∀ i, i < 6 * j + g → i < N ∧ mfit_ (a 1) i = true := by
            intro i hi
            by_cases q : i < 6 * j
            · exact ⟨by omega, hfit i q⟩
            · have := okm_t (hpre (i - 6 * j) (by omega))
              rw [show 6 * j + (i - 6 * j) = i by omega] at this; exact this
          refine Hbad _ σ3 ?_ up3 h23
          by_cases q : 6 * j + g < N
          · refine mflt_at q (fun i hi => (allf i hi).2) ?_
            unfold okm_ at hbad
            rw [decide_eq_true q, Bool.true_and] at hbad
            exact hbad
          · have hNe : N = 6 * j + g := by
              rcases Nat.eq_zero_or_pos (6 * j + g) with z | z
              · omega
              · have := (allf (6 * j + g - 1) (by omega)).1; omega
            rw [← hNe]
            refine mflt_end (fun i hi => (allf i (by omega)).2) ?_
            omega
        · have up3 : Ke_ [2, 3, 4, 5] σ σ3 := hk.tr (k3.up (by decide))
          have h23 : σ3 2 0 = iI_ 0 := by rw [k3 2 (by decide)]; exact h2
          have hR3 : Rm_ a σ3 := hR.mk (Mk_.ke up3 (by decide))
          have e03 : σ3 0 ((iI_ 0).toNatClampNeg) = iI_ N := by show σ3 0 0 = _; rw [hR3.1 0 (by decide)]; exact eN
          have h4 := (okm_t (hok 4 (by omega))).1
          have allf : ∀ i, i < 6 * j + 5 → mfit_ (a 1) i = true := by
            intro i hi
            by_cases q : i < 6 * j
            · exact hfit i q
            · have := okm_t (hok (i - 6 * j) (by omega))
              rw [show 6 * j + (i - 6 * j) = i by omega] at this; exact this.2
          have hA3 : RdM_ a σ3 (j + 1) := by
            intro i hi
            by_cases q : i = j
            · subst q; exact ⟨w3, w4, w50, w51, w52⟩
            · have := hA i (by omega)
              rw [(q3 i (by omega)).1, (q3 i (by omega)).2, q5 _ (by omega), q5 _ (by omega), q5 _ (by omega)]
              exact this
          have e5 : iI_ (6 * j : Nat) + iI_ 5 = iI_ (6 * j + 5 : Nat) := by rw [iI_add]; congr 1
          refine bX10_readsMembers_39 u σ3 _ _ _ (cs_ (fun _ => ?_) (fun c => absurd (by decide) c))
          rw [e5, e03, iI_eq (by omega) (by omega)]
          refine ⟨fun c => m_byteAt u a σ3 hR3 (t := 0) (by decide) hN eN (k := 6 * j + 5) (by omega) rfl rfl ⟨fun c2 => ?_, fun c2 => ?_⟩, fun c => ?_⟩
          · rw [okm_mb, if_pos (by omega)] at c2
            rw [iI_succ, iI_succ, show 6 * j + 5 + 1 = 6 * (j + 1) by omega]
            refine ih (j + 1) σ3 (by omega) (by omega) (fun i hi => ?_) up3 h23 hA3
            by_cases q : i = 6 * j + 5
            · rw [q]; exact (fit5 (by omega)).mpr c2
            · exact allf i (by omega)
          · rw [okm_mb, if_pos (by omega)] at c2
            refine Hbad _ σ3 (mflt_at (by omega) allf ?_) up3 h23
            rw [Bool.eq_false_iff]
            intro hf
            exact c2 ((fit5 (by omega)).mp hf)
          · rintro σ6 e6
            have hNe : N = 6 * j + 5 := by omega
            have hf : mflt_ (a 1) N = -1 := mflt_ok (fun i hi => allf i (by omega)) (by omega)
            have hc : mcnt_ (a 1) N = j + 1 := by rw [mcnt_, if_pos hf]; omega
            have := H σ6 (by rw [e6]; exact up3.su (by decide)) (by rw [e6, su_same, hc, iI_succ]) (by
              rw [hc]
              intro i hi
              have := hA3 i hi
              rw [e6, su_i _ _ _ (by decide), su_i _ _ _ (by decide), su_i _ _ _ (by decide)]
              exact this)
            rw [hf] at this; exact this
      refine bX10_readsMembers_9 u τ _ _ ?_
      rw [e0, iI_lt (by omega) (by omega), iI_le (by omega) (by omega)]
      have n8 : ¬ iI_ j = iI_ 8 := by rw [iI_eq (by omega) (by omega)]; omega
      refine cs_ (fun c => ⟨fun _ => member (by omega), fun q => absurd q n8⟩) (fun c => cs_ (fun c2 => ?_) (fun c2 => ⟨fun _ => member (by omega), fun q => absurd q n8⟩))
      have hN0 : N = 0 := by omega
      have hf : mflt_ (a 1) N = -1 := mflt_ok (fun i hi => by omega) (Or.inl hN0)
      have hc : mcnt_ (a 1) N = 0 := by rw [mcnt_, if_pos hf]; omega
      have := H τ hk (by rw [hc]; exact h2) (by rw [hc]; intro i hi; omega)
      rw [hf] at this; exact this
  exact key 8 0 σ1 (by omega) (by omega) (fun i hi => by omega) (by rw [e1]; exact Ke_.rf.su (by decide)) (by rw [e1, su_same]) (fun i hi => by omega)
theorem ofit0 {f : Nat → Int32} {i : Nat} (h : i % 3 = 0) : ofit_ f i = true ↔ let_ (f i) = true := by
  unfold ofit_; rw [if_pos h]
theorem ofit1 {f : Nat → Int32} {i : Nat} (h : i % 3 = 1) : ofit_ f i = true ↔ let_ (f i) = true ∧ ¬ f i = f (i - 1) := by
  unfold ofit_; rw [if_neg (by omega), if_pos h]; simp
theorem ofit2 {f : Nat → Int32} {i : Nat} (h : i % 3 = 2) : ofit_ f i = true ↔ f i = iI_ 49 ∨ f i = iI_ 50 := by
  unfold ofit_; rw [if_neg (by omega), if_neg (by omega)]; simp
def RdO_ (a σ : St_) (n : Nat) : Prop := ∀ j, j < n → σ 7 j = a 2 (3 * j) - iI_ 97 ∧ σ 8 j = a 2 (3 * j + 1) - iI_ 97 ∧ σ 9 j = a 2 (3 * j + 2) - iI_ 48
theorem ml_let {b : Int32} (h : let_ b = true) : ml_ b = b - iI_ 97 := by rw [ml_, if_pos h]
theorem ml_inj {b c : Int32} (hb : let_ b = true) (hc : let_ c = true) : ml_ b = ml_ c ↔ b = c := by
  obtain ⟨l1, h1, e1, v1⟩ := ml_nat hb
  obtain ⟨l2, h2, e2, v2⟩ := ml_nat hc
  rw [e1, e2, iI_eq (by omega) (by omega)]
  constructor
  · intro e; exact Int32.toInt_inj.mp (by omega)
  · intro e; rw [e] at v1; omega
theorem m_readsMotions (u : Ux_) {P : Int32 → St_ → Prop} (a σ : St_) (hR : Rm_ a σ) {N : Nat} (hN : N ≤ 30) (eN : a 0 1 = iI_ N) (hB : ∀ i, i < N → 0 ≤ (a 2 i).toInt ∧ (a 2 i).toInt < 256)
    (H : ∀ σ', Ke_ [6, 7, 8, 9] σ σ' → σ' 6 0 = iI_ (ocnt_ (a 2) N) → RdO_ a σ' (ocnt_ (a 2) N) → P (iI_ (oflt_ (a 2) N)) σ') : MMi_ (zm_ u) mX10_readsMotions [.ref (uq_ u 0)] σ P := by
  refine eX10_readsMotions u σ ?_
  rintro σ1 e1
  have Hbad : ∀ (k : Nat) (τ : St_), oflt_ (a 2) N = (k : Int) → Ke_ [6, 7, 8, 9] σ τ → τ 6 0 = iI_ 0 → P (iI_ k) τ := by
    intro k τ hf hk h2
    have hc : ocnt_ (a 2) N = 0 := by rw [ocnt_, if_neg (by omega)]
    have := H τ hk (by rw [hc]; exact h2) (fun j hj => by omega)
    rw [hf] at this; exact this
  have mbv : ∀ k, mb_ a 1 N k = if k < N then a 2 k else iI_ (-1) := fun k => rfl
  have key : ∀ (d j : Nat) (τ : St_), j + d = 11 → 3 * j ≤ N → (∀ i, i < 3 * j → ofit_ (a 2) i = true) → Ke_ [6, 7, 8, 9] σ τ → τ 6 0 = iI_ 0 → RdO_ a τ j → GG_ (zm_ u) mX10_readsMotions (Pi_ P) 7 [(0, .ref (uq_ u 0)), (1, .int (iI_ j))] [] τ := by
    intro d
    induction d with
    | zero => intro j τ hj hl; omega
    | succ d ih =>
      intro j τ hj hl hfit hk h6 hA
      have hRt : Rm_ a τ := hR.mk (Mk_.ke hk (by decide))
      have e0 : τ 0 ((iI_ 1).toNatClampNeg) = iI_ N := by show τ 0 1 = _; rw [hRt.1 1 (by decide)]; exact eN
      have x0 : iI_ 3 * iI_ j = iI_ (3 * j : Nat) := by rw [iI_mul]; congr 1
      have x1 : iI_ (3 * j : Nat) + iI_ 1 = iI_ (3 * j + 1 : Nat) := by rw [iI_add]; congr 1
      have x2 : iI_ (3 * j : Nat) + iI_ 2 = iI_ (3 * j + 2 : Nat) := by rw [iI_add]; congr 1
      refine bX10_readsMotions_7 u τ _ ?_
      rw [e0, x0, x1, x2, iI_le (by omega) (by omega)]
      refine cs_ (fun c => ?_) (fun c => ?_)
      · rintro σ2 e2
        have hNe : N = 3 * j := by omega
        have hf : oflt_ (a 2) N = -1 := oflt_ok (fun i hi => hfit i (by omega)) (by omega)
        have hc : ocnt_ (a 2) N = j := by rw [ocnt_, if_pos hf]; omega
        have := H σ2 (by rw [e2]; exact hk.su (by decide)) (by rw [e2, su_same, hc]) (by
          rw [hc]
          intro i hi
          have := hA i hi
          rw [e2, su_i _ _ _ (by decide), su_i _ _ _ (by decide), su_i _ _ _ (by decide)]
          exact this)
        rw [hf] at this; exact this
      · have hq0 : 3 * j < N := by omega
        refine m_letterAt u a τ hRt (t := 1) (by decide) (by omega) eN hB (k := 3 * j) (by omega) rfl rfl (m_letterAt u a τ hRt (t := 1) (by decide) (by omega) eN hB (k := 3 * j + 1) (by omega) rfl rfl (m_byteAt u a τ hRt (t := 1) (by decide) (by omega) eN (k := 3 * j + 2) (by omega) rfl rfl ?_))
        have b0 : mb_ a 1 N (3 * j) = a 2 (3 * j) := by rw [mbv, if_pos hq0]
        rw [b0]
        -- the place of the fault
        have at_ : ∀ g, g < 3 → (∀ i, i < g → 3 * j + i < N ∧ ofit_ (a 2) (3 * j + i) = true) → (3 * j + g < N → ofit_ (a 2) (3 * j + g) = false) → P (iI_ (3 * j + g : Nat)) τ := by
          intro g hg hpre hb
          have allf : ∀ i, i < 3 * j + g → i < N ∧ ofit_ (a 2) i = true := by
            intro i hi
            by_cases q : i < 3 * j
            · exact ⟨by omega, hfit i q⟩
            · have := hpre (i - 3 * j) (by omega)
              rw [show 3 * j + (i - 3 * j) = i by omega] at this; exact this
          refine Hbad _ τ ?_ hk h6
          by_cases q : 3 * j + g < N
          · exact oflt_at q (fun i hi => (allf i hi).2) (hb q)
          · have hNe : N = 3 * j + g := by
              rcases Nat.eq_zero_or_pos g with z | z
              · omega
              · have := (allf (3 * j + g - 1) (by omega)).1; omega
            rw [← hNe]
            exact oflt_end (fun i hi => (allf i (by omega)).2) (by omega)
        refine ⟨fun c1 => ?_, fun c1 => ?_⟩
        · have l0 : let_ (a 2 (3 * j)) = true := by
            cases h : let_ (a 2 (3 * j))
            · exact absurd (ml_m1.mpr h) c1
            · rfl
          have p0 : ∀ i, i < 1 → 3 * j + i < N ∧ ofit_ (a 2) (3 * j + i) = true := fun i hi => by
            rw [show 3 * j + i = 3 * j by omega]; exact ⟨hq0, (ofit0 (by omega)).mpr l0⟩
          refine cs_ (fun c2 => at_ 1 (by omega) p0 (fun q => ?_)) (fun c2 => ⟨fun c3 => ?_, fun c3 => at_ 1 (by omega) p0 (fun q => ?_)⟩)
          · rw [mbv, if_pos q, ml_m1] at c2
            rw [Bool.eq_false_iff]
            intro hf
            rw [ofit1 (by omega), c2] at hf; cases hf.1
          · have hq1 : 3 * j + 1 < N := by
              rcases Nat.lt_or_ge (3 * j + 1) N with q | q
              · exact q
              · exact absurd (by rw [mbv, if_neg (by omega)]; decide) c2
            rw [mbv, if_pos hq1] at c2 c3
            have l1 : let_ (a 2 (3 * j + 1)) = true := by
              cases h : let_ (a 2 (3 * j + 1))
              · exact absurd (ml_m1.mpr h) c2
              · rfl
            rw [ml_inj l1 l0] at c3
            have p1 : ∀ i, i < 2 → 3 * j + i < N ∧ ofit_ (a 2) (3 * j + i) = true := fun i hi => by
              rcases (show i = 0 ∨ i = 1 by omega) with rfl | rfl
              · exact p0 0 (by omega)
              · exact ⟨hq1, (ofit1 (by omega)).mpr ⟨l1, by rw [show 3 * j + 1 - 1 = 3 * j by omega]; exact c3⟩⟩
            have hbd := mb_bd (a := a) (t := 1) (N := N) (k := 3 * j + 2) hB
            have hin : ini_ (mb_ a 1 N (3 * j + 2) - iI_ 48) (iI_ 1) (iI_ 2) = true ↔ 49 ≤ (mb_ a 1 N (3 * j + 2)).toInt ∧ (mb_ a 1 N (3 * j + 2)).toInt ≤ 50 := by
              rw [ini_t, sub_iI, t_1, t_2, iI_toInt (by omega)]; omega
            have h49 : ∀ b : Int32, (49 ≤ b.toInt ∧ b.toInt ≤ 50) ↔ (b = iI_ 49 ∨ b = iI_ 50) := by
              intro b
              constructor
              · intro h
                rcases (show b.toInt = 49 ∨ b.toInt = 50 by omega) with q | q
                · exact Or.inl (Int32.toInt_inj.mp (by rw [q]; decide))
                · exact Or.inr (Int32.toInt_inj.mp (by rw [q]; decide))
              · rintro (h | h) <;> subst h <;> decide
            refine m_in u τ _ _ _ (nxn (fun h => at_ 2 (by omega) p1 (fun q => ?_)) (fun h => ⟨(iI_in (by omega)).mpr (by omega), ?_⟩))
            · rw [Bool.eq_false_iff]
              intro hf
              rw [ofit2 (by omega), ← h49] at hf
              rw [hin.mpr (by rw [mbv, if_pos q]; exact hf)] at h; cases h
            · have h2 := hin.mp h
              have hq2 : 3 * j + 2 < N := by
                rcases Nat.lt_or_ge (3 * j + 2) N with q | q
                · exact q
                · rw [mbv, if_neg (by omega)] at h2; exact absurd h2 (by decide)
              rw [mbv, if_pos hq2] at h2
              rintro σ15 e15
              refine ⟨(iI_in (by omega)).mpr (by omega), ?_⟩
              rintro σ17 e17
              refine ⟨(iI_in (by omega)).mpr (by omega), ?_⟩
              rintro σ19 e19
              rw [iI_ix (by omega)] at e15 e17 e19
              rw [iI_succ]
              refine ih (j + 1) σ19 (by omega) (by omega) (fun i hi => ?_) (by rw [e19, e17, e15]; exact ((hk.su (by decide)).su (by decide)).su (by decide)) (by rw [e19, su_i _ _ _ (by decide), e17, su_i _ _ _ (by decide), e15, su_i _ _ _ (by decide)]; exact h6) (fun i hi => ?_)
              · by_cases q : i < 3 * j
                · exact hfit i q
                · by_cases q2 : i = 3 * j + 2
                  · rw [q2]; exact (ofit2 (by omega)).mpr ((h49 _).mp h2)
                  · have := (p1 (i - 3 * j) (by omega)).2
                    rw [show 3 * j + (i - 3 * j) = i by omega] at this; exact this
              · by_cases q : i = j
                · subst q
                  refine ⟨?_, ?_, ?_⟩
                  · rw [e19, su_i _ _ _ (by decide), e17, su_i _ _ _ (by decide), e15, su_same, ml_let l0]
                  · rw [e19, su_i _ _ _ (by decide), e17, su_same, mbv, if_pos hq1, ml_let l1]
                  · rw [e19, su_same, mbv, if_pos hq2]
                · have := hA i (by omega)
                  refine ⟨?_, ?_, ?_⟩
                  · rw [e19, su_i _ _ _ (by decide), e17, su_i _ _ _ (by decide), e15, su_j _ _ _ q]; exact this.1
                  · rw [e19, su_i _ _ _ (by decide), e17, su_j _ _ _ q, e15, su_i _ _ _ (by decide)]; exact this.2.1
                  · rw [e19, su_j _ _ _ q, e17, su_i _ _ _ (by decide), e15, su_i _ _ _ (by decide)]; exact this.2.2
          · have hq1 : 3 * j + 1 < N := q
            rw [mbv, if_pos hq1] at c2 c3
            have l1 : let_ (a 2 (3 * j + 1)) = true := by
              cases h : let_ (a 2 (3 * j + 1))
              · exact absurd (ml_m1.mpr h) c2
              · rfl
            rw [ml_inj l1 l0] at c3
            rw [Bool.eq_false_iff]
            intro hf
            rw [ofit1 (by omega), show 3 * j + 1 - 1 = 3 * j by omega] at hf
            exact hf.2 c3
        · rw [ml_m1] at c1
          refine at_ 0 (by omega) (fun i hi => by omega) (fun q => ?_)
          rw [Bool.eq_false_iff]
          intro hf
          rw [show 3 * j + 0 = 3 * j by omega, ofit0 (by omega), c1] at hf; cases hf
  exact key 11 0 σ1 (by omega) (by omega) (fun i hi => by omega) (by rw [e1]; exact Ke_.rf.su (by decide)) (by rw [e1, su_same]) (fun i hi => by omega)
/-! both -/
def Rd_ (a σ : St_) (n mn : Nat) : Prop := σ 2 0 = iI_ n ∧ σ 6 0 = iI_ mn ∧ (∀ j, j < n → σ 3 j = a 5 j ∧ σ 4 j = a 6 j ∧ ∀ i, i < 3 → σ 5 (3 * j + i) = tW_ (3 * (a 7 j).toInt.toNat + i)) ∧ ∀ j, j < mn → σ 7 j = a 11 j ∧ σ 8 j = a 12 j ∧ σ 9 j = a 13 j
theorem m_faultOf (u : Ux_) {P : Int32 → St_ → Prop} (a σ : St_) {n mn nf nj : Nat} (hV : Vx_ a n mn nf nj) (hW : Wt_ a) (hR : Rm_ a σ) (t : Int32) (H : ∀ σ', Ke_ [2, 3, 4, 5, 6, 7, 8, 9] σ σ' → Rd_ a σ' n mn → P (if t = iI_ 0 then a 4 0 else a 10 0) σ') : MMi_ (zm_ u) mX10_faultOf [.ref (uq_ u 0), .int t] σ P := by
  obtain ⟨n0, n1, l0, l1, e0, e1, b0, b1, f4, f3, hm, f10, f9, ho⟩ := hW
  have h8 := hV.1.1
  have h10 := hV.2.1.1
  have hcm : mcnt_ (a 1) n0 ≤ 8 := by unfold mcnt_; split <;> omega
  have hco : ocnt_ (a 2) n1 ≤ 10 := by unfold ocnt_; split <;> omega
  have en : mcnt_ (a 1) n0 = n := by
    have := f3.symm.trans hV.1.2.1
    rw [iI_eq (by omega) (by omega)] at this; omega
  have emn : ocnt_ (a 2) n1 = mn := by
    have := f9.symm.trans hV.2.1.2.1
    rw [iI_eq (by omega) (by omega)] at this; omega
  refine eX10_faultOf u σ t (m_readsMembers u a σ hR l0 e0 b0 (fun σ1 k1 c1 r1 => m_readsMotions u a σ1 (hR.mk (Mk_.ke k1 (by decide))) l1 e1 b1 (fun σ2 k2 c2 r2 => ?_)))
  have hk : Ke_ [2, 3, 4, 5, 6, 7, 8, 9] σ σ2 := (k1.up (by decide)).tr (k2.up (by decide))
  have hRd : Rd_ a σ2 n mn := by
    refine ⟨by rw [k2 2 (by decide), c1, en], by rw [c2, emn], fun j hj => ?_, fun j hj => ?_⟩
    · rw [en] at hm r1
      obtain ⟨q3, q4, w0, w1, w2⟩ := r1 j hj
      obtain ⟨p5, p6, p7⟩ := hm j hj
      rw [k2 3 (by decide), k2 4 (by decide), k2 5 (by decide), q3, q4, p5, p6]
      refine ⟨rfl, rfl, ?_⟩
      have hf : mflt_ (a 1) n0 = -1 := by
        unfold mcnt_ at en
        split at en
        · assumption
        · omega
      obtain ⟨z0, z1, z2, z3, z4, z5, z6, z7, z8⟩ := mem_facts hf l0 (j := j) (by rw [mcnt_, if_pos hf] at en; omega)
      obtain ⟨x0, hx0, ex0, vx0⟩ := ml_nat (let_t.mpr z3)
      obtain ⟨x1, hx1, ex1, vx1⟩ := ml_nat (let_t.mpr z4)
      obtain ⟨x2, hx2, ex2, vx2⟩ := ml_nat (let_t.mpr z5)
      have d01 : x0 ≠ x1 := fun e => z6 (Int32.toInt_inj.mp (by omega))
      have d12 : x1 ≠ x2 := fun e => z7 (Int32.toInt_inj.mp (by omega))
      have d02 : x0 ≠ x2 := fun e => z8 (Int32.toInt_inj.mp (by omega))
      have eo : (a 7 j).toInt.toNat = 2 * x0 + (if x1 ≤ x2 then 0 else 1) := by
        rw [p7, od_, sub_iI, iI_mul]
        by_cases q : x1 ≤ x2
        · rw [if_pos (by rw [iI_leI]; omega), if_pos q, iI_add, iI_toInt (by omega)]; omega
        · rw [if_neg (by rw [iI_leI]; omega), if_neg q, iI_add, iI_toInt (by omega)]; omega
      have hT := od_W ⟨x0, hx0⟩ ⟨x1, hx1⟩ ⟨x2, hx2⟩ (fun e => d01 (Fin.mk.inj e)) (fun e => d02 (Fin.mk.inj e)) (fun e => d12 (Fin.mk.inj e))
      intro i hi
      rw [eo]
      rcases (show i = 0 ∨ i = 1 ∨ i = 2 by omega) with rfl | rfl | rfl
      · rw [show 3 * j + 0 = 3 * j by omega, w0, ex0]; exact hT.1.symm
      · rw [w1, ex1]; exact hT.2.1.symm
      · rw [w2, ex2]; exact hT.2.2.symm
    · rw [emn] at ho r2
      obtain ⟨q7, q8, q9⟩ := r2 j hj
      obtain ⟨p11, p12, p13⟩ := ho j hj
      rw [q7, q8, q9, p11, p12, p13]
      exact ⟨rfl, rfl, rfl⟩
  have := H σ2 hk hRd
  refine ⟨fun c => ?_, fun c => ?_⟩
  · rw [if_neg c, f10] at this; exact this
  · rw [if_pos c, f4] at this; exact this
theorem m_reads (u : Ux_) {P : St_ → Prop} (a σ : St_) {n mn nf nj : Nat} (hV : Vx_ a n mn nf nj) (hW : Wt_ a) (hR : Rm_ a σ) (H : ∀ σ', Ke_ [2, 3, 4, 5, 6, 7, 8, 9] σ σ' → Rd_ a σ' n mn → P σ') : MMv_ (zm_ u) mX10_reads [.ref (uq_ u 0)] σ P :=
  eX10_reads u σ (m_faultOf u a σ hV hW hR _ (fun σ' h1 h2 => H σ' h1 h2))
