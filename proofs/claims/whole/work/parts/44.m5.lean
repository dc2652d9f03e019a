/-! ===== the reference: fault, member, motion, read, sheets, count ===== -/
theorem ini_n (v : Int32) {n : Nat} (hn : n < 1000) : ini_ v (iI_ 0) (iI_ n - iI_ 1) = inr_ v (iI_ n) := by
  unfold ini_ inr_
  rw [iI_sub, t_0, iI_toInt (by omega), iI_toInt (by omega)]
  congr 1
  simp only [eq_iff_iff]
  omega
theorem m_fault (u : Ux_) {P : Int32 → St_ → Prop} (a σ : St_) {n mn nf nj : Nat} (hV : Vx_ a n mn nf nj) (hW : Wt_ a) (hR : Rm_ a σ) (t : Int32) (H : ∀ σ', Mk_ σ σ' → P (q_fault a t) σ') : MMi_ (zm_ u) mX10_fault [.ref (uq_ u 0), .int t] σ P := by
  refine eX10_fault u σ t (m_isText u σ _ (nxb (fun h => ?_) (fun h => m_faultOf u a σ hV hW hR _ (fun σ' k r => ?_))))
  · simp [q_fault, h] at H; exact H σ Mk_.rf
  · have := H σ' (Mk_.ke k (by decide))
    rw [q_fault, if_pos h] at this; exact this
theorem m_isMember (u : Ux_) {P : Int32 → St_ → Prop} (a σ : St_) {n mn nf nj : Nat} (hV : Vx_ a n mn nf nj) (hW : Wt_ a) (hR : Rm_ a σ) (v : Int32) (H : ∀ σ', Ke_ [2, 3, 4, 5, 6, 7, 8, 9] σ σ' → Rd_ a σ' n mn → P (bi_ (inr_ v (a 3 0))) σ') : MMi_ (zm_ u) mX10_isMember [.ref (uq_ u 0), .int v] σ P := by
  have h8 := hV.1.1
  refine eX10_isMember u σ v (m_reads u a σ hV hW hR (fun σ1 k1 r1 => m_in u σ1 _ _ _ ⟨bi_01 _, ?_⟩))
  rw [r1.1, ini_n v (by omega), ← hV.1.2.1]
  exact H σ1 k1 r1
theorem m_memberOf (u : Ux_) {P : Int32 → St_ → Prop} (a σ : St_) {n mn : Nat} (hr : Wr_ a n) (hd : Rd_ a σ n mn) (m w : Int32) (hm : inr_ m (a 3 0) = true) (hw : inr_ w (iI_ 5) = true) (H : P (q_member a m w) σ) : MMi_ (zm_ u) mX10_memberOf [.ref (uq_ u 0), .int m, .int w] σ P := by
  obtain ⟨h8, e3, hA⟩ := hr
  rw [q_member, if_pos ⟨hm, hw⟩] at H
  rw [e3] at hm
  obtain ⟨x, hx, rfl⟩ := inr_nat hm (by omega)
  obtain ⟨y, hy, rfl⟩ := inr_nat hw (by decide)
  obtain ⟨d3, d4, d5⟩ := hd.2.2.1 x (by omega)
  have o := (hA x (by omega)).2.2
  rw [iI_ix (by omega)] at H
  refine eX10_memberOf u σ _ _ ⟨fun c => ⟨fun c2 => ?_, fun c2 => ?_⟩, fun c => ?_⟩
  · rw [if_neg c, if_neg c2, iI_sub] at H
    rw [iI_eq (by omega) (by omega)] at c c2
    have ew : wan_ (a 7 x) (iI_ ((y : Int) - 2)) = tW_ (3 * (a 7 x).toInt.toNat + (y - 2)) := by
      rw [wan_, if_pos ⟨inr_t.mpr (by rw [t_6]; exact o), inr_t.mpr (by rw [t_3, iI_toInt (by omega)]; omega)⟩, iI_toInt (by omega), show ((y : Int) - 2).toNat = y - 2 by omega]
    rw [ew] at H
    rw [iI_mul, iI_add, iI_sub, show ((3 : Int) * (x : Nat) + (y : Nat) - 2) = ((3 * x + (y - 2) : Nat) : Int) by omega, iI_ix (by omega)]
    exact ⟨(iI_in (by omega)).mpr (by omega), by rw [d5 (y - 2) (by omega)]; exact H⟩
  · rw [if_neg c, if_pos c2] at H
    rw [iI_ix (by omega), d4]
    exact ⟨(iI_in (by omega)).mpr (by omega), H⟩
  · rw [if_pos c] at H
    rw [iI_ix (by omega), d3]
    exact ⟨(iI_in (by omega)).mpr (by omega), H⟩
theorem m_member (u : Ux_) {P : Int32 → St_ → Prop} (a σ : St_) {n mn nf nj : Nat} (hV : Vx_ a n mn nf nj) (hW : Wt_ a) (hR : Rm_ a σ) (m w : Int32) (H : ∀ σ', Mk_ σ σ' → P (q_member a m w) σ') : MMi_ (zm_ u) mX10_member [.ref (uq_ u 0), .int m, .int w] σ P := by
  refine eX10_member u σ m w (m_isMember u a σ hV hW hR m (fun σ1 k1 r1 => nxb (fun h => ?_) (fun h => m_in u σ1 _ _ _ ?_)))
  · have := H σ1 (Mk_.ke k1 (by decide))
    rw [q_member, if_neg (by simp [h])] at this; exact this
  · rw [ini_inr w 4 (by decide)]
    simp only [show (4 : Int) + 1 = 5 from rfl]
    refine nxb (fun h2 => ?_) (fun h2 => m_memberOf u a σ1 hV.1 r1 m w h h2 (H σ1 (Mk_.ke k1 (by decide))))
    have := H σ1 (Mk_.ke k1 (by decide))
    rw [q_member, if_neg (by simp [h2])] at this; exact this
theorem m_motionOf (u : Ux_) {P : Int32 → St_ → Prop} (a σ : St_) {n mn nf nj : Nat} (hV : Vx_ a n mn nf nj) (hW : Wt_ a) (hR : Rm_ a σ) (t w : Int32) (ht : inr_ t (iI_ 10) = true) (hw : inr_ w (iI_ 3) = true) (H : ∀ σ', Ke_ [2, 3, 4, 5, 6, 7, 8, 9] σ σ' → Rd_ a σ' n mn → P (q_motion a t w) σ') : MMi_ (zm_ u) mX10_motionOf [.ref (uq_ u 0), .int t, .int w] σ P := by
  refine eX10_motionOf u σ t w (m_reads u a σ hV hW hR (fun σ1 k1 r1 => ?_))
  have H := H σ1 k1 r1
  rw [q_motion, if_pos ⟨ht, hw⟩, hV.2.1.2.1] at H
  rw [r1.2.1]
  have h10 := hV.2.1.1
  refine ⟨fun c => ?_, fun c => ?_⟩
  · rw [if_pos c] at H
    obtain ⟨x, hx, rfl⟩ := inr_nat ht (by decide)
    rw [iI_lt (by omega) (by omega)] at c
    obtain ⟨d7, d8, d9⟩ := r1.2.2.2 x (by omega)
    have hin : vp_in (iI_ x) 11 := (iI_in (by omega)).mpr (by omega)
    rw [iI_ix (by omega)] at H ⊢
    rw [d7, d8, d9]
    refine ⟨fun c => ⟨fun c2 => ⟨hin, ?_⟩, fun c2 => ⟨hin, ?_⟩⟩, fun c => ⟨hin, ?_⟩⟩
    · rw [if_neg c, if_neg c2] at H; exact H
    · rw [if_neg c, if_pos c2] at H; exact H
    · rw [if_pos c] at H; exact H
  · rw [if_neg c] at H; exact H
theorem m_motion (u : Ux_) {P : Int32 → St_ → Prop} (a σ : St_) {n mn nf nj : Nat} (hV : Vx_ a n mn nf nj) (hW : Wt_ a) (hR : Rm_ a σ) (t w : Int32) (H : ∀ σ', Mk_ σ σ' → P (q_motion a t w) σ') : MMi_ (zm_ u) mX10_motion [.ref (uq_ u 0), .int t, .int w] σ P := by
  refine eX10_motion u σ t w (m_isNight u σ _ (nxb (fun h => ?_) (fun h => m_in u σ _ _ _ ?_)))
  · have := H σ Mk_.rf
    rw [q_motion, if_neg (by simp [h])] at this; exact this
  · rw [ini_inr w 2 (by decide)]
    simp only [show (2 : Int) + 1 = 3 from rfl]
    refine nxb (fun h2 => ?_) (fun h2 => m_motionOf u a σ hV hW hR t w h h2 (fun σ1 k1 _ => H σ1 (Mk_.ke k1 (by decide))))
    have := H σ Mk_.rf
    rw [q_motion, if_neg (by simp [h2])] at this; exact this
/-! sheets -/
theorem m_isSheet (u : Ux_) {P : Int32 → St_ → Prop} (σ : St_) (v : Int32) (H : P (bi_ (inr_ v (iI_ 4))) σ) : MMi_ (zm_ u) mX10_isSheet [.int v] σ P :=
  eX10_isSheet u σ v (m_in u σ _ _ _ ⟨bi_01 _, by rw [ini_inr v 3 (by decide)]; exact H⟩)
theorem Rm_.find {a σ : St_} (hR : Rm_ a σ) (x : Int32) : Rm_ (su_ a 38 0 x) (su_ σ 43 0 x) := by
  refine hR.upd 6 (fun k _ hk => su_i _ _ _ (nX hk rfl)) (fun k _ hk => su_i _ _ _ (nM hk rfl)) ?_ (by decide)
  show su_ σ 43 0 x 43 0 = su_ a 38 0 x 38 0
  rw [su_same, su_same]
theorem m_meets (u : Ux_) {P : Int32 → St_ → Prop} (a σ : St_) (hR : Rm_ a σ) (x : Int32) (H : ∀ σ', Rm_ (fd_ a x).2 σ' → P (fd_ a x).1 σ') : MMi_ (zm_ u) mX10_meets [.ref (uq_ u 0), .int x] σ P :=
  eX10_meets u σ x (fun σ1 e => by rw [e]; exact H _ (hR.find x))
theorem Rm_.isT {a σ : St_} (hR : Rm_ a σ) {s : Nat} (hs : s < 4) : σ 38 s = bi_ (!decide (a 39 s = iI_ (-1))) := hR.2.2.2.2.2.2.2.2.2.1 s hs
theorem Rm_.sh {a σ : St_} (hR : Rm_ a σ) {s : Nat} (hs : s < 4) (h : ¬ a 39 s = iI_ (-1)) : σ 39 s = a 39 s ∧ σ 40 s = a 40 s ∧ ∀ i, i < 60 → σ 41 (60 * s + i) = a (41 + s) i := hR.2.2.2.2.2.2.2.2.2.2.1 s hs h
/-- what stands there or not -/
theorem thr_ {c : Prop} [Decidable c] {A B : Prop} (ht : ¬ c → A) (hf : c → B) : (¬ bi_ (!decide c) = iI_ 0 → A) ∧ (bi_ (!decide c) = iI_ 0 → B) := by
  by_cases h : c
  · exact ⟨fun q => absurd (by simp [h, bi_]) q, fun _ => hf h⟩
  · exact ⟨fun _ => ht h, fun q => absurd q (by simp [h, bi_]; decide)⟩
theorem m_read (u : Ux_) {P : Int32 → St_ → Prop} (a σ : St_) (hl : Wl_ a) (hs : Ws_ a) (hR : Rm_ a σ) (s : Int32) (H : ∀ σ', Rm_ (c_read a s).2 σ' → P (c_read a s).1 σ') : MMi_ (zm_ u) mX10_read [.ref (uq_ u 0), .int s] σ P := by
  refine eX10_read u σ s (m_isSheet u σ _ (nxn (fun h => ?_) (fun h => ?_)))
  · simp [c_read, h] at H; exact H σ hR
  · simp only [c_read, h, if_true] at H
    obtain ⟨t, ht, rfl⟩ := inr_nat h (by decide)
    have ht4 : t < 4 := by omega
    have hin : vp_in (iI_ t) 4 := (iI_in (by omega)).mpr (by omega)
    rw [iI_ix (by omega)] at H ⊢
    rw [hR.isT ht4]
    refine ⟨hin, thr_ (fun c => ?_) (fun c => ?_)⟩
    · rw [if_neg c] at H
      have key : ∀ (d k : Nat) (b τ : St_), k + d = 21 → Wl_ b → Ws_ b → ¬ b 39 t = iI_ (-1) → Rm_ b τ → (∀ σ', Rm_ (rd_ t d k b).2 σ' → P (iI_ (rd_ t d k b).1) σ') → GG_ (zm_ u) mX10_read (Pi_ P) 27 [(0, .ref (uq_ u 0)), (1, .int (iI_ t)), (2, .int (iI_ k))] [] τ := by
        intro d
        induction d with
        | zero =>
          intro k b τ hk hl hs hc hR H
          have hz := (hs t ht4).2
          obtain ⟨e39, e40, e41⟩ := hR.sh ht4 hc
          refine bX10_read_27 u τ _ _ ⟨hin, ?_⟩
          rw [iI_ix (by omega), e40]
          refine cs_ (fun _ => H τ hR) (fun c => absurd ?_ c)
          rw [iI_mul, iI_add, iI_leI, iI_toInt (by omega)]
          omega
        | succ d ih =>
          intro k b τ hk hl hs hc hR H
          have hz := (hs t ht4).2
          obtain ⟨e39, e40, e41⟩ := hR.sh ht4 hc
          have x0 : iI_ 60 * iI_ t + iI_ 3 * iI_ k = iI_ (60 * t + 3 * k : Nat) := by rw [iI_mul, iI_mul, iI_add]; congr 1
          have x1 : iI_ (60 * t + 3 * k : Nat) + iI_ 1 = iI_ (60 * t + (3 * k + 1) : Nat) := by rw [iI_add]; rfl
          have x2 : iI_ (60 * t + 3 * k : Nat) + iI_ 2 = iI_ (60 * t + (3 * k + 2) : Nat) := by rw [iI_add]; rfl
          have x3 : iI_ 3 * iI_ k + iI_ 2 = iI_ (3 * k + 2 : Nat) := by rw [iI_mul, iI_add]; congr 1
          unfold rd_ at H
          refine bX10_read_27 u τ _ _ ⟨hin, ?_⟩
          rw [iI_ix (by omega), e40, x0, x1, x2, x3]
          refine cs_ (fun c2 => ?_) (fun c2 => ?_) <;> rw [iI_leI, iI_toInt (by omega)] at c2
          · rw [if_neg (by omega)] at H; exact H τ hR
          · rw [iI_ix (by omega), iI_ix (by omega), iI_ix (by omega), e41 _ (by omega), e41 _ (by omega), e41 _ (by omega)]
            refine ⟨(iI_in (by omega)).mpr (by omega), (iI_in (by omega)).mpr (by omega), (iI_in (by omega)).mpr (by omega), m_fold u b τ hR hl _ _ _ (fun σ' hR' _ => ?_)⟩
            have hl' := hl
            obtain ⟨kf, hkf, ekf, -⟩ := hl'
            by_cases h3 : isF_ (b (41 + t) (3 * k)) (b (41 + t) (3 * k + 1)) (b (41 + t) (3 * k + 2)) = true
            · rw [c_fold, if_pos h3] at hR' ⊢
              by_cases c3 : (b 14 0).toInt < 8
              · rw [if_pos c3] at hR' ⊢
                rw [if_pos ⟨by omega, h3, c3⟩] at H
                have hr : ¬ b 14 0 + iI_ 1 ≤ iI_ 0 := by
                  rw [ekf, iI_add, iI_le (by omega) (by omega)]; omega
                refine ⟨fun q => absurd q hr, fun _ => ?_⟩
                rw [iI_succ]
                refine ih (k + 1) _ σ' (by omega) (addF_wl hl h3 c3) (hs.of (fun j hj => ?_)) ?_ hR' H
                · rw [addF_, su_i _ _ _ (by omega), su_i _ _ _ (by omega), su_i _ _ _ (by omega), su_i _ _ _ (by omega)]
                · rw [addF_, su_i _ _ _ (by omega), su_i _ _ _ (by omega), su_i _ _ _ (by omega), su_i _ _ _ (by omega)]; exact hc
              · rw [if_neg c3] at hR' ⊢
                rw [if_neg (fun q => c3 q.2.2)] at H
                exact ⟨fun _ => H σ' hR', fun q => absurd (show iI_ (-4) ≤ iI_ 0 by decide) q⟩
            · rw [c_fold, if_neg h3] at hR' ⊢
              rw [if_neg (fun q => h3 q.2.1)] at H
              exact ⟨fun _ => H σ' hR', fun q => absurd (show iI_ (-2) ≤ iI_ 0 by decide) q⟩
      exact key 21 0 a σ (by omega) hl hs c hR H
    · rw [if_pos c] at H
      exact m_meets u a σ hR _ H
theorem rn_39 (a : St_) (t s : Nat) (f n : Int32) (hs : s < 4) : rn_ a t f n 39 s = if s = t then f else a 39 s := by
  unfold rn_; rw [sf_i _ _ (by omega), su_i _ _ _ (by decide), su_at]; simp
theorem rn_40 (a : St_) (t s : Nat) (f n : Int32) (hs : s < 4) : rn_ a t f n 40 s = if s = t then n else a 40 s := by
  unfold rn_; rw [sf_i _ _ (by omega), su_at]
  by_cases q : s = t
  · simp [q]
  · rw [if_neg (fun z => q z.2), if_neg q, su_i _ _ _ (by decide)]
theorem rn_41 (a : St_) (t s i : Nat) (f n : Int32) (hi : i < 60) : rn_ a t f n (41 + s) i = if s = t then iI_ 0 else a (41 + s) i := by
  unfold rn_
  by_cases q : s = t
  · subst q; rw [sf_same, if_pos rfl, if_pos hi]
  · rw [sf_i _ _ (by omega), if_neg q, su_i _ _ _ (by omega), su_i _ _ _ (by omega)]
theorem rn_o (a : St_) (t : Nat) (f n : Int32) (ht : t < 4) {k : Nat} (hk : gX_ k ≠ 5) : rn_ a t f n k = a k := by
  unfold rn_
  rw [sf_i _ _ (nX hk (gX41 ht)), su_i _ _ _ (nX hk rfl), su_i _ _ _ (nX hk rfl)]
theorem m_sheet (u : Ux_) {P : Int32 → St_ → Prop} (a σ : St_) (hR : Rm_ a σ) (s f n : Int32) (H : ∀ σ', Rm_ (c_sheet a s f n).2 σ' → P (c_sheet a s f n).1 σ') : MMi_ (zm_ u) mX10_sheet [.ref (uq_ u 0), .int s, .int f, .int n] σ P := by
  refine eX10_sheet u σ s f n (m_isSheet u σ _ (nxb (fun h => ?_) (fun h => m_in u σ _ _ _ ?_)))
  · simp [c_sheet, h] at H; exact H σ hR
  · rw [ini_inr f 2 (by decide)]
    simp only [show (2 : Int) + 1 = 3 from rfl]
    refine nxb (fun h2 => ?_) (fun h2 => cs_ (fun c => cs_ (fun c2 => ?_) (fun c2 => ?_)) (fun c => ?_))
    · simp [c_sheet, h2] at H; exact H σ hR
    · rw [iI_leI, show (iI_ 60).toInt = 60 by decide] at c
      rw [iI_leI, t_0] at c2
      simp only [c_sheet, h, h2, c, c2, and_self, if_true] at H
      obtain ⟨t, ht, rfl⟩ := inr_nat h (by decide)
      have ht4 : t < 4 := by omega
      have hin : vp_in (iI_ t) 4 := (iI_in (by omega)).mpr (by omega)
      rw [iI_ix (by omega)] at H ⊢
      have hf : ¬ f = iI_ (-1) := by
        intro e; rw [e] at h2; exact absurd h2 (by decide)
      refine ⟨hin, fun σ9 e9 => ⟨hin, fun σ11 e11 => ⟨hin, fun σ13 e13 => ?_⟩⟩⟩
      have key : ∀ (d i : Nat) (τ : St_), i + d = 60 → Ke_ [41] σ13 τ → (∀ j, τ 41 j = if 60 * t ≤ j ∧ j < 60 * t + i then iI_ 0 else σ 41 j) → GG_ (zm_ u) mX10_sheet (Pi_ P) 59 [(0, .ref (uq_ u 0)), (1, .int (iI_ t)), (3, .int n), (4, .int (iI_ i))] [] τ := by
        intro d
        induction d with
        | zero =>
          intro i τ hi hk hj
          have : i = 60 := by omega
          subst this
          refine bX10_sheet_59 u τ _ _ _ (cs_ (fun _ => H τ ?_) (fun q => absurd (by decide) q))
          have e38 : ∀ s, τ 38 s = if s = t then iI_ 1 else σ 38 s := fun s => by
            rw [hk 38 (by decide), e13, su_i _ _ _ (by decide), e11, su_i _ _ _ (by decide), e9, su_at]; simp
          have e39 : ∀ s, τ 39 s = if s = t then f else σ 39 s := fun s => by
            rw [hk 39 (by decide), e13, su_i _ _ _ (by decide), e11, su_at, e9, su_i _ _ _ (by decide)]; simp
          have e40 : ∀ s, τ 40 s = if s = t then n else σ 40 s := fun s => by
            rw [hk 40 (by decide), e13, su_at, e11, su_i _ _ _ (by decide), e9, su_i _ _ _ (by decide)]; simp
          refine hR.upd 5 (fun k _ hk => rn_o a t f n ht4 hk) (fun k _ hk5 => ?_) ⟨fun s hs => ?_, fun s hs hn => ?_⟩ (by decide)
          · rw [hk k (fun q => nM hk5 (i := 41) rfl (by simpa using q)), e13, su_i _ _ _ (nM hk5 rfl), e11, su_i _ _ _ (nM hk5 rfl), e9, su_i _ _ _ (nM hk5 rfl)]
          · rw [e38, rn_39 a t s f n hs]
            by_cases q : s = t
            · rw [if_pos q, if_pos q]; simp [hf, bi_]
            · rw [if_neg q, if_neg q]; exact hR.isT hs
          · rw [rn_39 a t s f n hs] at hn ⊢
            rw [rn_40 a t s f n hs, e39, e40]
            by_cases q : s = t
            · rw [if_pos q, if_pos q, if_pos q, if_pos q]
              refine ⟨rfl, rfl, fun i hi => ?_⟩
              rw [hj, rn_41 a t s i f n hi, if_pos q, if_pos (by omega)]
            · rw [if_neg q] at hn
              rw [if_neg q, if_neg q, if_neg q, if_neg q]
              obtain ⟨q1, q2, q3⟩ := hR.sh hs hn
              refine ⟨q1, q2, fun i hi => ?_⟩
              rw [hj, rn_41 a t s i f n hi, if_neg q, if_neg (by omega)]
              exact q3 i hi
        | succ d ih =>
          intro i τ hi hk hj
          refine bX10_sheet_59 u τ _ _ _ (cs_ (fun q => absurd q (by rw [iI_le (by omega) (by omega)]; omega)) (fun _ => ?_))
          have x0 : iI_ 60 * iI_ t + iI_ i = iI_ (60 * t + i : Nat) := by rw [iI_mul, iI_add]; congr 1
          rw [x0, iI_ix (by omega), iI_succ]
          refine ⟨(iI_in (by omega)).mpr (by omega), fun σ2 e2 => ih (i + 1) σ2 (by omega) (by rw [e2]; exact hk.su (by decide)) (fun j => ?_)⟩
          rw [e2, su_at, hj]
          by_cases q : j = 60 * t + i
          · rw [if_pos ⟨rfl, q⟩, if_pos (by omega)]
          · rw [if_neg (fun z => q z.2)]
            by_cases q2 : 60 * t ≤ j ∧ j < 60 * t + i
            · rw [if_pos q2, if_pos (by omega)]
            · rw [if_neg q2, if_neg (by omega)]
      refine key 60 0 σ13 (by omega) Ke_.rf (fun j => ?_)
      rw [if_neg (by omega), e13, su_i _ _ _ (by decide), e11, su_i _ _ _ (by decide), e9, su_i _ _ _ (by decide)]
    · rw [iI_leI, show (iI_ 60).toInt = 60 by decide] at c
      rw [iI_leI, t_0] at c2
      simp only [c_sheet, h, h2, c, c2, and_self, if_true, if_false] at H
      exact m_meets u a σ hR _ H
    · rw [iI_leI, show (iI_ 60).toInt = 60 by decide] at c
      rw [c_sheet, if_neg (fun q => c q.2.2)] at H
      exact H σ hR
theorem m_lose (u : Ux_) {P : Int32 → St_ → Prop} (a σ : St_) (hR : Rm_ a σ) (s : Int32) (H : ∀ σ', Rm_ (c_lose a s).2 σ' → P (c_lose a s).1 σ') : MMi_ (zm_ u) mX10_lose [.ref (uq_ u 0), .int s] σ P := by
  refine eX10_lose u σ s (m_isSheet u σ _ (nxn (fun h => ?_) (fun h => ?_)))
  · simp [c_lose, h] at H; exact H σ hR
  · simp only [c_lose, h, if_true] at H
    obtain ⟨t, ht, rfl⟩ := inr_nat h (by decide)
    have ht4 : t < 4 := by omega
    have hin : vp_in (iI_ t) 4 := (iI_in (by omega)).mpr (by omega)
    rw [iI_ix (by omega)] at H ⊢
    rw [hR.isT ht4]
    refine ⟨hin, thr_ (fun c => ⟨hin, ?_⟩) (fun c => ?_)⟩
    · rw [if_neg c] at H
      dsimp only at H
      rintro σ6 rfl
      refine ⟨hin, ?_⟩
      rw [su_i _ _ _ (by decide), (hR.sh ht4 c).2.1]
      refine H _ (hR.upd 5 (fun k _ hk => rn_o a t _ _ ht4 hk) (fun k _ hk5 => su_i _ _ _ (nM hk5 rfl)) ⟨fun s hs => ?_, fun s hs hn => ?_⟩ (by decide))
      · rw [rn_39 a t s _ _ hs, su_at]
        by_cases q : s = t
        · rw [if_pos ⟨rfl, q⟩, if_pos q]; decide
        · rw [if_neg (fun z => q z.2), if_neg q]; exact hR.isT hs
      · rw [rn_39 a t s _ _ hs] at hn ⊢
        by_cases q : s = t
        · rw [if_pos q] at hn; exact absurd rfl hn
        · rw [if_neg q] at hn
          rw [if_neg q, rn_40 a t s _ _ hs, if_neg q, su_i _ _ _ (by decide), su_i _ _ _ (by decide), su_i _ _ _ (by decide)]
          obtain ⟨q1, q2, q3⟩ := hR.sh hs hn
          refine ⟨q1, q2, fun i hi => ?_⟩
          rw [rn_41 a t s i _ _ hi, if_neg q]
          exact q3 i hi
    · rw [if_pos c] at H
      exact m_meets u a σ hR _ H
def lk_ (a : St_) (s : Nat) (f i : Int32) : Int32 := if a 39 s = iI_ (-1) then iI_ 1 else if a 39 s = f then (if inr_ i (a 40 s) = true then iI_ 0 else iI_ 2) else iI_ 3
theorem m_lacks (u : Ux_) {P : Int32 → St_ → Prop} (a σ : St_) (hs : Ws_ a) (hR : Rm_ a σ) {s : Nat} (h4 : s < 4) (f i : Int32) (H : P (lk_ a s f i) σ) : MMi_ (zm_ u) mX10_lacks [.ref (uq_ u 0), .int (iI_ s), .int f, .int i] σ P := by
  have hin : vp_in (iI_ s) 4 := (iI_in (by omega)).mpr (by omega)
  refine eX10_lacks u σ _ _ _ ⟨hin, ?_⟩
  rw [iI_ix (by omega), hR.isT h4]
  have hz := (hs s h4).2
  unfold lk_ at H
  refine thr_ (fun c => ⟨hin, ?_⟩) (fun c => ?_)
  · obtain ⟨q1, q2, q3⟩ := hR.sh h4 c
    rw [if_neg c] at H
    obtain ⟨z, hz1, hz2⟩ := iI_nat (x := a 40 s) (by omega)
    have hz3 : z < 1000 := by rw [hz1, iI_toInt (by omega)] at hz; omega
    rw [q1, q2]
    refine ⟨fun c2 => ⟨hin, m_in u σ _ _ _ ?_⟩, fun c2 => ?_⟩
    · rw [if_pos c2, hz1] at H
      rw [hz1, ini_n i hz3]
      refine nxb (fun h => ?_) (fun h => ?_)
      · rw [if_neg (by simp [h])] at H; exact H
      · rw [if_pos h] at H; exact H
    · rw [if_neg c2] at H; exact H
  · rw [if_pos c] at H; exact H
/-- one item changed -/
theorem Rm_.item {a σ : St_} (hR : Rm_ a σ) {t i : Nat} (ht : t < 4) (hi : i < 60) (v : Int32) : Rm_ (su_ a (41 + t) i v) (su_ σ 41 (60 * t + i) v) := by
  refine hR.upd 5 (fun k _ hk => su_i _ _ _ (nX hk (gX41 ht))) (fun k _ hk5 => su_i _ _ _ (nM hk5 rfl)) ⟨fun s hs => ?_, fun s hs hn => ?_⟩ (by decide)
  · rw [su_i _ _ _ (by decide), su_i _ _ _ (by omega)]; exact hR.isT hs
  · rw [su_i _ _ _ (by omega)] at hn
    rw [su_i _ _ _ (by decide), su_i (k := 39) _ _ _ (by omega), su_i _ _ _ (by decide), su_i (k := 40) _ _ _ (by omega)]
    obtain ⟨q1, q2, q3⟩ := hR.sh hs hn
    refine ⟨q1, q2, fun j hj => ?_⟩
    rw [su_at, su_at]
    by_cases q : s = t ∧ j = i
    · rw [if_pos (by omega), if_pos (by omega)]
    · rw [if_neg (by omega), if_neg (by omega)]; exact q3 j hj
theorem m_keep (u : Ux_) {P : St_ → Prop} (a σ : St_) (hR : Rm_ a σ) {s i : Nat} (h4 : s < 4) (hn : ¬ a 39 s = iI_ (-1)) (hi : i < 60) (v : Int32) (H : ∀ σ', Rm_ (su_ a (41 + s) i (nar_ (a 39 s) v)) σ' → Ke_ [41] σ σ' → P σ') : MMv_ (zm_ u) mX10_keep [.ref (uq_ u 0), .int (iI_ s), .int (iI_ i), .int v] σ P := by
  have hin : vp_in (iI_ s) 4 := (iI_in (by omega)).mpr (by omega)
  have x0 : iI_ 60 * iI_ s + iI_ i = iI_ (60 * s + i : Nat) := by rw [iI_mul, iI_add]; congr 1
  have hin2 : vp_in (iI_ (60 * s + i : Nat)) 240 := (iI_in (by omega)).mpr (by omega)
  refine eX10_keep u σ _ _ _ ⟨hin, ?_⟩
  rw [iI_ix (by omega), (hR.sh h4 hn).1, x0, iI_ix (by omega)]
  have H := H _ (hR.item h4 hi (nar_ (a 39 s) v)) (Ke_.rf.su (by decide))
  refine ⟨fun c => ⟨hin, fun c2 => ⟨hin2, fun σ5 e => ?_⟩, fun c2 => ⟨hin2, fun σ5 e => ?_⟩⟩, fun c => ⟨hin2, fun σ5 e => ?_⟩⟩
  · rw [e]; unfold nar_ at H; rw [if_neg c, if_neg c2] at H; exact H
  · rw [e]; unfold nar_ at H; rw [if_neg c, if_pos c2] at H; exact H
  · rw [e]; unfold nar_ at H; rw [if_pos c] at H; exact H
theorem lk_ref {a : St_} {s : Nat} {f i : Int32} (h4 : s < 4) (h2 : inr_ f (iI_ 3) = true) : (lk_ a s f i = iI_ 0 ∧ (ref_ a (iI_ s) f i).1 = iI_ 0) ∨ (¬ lk_ a s f i ≤ iI_ 0 ∧ ¬ (ref_ a (iI_ s) f i).1 = iI_ 0 ∧ ref_ a (iI_ s) f i = fd_ a (lk_ a s f i)) := by
  have h : inr_ (iI_ s) (iI_ 4) = true := inr_t.mpr (by rw [t_4, iI_toInt (by omega)]; omega)
  rw [show ref_ a (iI_ s) f i = (if a 39 s = iI_ (-1) then fd_ a (iI_ 1) else if a 39 s = f then (if inr_ i (a 40 s) = true then (iI_ 0, a) else fd_ a (iI_ 2)) else fd_ a (iI_ 3)) by rw [ref_, if_pos ⟨h, h2⟩, iI_ix (by omega)]]
  unfold lk_
  by_cases c : a 39 s = iI_ (-1)
  · rw [if_pos c, if_pos c]
    exact Or.inr ⟨by decide, show ¬ iI_ (-10) - iI_ 1 = iI_ 0 by decide, rfl⟩
  · rw [if_neg c, if_neg c]
    by_cases c2 : a 39 s = f
    · rw [if_pos c2, if_pos c2]
      by_cases c3 : inr_ i (a 40 s) = true
      · rw [if_pos c3, if_pos c3]; exact Or.inl ⟨rfl, rfl⟩
      · rw [if_neg c3, if_neg c3]
        exact Or.inr ⟨by decide, show ¬ iI_ (-10) - iI_ 2 = iI_ 0 by decide, rfl⟩
    · rw [if_neg c2, if_neg c2]
      exact Or.inr ⟨by decide, show ¬ iI_ (-10) - iI_ 3 = iI_ 0 by decide, rfl⟩
theorem m_put (u : Ux_) {P : Int32 → St_ → Prop} (a σ : St_) (hs : Ws_ a) (hR : Rm_ a σ) (s f i v : Int32) (H : ∀ σ', Rm_ (c_put a s f i v).2 σ' → P (c_put a s f i v).1 σ') : MMi_ (zm_ u) mX10_put [.ref (uq_ u 0), .int s, .int f, .int i, .int v] σ P := by
  refine eX10_put u σ s f i v (m_isSheet u σ _ (nxb (fun h => ?_) (fun h => m_in u σ _ _ _ ?_)))
  · have e : ref_ a s f i = (iI_ (-2), a) := by rw [ref_, if_neg (by simp [h])]
    rw [c_put, e, if_neg (show ¬ iI_ (-2) = iI_ 0 by decide)] at H; exact H σ hR
  · rw [ini_inr f 2 (by decide)]
    simp only [show (2 : Int) + 1 = 3 from rfl]
    refine nxn (fun h2 => ?_) (fun h2 => ?_)
    · have e : ref_ a s f i = (iI_ (-2), a) := by rw [ref_, if_neg (by simp [h2])]
      rw [c_put, e, if_neg (show ¬ iI_ (-2) = iI_ 0 by decide)] at H; exact H σ hR
    · obtain ⟨t, ht, rfl⟩ := inr_nat h (by decide)
      have ht4 : t < 4 := by omega
      refine m_lacks u a σ hs hR ht4 f i ?_
      rcases lk_ref (a := a) (i := i) ht4 h2 with ⟨l0, r0⟩ | ⟨l1, r1, r2⟩
      · rw [c_put, if_pos r0, iI_ix (by omega)] at H
        obtain ⟨q1, q2, q3, q4, -⟩ := ref_0 r0
        rw [iI_ix (by omega)] at q2 q3 q4
        have hz := (hs t ht4).2
        rw [l0]
        refine ⟨fun _ => ?_, fun q => absurd (by decide) q⟩
        obtain ⟨k, rfl, hk⟩ := iI_nat (x := i) (by omega)
        rw [iI_toInt (by omega)] at q4
        rw [iI_ix (by omega), ← q3] at H
        exact m_keep u a σ hR ht4 q2 (by omega) v (fun σ' hR' _ => H σ' hR')
      · rw [c_put, if_neg r1, r2] at H
        exact ⟨fun q => absurd q l1, fun _ => m_meets u a σ hR _ H⟩
theorem m_get (u : Ux_) {P : Int32 → St_ → Prop} (a σ : St_) (hs : Ws_ a) (hR : Rm_ a σ) (s f i : Int32) (H : ∀ σ', Rm_ (c_get a s f i).2 σ' → P (c_get a s f i).1 σ') : MMi_ (zm_ u) mX10_get [.ref (uq_ u 0), .int s, .int f, .int i] σ P := by
  refine eX10_get u σ s f i (m_isSheet u σ _ (nxb (fun h => ?_) (fun h => m_in u σ _ _ _ ?_)))
  · have e : ref_ a s f i = (iI_ (-2), a) := by rw [ref_, if_neg (by simp [h])]
    rw [c_get, e, if_neg (show ¬ iI_ (-2) = iI_ 0 by decide)] at H; exact H σ hR
  · rw [ini_inr f 2 (by decide)]
    simp only [show (2 : Int) + 1 = 3 from rfl]
    refine nxn (fun h2 => ?_) (fun h2 => ?_)
    · have e : ref_ a s f i = (iI_ (-2), a) := by rw [ref_, if_neg (by simp [h2])]
      rw [c_get, e, if_neg (show ¬ iI_ (-2) = iI_ 0 by decide)] at H; exact H σ hR
    · obtain ⟨t, ht, rfl⟩ := inr_nat h (by decide)
      have ht4 : t < 4 := by omega
      refine m_lacks u a σ hs hR ht4 f i ?_
      rcases lk_ref (a := a) (i := i) ht4 h2 with ⟨l0, r0⟩ | ⟨l1, r1, r2⟩
      · rw [c_get, if_pos r0, iI_ix (by omega)] at H
        obtain ⟨q1, q2, q3, q4, -⟩ := ref_0 r0
        rw [iI_ix (by omega)] at q2 q3 q4
        have hz := (hs t ht4).2
        rw [l0]
        refine ⟨fun _ => ?_, fun q => absurd (by decide) q⟩
        obtain ⟨k, rfl, hk⟩ := iI_nat (x := i) (by omega)
        rw [iI_toInt (by omega)] at q4
        have x0 : iI_ 60 * iI_ t + iI_ k = iI_ (60 * t + k : Nat) := by rw [iI_mul, iI_add]; congr 1
        rw [iI_ix (by omega)] at H
        rw [x0, iI_ix (by omega), (hR.sh ht4 q2).2.2 k (by omega)]
        exact ⟨(iI_in (by omega)).mpr (by omega), H σ hR⟩
      · rw [c_get, if_neg r1, r2] at H
        exact ⟨fun q => absurd q l1, fun _ σ11 e => by rw [e]; exact H _ (hR.find _)⟩
theorem l64 {x y : Int32} (z : Int32) (hz : 0 ≤ z.toInt) (hx : 0 ≤ x.toInt) (hy : 0 ≤ y.toInt) : (x.toInt64 + y.toInt64 ≤ z.toInt64) ↔ x.toInt + y.toInt ≤ z.toInt := by
  have b1 := iI_bd x
  have b2 := iI_bd y
  rw [Int64.le_iff_toInt_le, Int64.toInt_add, Int32.toInt_toInt64, Int32.toInt_toInt64, Int32.toInt_toInt64, Int.bmod_eq_of_le (by omega) (by omega)]
theorem m_copy (u : Ux_) {P : Int32 → St_ → Prop} (a σ : St_) (hs : Ws_ a) (hR : Rm_ a σ) (s i t j n : Int32) (H : ∀ σ', Rm_ (c_copy a s i t j n).2 σ' → P (c_copy a s i t j n).1 σ') : MMi_ (zm_ u) mX10_copy [.ref (uq_ u 0), .int s, .int i, .int t, .int j, .int n] σ P := by
  refine eX10_copy u σ s i t j n (m_isSheet u σ _ (nxb (fun h => ?_) (fun h => m_isSheet u σ _ (nxn (fun h2 => ?_) (fun h2 => ?_)))))
  · simp [c_copy, h] at H; exact H σ hR
  · simp [c_copy, h2] at H; exact H σ hR
  · simp only [c_copy, h, h2, and_self, if_true] at H
    obtain ⟨x, hx, rfl⟩ := inr_nat h (by decide)
    obtain ⟨y, hy, rfl⟩ := inr_nat h2 (by decide)
    have hx4 : x < 4 := by omega
    have hy4 : y < 4 := by omega
    have hin : vp_in (iI_ x) 4 := (iI_in (by omega)).mpr (by omega)
    have hin2 : vp_in (iI_ y) 4 := (iI_in (by omega)).mpr (by omega)
    rw [iI_ix (by omega), iI_ix (by omega)] at H
    rw [iI_ix (by omega), iI_ix (by omega), hR.isT hx4, hR.isT hy4]
    refine ⟨hin, And.symm (thr_ (fun c => ⟨hin2, thr_ (fun c2 => ⟨hin, hin2, ?_⟩) (fun c2 => ?_)⟩) (fun c => ?_))⟩
    · obtain ⟨p1, p2, p3⟩ := hR.sh hx4 c
      obtain ⟨q1, q2, q3⟩ := hR.sh hy4 c2
      have z1 := (hs x hx4).2
      have z2 := (hs y hy4).2
      rw [p1, q1, p2, q2]
      rw [if_neg (by simp [c, c2])] at H
      refine ⟨fun c3 => ?_, fun c3 => ?_⟩
      · rw [if_pos c3] at H
        have bad : ¬ (hol_ (a 40 x) i n = true ∧ hol_ (a 40 y) j n = true) → MMi_ (zm_ u) mX10_meets [.ref (uq_ u 0), .int (iI_ 2)] σ (fun r σ' => P r σ') := fun q => by
          rw [if_neg q] at H; exact m_meets u a σ hR _ H
        refine cs_ (fun c4 => bad ?_) (fun c4 => cs_ (fun c5 => bad ?_) (fun c5 => cs_ (fun c6 => bad ?_) (fun c6 => ⟨hin, cs_ (fun c7 => bad ?_) (fun c7 => ⟨hin2, fun c8 => ?_, fun c8 => bad ?_⟩)⟩)))
        · rw [iI_ltI, t_0] at c4; simp only [hol_, decide_eq_true_eq]; omega
        · rw [iI_ltI, t_0] at c5; simp only [hol_, decide_eq_true_eq]; omega
        · rw [iI_ltI, t_0] at c6; simp only [hol_, decide_eq_true_eq]; omega
        · rw [iI_ltI, t_0] at c4 c5 c6
          have c7 : ¬ lg_cmp (i.toInt64 + n.toInt64) (a 40 x).toInt64 ≤ 0 := by
            rw [Int32.not_le]; exact c7
          rw [lg_cmp_le, l64 _ (by omega) (by omega) (by omega)] at c7
          simp only [hol_, decide_eq_true_eq]; omega
        · rw [iI_ltI, t_0] at c4 c5 c6
          have c7 : lg_cmp (i.toInt64 + n.toInt64) (a 40 x).toInt64 ≤ 0 := by
            rw [← Int32.not_lt]; exact c7
          have c8 : lg_cmp (j.toInt64 + n.toInt64) (a 40 y).toInt64 ≤ 0 := c8
          rw [lg_cmp_le, l64 _ (by omega) (by omega) (by omega)] at c7 c8
          rw [if_pos (by simp only [hol_, decide_eq_true_eq]; omega)] at H
          dsimp only at H
          obtain ⟨i, rfl, hi⟩ := iI_nat (x := i) (by omega)
          obtain ⟨j, rfl, hj⟩ := iI_nat (x := j) (by omega)
          obtain ⟨n, rfl, hn⟩ := iI_nat (x := n) (by omega)
          rw [iI_toInt (by omega), iI_toInt (by omega)] at c7 c8
          rw [iI_ix (by omega), iI_ix (by omega), iI_ix (by omega)] at H
          have second : ∀ (d k : Nat) (τ : St_), k + d = n → Ke_ [41, 42] σ τ → (∀ l, l < n → τ 42 l = a (41 + x) (i + l)) → (∀ l, τ 41 l = if 60 * y + j ≤ l ∧ l < 60 * y + j + k then a (41 + x) (i + (l - (60 * y + j))) else σ 41 l) → GG_ (zm_ u) mX10_copy (Pi_ P) 157 [(0, .ref (uq_ u 0)), (3, .int (iI_ y)), (4, .int (iI_ j)), (5, .int (iI_ n)), (6, .int (iI_ k))] [] τ := by
            intro d
            induction d with
            | zero =>
              intro k τ hk ke hm hl
              have : k = n := by omega
              subst this
              refine bX10_copy_157 u τ _ _ _ _ (cs_ (fun _ => H τ ?_) (fun q => absurd (Int32.le_refl _) q))
              refine hR.upd 5 (fun k _ hk => sf_i _ _ (nX hk (gX41 hy4))) (fun k _ hk5 => ke k (fun q => ?_)) ⟨fun s hs => ?_, fun s hs hn => ?_⟩ (by decide)
              · simp only [List.mem_cons, List.not_mem_nil, or_false] at q
                rcases q with q | q
                · exact nM hk5 (i := 41) rfl q
                · subst q; rename_i hk7; exact absurd hk7 (by decide)
              · rw [ke 38 (by decide), sf_i _ _ (by omega)]; exact hR.isT hs
              · rw [sf_i _ _ (by omega)] at hn
                rw [ke 39 (by decide), ke 40 (by decide), sf_i (k := 39) _ _ (by omega), sf_i (k := 40) _ _ (by omega)]
                obtain ⟨r1, r2, r3⟩ := hR.sh hs hn
                refine ⟨r1, r2, fun l hl2 => ?_⟩
                rw [hl]
                by_cases q : s = y
                · subst q
                  rw [sf_same]
                  unfold va_cpy
                  by_cases q2 : j ≤ l ∧ l < j + k
                  · rw [if_pos (by omega), if_pos q2]; congr 1; omega
                  · rw [if_neg (by omega), if_neg q2]; exact r3 l hl2
                · rw [sf_i _ _ (by omega), if_neg (by omega)]; exact r3 l hl2
            | succ d ih =>
              intro k τ hk ke hm hl
              have x0 : iI_ 60 * iI_ y + iI_ j + iI_ k = iI_ (60 * y + j + k : Nat) := by rw [iI_mul, iI_add, iI_add]; congr 1
              refine bX10_copy_157 u τ _ _ _ _ (cs_ (fun q => absurd q (by rw [iI_le (by omega) (by omega)]; omega)) (fun _ => ?_))
              rw [x0, iI_ix (by omega), iI_ix (by omega), iI_succ]
              refine ⟨(iI_in (by omega)).mpr (by omega), (iI_in (by omega)).mpr (by omega), fun σ3 e3 => ih (k + 1) σ3 (by omega) (by rw [e3]; exact ke.su (by decide)) (fun l hl2 => by rw [e3, su_i _ _ _ (by decide)]; exact hm l hl2) (fun l => ?_)⟩
              rw [e3, su_at, hl, hm k (by omega)]
              by_cases q : l = 60 * y + j + k
              · rw [if_pos ⟨rfl, q⟩, if_pos (by omega)]; congr 1; omega
              · rw [if_neg (fun z => q z.2)]
                by_cases q2 : 60 * y + j ≤ l ∧ l < 60 * y + j + k
                · rw [if_pos q2, if_pos (by omega)]
                · rw [if_neg q2, if_neg (by omega)]
          have first : ∀ (d k : Nat) (τ : St_), k + d = n → Ke_ [42] σ τ → (∀ l, l < k → τ 42 l = a (41 + x) (i + l)) → GG_ (zm_ u) mX10_copy (Pi_ P) 120 [(0, .ref (uq_ u 0)), (1, .int (iI_ x)), (2, .int (iI_ i)), (3, .int (iI_ y)), (4, .int (iI_ j)), (5, .int (iI_ n)), (6, .int (iI_ k))] [] τ := by
            intro d
            induction d with
            | zero =>
              intro k τ hk ke hm
              have : k = n := by omega
              subst this
              refine bX10_copy_120 u τ _ _ _ _ _ _ (cs_ (fun _ => second k 0 τ (by omega) (ke.up (by decide)) hm (fun l => ?_)) (fun q => absurd (Int32.le_refl _) q))
              rw [if_neg (by omega), ke 41 (by decide)]
            | succ d ih =>
              intro k τ hk ke hm
              have x0 : iI_ 60 * iI_ x + iI_ i + iI_ k = iI_ (60 * x + (i + k) : Nat) := by rw [iI_mul, iI_add, iI_add]; congr 1; omega
              refine bX10_copy_120 u τ _ _ _ _ _ _ (cs_ (fun q => absurd q (by rw [iI_le (by omega) (by omega)]; omega)) (fun _ => ?_))
              rw [x0, iI_ix (by omega), iI_ix (by omega), iI_succ]
              refine ⟨(iI_in (by omega)).mpr (by omega), (iI_in (by omega)).mpr (by omega), fun σ3 e3 => ih (k + 1) σ3 (by omega) (by rw [e3]; exact ke.su (by decide)) (fun l hl2 => ?_)⟩
              rw [e3, su_at, ke 41 (by decide), p3 _ (by omega)]
              by_cases q : l = k
              · rw [if_pos ⟨rfl, q⟩, q]
              · rw [if_neg (fun z => q z.2)]; exact hm l (by omega)
          exact first n 0 σ (by omega) Ke_.rf (fun l hl => by omega)
        · rw [iI_ltI, t_0] at c4 c5 c6
          have c8 : ¬ lg_cmp (j.toInt64 + n.toInt64) (a 40 y).toInt64 ≤ 0 := c8
          rw [lg_cmp_le, l64 _ (by omega) (by omega) (by omega)] at c8
          simp only [hol_, decide_eq_true_eq]; omega
      · rw [if_neg c3] at H; exact m_meets u a σ hR _ H
    · rw [if_pos (Or.inr c2)] at H; exact m_meets u a σ hR _ H
    · rw [if_pos (Or.inl c)] at H; exact m_meets u a σ hR _ H
/-! weights and counts -/
theorem m_weightOf (u : Ux_) {P : Int32 → St_ → Prop} (a σ : St_) {n mn nf nj : Nat} (hV : Vx_ a n mn nf nj) (hR : Rm_ a σ) (hd : Rd_ a σ n mn) (S : Nat) (H : P (iI_ (wS_ a S n)) σ) : MMi_ (zm_ u) mX10_weightOf [.ref (uq_ u 0), .int (iI_ S)] σ P := by
  have h8 := hV.1.1
  refine eX10_weightOf u σ _ ?_
  have key : ∀ d k : Nat, k + d = n → GG_ (zm_ u) mX10_weightOf (Pi_ P) 4 [(0, .ref (uq_ u 0)), (1, .int (iI_ S)), (2, .int (iI_ (wS_ a S k))), (3, .int (iI_ k))] [] σ := by
    intro d
    induction d with
    | zero =>
      intro k hk
      have : k = n := by omega
      subst this
      exact bX10_weightOf_4 u σ _ _ _ (cs_ (fun _ => H) (fun q => absurd (by rw [hd.1]; exact Int32.le_refl _) q))
    | succ d ih =>
      intro k hk
      obtain ⟨d3, -, -⟩ := hd.2.2.1 k (by omega)
      have r5 := (hV.1.2.2 k (by omega)).1
      refine bX10_weightOf_4 u σ _ _ _ (cs_ (fun q => absurd q (by rw [hd.1, iI_le (by omega) (by omega)]; omega)) (fun _ => m_isIn u σ _ (by omega) ?_))
      rw [bt_nat, decide_eq_true (show k < 32 by omega), Bool.true_and, iI_ix (by omega), d3, iI_succ]
      have := ih (k + 1) (by omega)
      unfold wS_ at this
      refine nxb (fun h => ?_) (fun h => ⟨(iI_in (by omega)).mpr (by omega), vp_in_iff.mpr (by omega), ?_⟩)
      · rw [if_neg (by simp [h])] at this
        rw [iI_add]; exact this
      · rw [if_pos h, ← iI_add, iI_of] at this
        rw [hR.2.2.1 _ (by rw [clampI]; omega)]
        exact this
  exact key n 0 (by omega)
theorem wS_all (a : St_) (n : Nat) : ∀ k, k ≤ n → wS_ a (2 ^ n - 1) k = wA_ a k := by
  intro k
  induction k with
  | zero => intro _; rfl
  | succ k ih =>
    intro hk
    unfold wS_ wA_
    rw [ih (by omega), Nat.testBit_two_pow_sub_one, decide_eq_true (by omega), if_pos rfl]
theorem m_weightAll (u : Ux_) {P : Int32 → St_ → Prop} (a σ : St_) {n mn nf nj : Nat} (hV : Vx_ a n mn nf nj) (hR : Rm_ a σ) (hd : Rd_ a σ n mn) {x : Int32} (ex : x = (iI_ 1 <<< (iI_ n &&& 31)) - iI_ 1) (H : P (iI_ (wA_ a n)) σ) : MMi_ (zm_ u) mX10_weightOf [.ref (uq_ u 0), .int x] σ P := by
  have h8 := hV.1.1
  have hp := Nat.two_pow_pos n
  have e : x = iI_ (2 ^ n - 1 : Nat) := by
    rw [ex, pow_n n (by omega), iI_sub]; congr 1; omega
  rw [e]
  refine m_weightOf u a σ hV hR hd _ ?_
  rw [wS_all a n n (by omega)]; exact H
theorem m_sumOf (u : Ux_) {P : Int32 → St_ → Prop} (a σ : St_) {n mn nf nj : Nat} (hV : Vx_ a n mn nf nj) (hW : Wt_ a) (hR : Rm_ a σ) (w : Int32) (H : ∀ σ', Mk_ σ σ' → P (if w = iI_ 0 then a 3 0 else if w = iI_ 1 then a 9 0 else wsm_ a n) σ') : MMi_ (zm_ u) mX10_sumOf [.ref (uq_ u 0), .int w] σ P := by
  refine eX10_sumOf u σ w (m_reads u a σ hV hW hR (fun σ1 k1 r1 => ?_))
  have H := H σ1 (Mk_.ke k1 (by decide))
  refine ⟨fun c => ⟨fun c2 => ?_, fun c2 => ?_⟩, fun c => ?_⟩
  · rw [if_neg c, if_neg c2, wsm_A] at H
    exact m_weightAll u a σ1 hV (hR.mk (Mk_.ke k1 (by decide))) r1 (by rw [r1.1]) H
  · rw [if_neg c, if_pos c2, hV.2.1.2.1] at H
    rw [r1.2.1]; exact H
  · rw [if_pos c, hV.1.2.1] at H
    rw [r1.1]; exact H
theorem m_count (u : Ux_) {P : Int32 → St_ → Prop} (a σ : St_) {n mn nf nj : Nat} (hV : Vx_ a n mn nf nj) (hW : Wt_ a) (hR : Rm_ a σ) (w : Int32) (H : ∀ σ', Mk_ σ σ' → P (q_count a n w) σ') : MMi_ (zm_ u) mX10_count [.ref (uq_ u 0), .int w] σ P := by
  have H0 := H σ Mk_.rf
  refine eX10_count u σ w ⟨fun c => m_sumOf u a σ hV hW hR w (fun σ' k => ?_), fun c => m_sumOf u a σ hV hW hR w (fun σ' k => ?_), fun c => ?_, fun c => ?_, fun c => ?_, fun c => ?_, fun c => m_sumOf u a σ hV hW hR w (fun σ' k => ?_), fun c => ?_, fun c => ?_, fun c => ?_⟩
  · have H := H σ' k
    subst c; exact H
  · have H := H σ' k
    subst c; exact H
  · subst c
    refine ⟨vp_in_iff.mpr (by decide), ?_⟩
    show P (σ 0 0) σ
    rw [hR.1 0 (by decide)]; exact H0
  · subst c
    refine ⟨vp_in_iff.mpr (by decide), ?_⟩
    show P (σ 0 1) σ
    rw [hR.1 1 (by decide)]; exact H0
  · subst c
    rw [hR.2.2.2.1]; exact H0
  · subst c
    rw [hR.2.2.2.2.2.1]; exact H0
  · have H := H σ' k
    subst c; exact H
  · subst c
    rw [hR.2.2.2.2.2.2.2.1]; exact H0
  · subst c
    rw [hR.2.2.2.2.2.2.2.2.2.2.2]; exact H0
  · have c0 : ¬ w = iI_ 0 := c 0 (by decide)
    have c1 : ¬ w = iI_ 1 := c 1 (by decide)
    have c2 : ¬ w = iI_ 2 := c 2 (by decide)
    have c3 : ¬ w = iI_ 3 := c 3 (by decide)
    have c4 : ¬ w = iI_ 4 := c 4 (by decide)
    have c5 : ¬ w = iI_ 5 := c 5 (by decide)
    have c6 : ¬ w = iI_ 6 := c 6 (by decide)
    have c7 : ¬ w = iI_ 7 := c 7 (by decide)
    have c8 : ¬ w = iI_ 8 := c 8 (by decide)
    rw [q_count, if_neg c0, if_neg c1, if_neg c2, if_neg c3, if_neg c4, if_neg c5, if_neg c6, if_neg c7, if_neg c8] at H0
    exact H0
