/-! ===== the class: lies, vote, house, told, pleased ===== -/
theorem ct_put {a : St_} {n mn nf nj : Nat} {t : Int32} (h0 : 0 < n) (ht : inr_ t (iI_ mn) = true) : ct_ a n mn nf nj t = cx_ a n nf (a 7) (jh_ a t nj) (iI_ (-1)) t.toNatClampNeg := by rw [ct_, ca_, if_pos ⟨h0, ht⟩]
theorem ct_none {a : St_} {n mn nf nj : Nat} {t : Int32} (h : ¬ (0 < n ∧ inr_ t (iI_ mn) = true)) : ct_ a n mn nf nj t = iI_ (-1) := by rw [ct_, ca_, if_neg h]
theorem ct_ne {a : St_} {n mn nf nj : Nat} (hV : Vx_ a n mn nf nj) {t : Int32} : ct_ a n mn nf nj t = iI_ (-1) ↔ ¬ (0 < n ∧ inr_ t (iI_ mn) = true) := by
  constructor
  · intro e h
    rw [ct_put h.1 h.2] at e
    have h10 := hV.2.1.1
    have q := inr_t.mp h.2
    rw [iI_toInt (by omega)] at q
    exact cx_ne hV (a 7) _ _ (by rw [clampI]; omega) e
  · exact ct_none
def vt_ (a : St_) (n nf nj t m : Nat) : Bool := vv_ a n nf (a 7) (jh_ a (iI_ t) nj) (iI_ (-1)) t m
def q_lies (a : St_) (n mn nf nj : Nat) (t m w : Int32) : Int32 := if inr_ t (iI_ 10) = true ∧ inr_ m (a 3 0) = true ∧ inr_ w (iI_ 3) = true then (if w = iI_ 2 then (if inr_ t (iI_ mn) = true then bi_ (!vt_ a n nf nj t.toNatClampNeg m.toNatClampNeg) else iI_ (-1)) else if w = iI_ 0 then ps_ a nf t (iI_ (-1)) m.toNatClampNeg else iI_ (wm_ (ps_ a nf t (iI_ (-1)) m.toNatClampNeg).toInt (jh_ a t nj))) else iI_ (-2)
theorem x_lies (u : Ux_) {P : Int32 → St_ → Prop} (a σ : St_) {n mn nf nj : Nat} (hV : Vx_ a n mn nf nj) (hS : Sc_ a σ) (t m w : Int32) (H : ∀ σ', Sc_ a σ' → P (q_lies a n mn nf nj t m w) σ') : MMi_ (zx_ u) mX9_lies [.ref (uq_ u 0), .int t, .int m, .int w] σ P := by
  have hVs := hV.sc hS
  have h8 := hV.1.1
  have h10 := hV.2.1.1
  have e3 : σ 3 0 = a 3 0 := by rw [hS 3 (by omega)]
  refine eX9_lies u σ t m w (s_isNight u σ _ (nxb (fun h => ?_) (fun h => s_isMember u σ _ (nxb (fun h2 => ?_) (fun h2 => s_within u σ _ _ (nxn (fun h3 => ?_) (fun h3 => ?_)))))))
  · have := H σ hS; simp [q_lies, h] at this; exact this
  · rw [e3] at h2; have := H σ hS; simp [q_lies, h2] at this; exact this
  · have := H σ hS; simp [q_lies, h3] at this; exact this
  · rw [e3] at h2
    simp only [q_lies, h, h2, h3, and_self, if_true] at H
    obtain ⟨mm, hm, rfl⟩ := inr_nat (k := n) (by rw [hV.1.2.1] at h2; exact h2) (by omega)
    have hm : mm < n := by omega
    have hin : vp_in (iI_ mm) 8 := (iI_in (by omega)).mpr (by omega)
    rw [iI_ix (by omega)] at H ⊢
    refine ⟨fun c => ?_, fun c => ?_⟩
    · rw [if_neg c] at H
      refine x_lay u σ t (iI_ (-1)) hVs.1 hVs.2.2.1.1 hVs.2.2.1.2.1 hVs.2.2.1.2.2 (fun σ1 k1 p1 => ⟨hin, ?_⟩)
      have s1 : Sc_ a σ1 := hS.ke k1 (by decide)
      have v1 := hV.sc s1
      have pp : σ1 26 mm = ps_ a nf t (iI_ (-1)) mm := by rw [p1 mm hm, ly_sc hS]; rfl
      rw [pp]
      refine ⟨fun c2 => ?_, fun c2 => ?_⟩
      · rw [if_neg c2] at H
        refine x_has u σ1 t v1.2.2.2.1.1 v1.2.2.2.1.2.1 ?_
        rw [jh_sc s1]
        exact s_warmth u σ1 _ _ (ps_in hV t _ hm) (H σ1 s1)
      · rw [if_pos c2] at H; exact H σ1 s1
    · rw [if_pos c] at H
      refine x_asTold u a σ hV hS t (fun σ1 k1 hD => ⟨fun c2 => ⟨hin, ?_⟩, fun c2 => ?_⟩)
      · rw [ct_ne hV] at c2
        have c3 : 0 < n ∧ inr_ t (iI_ mn) = true := Classical.not_not.mp c2
        obtain ⟨tt, htt, rfl⟩ := inr_nat c3.2 (by omega)
        have D := hD c3.1 c3.2
        have := H σ1 (CH_sc hS k1)
        rw [if_pos c3.2] at this
        rw [iI_ix (by omega)] at this D
        rw [D.2.2.2.2.1 mm hm]
        exact this
      · rw [ct_ne hV] at c2
        have := H σ1 (CH_sc hS k1)
        rw [if_neg (fun q => c2 ⟨by omega, q⟩)] at this
        exact this
def q_vote (a : St_) (n mn nf nj : Nat) (t w : Int32) : Int32 := if inr_ t (iI_ 10) = true ∧ inr_ w (iI_ 4) = true then (if 0 < n ∧ inr_ t (iI_ mn) = true then (if w = iI_ 0 then iI_ (fc_ (vt_ a n nf nj t.toNatClampNeg) n) else if w = iI_ 1 then iI_ ((ld_ (vt_ a n nf nj t.toNatClampNeg) (ww_ a t.toNatClampNeg) n).natAbs) else if w = iI_ 2 then cx_ a n nf (a 7) (jh_ a t nj) (iI_ (-1)) t.toNatClampNeg else iI_ (spk_ (ps_ a nf t (iI_ (-1))) n)) else iI_ (-1)) else iI_ (-2)
theorem ww_bd {a : St_} {n mn nf nj : Nat} (hV : Vx_ a n mn nf nj) (t : Nat) : ∀ i, i < n → 0 ≤ ww_ a t i ∧ ww_ a t i ≤ 9 := by
  intro i hi
  unfold ww_
  split
  · have q := (hV.1.2.2 i hi).1
    exact hV.2.2.2.2 (a 5 i).toNatClampNeg (by rw [clampI]; omega)
  · omega
theorem x_vote (u : Ux_) {P : Int32 → St_ → Prop} (a σ : St_) {n mn nf nj : Nat} (hV : Vx_ a n mn nf nj) (hS : Sc_ a σ) (t w : Int32) (H : ∀ σ', Sc_ a σ' → P (q_vote a n mn nf nj t w) σ') : MMi_ (zx_ u) mX9_vote [.ref (uq_ u 0), .int t, .int w] σ P := by
  have h8 := hV.1.1
  have h10 := hV.2.1.1
  refine eX9_vote u σ t w (s_isNight u σ _ (nxb (fun h => ?_) (fun h => s_within u σ _ _ (nxn (fun h3 => ?_) (fun h3 => ?_)))))
  · have := H σ hS; simp [q_vote, h] at this; exact this
  · have := H σ hS; simp [q_vote, h3] at this; exact this
  · simp only [q_vote, h, h3, and_self, if_true] at H
    refine x_asTold u a σ hV hS t (fun σ1 k1 hD => ⟨fun c2 => ?_, fun c2 => ?_⟩)
    · rw [ct_ne hV] at c2
      have c3 : 0 < n ∧ inr_ t (iI_ mn) = true := Classical.not_not.mp c2
      have D := hD c3.1 c3.2
      have HH := H σ1 (CH_sc hS k1)
      rw [if_pos c3, ] at HH
      obtain ⟨tt, htt, rfl⟩ := inr_nat c3.2 (by omega)
      rw [ct_put c3.1 c3.2]
      rw [iI_ix (by omega)] at HH D ⊢
      obtain ⟨-, -, -, -, -, d30, d31, d32⟩ := D
      have hb := ld_bd (vt_ a n nf nj tt) (ww_ a tt) n (ww_bd hV tt)
      refine ⟨fun c => ?_, fun c => ?_, fun c => ?_, fun c => ?_⟩
      · rw [if_pos c] at HH; rw [d31]; exact HH
      · rw [if_neg (by rw [c]; decide), if_pos c] at HH
        rw [d32]
        have e : (if iI_ 0 ≤ iI_ (ld_ (vt_ a n nf nj tt) (ww_ a tt) n) then iI_ (ld_ (vt_ a n nf nj tt) (ww_ a tt) n) else iI_ 0 - iI_ (ld_ (vt_ a n nf nj tt) (ww_ a tt) n)) = iI_ ((ld_ (vt_ a n nf nj tt) (ww_ a tt) n).natAbs) := by
          by_cases q : 0 ≤ ld_ (vt_ a n nf nj tt) (ww_ a tt) n
          · rw [if_pos (by rw [iI_le (by omega) (by omega)]; exact q)]; congr 1; omega
          · rw [if_neg (by rw [iI_le (by omega) (by omega)]; exact q), iI_sub]; congr 1; omega
        rw [← e] at HH
        exact HH
      · rw [if_neg (by rw [c]; decide), if_neg (by rw [c]; decide), if_pos c] at HH; exact HH
      · have c0 : ¬ w = iI_ 0 := c 0 (by decide)
        have c1 : ¬ w = iI_ 1 := c 1 (by decide)
        have c2 : ¬ w = iI_ 2 := c 2 (by decide)
        rw [if_neg c0, if_neg c1, if_neg c2] at HH
        rw [d30]; exact HH
    · rw [ct_ne hV] at c2
      have := H σ1 (CH_sc hS k1)
      rw [if_neg c2] at this
      exact this
def q_house (a : St_) (n mn nf nj : Nat) (t : Int32) : Int32 := if inr_ t (iI_ 10) = true then ct_ a n mn nf nj (lp_ mn t) else iI_ (-2)
theorem x_house (u : Ux_) {P : Int32 → St_ → Prop} (a σ : St_) {n mn nf nj : Nat} (hV : Vx_ a n mn nf nj) (hS : Sc_ a σ) (t : Int32) (H : ∀ σ', Sc_ a σ' → P (q_house a n mn nf nj t) σ') : MMi_ (zx_ u) mX9_house [.ref (uq_ u 0), .int t] σ P := by
  refine eX9_house u σ t (s_isNight u σ _ (nxb (fun h => ?_) (fun h => x_lastPut u σ (hV.sc hS).2.1 t (x_asTold u a σ hV hS _ (fun σ1 k1 _ => ?_)))))
  · have := H σ hS; simp [q_house, h] at this; exact this
  · have := H σ1 (CH_sc hS k1); simp [q_house, h] at this; exact this
/-- nights up to k on which the speaker's vote told -/
def tld_ (a : St_) (n nf nj : Nat) : Nat → Nat
  | 0 => 0
  | k + 1 => tld_ a n nf nj k + (if 0 < n ∧ ld_ (vt_ a n nf nj k) (ww_ a k) n = 0 then 1 else 0)
theorem tld_bd (a : St_) (n nf nj k : Nat) : tld_ a n nf nj k ≤ k := by
  induction k with
  | zero => simp [tld_]
  | succ k ih => unfold tld_; split <;> omega
theorem x_told (u : Ux_) {P : Int32 → St_ → Prop} (a σ : St_) {n mn nf nj : Nat} (hV : Vx_ a n mn nf nj) (hS : Sc_ a σ) (H : ∀ σ', Sc_ a σ' → P (iI_ (tld_ a n nf nj mn)) σ') : MMi_ (zx_ u) mX9_told [.ref (uq_ u 0)] σ P := by
  have h8 := hV.1.1
  have h10 := hV.2.1.1
  refine eX9_told u σ ?_
  have key : ∀ (d k : Nat) (τ : St_), k + d = mn → Sc_ a τ → GG_ (zx_ u) mX9_told (Pi_ P) 4 [(0, .ref (uq_ u 0)), (1, .int (iI_ (tld_ a n nf nj k))), (2, .int (iI_ k))] [] τ := by
    intro d
    induction d with
    | zero =>
      intro k τ hk hs
      have : k = mn := by omega
      subst this
      exact bX9_told_4 u τ _ _ (cs_ (fun _ => H τ hs) (fun c => absurd (by rw [hs 9 (by omega), hV.2.1.2.1]; exact Int32.le_refl _) c))
    | succ d ih =>
      intro k τ hk hs
      refine bX9_told_4 u τ _ _ (cs_ (fun c => absurd c (by rw [hs 9 (by omega), hV.2.1.2.1, iI_le (by omega) (by omega)]; omega)) (fun _ => x_asTold u a τ hV hs _ (fun σ1 k1 hD => ?_)))
      rw [iI_succ, iI_succ]
      have s1 := CH_sc hs k1
      have hi : inr_ (iI_ k) (iI_ mn) = true := inr_t.mpr (by rw [iI_toInt (by omega), iI_toInt (by omega)]; omega)
      have hb := ld_bd (vt_ a n nf nj k) (ww_ a k) n (ww_bd hV k)
      refine cs_ (fun c => ?_) (fun c => ⟨fun c2 => ?_, fun c2 => ?_⟩) <;> rw [ct_ne hV] at c
      · have e : tld_ a n nf nj (k + 1) = tld_ a n nf nj k := by rw [tld_, if_neg (fun q => c ⟨q.1, hi⟩)]; rfl
        have := ih (k + 1) σ1 (by omega) s1
        rw [e] at this; exact this
      · have c3 := Classical.not_not.mp c
        have D := hD c3.1 c3.2
        rw [iI_ix (by omega)] at D
        have d32 : σ1 32 0 = iI_ (ld_ (vt_ a n nf nj k) (ww_ a k) n) := D.2.2.2.2.2.2.2
        rw [d32, iI_eq (by omega) (by omega)] at c2
        have e : tld_ a n nf nj (k + 1) = tld_ a n nf nj k := by rw [tld_, if_neg (fun q => c2 q.2)]; rfl
        have := ih (k + 1) σ1 (by omega) s1
        rw [e] at this; exact this
      · have c3 := Classical.not_not.mp c
        have D := hD c3.1 c3.2
        rw [iI_ix (by omega)] at D
        have d32 : σ1 32 0 = iI_ (ld_ (vt_ a n nf nj k) (ww_ a k) n) := D.2.2.2.2.2.2.2
        rw [d32, iI_eq (by omega) (by omega)] at c2
        have e : tld_ a n nf nj (k + 1) = tld_ a n nf nj k + 1 := by rw [tld_, if_pos ⟨c3.1, c2⟩]
        have := ih (k + 1) σ1 (by omega) s1
        rw [e] at this; exact this
  exact key mn 0 σ (by omega) hS
/-- how often a member's vote carried on the first k nights -/
def pls_ (a : St_) (n nf nj m : Nat) : Nat → Nat
  | 0 => 0
  | k + 1 => pls_ a n nf nj m k + (if (if vt_ a n nf nj k m = true then a 11 k else a 12 k) = cx_ a n nf (a 7) (jh_ a (iI_ k) nj) (iI_ (-1)) k then 1 else 0)
def bst_ (f : Nat → Nat) : Nat → Int
  | 0 => -1
  | k + 1 => if bst_ f k = -1 ∨ f (bst_ f k).toNat < f k then k else bst_ f k
theorem bst_bd (f : Nat → Nat) (k : Nat) : -1 ≤ bst_ f k ∧ bst_ f k < k := by
  induction k with
  | zero => simp [bst_]
  | succ k ih => unfold bst_; split <;> omega
theorem ite01 (p : Prop) [Decidable p] : (if p then 1 else 0 : Nat) ≤ 1 := by split <;> omega
theorem pls_bd (a : St_) (n nf nj m k : Nat) : pls_ a n nf nj m k ≤ k := by
  induction k with
  | zero => simp [pls_]
  | succ k ih => unfold pls_; exact Nat.add_le_add ih (ite01 _)
theorem x_pleased (u : Ux_) {P : Int32 → St_ → Prop} (a σ : St_) {n mn nf nj : Nat} (hV : Vx_ a n mn nf nj) (hS : Sc_ a σ) (H : ∀ σ', Sc_ a σ' → P (iI_ (bst_ (fun m => pls_ a n nf nj m mn) n)) σ') : MMi_ (zx_ u) mX9_pleased [.ref (uq_ u 0)] σ P := by
  have h8 := hV.1.1
  have h10 := hV.2.1.1
  refine eX9_pleased u σ ?_
  have e3 : ∀ τ, Sc_ a τ → τ 3 0 = iI_ n := fun τ h => by rw [h 3 (by omega)]; exact hV.1.2.1
  have e9 : ∀ τ, Sc_ a τ → τ 9 0 = iI_ mn := fun τ h => by rw [h 9 (by omega)]; exact hV.2.1.2.1
  have key4 : ∀ (d m : Nat) (τ : St_), m + d = n → Sc_ a τ → (∀ i, i < n → τ 35 i = iI_ (pls_ a n nf nj i mn)) → GG_ (zx_ u) mX9_pleased (Pi_ P) 96 [(0, .ref (uq_ u 0)), (1, .int (iI_ (bst_ (fun m => pls_ a n nf nj m mn) m))), (2, .int (iI_ m))] [] τ := by
    intro d
    induction d with
    | zero =>
      intro m τ hm hs hA
      have : m = n := by omega
      subst this
      exact bX9_pleased_96 u τ _ _ (cs_ (fun _ => H τ hs) (fun c => absurd (by rw [e3 τ hs]; exact Int32.le_refl _) c))
    | succ d ih =>
      intro m τ hm hs hA
      have hb := bst_bd (fun m => pls_ a n nf nj m mn) m
      refine bX9_pleased_96 u τ _ _ (cs_ (fun c => absurd c (by rw [e3 τ hs, iI_le (by omega) (by omega)]; omega)) (fun _ => ?_))
      rw [iI_succ]
      refine cs_ (fun c => ?_) (fun c => ⟨(iI_in (by omega)).mpr (by omega), ?_⟩) <;> rw [iI_eq (by omega) (by omega)] at c
      · have e : bst_ (fun m => pls_ a n nf nj m mn) (m + 1) = m := by rw [bst_, if_pos (Or.inl c)]
        have := ih (m + 1) τ (by omega) hs hA
        rw [e] at this; exact this
      · refine ⟨(iI_in (by omega)).mpr (by omega), ?_⟩
        rw [iI_ix (by omega), iI_clamp (by omega), hA m (by omega), hA _ (by omega)]
        have b1 := pls_bd a n nf nj m mn
        have b2 := pls_bd a n nf nj (bst_ (fun m => pls_ a n nf nj m mn) m).toNat mn
        refine cs_ (fun c2 => ?_) (fun c2 => ?_) <;> rw [iI_le (by omega) (by omega)] at c2
        · have e : bst_ (fun m => pls_ a n nf nj m mn) (m + 1) = bst_ (fun m => pls_ a n nf nj m mn) m := by rw [bst_, if_neg (by omega)]
          have := ih (m + 1) τ (by omega) hs hA
          rw [e] at this; exact this
        · have e : bst_ (fun m => pls_ a n nf nj m mn) (m + 1) = m := by rw [bst_, if_pos (Or.inr (by omega))]
          have := ih (m + 1) τ (by omega) hs hA
          rw [e] at this; exact this
  have key2 : ∀ (d k : Nat) (τ : St_), k + d = mn → Sc_ a τ → (∀ i, i < n → τ 35 i = iI_ (pls_ a n nf nj i k)) → GG_ (zx_ u) mX9_pleased (Pi_ P) 28 [(0, .ref (uq_ u 0)), (1, .int (iI_ k))] [] τ := by
    intro d
    induction d with
    | zero =>
      intro k τ hk hs hA
      have : k = mn := by omega
      subst this
      exact bX9_pleased_28 u τ _ (cs_ (fun _ => key4 n 0 τ (by omega) hs hA) (fun c => absurd (by rw [e9 τ hs]; exact Int32.le_refl _) c))
    | succ d ih =>
      intro k τ hk hs hA
      refine bX9_pleased_28 u τ _ (cs_ (fun c => absurd c (by rw [e9 τ hs, iI_le (by omega) (by omega)]; omega)) (fun _ => x_asTold u a τ hV hs _ (fun σ1 k1 hD => ?_)))
      have hi : inr_ (iI_ k) (iI_ mn) = true := inr_t.mpr (by rw [iI_toInt (by omega), iI_toInt (by omega)]; omega)
      have key3 : ∀ (d2 m : Nat) (τ : St_), m + d2 = n → Sc_ a τ → (0 < n → Dt_ a n nf (a 7) (jh_ a (iI_ k) nj) (iI_ (-1)) k τ) → (∀ i, i < n → τ 35 i = iI_ (pls_ a n nf nj i (if i < m then k + 1 else k))) → GG_ (zx_ u) mX9_pleased (Pi_ P) 47 [(0, .ref (uq_ u 0)), (1, .int (iI_ k)), (2, .int (ct_ a n mn nf nj (iI_ k))), (3, .int (iI_ m))] [] τ := by
        intro d2
        induction d2 with
        | zero =>
          intro m τ hm hs hD hA
          have : m = n := by omega
          subst this
          refine bX9_pleased_47 u τ _ _ _ (cs_ (fun _ => ?_) (fun c => absurd (by rw [e3 τ hs]; exact Int32.le_refl _) c))
          rw [iI_succ]
          exact ih (k + 1) τ (by omega) hs (fun i hi => by rw [hA i hi, if_pos hi])
        | succ d2 ih2 =>
          intro m τ hm hs hD hA
          have hn0 : 0 < n := by omega
          have D := hD hn0
          have ec : ct_ a n mn nf nj (iI_ k) = cx_ a n nf (a 7) (jh_ a (iI_ k) nj) (iI_ (-1)) k := by rw [ct_put hn0 hi, iI_ix (by omega)]
          refine bX9_pleased_47 u τ _ _ _ (cs_ (fun c => absurd c (by rw [e3 τ hs, iI_le (by omega) (by omega)]; omega)) (fun _ => x_votesFor u τ h8 (e3 τ hs) (by omega) (vt_ a n nf nj k m) (D.2.2.2.2.1 m (by omega)) ?_))
          rw [D.1, D.2.1, iI_succ, ec]
          have hb := pls_bd a n nf nj m k
          refine ⟨fun c => ?_, fun c => ⟨(iI_in (by omega)).mpr (by omega), (iI_in (by omega)).mpr (by omega), ?_⟩⟩
          · rw [← ec]
            refine ih2 (m + 1) τ (by omega) hs hD (fun i hi => ?_)
            rw [hA i hi]
            by_cases q : i = m
            · subst q
              rw [if_neg (by omega), if_pos (by omega), pls_, if_neg c]; simp
            · by_cases q2 : i < m
              · rw [if_pos q2, if_pos (by omega)]
              · rw [if_neg q2, if_neg (by omega)]
          · rw [iI_ix (by omega)]
            rintro σ6 e6
            rw [← ec]
            refine ih2 (m + 1) σ6 (by omega) (by rw [e6]; exact hs.su (by decide)) (fun _ => ?_) (fun i hi => ?_)
            · rw [e6]
              unfold Dt_
              rw [su_i _ _ _ (by decide), su_i _ _ _ (by decide), su_i _ _ _ (by decide), su_i _ _ _ (by decide), su_i _ _ _ (by decide), su_i _ _ _ (by decide), su_i _ _ _ (by decide), su_i _ _ _ (by decide)]
              exact D
            · by_cases q : i = m
              · subst q
                rw [e6, su_same, hA i hi, if_neg (by omega), if_pos (by omega), pls_, if_pos c, iI_succ]
              · rw [e6, su_j _ _ _ q, hA i hi]
                by_cases q2 : i < m
                · rw [if_pos q2, if_pos (by omega)]
                · rw [if_neg q2, if_neg (by omega)]
      refine key3 n 0 σ1 (by omega) (CH_sc hs k1) (fun h0 => ?_) (fun i hi => ?_)
      · have := hD h0 hi
        rw [iI_ix (by omega)] at this
        exact this
      · rw [k1 35 (by decide), hA i hi, if_neg (by omega)]
  have key1 : ∀ (d m : Nat) (τ : St_), m + d = n → Sc_ a τ → (∀ i, i < m → τ 35 i = iI_ 0) → GG_ (zx_ u) mX9_pleased (Pi_ P) 2 [(0, .ref (uq_ u 0)), (1, .int (iI_ m))] [] τ := by
    intro d
    induction d with
    | zero =>
      intro m τ hm hs hA
      have : m = n := by omega
      subst this
      exact bX9_pleased_2 u τ _ (cs_ (fun _ => key2 mn 0 τ (by omega) hs hA) (fun c => absurd (by rw [e3 τ hs]; exact Int32.le_refl _) c))
    | succ d ih =>
      intro m τ hm hs hA
      refine bX9_pleased_2 u τ _ (cs_ (fun c => absurd c (by rw [e3 τ hs, iI_le (by omega) (by omega)]; omega)) (fun _ => ⟨(iI_in (by omega)).mpr (by omega), ?_⟩))
      rw [iI_ix (by omega)]
      rintro σ2 e2
      rw [iI_succ]
      refine ih (m + 1) σ2 (by omega) (by rw [e2]; exact hs.su (by decide)) (fun i hi => ?_)
      by_cases q : i = m
      · rw [e2, q, su_same]
      · rw [e2, su_j _ _ _ q]; exact hA i (by omega)
  exact key1 n 0 σ (by omega) hS (fun i hi => by omega)
