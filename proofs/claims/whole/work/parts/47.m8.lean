/-! ===== the reference: lies, vote, house, told, pleased ===== -/
theorem cR_ca {a : St_} {n mn nf nj : Nat} (hV : Vx_ a n mn nf nj) (or : Nat → Int32) (wo : Int32) (jb : Nat → Bool) {t : Nat} (ht : t < 10) : cR_ a n mn or (fun t => ps_ a nf (iI_ t) wo) jb t = ca_ a n mn nf or (jb t) wo (iI_ t) := by
  have h10 := hV.2.1.1
  unfold cR_ ca_
  rw [iI_ix (by omega)]
  by_cases h : 0 < n ∧ t < mn
  · rw [if_pos h, if_pos ⟨h.1, inr_t.mpr (by rw [iI_toInt (by omega), iI_toInt (by omega)]; omega)⟩]; rfl
  · rw [if_neg h, if_neg]
    rintro ⟨h1, h2⟩
    rw [inr_t, iI_toInt (by omega), iI_toInt (by omega)] at h2
    exact h ⟨h1, by omega⟩
theorem inr_n {t mn : Nat} (ht : t < 1000) (hm : mn < 1000) : inr_ (iI_ t) (iI_ mn) = true ↔ t < mn := by
  rw [inr_t, iI_toInt (by omega), iI_toInt (by omega)]; omega
theorem m_liesOf (u : Ux_) {P : Int32 → St_ → Prop} (a σ : St_) {n mn nf nj : Nat} (hV : Vx_ a n mn nf nj) (hW : Wt_ a) (hR : Rm_ a σ) (t m w : Int32) (ht : inr_ t (iI_ 10) = true) (hm : inr_ m (a 3 0) = true) (hw : inr_ w (iI_ 3) = true) (H : ∀ σ', Mk_ σ σ' → Rd_ a σ' n mn → P (q_lies a n mn nf nj t m w) σ') : MMi_ (zm_ u) mX10_liesOf [.ref (uq_ u 0), .int t, .int m, .int w] σ P := by
  have h8 := hV.1.1
  have h10 := hV.2.1.1
  refine eX10_liesOf u σ t m w (m_runsTold u a σ hV hW hR (fun σ1 k1 r1 _ t1 => ?_))
  have H := H σ1 k1 r1
  rw [q_lies, if_pos ⟨ht, hm, hw⟩] at H
  rw [hV.1.2.1] at hm
  obtain ⟨x, hx, rfl⟩ := inr_nat ht (by decide)
  obtain ⟨y, hy, rfl⟩ := inr_nat hm (by omega)
  rw [iI_ix (by omega), iI_ix (by omega)] at H
  have x0 : iI_ 8 * iI_ x + iI_ y = iI_ (8 * x + y : Nat) := by rw [iI_mul, iI_add]; congr 1
  have hin80 : vp_in (iI_ (8 * x + y : Nat)) 80 := (iI_in (by omega)).mpr (by omega)
  obtain ⟨l1, l2⟩ := t1.1 x (by omega) y (by omega)
  rw [x0, iI_ix (by omega), iI_ix (by omega), l1, l2, r1.2.1]
  refine ⟨fun c => ⟨fun c2 => ?_, fun c2 => ⟨hin80, ?_⟩⟩, fun c => ⟨hin80, ?_⟩⟩
  · have e2 : w = iI_ 2 := by
      obtain ⟨z, hz, rfl⟩ := inr_nat hw (by decide)
      rw [iI_eq (by omega) (by omega)] at c c2
      congr 1; omega
    rw [if_pos e2] at H
    refine cs_ (fun c3 => ⟨(iI_in (by omega)).mpr (by omega), m_isIn u σ1 _ (by omega) ?_⟩) (fun c3 => ?_) <;> rw [iI_lt (by omega) (by omega)] at c3
    · rw [if_pos ((inr_n (by omega) (by omega)).mpr (by omega))] at H
      rw [(t1.2.2 x (by omega) (by omega)).1, bs_bt _ n (by omega), decide_eq_true (show y < n by omega), Bool.true_and]
      refine nxb (fun h => ?_) (fun h => ?_)
      · rw [show vt_ a n nf nj x y = v1_ n (a 7) (ps_ a nf (iI_ x) (iI_ (-1))) (jh_ a (iI_ x) nj) (a 11 x) (a 12 x) y from rfl, h] at H; exact H
      · rw [show vt_ a n nf nj x y = v1_ n (a 7) (ps_ a nf (iI_ x) (iI_ (-1))) (jh_ a (iI_ x) nj) (a 11 x) (a 12 x) y from rfl, h] at H; exact H
    · rw [if_neg (fun q => c3 (by have := (inr_n (by omega) (by omega)).mp q; omega))] at H; exact H
  · rw [if_neg (by rw [c2]; decide), if_neg c] at H; exact H
  · rw [if_neg (by rw [c]; decide), if_pos c] at H; exact H
theorem m_lies (u : Ux_) {P : Int32 → St_ → Prop} (a σ : St_) {n mn nf nj : Nat} (hV : Vx_ a n mn nf nj) (hW : Wt_ a) (hR : Rm_ a σ) (t m w : Int32) (H : ∀ σ', Mk_ σ σ' → P (q_lies a n mn nf nj t m w) σ') : MMi_ (zm_ u) mX10_lies [.ref (uq_ u 0), .int t, .int m, .int w] σ P := by
  refine eX10_lies u σ t m w (m_isNight u σ _ (nxb (fun h => ?_) (fun h => m_isMember u a σ hV hW hR m (fun σ1 k1 r1 => nxb (fun h2 => ?_) (fun h2 => m_in u σ1 _ _ _ ?_)))))
  · have := H σ Mk_.rf
    rw [q_lies, if_neg (by simp [h])] at this; exact this
  · have := H σ1 (Mk_.ke k1 (by decide))
    rw [q_lies, if_neg (by simp [h2])] at this; exact this
  · rw [ini_inr w 2 (by decide)]
    simp only [show (2 : Int) + 1 = 3 from rfl]
    refine nxb (fun h3 => ?_) (fun h3 => m_liesOf u a σ1 hV hW (hR.mk (Mk_.ke k1 (by decide))) t m w h h2 h3 (fun σ2 k2 _ => H σ2 ((Mk_.ke k1 (by decide)).tr k2)))
    have := H σ1 (Mk_.ke k1 (by decide))
    rw [q_lies, if_neg (by simp [h3])] at this; exact this
/-! vote -/
theorem m_forFirst (u : Ux_) {P : Int32 → St_ → Prop} (σ : St_) {n t : Nat} (hn : n ≤ 8) (ht : t < 10) (h2 : σ 2 0 = iI_ n) {v : Nat → Bool} (hv : ∀ k, k < n → bt (σ 28 t) k = !v k) (H : P (iI_ (fc_ v n)) σ) : MMi_ (zm_ u) mX10_forFirst [.ref (uq_ u 0), .int (iI_ t)] σ P := by
  refine eX10_forFirst u σ _ ?_
  have key : ∀ d k : Nat, k + d = n → GG_ (zm_ u) mX10_forFirst (Pi_ P) 4 [(0, .ref (uq_ u 0)), (1, .int (iI_ t)), (2, .int (iI_ (fc_ v k))), (3, .int (iI_ k))] [] σ := by
    intro d
    induction d with
    | zero =>
      intro k hk
      have : k = n := by omega
      subst this
      exact bX10_forFirst_4 u σ _ _ _ (cs_ (fun _ => H) (fun c => absurd (by rw [h2]; exact Int32.le_refl _) c))
    | succ d ih =>
      intro k hk
      have := ih (k + 1) (by omega)
      unfold fc_ at this
      refine bX10_forFirst_4 u σ _ _ _ (cs_ (fun c => absurd c (by rw [h2, iI_le (by omega) (by omega)]; omega)) (fun _ => ⟨(iI_in (by omega)).mpr (by omega), m_isIn u σ _ (by omega) ?_⟩))
      rw [iI_ix (by omega), hv k (by omega), iI_succ, iI_add, iI_add]
      refine nxb (fun h => ?_) (fun h => ?_)
      · rw [if_pos (by simpa using h)] at this; exact this
      · rw [if_neg (by simpa using h)] at this; exact this
  exact key n 0 (by omega)
theorem m_voteOf (u : Ux_) {P : Int32 → St_ → Prop} (a σ : St_) {n mn nf nj : Nat} (hV : Vx_ a n mn nf nj) (hW : Wt_ a) (hR : Rm_ a σ) (t w : Int32) (ht : inr_ t (iI_ 10) = true) (hw : inr_ w (iI_ 4) = true) (H : ∀ σ', Mk_ σ σ' → Rd_ a σ' n mn → P (q_vote a n mn nf nj t w) σ') : MMi_ (zm_ u) mX10_voteOf [.ref (uq_ u 0), .int t, .int w] σ P := by
  have h8 := hV.1.1
  have h10 := hV.2.1.1
  refine eX10_voteOf u σ t w (m_runsTold u a σ hV hW hR (fun σ1 k1 r1 _ t1 => ?_))
  have H := H σ1 k1 r1
  rw [q_vote, if_pos ⟨ht, hw⟩] at H
  obtain ⟨x, hx, rfl⟩ := inr_nat ht (by decide)
  rw [iI_ix (by omega)] at H
  have hi := inr_n (t := x) (mn := mn) (by omega) (by omega)
  rw [r1.2.1, r1.1, iI_le (by omega) (by omega), iI_eq (by omega) (by omega)]
  have hin : vp_in (iI_ x) 10 := (iI_in (by omega)).mpr (by omega)
  refine cs_ (fun c => ?_) (fun c => ⟨fun c2 => ?_, fun c2 => ?_⟩)
  · rw [if_neg (fun q => by have := hi.mp q.2; omega)] at H; exact H
  · rw [if_pos ⟨by omega, hi.mpr (by omega)⟩] at H
    obtain ⟨v28, v29, v30⟩ := t1.2.2 x (by omega) (by omega)
    have v31 := t1.2.1 x (by omega)
    rw [cR_ca hV _ _ _ (by omega), ca_, if_pos ⟨by omega, (inr_n (by omega) (by omega)).mpr (by omega)⟩] at v31
    rw [iI_ix (by omega)] at v31 ⊢
    rw [v29, v30, v31]
    refine ⟨fun d0 => ⟨fun d1 => ⟨fun d2 => ⟨hin, ?_⟩, fun d2 => ⟨hin, ?_⟩⟩, fun d1 => ⟨hin, ?_⟩⟩, fun d0 => m_forFirst u σ1 h8 (by omega) r1.1 (v := vt_ a n nf nj x) (fun k hk => ?_) ?_⟩
    · rw [if_neg d0, if_neg d1, if_neg d2] at H; exact H
    · rw [if_neg d0, if_neg d1, if_pos d2] at H; exact H
    · rw [if_neg d0, if_pos d1] at H; exact H
    · rw [v28, bs_bt _ n (by omega), decide_eq_true hk, Bool.true_and]; rfl
    · rw [if_pos d0] at H; exact H
  · rw [if_neg (fun q => by have := q.1; omega)] at H; exact H
theorem m_vote (u : Ux_) {P : Int32 → St_ → Prop} (a σ : St_) {n mn nf nj : Nat} (hV : Vx_ a n mn nf nj) (hW : Wt_ a) (hR : Rm_ a σ) (t w : Int32) (H : ∀ σ', Mk_ σ σ' → P (q_vote a n mn nf nj t w) σ') : MMi_ (zm_ u) mX10_vote [.ref (uq_ u 0), .int t, .int w] σ P := by
  refine eX10_vote u σ t w (m_isNight u σ _ (nxb (fun h => ?_) (fun h => m_in u σ _ _ _ ?_)))
  · have := H σ Mk_.rf
    rw [q_vote, if_neg (by simp [h])] at this; exact this
  · rw [ini_inr w 3 (by decide)]
    simp only [show (3 : Int) + 1 = 4 from rfl]
    refine nxb (fun h3 => ?_) (fun h3 => m_voteOf u a σ hV hW hR t w h h3 (fun σ2 k2 _ => H σ2 k2))
    have := H σ Mk_.rf
    rw [q_vote, if_neg (by simp [h3])] at this; exact this
/-! house -/
def hN_ (c : Nat → Int32) : Nat → Int32
  | 0 => iI_ (-1)
  | k + 1 => if c k = iI_ (-1) then hN_ c k else c k
theorem m_houseNow (u : Ux_) {P : Int32 → St_ → Prop} (σ : St_) {c : Nat → Int32} (hc : ∀ t, t < 10 → σ 31 t = c t) {t : Nat} (ht : t < 10) (H : P (hN_ c (t + 1)) σ) : MMi_ (zm_ u) mX10_houseNow [.ref (uq_ u 0), .int (iI_ t)] σ P := by
  refine eX10_houseNow u σ _ ?_
  have key : ∀ d k : Nat, k + d = t + 1 → GG_ (zm_ u) mX10_houseNow (Pi_ P) 4 [(0, .ref (uq_ u 0)), (1, .int (iI_ t)), (2, .int (hN_ c k)), (3, .int (iI_ k))] [] σ := by
    intro d
    induction d with
    | zero =>
      intro k hk
      have : k = t + 1 := by omega
      subst this
      exact bX10_houseNow_4 u σ _ _ _ (cs_ (fun _ => H) (fun q => absurd (by rw [iI_lt (by omega) (by omega)]; omega) q))
    | succ d ih =>
      intro k hk
      have := ih (k + 1) (by omega)
      unfold hN_ at this
      have hin : vp_in (iI_ k) 10 := (iI_in (by omega)).mpr (by omega)
      refine bX10_houseNow_4 u σ _ _ _ (cs_ (fun q => absurd q (by rw [iI_lt (by omega) (by omega)]; omega)) (fun _ => ⟨hin, ?_⟩))
      rw [iI_ix (by omega), hc k (by omega), iI_succ]
      refine ⟨fun q => ⟨hin, ?_⟩, fun q => ?_⟩
      · rw [if_neg q] at this; exact this
      · rw [if_pos q] at this; exact this
  exact key (t + 1) 0 (by omega)
theorem hN_none {c : Nat → Int32} : ∀ k, (∀ i, i < k → c i = iI_ (-1)) → hN_ c k = iI_ (-1) := by
  intro k
  induction k with
  | zero => intro _; rfl
  | succ k ih =>
    intro h
    unfold hN_
    rw [if_pos (h k (by omega))]
    exact ih (fun i hi => h i (by omega))
theorem hN_last {c : Nat → Int32} {l : Nat} (hl : ¬ c l = iI_ (-1)) : ∀ d, (∀ i, l < i → i < l + 1 + d → c i = iI_ (-1)) → hN_ c (l + 1 + d) = c l := by
  intro d
  induction d with
  | zero => intro _; show hN_ c (l + 1) = _; unfold hN_; rw [if_neg hl]
  | succ d ih =>
    intro h
    show hN_ c ((l + 1 + d) + 1) = _
    unfold hN_
    rw [if_pos (h (l + 1 + d) (by omega) (by omega))]
    exact ih (fun i h1 h2 => h i h1 (by omega))
theorem hN_ca {a : St_} {n mn nf nj : Nat} (hV : Vx_ a n mn nf nj) (or : Nat → Int32) (wo : Int32) (jb : Nat → Bool) {t : Nat} (ht : t < 10) {J : Bool} (hJ : 0 < mn → J = jb (if mn - 1 < t then mn - 1 else t)) : hN_ (cR_ a n mn or (fun t => ps_ a nf (iI_ t) wo) jb) (t + 1) = ca_ a n mn nf or J wo (lp_ mn (iI_ t)) := by
  have h10 := hV.2.1.1
  by_cases h : 0 < n ∧ 0 < mn
  · have el : lp_ mn (iI_ t) = iI_ ((if mn - 1 < t then mn - 1 else t : Nat)) := by
      unfold lp_
      rw [iI_toInt (by omega)]
      by_cases q : mn - 1 < t
      · rw [if_pos (by omega), if_pos q]; congr 1; omega
      · rw [if_neg (by omega), if_neg q]
    generalize hL : (if mn - 1 < t then mn - 1 else t) = l at el hJ
    have hl : l < mn ∧ l ≤ t ∧ (l = t ∨ l = mn - 1) := by
      rw [← hL]; split <;> omega
    rw [el, hJ h.2]
    have hc : ∀ i, i < 10 → cR_ a n mn or (fun t => ps_ a nf (iI_ t) wo) jb i = ca_ a n mn nf or (jb i) wo (iI_ i) := fun i hi => cR_ca hV or wo jb hi
    have hne : ¬ cR_ a n mn or (fun t => ps_ a nf (iI_ t) wo) jb l = iI_ (-1) := by
      rw [cR_, if_pos ⟨h.1, by omega⟩]
      exact cx_ne hV or (jb l) wo (by omega)
    have := hN_last hne (t - l) (fun i h1 h2 => by rw [cR_, if_neg (by omega)])
    rw [show l + 1 + (t - l) = t + 1 by omega] at this
    rw [this, hc l (by omega)]
  · rw [hN_none _ (fun i hi => by rw [cR_, if_neg (by omega)]), ca_, if_neg]
    rintro ⟨h1, h2⟩
    have hm : mn = 0 := by omega
    subst hm
    have z : (iI_ ((0 : Nat) : Int)).toInt = 0 := by decide
    rw [inr_t, z] at h2
    omega
theorem m_houseOf (u : Ux_) {P : Int32 → St_ → Prop} (a σ : St_) {n mn nf nj : Nat} (hV : Vx_ a n mn nf nj) (hW : Wt_ a) (hR : Rm_ a σ) (t : Int32) (ht : inr_ t (iI_ 10) = true) (H : ∀ σ', Mk_ σ σ' → Rd_ a σ' n mn → P (q_house a n mn nf nj t) σ') : MMi_ (zm_ u) mX10_houseOf [.ref (uq_ u 0), .int t] σ P := by
  refine eX10_houseOf u σ t (m_runsTold u a σ hV hW hR (fun σ1 k1 r1 _ t1 => ?_))
  have H := H σ1 k1 r1
  rw [q_house, if_pos ht, ct_] at H
  obtain ⟨x, hx, rfl⟩ := inr_nat ht (by decide)
  refine m_houseNow u σ1 t1.2.1 (by omega) ?_
  rw [hN_ca hV (a 7) (iI_ (-1)) _ (by omega) (J := jh_ a (lp_ mn (iI_ x)) nj)]
  · exact H
  · intro hm
    have h10 := hV.2.1.1
    show _ = jh_ a (iI_ (if mn - 1 < x then mn - 1 else x : Nat)) nj
    congr 1
    unfold lp_
    rw [iI_toInt (by omega)]
    by_cases q : mn - 1 < x
    · rw [if_pos (by omega), if_pos q]; congr 1; omega
    · rw [if_neg (by omega), if_neg q]
theorem m_house (u : Ux_) {P : Int32 → St_ → Prop} (a σ : St_) {n mn nf nj : Nat} (hV : Vx_ a n mn nf nj) (hW : Wt_ a) (hR : Rm_ a σ) (t : Int32) (H : ∀ σ', Mk_ σ σ' → P (q_house a n mn nf nj t) σ') : MMi_ (zm_ u) mX10_house [.ref (uq_ u 0), .int t] σ P := by
  refine eX10_house u σ t (m_isNight u σ _ (nxb (fun h => ?_) (fun h => m_houseOf u a σ hV hW hR t h (fun σ2 k2 _ => H σ2 k2))))
  have := H σ Mk_.rf
  rw [q_house, if_neg (by simp [h])] at this; exact this
/-! told -/
theorem m_toldNow (u : Ux_) {P : Int32 → St_ → Prop} (a σ : St_) {n mn nf nj : Nat} (hV : Vx_ a n mn nf nj) (hW : Wt_ a) (hR : Rm_ a σ) (H : ∀ σ', Mk_ σ σ' → Rd_ a σ' n mn → P (iI_ (tld_ a n nf nj mn)) σ') : MMi_ (zm_ u) mX10_toldNow [.ref (uq_ u 0)] σ P := by
  have h8 := hV.1.1
  have h10 := hV.2.1.1
  refine eX10_toldNow u σ (m_runsTold u a σ hV hW hR (fun σ1 k1 r1 _ t1 => ?_))
  have H := H σ1 k1 r1
  have key : ∀ d k : Nat, k + d = mn → GG_ (zm_ u) mX10_toldNow (Pi_ P) 8 [(0, .ref (uq_ u 0)), (1, .int (iI_ (tld_ a n nf nj k))), (2, .int (iI_ k))] [] σ1 := by
    intro d
    induction d with
    | zero =>
      intro k hk
      have : k = mn := by omega
      subst this
      exact bX10_toldNow_8 u σ1 _ _ (cs_ (fun _ => H) (fun c => absurd (by rw [r1.2.1]; exact Int32.le_refl _) c))
    | succ d ih =>
      intro k hk
      have hb := ld_bd (vt_ a n nf nj k) (ww_ a k) n (ww_bd hV k)
      refine bX10_toldNow_8 u σ1 _ _ (cs_ (fun c => absurd c (by rw [r1.2.1, iI_le (by omega) (by omega)]; omega)) (fun _ => ?_))
      rw [r1.1, iI_le (by omega) (by omega)]
      refine cs_ (fun c => ?_) (fun c => ⟨(iI_in (by omega)).mpr (by omega), ?_⟩)
      · have z : ∀ i, tld_ a n nf nj i = 0 := by
          intro i
          induction i with
          | zero => rfl
          | succ i ih => unfold tld_; rw [ih, if_neg (by omega)]
        rw [z] at H ⊢; exact H
      · have e29 : σ1 29 k = iI_ ((ld_ (vt_ a n nf nj k) (ww_ a k) n).natAbs) := (t1.2.2 k (by omega) (by omega)).2.1
        have := ih (k + 1) (by omega)
        unfold tld_ at this
        rw [iI_ix (by omega), e29, iI_succ, iI_succ, iI_add, iI_eq (by omega) (by omega)]
        refine ⟨fun c2 => ?_, fun c2 => ?_⟩
        · rw [if_neg (by omega)] at this; exact this
        · rw [if_pos (by omega)] at this; exact this
  exact key mn 0 (by omega)
theorem m_told (u : Ux_) {P : Int32 → St_ → Prop} (a σ : St_) {n mn nf nj : Nat} (hV : Vx_ a n mn nf nj) (hW : Wt_ a) (hR : Rm_ a σ) (H : ∀ σ', Mk_ σ σ' → P (iI_ (tld_ a n nf nj mn)) σ') : MMi_ (zm_ u) mX10_told [.ref (uq_ u 0)] σ P :=
  eX10_told u σ (m_toldNow u a σ hV hW hR (fun σ2 k2 _ => H σ2 k2))
/-! pleased -/
theorem m_pleasures (u : Ux_) {P : Int32 → St_ → Prop} (a σ : St_) {n mn nf nj : Nat} (hV : Vx_ a n mn nf nj) (r1 : Rd_ a σ n mn) (t1 : Tl_ a σ n mn nf nj) {m : Nat} (hm : m < n) (H : P (iI_ (pls_ a n nf nj m mn)) σ) : MMi_ (zm_ u) mX10_pleasures [.ref (uq_ u 0), .int (iI_ m)] σ P := by
  have h8 := hV.1.1
  have h10 := hV.2.1.1
  refine eX10_pleasures u σ _ ?_
  have key : ∀ d k : Nat, k + d = mn → GG_ (zm_ u) mX10_pleasures (Pi_ P) 4 [(0, .ref (uq_ u 0)), (1, .int (iI_ m)), (2, .int (iI_ (pls_ a n nf nj m k))), (3, .int (iI_ k))] [] σ := by
    intro d
    induction d with
    | zero =>
      intro k hk
      have : k = mn := by omega
      subst this
      exact bX10_pleasures_4 u σ _ _ _ (cs_ (fun _ => H) (fun c => absurd (by rw [r1.2.1]; exact Int32.le_refl _) c))
    | succ d ih =>
      intro k hk
      have hin : vp_in (iI_ k) 10 := (iI_in (by omega)).mpr (by omega)
      have hin11 : vp_in (iI_ k) 11 := (iI_in (by omega)).mpr (by omega)
      have v31 := t1.2.1 k (by omega)
      rw [cR_ca hV _ _ _ (by omega), ca_, if_pos ⟨by omega, (inr_n (by omega) (by omega)).mpr (by omega)⟩, iI_ix (by omega)] at v31
      obtain ⟨d7, d8, -⟩ := r1.2.2.2 k (by omega)
      have := ih (k + 1) (by omega)
      unfold pls_ at this
      refine bX10_pleasures_4 u σ _ _ _ (cs_ (fun c => absurd c (by rw [r1.2.1, iI_le (by omega) (by omega)]; omega)) (fun _ => ⟨hin, hin, m_isIn u σ _ (by omega) ?_⟩))
      rw [iI_ix (by omega), (t1.2.2 k (by omega) (by omega)).1, bs_bt _ n (by omega), decide_eq_true hm, Bool.true_and, v31, d7, d8, iI_succ, iI_succ, iI_add]
      have ev : vt_ a n nf nj k m = v1_ n (a 7) (ps_ a nf (iI_ k) (iI_ (-1))) (jh_ a (iI_ k) nj) (a 11 k) (a 12 k) m := rfl
      refine nxb (fun h => ⟨hin11, fun c => ?_, fun c => ?_⟩) (fun h => ⟨hin11, fun c => ?_, fun c => ?_⟩)
      · rw [show (if vt_ a n nf nj k m = true then a 11 k else a 12 k) = a 11 k by rw [ev, if_pos (by simpa using h)], if_neg (fun e => c e.symm)] at this; exact this
      · rw [show (if vt_ a n nf nj k m = true then a 11 k else a 12 k) = a 11 k by rw [ev, if_pos (by simpa using h)], if_pos c.symm] at this; exact this
      · rw [show (if vt_ a n nf nj k m = true then a 11 k else a 12 k) = a 12 k by rw [ev, if_neg (by simpa using h)], if_neg (fun e => c e.symm)] at this; exact this
      · rw [show (if vt_ a n nf nj k m = true then a 11 k else a 12 k) = a 12 k by rw [ev, if_neg (by simpa using h)], if_pos c.symm] at this; exact this
  exact key mn 0 (by omega)
theorem m_pleasedNow (u : Ux_) {P : Int32 → St_ → Prop} (a σ : St_) {n mn nf nj : Nat} (hV : Vx_ a n mn nf nj) (hW : Wt_ a) (hR : Rm_ a σ) (H : ∀ σ', Mk_ σ σ' → Rd_ a σ' n mn → P (iI_ (bst_ (fun m => pls_ a n nf nj m mn) n)) σ') : MMi_ (zm_ u) mX10_pleasedNow [.ref (uq_ u 0)] σ P := by
  have h8 := hV.1.1
  have h10 := hV.2.1.1
  refine eX10_pleasedNow u σ (m_runsTold u a σ hV hW hR (fun σ1 k1 r1 _ t1 => ?_))
  have H := H σ1 k1 r1
  have key : ∀ d k : Nat, k + d = n → GG_ (zm_ u) mX10_pleasedNow (Pi_ P) 8 [(0, .ref (uq_ u 0)), (1, .int (iI_ (bst_ (fun m => pls_ a n nf nj m mn) k))), (2, .int (iI_ k))] [] σ1 := by
    intro d
    induction d with
    | zero =>
      intro k hk
      have : k = n := by omega
      subst this
      exact bX10_pleasedNow_8 u σ1 _ _ (cs_ (fun _ => H) (fun c => absurd (by rw [r1.1]; exact Int32.le_refl _) c))
    | succ d ih =>
      intro k hk
      have hb := bst_bd (fun m => pls_ a n nf nj m mn) k
      have := ih (k + 1) (by omega)
      unfold bst_ at this
      refine bX10_pleasedNow_8 u σ1 _ _ (cs_ (fun c => absurd c (by rw [r1.1, iI_le (by omega) (by omega)]; omega)) (fun _ => ?_))
      rw [iI_eq (by omega) (by omega), iI_succ]
      refine cs_ (fun c => ?_) (fun c => ?_)
      · rw [if_pos (Or.inl c)] at this; exact this
      · refine m_pleasures u a σ1 hV r1 t1 (by omega) ?_
        have es : iI_ (bst_ (fun m => pls_ a n nf nj m mn) k) = iI_ ((bst_ (fun m => pls_ a n nf nj m mn) k).toNat : Nat) := by congr 1; omega
        rw [show MMi_ (zm_ u) mX10_pleasures [.ref (uq_ u 0), .int (iI_ (bst_ (fun m => pls_ a n nf nj m mn) k))] = MMi_ (zm_ u) mX10_pleasures [.ref (uq_ u 0), .int (iI_ ((bst_ (fun m => pls_ a n nf nj m mn) k).toNat : Nat))] by rw [es]]
        refine m_pleasures u a σ1 hV r1 t1 (by omega) ?_
        have b1 := pls_bd a n nf nj k mn
        have b2 := pls_bd a n nf nj (bst_ (fun m => pls_ a n nf nj m mn) k).toNat mn
        rw [iI_le (by omega) (by omega)]
        refine cs_ (fun c2 => ?_) (fun c2 => ?_)
        · rw [if_neg (by omega)] at this; exact this
        · rw [if_pos (Or.inr (by omega))] at this; exact this
  exact key n 0 (by omega)
theorem m_pleased (u : Ux_) {P : Int32 → St_ → Prop} (a σ : St_) {n mn nf nj : Nat} (hV : Vx_ a n mn nf nj) (hW : Wt_ a) (hR : Rm_ a σ) (H : ∀ σ', Mk_ σ σ' → P (iI_ (bst_ (fun m => pls_ a n nf nj m mn) n)) σ') : MMi_ (zm_ u) mX10_pleased [.ref (uq_ u 0)] σ P :=
  eX10_pleased u σ (m_pleasedNow u a σ hV hW hR (fun σ2 k2 _ => H σ2 k2))
