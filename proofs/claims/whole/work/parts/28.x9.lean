/-! ===== the class: what carries on a night; lies, vote, house, told, pleased ===== -/
def Vx_ (a : St_) (n mn nf nj : Nat) : Prop := Wr_ a n ∧ Wm_ a mn ∧ (nf ≤ 8 ∧ a 14 0 = iI_ nf ∧ ∀ i, i < nf → isF_ (a 15 i) (a 16 i) (a 17 i) = true) ∧ (nj ≤ 6 ∧ a 18 0 = iI_ nj ∧ ∀ i, i < nj → inr_ (a 19 i) (iI_ 10) = true) ∧ Ww_ a
theorem Wf_.vx {a : St_} (h : Wf_ a) : ∃ n mn nf nj, Vx_ a n mn nf nj := by
  obtain ⟨ht, ⟨nf, f1, f2, f3⟩, ⟨nj, j1, j2, j3⟩, -, hw, -⟩ := h
  obtain ⟨n, hr⟩ := ht.roll
  obtain ⟨mn, hm⟩ := ht.mot
  exact ⟨n, mn, nf, nj, hr, hm, ⟨f1, f2, f3⟩, ⟨j1, j2, j3⟩, hw⟩
theorem Vx_.sc {a b : St_} {n mn nf nj : Nat} (h : Vx_ a n mn nf nj) (e : Sc_ a b) : Vx_ b n mn nf nj := by
  obtain ⟨h1, h2, h3, h4, h5⟩ := h
  refine ⟨h1.sc e, h2.sc e, ?_, ?_, h5.of (e 8 (by omega))⟩
  · rw [e 14 (by omega), e 15 (by omega), e 16 (by omega), e 17 (by omega)]; exact h3
  · rw [e 18 (by omega), e 19 (by omega)]; exact h4
theorem ly_sc {a b : St_} (e : Sc_ a b) (t wo : Int32) (m f : Nat) : ly_ b t wo m f = ly_ a t wo m f := by
  induction f with
  | zero => unfold ly_; rw [e 6 (by omega)]
  | succ f ih => unfold ly_; rw [ih, e 15 (by omega), e 16 (by omega), e 17 (by omega)]
theorem jh_sc {a b : St_} (e : Sc_ a b) (t : Int32) (k : Nat) : jh_ b t k = jh_ a t k := by
  induction k with
  | zero => rfl
  | succ k ih => unfold jh_; rw [ih, e 19 (by omega)]
theorem wg_sc {a b : St_} (e : Sc_ a b) (m : Nat) : wg_ b m = wg_ a m := by unfold wg_; rw [e 8 (by omega), e 5 (by omega)]
def ps_ (a : St_) (nf : Nat) (t wo : Int32) (m : Nat) : Int32 := (ly_ a t wo m nf).1
def vv_ (a : St_) (n nf : Nat) (or : Nat → Int32) (j : Bool) (wo : Int32) (t : Nat) (m : Nat) : Bool := v1_ n or (ps_ a nf (iI_ t) wo) j (a 11 t) (a 12 t) m
def ww_ (a : St_) (t m : Nat) : Int := if a 13 t = iI_ 2 then (wg_ a m).toInt else 1
def cx_ (a : St_) (n nf : Nat) (or : Nat → Int32) (j : Bool) (wo : Int32) (t : Nat) : Int32 := cr_ n (vv_ a n nf or j wo t) (ww_ a t) (ps_ a nf (iI_ t) wo) (a 11 t) (a 12 t)
def ca_ (a : St_) (n mn nf : Nat) (or : Nat → Int32) (j : Bool) (wo t : Int32) : Int32 := if 0 < n ∧ inr_ t (iI_ mn) = true then cx_ a n nf or j wo t.toNatClampNeg else iI_ (-1)
/-- what the chamber holds behind a vote of night t -/
def Dt_ (a : St_) (n nf : Nat) (or : Nat → Int32) (j : Bool) (wo : Int32) (t : Nat) (σ : St_) : Prop := σ 23 0 = a 11 t ∧ σ 24 0 = a 12 t ∧ σ 25 0 = bi_ (decide (a 13 t = iI_ 2)) ∧ (∀ m, m < n → σ 26 m = ps_ a nf (iI_ t) wo m) ∧ (∀ m, m < n → σ 29 m = bi_ (!vv_ a n nf or j wo t m)) ∧ σ 30 0 = iI_ (spk_ (ps_ a nf (iI_ t) wo) n) ∧ σ 31 0 = iI_ (fc_ (vv_ a n nf or j wo t) n) ∧ σ 32 0 = iI_ (ld_ (vv_ a n nf or j wo t) (ww_ a t) n)
abbrev CH : List Nat := [23, 24, 25, 26, 27, 28, 29, 30, 31, 32]
theorem CH_sc {a b c : St_} (h : Sc_ a b) (hk : Ke_ CH b c) : Sc_ a c := h.ke hk (by decide)
theorem cr_in (n : Nat) (v : Nat → Bool) (w : Nat → Int) (pos : Nat → Int32) (fs ot : Int32) : cr_ n v w pos fs ot = fs ∨ cr_ n v w pos fs ot = ot := by
  unfold cr_
  split
  · split
    · exact Or.inl rfl
    · exact Or.inr rfl
  · split
    · exact Or.inl rfl
    · exact Or.inr rfl
theorem cx_in {a : St_} {n mn nf nj : Nat} (h : Vx_ a n mn nf nj) (or : Nat → Int32) (j : Bool) (wo : Int32) {t : Nat} (ht : t < mn) : 0 ≤ (cx_ a n nf or j wo t).toInt ∧ (cx_ a n nf or j wo t).toInt < 3 := by
  have q := h.2.1.2.2 t ht
  rcases cr_in n (vv_ a n nf or j wo t) (ww_ a t) (ps_ a nf (iI_ t) wo) (a 11 t) (a 12 t) with e | e
  · rw [cx_, e]; exact q.1
  · rw [cx_, e]; exact q.2.1
theorem cx_ne {a : St_} {n mn nf nj : Nat} (h : Vx_ a n mn nf nj) (or : Nat → Int32) (j : Bool) (wo : Int32) {t : Nat} (ht : t < mn) : ¬ cx_ a n nf or j wo t = iI_ (-1) := by
  intro e
  have := cx_in h or j wo ht
  rw [e] at this
  exact absurd this (by decide)
theorem ps_in {a : St_} {n mn nf nj : Nat} (h : Vx_ a n mn nf nj) (t wo : Int32) {m : Nat} (hm : m < n) : 0 ≤ (ps_ a nf t wo m).toInt ∧ (ps_ a nf t wo m).toInt < 6 := ly_in (h.1.2.2 m hm).2.1 h.2.2.1.2.2
theorem x_open (u : Ux_) {P : St_ → Prop} (σ : St_) {mn t : Nat} (hm : Wm_ σ mn) (ht : t < mn) (H : ∀ σ', Ke_ [23, 24, 25] σ σ' → σ' 23 0 = σ 11 t → σ' 24 0 = σ 12 t → σ' 25 0 = bi_ (decide (σ 13 t = iI_ 2)) → P σ') : MMv_ (zx_ u) mX0_open [.ref (uq_ u 20), .int (iI_ t)] σ P := by
  have h10 := hm.1
  have hin : vp_in (iI_ t) 10 := (iI_in (by omega)).mpr (by omega)
  refine eX0_open u σ _ (cs_ (fun c => ?_) (fun _ => cs_ (fun c => ?_) (fun _ => ⟨hin, ?_⟩)))
  · rw [iI_lt (by omega) (by omega)] at c; omega
  · rw [hm.2.1, iI_le (by omega) (by omega)] at c; omega
  · rw [iI_ix (by omega)]
    rintro σ4 rfl
    refine ⟨hin, ?_⟩
    rintro σ6 rfl
    refine ⟨hin, ?_⟩
    rw [su_i _ _ _ (by decide), su_i _ _ _ (by decide), su_i _ _ _ (by decide)]
    refine ⟨fun c => ?_, fun c => ?_⟩
    · rintro σ9 rfl
      exact H _ (((Ke_.rf.su (by decide)).su (by decide)).su (by decide)) (by rw [su_i _ _ _ (by decide), su_i _ _ _ (by decide), su_same]) (by rw [su_i _ _ _ (by decide), su_same]) (by rw [su_same, decide_eq_false c]; rfl)
    · rintro σ10 rfl
      exact H _ (((Ke_.rf.su (by decide)).su (by decide)).su (by decide)) (by rw [su_i _ _ _ (by decide), su_i _ _ _ (by decide), su_same]) (by rw [su_i _ _ _ (by decide), su_same]) (by rw [su_same, decide_eq_true c]; rfl)
theorem x_carried (u : Ux_) {P : Int32 → St_ → Prop} (po ko : Nat) (hp : Ap_ u po ko) (hko : ko = 7 ∨ ko = 34) (a σ : St_) {n mn nf nj : Nat} (hV : Vx_ a n mn nf nj) (hS : Sc_ a σ) (t wo : Int32) (or : Nat → Int32) (hor : ∀ m, m < n → σ ko m = or m) (j : Bool)
    (H : ∀ σ', Ke_ CH σ σ' → (0 < n → inr_ t (iI_ mn) = true → Dt_ a n nf or j wo t.toNatClampNeg σ') → P (ca_ a n mn nf or j wo t) σ') : MMi_ (zx_ u) mX0_carried [.ref (uq_ u 20), .int t, .ref (uq_ u po), .int (bi_ j), .int wo] σ P := by
  have hVs := hV.sc hS
  have h10 := hV.2.1.1
  have e9 : σ 9 0 = iI_ mn := hVs.2.1.2.1
  refine eX0_carried u po ko hp σ t (bi_ j) wo (x_isPut u σ t hVs.1 (nxn (fun h => ?_) (fun h => ?_)))
  · rw [e9] at h
    have hc : ca_ a n mn nf or j wo t = iI_ (-1) := by
      rw [ca_, if_neg]
      rintro ⟨h1, h2⟩
      rw [h2, decide_eq_true h1] at h
      exact absurd h (by decide)
    rw [← hc]
    refine H σ Ke_.rf (fun h1 h2 => ?_)
    rw [h2, decide_eq_true h1] at h
    exact absurd h (by decide)
  · rw [e9] at h
    simp only [Bool.and_eq_true, decide_eq_true_eq] at h
    obtain ⟨h0, ht⟩ := h
    obtain ⟨k, hk, rfl⟩ := inr_nat ht (by omega)
    have hk' : k < mn := by omega
    have hkn : (iI_ (k : Int)).toNatClampNeg = k := iI_ix (by omega)
    have hc : ca_ a n mn nf or j wo (iI_ k) = cx_ a n nf or j wo k := by rw [ca_, if_pos ⟨h0, ht⟩, hkn]
    rw [hc] at H
    refine x_open u σ hVs.2.1 hk' (fun σ4 k4 e23 e24 e25 => ?_)
    have s4 : Sc_ a σ4 := hS.ke k4 (by decide)
    have v4 := hV.sc s4
    refine x_lay u σ4 (iI_ k) wo v4.1 v4.2.2.1.1 v4.2.2.1.2.1 v4.2.2.1.2.2 (fun σ5 k5 p5 => ?_)
    have s5 : Sc_ a σ5 := s4.ke k5 (by decide)
    have v5 := hV.sc s5
    have p5' : ∀ m, m < n → σ5 26 m = ps_ a nf (iI_ k) wo m := fun m hm => by rw [p5 m hm, ly_sc s4]; rfl
    have e23' : σ5 23 0 = a 11 k := by rw [k5 23 (by decide), e23, hS 11 (by omega)]
    have e24' : σ5 24 0 = a 12 k := by rw [k5 24 (by decide), e24, hS 12 (by omega)]
    have e25' : σ5 25 0 = bi_ (decide (a 13 k = iI_ 2)) := by rw [k5 25 (by decide), e25, hS 13 (by omega)]
    have or5 : ∀ m, m < n → σ5 ko m = or m := fun m hm => by
      rw [k5 ko (by simp; omega), k4 ko (by simp; omega)]; exact hor m hm
    refine x_lean u po ko hp (by omega) σ5 j v5.1 or (ps_ a nf (iI_ k) wo) (a 11 k) (a 12 k) or5 (fun m hm => ⟨p5' m hm, ps_in hV _ _ hm⟩) e23' e24' (fun σ6 k6 hv6 e30 => ?_)
    have s6 : Sc_ a σ6 := s5.ke k6 (by decide)
    have v6 := hV.sc s6
    refine x_tally u σ6 v6.1 h0 v6.2.2.2.2 (decide (a 13 k = iI_ 2)) (by rw [k6 25 (by decide)]; exact e25') (vv_ a n nf or j wo k) (ww_ a k) (ps_ a nf (iI_ k) wo) hv6 (fun m hm => ?_) e30 (fun σ7 k7 e31 e32 => ?_)
    · rw [wg_sc s6, ww_]; simp
    · have e23'' : σ6 23 0 = a 11 k := by rw [k6 23 (by decide)]; exact e23'
      have e24'' : σ6 24 0 = a 12 k := by rw [k6 24 (by decide)]; exact e24'
      rw [e23'', e24'']
      have up4 : Ke_ CH σ σ4 := k4.up (by decide)
      have up5 : Ke_ CH σ4 σ5 := k5.up (by decide)
      have up6 : Ke_ CH σ5 σ6 := k6.up (by decide)
      have up7 : Ke_ CH σ6 σ7 := k7.up (by decide)
      refine H σ7 (((up4.tr up5).tr up6).tr up7) (fun _ _ => ?_)
      rw [hkn]
      refine ⟨by rw [k7 23 (by decide)]; exact e23'', by rw [k7 24 (by decide)]; exact e24'', by rw [k7 25 (by decide), k6 25 (by decide)]; exact e25', fun m hm => by rw [k7 26 (by decide), k6 26 (by decide)]; exact p5' m hm, fun m hm => by rw [k7 29 (by decide)]; exact hv6 m hm, by rw [k7 30 (by decide)]; exact e30, e31, e32⟩
/-- as told -/
def ct_ (a : St_) (n mn nf nj : Nat) (t : Int32) : Int32 := ca_ a n mn nf (a 7) (jh_ a t nj) (iI_ (-1)) t
theorem x_asTold (u : Ux_) {P : Int32 → St_ → Prop} (a σ : St_) {n mn nf nj : Nat} (hV : Vx_ a n mn nf nj) (hS : Sc_ a σ) (t : Int32) (H : ∀ σ', Ke_ CH σ σ' → (0 < n → inr_ t (iI_ mn) = true → Dt_ a n nf (a 7) (jh_ a t nj) (iI_ (-1)) t.toNatClampNeg σ') → P (ct_ a n mn nf nj t) σ') : MMi_ (zx_ u) mX9_carriedAsTold [.ref (uq_ u 0), .int t] σ P := by
  have hVs := hV.sc hS
  refine eX9_carriedAsTold u σ t (x_has u σ t hVs.2.2.2.1.1 hVs.2.2.2.1.2.1 ?_)
  rw [jh_sc hS]
  exact x_carried u 5 7 (ap_order u) (Or.inl rfl) a σ hV hS t (iI_ (-1)) (a 7) (fun m hm => by rw [hS 7 (by omega)]) _ H
theorem x_asTried (u : Ux_) {P : Int32 → St_ → Prop} (a σ : St_) {n mn nf nj : Nat} (hV : Vx_ a n mn nf nj) (hS : Sc_ a σ) (or : Nat → Int32) (hor : ∀ m, m < n → σ 34 m = or m) (t : Int32) (H : ∀ σ', Ke_ CH σ σ' → P (ca_ a n mn nf or (jh_ a t nj) (iI_ (-1)) t) σ') : MMi_ (zx_ u) mX9_carriedAsTried [.ref (uq_ u 0), .int t] σ P := by
  have hVs := hV.sc hS
  refine eX9_carriedAsTried u σ t (x_has u σ t hVs.2.2.2.1.1 hVs.2.2.2.1.2.1 ?_)
  rw [jh_sc hS]
  exact x_carried u 28 34 (ap_tried u) (Or.inr rfl) a σ hV hS t (iI_ (-1)) or hor _ (fun σ' hk _ => H σ' hk)
def lp_ (mn : Nat) (t : Int32) : Int32 := if (mn : Int) - 1 < t.toInt then iI_ ((mn : Int) - 1) else t
theorem x_lastPut (u : Ux_) {P : Int32 → St_ → Prop} (σ : St_) {mn : Nat} (hm : Wm_ σ mn) (t : Int32) (H : P (lp_ mn t) σ) : MMi_ (zx_ u) mX9_lastPut [.ref (uq_ u 0), .int t] σ P := by
  have h10 := hm.1
  refine eX9_lastPut u σ t ?_
  rw [hm.2.1, iI_sub]
  unfold lp_ at H
  by_cases c : (mn : Int) - 1 < t.toInt
  · rw [if_pos c] at H
    rw [if_pos (by rw [iI_ltI, iI_toInt (by omega)]; exact c)]
    exact H
  · rw [if_neg c] at H
    rw [if_neg (by rw [iI_ltI, iI_toInt (by omega)]; exact c)]
    exact H
