/-! ===== the class: never, would, ask, evenings ===== -/
def Vs_ (a : St_) (ns : Nat) : Prop := ns ≤ 8 ∧ a 20 0 = iI_ ns ∧ ∀ i, i < ns → inr_ (a 21 i) (iI_ 10) = true ∧ -1 ≤ (a 22 i).toInt ∧ (a 22 i).toInt ≤ 2
theorem Vs_.sc {a b : St_} {ns : Nat} (h : Vs_ a ns) (e : Sc_ a b) : Vs_ b ns := by
  unfold Vs_ at *; rw [e 20 (by omega), e 21 (by omega), e 22 (by omega)]; exact h
/-- the first k things seen come out so -/
def sk_ (a : St_) (n mn nf nj : Nat) (or : Nat → Int32) (wo : Int32) : Nat → Bool
  | 0 => true
  | k + 1 => sk_ a n mn nf nj or wo k && decide (ca_ a n mn nf or (jh_ a (a 21 k) nj) wo (a 21 k) = a 22 k)
theorem x_seenSo (u : Ux_) {P : Int32 → St_ → Prop} (po ko : Nat) (hp : Ap_ u po ko) (hko : ko = 7 ∨ ko = 34) (a σ : St_) {n mn nf nj ns : Nat} (hV : Vx_ a n mn nf nj) (hN : Vs_ a ns) (hS : Sc_ a σ) (wo : Int32) (or : Nat → Int32) (hor : ∀ m, m < n → σ ko m = or m) (H : ∀ σ', Ke_ CH σ σ' → P (bi_ (sk_ a n mn nf nj or wo ns)) σ') : MMi_ (zx_ u) mX9_seenSo [.ref (uq_ u 0), .ref (uq_ u po), .int wo] σ P := by
  have h8 := hN.1
  refine eX9_seenSo u po ko hp σ wo ?_
  have mono : ∀ d k : Nat, sk_ a n mn nf nj or wo k = false → sk_ a n mn nf nj or wo (k + d) = false := by
    intro d
    induction d with
    | zero => intro k h; exact h
    | succ d ih => intro k h; show (sk_ a n mn nf nj or wo (k + d) && _) = false; rw [ih k h]; rfl
  have key : ∀ (d k : Nat) (τ : St_), k + d = ns → Ke_ CH σ τ → sk_ a n mn nf nj or wo k = true → GG_ (zx_ u) mX9_seenSo (Pi_ P) 2 [(0, .ref (uq_ u 0)), (1, .ref (uq_ u po)), (2, .int wo), (3, .int (iI_ k))] [] τ := by
    intro d
    induction d with
    | zero =>
      intro k τ hk hke h0
      have : k = ns := by omega
      subst this
      rw [h0] at H
      exact bX9_seenSo_2 u po ko hp τ _ _ (cs_ (fun _ => H τ hke) (fun c => absurd (by rw [CH_sc hS hke 20 (by omega), hN.2.1]; exact Int32.le_refl _) c))
    | succ d ih =>
      intro k τ hk hke h0
      have hs := CH_sc hS hke
      have hVs := hV.sc hs
      have hin : vp_in (iI_ k) 8 := (iI_in (by omega)).mpr (by omega)
      refine bX9_seenSo_2 u po ko hp τ _ _ (cs_ (fun c => absurd c (by rw [hs 20 (by omega), hN.2.1, iI_le (by omega) (by omega)]; omega)) (fun _ => ⟨hin, ?_⟩))
      rw [iI_ix (by omega), hs 21 (by omega)]
      refine x_has u τ _ hVs.2.2.2.1.1 hVs.2.2.2.1.2.1 ?_
      rw [jh_sc hs]
      refine x_carried u po ko hp hko a τ hV hs (a 21 k) wo or (fun m hm => by rw [hke ko (by simp; omega)]; exact hor m hm) _ (fun σ1 k1 _ => ⟨hin, ?_⟩)
      rw [CH_sc hs k1 22 (by omega), iI_succ]
      refine cs_ (fun c => ?_) (fun c => ?_)
      · exact ih (k + 1) σ1 (by omega) (hke.tr k1) (by unfold sk_; simp [h0, c])
      · have h1 : sk_ a n mn nf nj or wo (k + 1) = false := by unfold sk_; simp [c]
        have h2 := mono d (k + 1) h1
        rw [show k + 1 + d = ns by omega] at h2
        have := H σ1 (hke.tr k1)
        rw [h2] at this; exact this
  exact key ns 0 σ (by omega) Ke_.rf rfl
def q_never (a : St_) (n mn nf nj ns : Nat) : Int32 := bs_ (fun f => sk_ a n mn nf nj (a 7) (iI_ f) ns) nf
theorem x_never (u : Ux_) {P : Int32 → St_ → Prop} (a σ : St_) {n mn nf nj ns : Nat} (hV : Vx_ a n mn nf nj) (hN : Vs_ a ns) (hS : Sc_ a σ) (H : ∀ σ', Sc_ a σ' → P (q_never a n mn nf nj ns) σ') : MMi_ (zx_ u) mX9_never [.ref (uq_ u 0)] σ P := by
  have h8 := hV.2.2.1.1
  refine eX9_never u σ ?_
  have key : ∀ (d f : Nat) (τ : St_), f + d = nf → Sc_ a τ → GG_ (zx_ u) mX9_never (Pi_ P) 4 [(0, .ref (uq_ u 0)), (1, .int (bs_ (fun f => sk_ a n mn nf nj (a 7) (iI_ f) ns) f)), (2, .int (iI_ f))] [] τ := by
    intro d
    induction d with
    | zero =>
      intro f τ hf hs
      have : f = nf := by omega
      subst this
      exact bX9_never_4 u τ _ _ (cs_ (fun _ => H τ hs) (fun c => absurd (by rw [hs 14 (by omega), hV.2.2.1.2.1]; exact Int32.le_refl _) c))
    | succ d ih =>
      intro f τ hf hs
      refine bX9_never_4 u τ _ _ (cs_ (fun c => absurd c (by rw [hs 14 (by omega), hV.2.2.1.2.1, iI_le (by omega) (by omega)]; omega)) (fun _ => x_seenSo u 5 7 (ap_order u) (Or.inl rfl) a τ hV hN hs _ (a 7) (fun m hm => by rw [hs 7 (by omega)]) (fun σ1 k1 => ?_)))
      rw [iI_succ]
      refine nxb (fun h => ?_) (fun h => ?_)
      · have := ih (f + 1) σ1 (by omega) (CH_sc hs k1)
        rw [bs_, if_neg (by simp [h])] at this; exact this
      · have := ih (f + 1) σ1 (by omega) (CH_sc hs k1)
        rw [bs_, if_pos h] at this; exact this
  exact key nf 0 σ (by omega) hS
/-- the orders, with o for member m -/
def tor_ (a : St_) (m o i : Nat) : Int32 := if i = m then iI_ o else a 7 i
theorem x_tryOrder (u : Ux_) {P : St_ → Prop} (a σ : St_) {n : Nat} (hr : Wr_ a n) (hS : Sc_ a σ) {m o : Nat} (hm : m < 8) (H : ∀ σ', Ke_ [34] σ σ' → (∀ i, i < n → σ' 34 i = tor_ a m o i) → P σ') : MMv_ (zx_ u) mX9_tryOrder [.ref (uq_ u 0), .int (iI_ m), .int (iI_ o)] σ P := by
  have h8 := hr.1
  refine eX9_tryOrder u σ _ _ ?_
  have key : ∀ (d i : Nat) (τ : St_), i + d = n → Ke_ [34] σ τ → (∀ k, k < i → τ 34 k = tor_ a m o k) → GG_ (zx_ u) mX9_tryOrder (Pv_ P) 2 [(0, .ref (uq_ u 0)), (1, .int (iI_ m)), (2, .int (iI_ o)), (3, .int (iI_ i))] [] τ := by
    intro d
    induction d with
    | zero =>
      intro i τ hi hk hA
      have : i = n := by omega
      subst this
      exact bX9_tryOrder_2 u τ _ _ _ (cs_ (fun _ => H τ hk hA) (fun c => absurd (by rw [hk 3 (by decide), hS 3 (by omega), hr.2.1]; exact Int32.le_refl _) c))
    | succ d ih =>
      intro i τ hi hk hA
      have hin : vp_in (iI_ i) 8 := (iI_in (by omega)).mpr (by omega)
      have fin : ∀ v, v = tor_ a m o i → ∀ σ4, σ4 = su_ τ 34 i v → GG_ (zx_ u) mX9_tryOrder (Pv_ P) 2 [(0, .ref (uq_ u 0)), (1, .int (iI_ m)), (2, .int (iI_ o)), (3, .int (iI_ (i + 1 : Nat)))] [] σ4 := by
        intro v hv σ4 e4
        refine ih (i + 1) σ4 (by omega) (by rw [e4]; exact hk.su (by decide)) (fun k hk2 => ?_)
        by_cases q : k = i
        · rw [e4, q, su_same, hv]
        · rw [e4, su_j _ _ _ q]; exact hA k (by omega)
      refine bX9_tryOrder_2 u τ _ _ _ (cs_ (fun c => absurd c (by rw [hk 3 (by decide), hS 3 (by omega), hr.2.1, iI_le (by omega) (by omega)]; omega)) (fun _ => ?_))
      rw [iI_ix (by omega), iI_succ, hk 7 (by decide), hS 7 (by omega)]
      refine ⟨fun c => ⟨hin, hin, fin _ ?_⟩, fun c => ⟨hin, fin _ ?_⟩⟩ <;> rw [iI_eq (by omega) (by omega)] at c
      · rw [tor_, if_neg (by omega)]
      · rw [tor_, if_pos (by omega)]
  exact key n 0 σ (by omega) Ke_.rf (fun k hk => by omega)
def wd_ (a : St_) (n mn nf nj ns m : Nat) (o : Nat) : Bool := sk_ a n mn nf nj (tor_ a m o) (iI_ (-1)) ns
theorem x_orders (u : Ux_) {P : Int32 → St_ → Prop} (a σ : St_) {n mn nf nj ns : Nat} (hV : Vx_ a n mn nf nj) (hN : Vs_ a ns) (hS : Sc_ a σ) {m : Nat} (hm : m < n) (H : ∀ σ', Sc_ a σ' → P (bs_ (wd_ a n mn nf nj ns m) 6) σ') : MMi_ (zx_ u) mX9_ordersSeenSo [.ref (uq_ u 0), .int (iI_ m)] σ P := by
  have h8 := hV.1.1
  refine eX9_ordersSeenSo u σ _ ?_
  have key : ∀ (d o : Nat) (τ : St_), o + d = 6 → Sc_ a τ → GG_ (zx_ u) mX9_ordersSeenSo (Pi_ P) 4 [(0, .ref (uq_ u 0)), (1, .int (iI_ m)), (2, .int (bs_ (wd_ a n mn nf nj ns m) o)), (3, .int (iI_ o))] [] τ := by
    intro d
    induction d with
    | zero =>
      intro o τ ho hs
      have : o = 6 := by omega
      subst this
      exact bX9_ordersSeenSo_4 u τ _ _ _ (cs_ (fun _ => H τ hs) (fun c => absurd (by decide) c))
    | succ d ih =>
      intro o τ ho hs
      refine bX9_ordersSeenSo_4 u τ _ _ _ (cs_ (fun c => absurd c (by rw [iI_le (by omega) (by omega)]; omega)) (fun _ => x_tryOrder u a τ hV.1 hs (by omega) (fun σ1 k1 h1 => ?_)))
      have s1 : Sc_ a σ1 := hs.ke k1 (by decide)
      refine x_seenSo u 28 34 (ap_tried u) (Or.inr rfl) a σ1 hV hN s1 _ (tor_ a m o) h1 (fun σ2 k2 => ?_)
      rw [iI_succ]
      refine nxb (fun h => ?_) (fun h => ?_)
      · have := ih (o + 1) σ2 (by omega) (CH_sc s1 k2)
        rw [bs_, if_neg (by rw [wd_, h]; decide)] at this; exact this
      · have := ih (o + 1) σ2 (by omega) (CH_sc s1 k2)
        rw [bs_, if_pos (by rw [wd_]; exact h)] at this; exact this
  exact key 6 0 σ (by omega) hS
def q_would (a : St_) (n mn nf nj ns : Nat) (m : Int32) : Int32 := if inr_ m (a 3 0) = true then bs_ (wd_ a n mn nf nj ns m.toNatClampNeg) 6 else iI_ (-2)
theorem x_would (u : Ux_) {P : Int32 → St_ → Prop} (a σ : St_) {n mn nf nj ns : Nat} (hV : Vx_ a n mn nf nj) (hN : Vs_ a ns) (hS : Sc_ a σ) (m : Int32) (H : ∀ σ', Sc_ a σ' → P (q_would a n mn nf nj ns m) σ') : MMi_ (zx_ u) mX9_would [.ref (uq_ u 0), .int m] σ P := by
  have h8 := hV.1.1
  refine eX9_would u σ m (s_isMember u σ _ (nxb (fun h => ?_) (fun h => ?_)))
  · rw [hS 3 (by omega)] at h
    have := H σ hS; simp [q_would, h] at this; exact this
  · rw [hS 3 (by omega)] at h
    simp only [q_would, h, if_true] at H
    obtain ⟨k, hk, rfl⟩ := inr_nat (k := n) (by rw [hV.1.2.1] at h; exact h) (by omega)
    rw [iI_ix (by omega)] at H
    exact x_orders u a σ hV hN hS (by omega) H
/-- how many of the first k orders that f allows have c = v; the greatest such number -/
def cnt_ (f : Nat → Bool) (c : Nat → Int32) (v : Int32) : Nat → Nat
  | 0 => 0
  | k + 1 => cnt_ f c v k + (if f k = true ∧ c k = v then 1 else 0)
def gr_ (f : Nat → Bool) (c : Nat → Int32) : Nat → Nat
  | 0 => 0
  | k + 1 => if f k = true then max (gr_ f c k) (cnt_ f c (c k) (k + 1)) else gr_ f c k
theorem cnt_bd (f : Nat → Bool) (c : Nat → Int32) (v : Int32) (k : Nat) : cnt_ f c v k ≤ k := by
  induction k with
  | zero => simp [cnt_]
  | succ k ih => unfold cnt_; exact Nat.add_le_add ih (ite01 _)
theorem gr_bd (f : Nat → Bool) (c : Nat → Int32) (k : Nat) : gr_ f c k ≤ k := by
  induction k with
  | zero => simp [gr_]
  | succ k ih =>
    unfold gr_
    have := cnt_bd f c (c k) (k + 1)
    split <;> omega
/-- what carries on night t by order o of member m -/
def co_ (a : St_) (n mn nf nj m t o : Nat) : Int32 := ca_ a n mn nf (tor_ a m o) (jh_ a (iI_ t) nj) (iI_ (-1)) (iI_ t)
theorem ca_in {a : St_} {n mn nf nj : Nat} (hV : Vx_ a n mn nf nj) (or : Nat → Int32) (j : Bool) (wo t : Int32) : -1 ≤ (ca_ a n mn nf or j wo t).toInt ∧ (ca_ a n mn nf or j wo t).toInt < 3 := by
  unfold ca_
  split
  · rename_i h
    have h10 := hV.2.1.1
    have q := inr_t.mp h.2
    rw [iI_toInt (by omega)] at q
    have := cx_in hV or j wo (t := t.toNatClampNeg) (by rw [clampI]; omega)
    omega
  · decide
theorem x_mostAlike (u : Ux_) {P : Int32 → St_ → Prop} (a σ : St_) {n mn nf nj : Nat} (hV : Vx_ a n mn nf nj) (hS : Sc_ a σ) {m t : Nat} (hm : m < n) (ht : t < 10) (f : Nat → Bool) (H : ∀ σ', Sc_ a σ' → P (iI_ (gr_ f (co_ a n mn nf nj m t) 6)) σ') : MMi_ (zx_ u) mX9_mostAlike [.ref (uq_ u 0), .int (iI_ t), .int (iI_ m), .int (bs_ f 6)] σ P := by
  have h8 := hV.1.1
  refine eX9_mostAlike u σ _ _ _ ?_
  have key2 : ∀ (d o : Nat) (τ : St_), o + d = 6 → Sc_ a τ → (∀ v : Nat, v < 4 → τ 37 v = iI_ (cnt_ f (co_ a n mn nf nj m t) (iI_ ((v : Int) - 1)) o)) → GG_ (zx_ u) mX9_mostAlike (Pi_ P) 39 [(0, .ref (uq_ u 0)), (1, .int (iI_ t)), (2, .int (iI_ m)), (3, .int (bs_ f 6)), (4, .int (bi_ (jh_ a (iI_ t) nj))), (5, .int (iI_ (gr_ f (co_ a n mn nf nj m t) o))), (6, .int (iI_ o))] [] τ := by
    intro d
    induction d with
    | zero =>
      intro o τ ho hs hA
      have : o = 6 := by omega
      subst this
      exact bX9_mostAlike_39 u τ _ _ _ _ _ _ (cs_ (fun _ => H τ hs) (fun c => absurd (by decide) c))
    | succ d ih =>
      intro o τ ho hs hA
      refine bX9_mostAlike_39 u τ _ _ _ _ _ _ (cs_ (fun c => absurd c (by rw [iI_le (by omega) (by omega)]; omega)) (fun _ => ?_))
      rw [bt_is _ (by omega), bs_bt f 6 (by omega) o, decide_eq_true (show o < 6 by omega), Bool.true_and, iI_succ]
      refine ⟨fun c => ?_, fun c => ?_⟩
      · have := ih (o + 1) τ (by omega) hs (fun v hv => by rw [hA v hv, cnt_, if_neg (fun q => c q.1)]; simp)
        rw [gr_, if_neg c] at this; exact this
      · refine x_tryOrder u a τ hV.1 hs (by omega) (fun σ1 k1 h1 => ?_)
        have s1 : Sc_ a σ1 := hs.ke k1 (by decide)
        refine x_carried u 28 34 (ap_tried u) (Or.inr rfl) a σ1 hV s1 _ _ (tor_ a m o) h1 _ (fun σ2 k2 _ => ?_)
        have s2 := CH_sc s1 k2
        have hc : ca_ a n mn nf (tor_ a m o) (jh_ a (iI_ t) nj) (iI_ (-1)) (iI_ t) = co_ a n mn nf nj m t o := rfl
        have hb := ca_in hV (tor_ a m o) (jh_ a (iI_ t) nj) (iI_ (-1)) (iI_ t)
        rw [hc] at hb ⊢
        generalize hv : co_ a n mn nf nj m t o = c0 at hb ⊢
        obtain ⟨v, hv4, ev⟩ : ∃ v : Nat, v < 4 ∧ c0 = iI_ ((v : Int) - 1) := ⟨(c0.toInt + 1).toNat, by omega, by rw [show (((c0.toInt + 1).toNat : Nat) : Int) - 1 = c0.toInt by omega, iI_of]⟩
        rw [ev, iI_add, show ((v : Int) - 1 + 1) = (v : Int) by omega, iI_ix (by omega)]
        have hin : vp_in (iI_ v) 4 := (iI_in (by omega)).mpr (by omega)
        have h4 : inr_ (iI_ v) (iI_ 4) = true := by rw [inr_t, t_4, iI_toInt (by omega)]; omega
        refine s_within u σ2 _ _ (nxb (fun h => absurd h (by rw [h4]; decide)) (fun _ => ⟨hin, hin, ?_⟩))
        rintro σ7 e7
        refine ⟨hin, ?_⟩
        have a4 : ∀ w : Nat, w < 4 → σ2 37 w = iI_ (cnt_ f (co_ a n mn nf nj m t) (iI_ ((w : Int) - 1)) o) := fun w hw => by rw [k2 37 (by decide), k1 37 (by decide)]; exact hA w hw
        have cb := cnt_bd f (co_ a n mn nf nj m t) (iI_ ((v : Int) - 1)) o
        have gb := gr_bd f (co_ a n mn nf nj m t) o
        have cs : cnt_ f (co_ a n mn nf nj m t) (iI_ ((v : Int) - 1)) (o + 1) = cnt_ f (co_ a n mn nf nj m t) (iI_ ((v : Int) - 1)) o + 1 := by rw [cnt_, if_pos ⟨c, by rw [hv, ev]⟩]
        have e7v : σ7 37 v = iI_ (cnt_ f (co_ a n mn nf nj m t) (iI_ ((v : Int) - 1)) (o + 1) : Nat) := by rw [e7, su_same, a4 v hv4, iI_succ, cs]
        rw [e7v]
        have := ih (o + 1) σ7 (by omega) (by rw [e7]; exact s2.su (by decide)) (fun w hw => ?_)
        · rw [gr_, if_pos c, hv, ev] at this
          have e : (if iI_ (gr_ f (co_ a n mn nf nj m t) o) < iI_ (cnt_ f (co_ a n mn nf nj m t) (iI_ ((v : Int) - 1)) (o + 1) : Nat) then iI_ (cnt_ f (co_ a n mn nf nj m t) (iI_ ((v : Int) - 1)) (o + 1) : Nat) else iI_ (gr_ f (co_ a n mn nf nj m t) o)) = iI_ (max (gr_ f (co_ a n mn nf nj m t) o) (cnt_ f (co_ a n mn nf nj m t) (iI_ ((v : Int) - 1)) (o + 1)) : Nat) := by
            rw [cs]
            split
            · rename_i q
              rw [iI_lt (by omega) (by omega)] at q
              rw [Nat.max_eq_right (by omega)]
            · rename_i q
              rw [iI_lt (by omega) (by omega)] at q
              rw [Nat.max_eq_left (by omega)]
          rw [e]; exact this
        · by_cases q : w = v
          · rw [q]; exact e7v
          · rw [e7, su_j _ _ _ q, a4 w hw, cnt_, if_neg (fun z => ?_)]
            · simp
            · have := z.2
              rw [hv, ev, iI_eq (by omega) (by omega)] at this
              omega
  have key1 : ∀ (d k : Nat) (τ : St_), k + d = 4 → Sc_ a τ → (∀ v : Nat, v < k → τ 37 v = iI_ 0) → GG_ (zx_ u) mX9_mostAlike (Pi_ P) 3 [(0, .ref (uq_ u 0)), (1, .int (iI_ t)), (2, .int (iI_ m)), (3, .int (bs_ f 6)), (4, .int (iI_ k))] [] τ := by
    intro d
    induction d with
    | zero =>
      intro k τ hk hs hA
      have : k = 4 := by omega
      subst this
      have hVs := hV.sc hs
      refine bX9_mostAlike_3 u τ _ _ _ _ (cs_ (fun _ => x_has u τ _ hVs.2.2.2.1.1 hVs.2.2.2.1.2.1 ?_) (fun c => absurd (by decide) c))
      rw [jh_sc hs]
      exact key2 6 0 τ (by omega) hs (fun v hv => by rw [hA v hv]; rfl)
    | succ d ih =>
      intro k τ hk hs hA
      refine bX9_mostAlike_3 u τ _ _ _ _ (cs_ (fun c => absurd c (by rw [iI_lt (by omega) (by omega)]; omega)) (fun _ => ⟨(iI_in (by omega)).mpr (by omega), ?_⟩))
      rw [iI_ix (by omega), iI_succ]
      rintro σ4 e4
      refine ih (k + 1) σ4 (by omega) (by rw [e4]; exact hs.su (by decide)) (fun v hv => ?_)
      by_cases q : v = k
      · rw [e4, q, su_same]
      · rw [e4, su_j _ _ _ q]; exact hA v (by omega)
  exact key1 4 0 σ (by omega) hS (fun v hv => by omega)
/-- the night with the least g, the first such, of the first k -/
def na_ (g : Nat → Nat) : Nat → Nat × Nat
  | 0 => (0, 7)
  | k + 1 => if g k < (na_ g k).2 then (k, g k) else na_ g k
theorem na_bd (g : Nat → Nat) (hg : ∀ k, g k ≤ 6) (k : Nat) : (na_ g k).1 ≤ k ∧ (na_ g k).2 ≤ 7 := by
  induction k with
  | zero => simp [na_]
  | succ k ih =>
    unfold na_
    have := hg k
    split
    · constructor <;> simp <;> omega
    · constructor <;> omega
def aq_ (a : St_) (n mn nf nj ns m : Nat) : Int32 := iI_ (na_ (fun t => gr_ (wd_ a n mn nf nj ns m) (co_ a n mn nf nj m t) 6) 10).1
theorem x_nightToAsk (u : Ux_) {P : Int32 → St_ → Prop} (a σ : St_) {n mn nf nj ns : Nat} (hV : Vx_ a n mn nf nj) (hS : Sc_ a σ) {m : Nat} (hm : m < n) (H : ∀ σ', Sc_ a σ' → P (aq_ a n mn nf nj ns m) σ') : MMi_ (zx_ u) mX9_nightToAsk [.ref (uq_ u 0), .int (iI_ m), .int (bs_ (wd_ a n mn nf nj ns m) 6)] σ P := by
  have h8 := hV.1.1
  refine eX9_nightToAsk u σ _ _ ?_
  have key : ∀ (d t : Nat) (τ : St_), t + d = 10 → Sc_ a τ → GG_ (zx_ u) mX9_nightToAsk (Pi_ P) 9 [(0, .ref (uq_ u 0)), (1, .int (iI_ m)), (2, .int (bs_ (wd_ a n mn nf nj ns m) 6)), (3, .int (iI_ (na_ (fun t => gr_ (wd_ a n mn nf nj ns m) (co_ a n mn nf nj m t) 6) t).1)), (4, .int (iI_ (na_ (fun t => gr_ (wd_ a n mn nf nj ns m) (co_ a n mn nf nj m t) 6) t).2)), (5, .int (iI_ t))] [] τ := by
    intro d
    induction d with
    | zero =>
      intro t τ ht hs
      have : t = 10 := by omega
      subst this
      exact bX9_nightToAsk_9 u τ _ _ _ _ _ (cs_ (fun _ => H τ hs) (fun c => absurd (by decide) c))
    | succ d ih =>
      intro t τ ht hs
      have nb := na_bd (fun t => gr_ (wd_ a n mn nf nj ns m) (co_ a n mn nf nj m t) 6) (fun k => gr_bd _ _ 6) t
      have gb := gr_bd (wd_ a n mn nf nj ns m) (co_ a n mn nf nj m t) 6
      refine bX9_nightToAsk_9 u τ _ _ _ _ _ (cs_ (fun c => absurd c (by rw [iI_le (by omega) (by omega)]; omega)) (fun _ => x_mostAlike u a τ hV hs hm (by omega) _ (fun σ1 s1 => ?_)))
      rw [iI_succ]
      have := ih (t + 1) σ1 (by omega) s1
      rw [na_] at this
      refine cs_ (fun c => ?_) (fun c => ?_) <;> rw [iI_le (by omega) (by omega)] at c
      · rw [if_neg (by omega)] at this; exact this
      · rw [if_pos (by omega)] at this; exact this
  exact key 10 0 σ (by omega) hS
def q_ask (a : St_) (n mn nf nj ns : Nat) (m : Int32) : Int32 := if inr_ m (a 3 0) = true then aq_ a n mn nf nj ns m.toNatClampNeg else iI_ (-2)
theorem x_ask (u : Ux_) {P : Int32 → St_ → Prop} (a σ : St_) {n mn nf nj ns : Nat} (hV : Vx_ a n mn nf nj) (hN : Vs_ a ns) (hS : Sc_ a σ) (m : Int32) (H : ∀ σ', Sc_ a σ' → P (q_ask a n mn nf nj ns m) σ') : MMi_ (zx_ u) mX9_ask [.ref (uq_ u 0), .int m] σ P := by
  have h8 := hV.1.1
  refine eX9_ask u σ m (s_isMember u σ _ (nxb (fun h => ?_) (fun h => ?_)))
  · rw [hS 3 (by omega)] at h
    have := H σ hS; simp [q_ask, h] at this; exact this
  · rw [hS 3 (by omega)] at h
    simp only [q_ask, h, if_true] at H
    obtain ⟨k, hk, rfl⟩ := inr_nat (k := n) (by rw [hV.1.2.1] at h; exact h) (by omega)
    rw [iI_ix (by omega)] at H
    exact x_orders u a σ hV hN hS (by omega) (fun σ1 s1 => x_nightToAsk u a σ1 hV s1 (by omega) H)
