/-! ===== the reference: would, ask, evenings, write ===== -/
theorem od_dr : ∀ o : Fin 6, iI_ (o.val : Nat) / iI_ 2 = iI_ (o.val / 2 : Nat) ∧ iI_ (o.val : Nat) - iI_ (o.val : Nat) / iI_ 2 * iI_ 2 = iI_ (o.val % 2 : Nat) := by decide +kernel
theorem od_t : ∀ o : Fin 6, iI_ (o.val / 2 : Nat) = tW_ (3 * o.val) ∧ (if o.val % 2 = 0 then (if o.val / 2 = 0 then iI_ 1 else iI_ 0) else (if o.val / 2 = 2 then iI_ 1 else iI_ 2)) = tW_ (3 * o.val + 1) ∧ (if o.val % 2 = 0 then (if o.val / 2 = 2 then iI_ 1 else iI_ 2) else (if o.val / 2 = 0 then iI_ 1 else iI_ 0)) = tW_ (3 * o.val + 2) := by decide +kernel
theorem m_takesOrder (u : Ux_) {P : St_ → Prop} (σ : St_) {k o : Nat} (hk : k < 9) (ho : o < 6) (H : ∀ σ', Ke_ [5] σ σ' → (∀ l, σ' 5 l = if l = 3 * k then tW_ (3 * o) else if l = 3 * k + 1 then tW_ (3 * o + 1) else if l = 3 * k + 2 then tW_ (3 * o + 2) else σ 5 l) → P σ') : MMv_ (zm_ u) mX10_takesOrder [.ref (uq_ u 0), .int (iI_ k), .int (iI_ o)] σ P := by
  obtain ⟨d1, d2⟩ := od_dr ⟨o, ho⟩
  obtain ⟨t1, t2, t3⟩ := od_t ⟨o, ho⟩
  simp only at d1 d2 t1 t2 t3
  have x0 : iI_ 3 * iI_ k = iI_ (3 * k : Nat) := by rw [iI_mul]; congr 1
  have x1 : iI_ (3 * k : Nat) + iI_ 1 = iI_ (3 * k + 1 : Nat) := by rw [iI_add]; congr 1
  have x2 : iI_ (3 * k : Nat) + iI_ 2 = iI_ (3 * k + 2 : Nat) := by rw [iI_add]; congr 1
  have i0 : vp_in (iI_ (3 * k : Nat)) 27 := (iI_in (by omega)).mpr (by omega)
  have i1 : vp_in (iI_ (3 * k + 1 : Nat)) 27 := (iI_in (by omega)).mpr (by omega)
  have i2 : vp_in (iI_ (3 * k + 2 : Nat)) 27 := (iI_in (by omega)).mpr (by omega)
  have go : ∀ lo hi : Int32, lo = (if o / 2 = 0 then iI_ 1 else iI_ 0) → hi = (if o / 2 = 2 then iI_ 1 else iI_ 2) → GG_ (zm_ u) mX10_takesOrder (Pv_ P) 25 [(0, .ref (uq_ u 0)), (1, .int (iI_ k)), (2, .int (iI_ o)), (3, .int (iI_ (o / 2 : Nat))), (4, .int lo)] [.int hi] σ := by
    intro lo hi hlo hhi
    rw [← hlo, ← hhi] at t2 t3
    have fin : ∀ y z : Int32, y = tW_ (3 * o + 1) → z = tW_ (3 * o + 2) → P (su_ (su_ (su_ σ 5 (3 * k) (iI_ (o / 2 : Nat))) 5 (3 * k + 1) y) 5 (3 * k + 2) z) := by
      intro y z hy hz
      refine H _ (((Ke_.rf.su (by decide)).su (by decide)).su (by decide)) (fun l => ?_)
      rw [su_at, su_at, su_at, hy, hz, t1]
      by_cases q0 : l = 3 * k
      · rw [if_neg (by omega), if_neg (by omega), if_pos ⟨rfl, q0⟩, if_pos q0]
      · rw [if_neg (c := l = 3 * k) q0]
        by_cases q1 : l = 3 * k + 1
        · rw [if_neg (by omega), if_pos ⟨rfl, q1⟩, if_pos q1]
        · rw [if_neg (c := l = 3 * k + 1) q1]
          by_cases q2 : l = 3 * k + 2
          · rw [if_pos ⟨rfl, q2⟩, if_pos q2]
          · rw [if_neg (by omega), if_neg (by omega), if_neg (by omega), if_neg q2]
    refine bX10_takesOrder_25 u σ _ _ _ _ _ ?_
    rw [x0, x1, x2, d2, iI_ix (by omega), iI_ix (by omega), iI_ix (by omega), iI_eq (by omega) (by omega)]
    refine ⟨i0, ?_⟩
    rintro σ1 rfl
    refine ⟨fun c => ⟨i1, ?_⟩, fun c => ⟨i1, ?_⟩⟩
    · rintro σ4 rfl
      rw [if_neg (by omega)] at t2 t3
      refine ⟨fun _ => ⟨i2, ?_⟩, fun c2 => absurd c2 c⟩
      rintro σ7 rfl
      exact fin _ _ t2 t3
    · rintro σ4 rfl
      rw [if_pos (by omega)] at t2 t3
      refine ⟨fun c2 => absurd c c2, fun _ => ⟨i2, ?_⟩⟩
      rintro σ7 rfl
      exact fin _ _ t2 t3
  refine eX10_takesOrder u σ _ _ ?_
  rw [d1, iI_eq (by omega) (by omega), iI_eq (by omega) (by omega)]
  refine ⟨fun c => ⟨fun c2 => go _ _ ?_ ?_, fun c2 => go _ _ ?_ ?_⟩, fun c => ⟨fun c2 => go _ _ ?_ ?_, fun c2 => go _ _ ?_ ?_⟩⟩
  · rw [if_neg (by omega)]
  · rw [if_neg (by omega)]
  · rw [if_neg (by omega)]
  · rw [if_pos (by omega)]
  · rw [if_pos (by omega)]
  · rw [if_neg (by omega)]
  · rw [if_pos (by omega)]
  · rw [if_pos (by omega)]
theorem Ro_.take {a σ σ' : St_} {n mn k o : Nat} {or or' : Nat → Int32} (h : Ro_ a σ n mn or) (ke : Ke_ [5] σ σ') (hl : ∀ l, σ' 5 l = if l = 3 * k then tW_ (3 * o) else if l = 3 * k + 1 then tW_ (3 * o + 1) else if l = 3 * k + 2 then tW_ (3 * o + 2) else σ 5 l) (ho : o < 6) (e : ∀ i, i < n → or' i = if i = k then iI_ o else or i) : Ro_ a σ' n mn or' := by
  obtain ⟨h2, h6, hm, ho9⟩ := h
  refine ⟨by rw [ke 2 (by decide)]; exact h2, by rw [ke 6 (by decide)]; exact h6, fun j hj => ?_, fun j hj => ?_⟩
  · obtain ⟨h3, h4, h5⟩ := hm j hj
    refine ⟨by rw [ke 3 (by decide)]; exact h3, by rw [ke 4 (by decide)]; exact h4, fun i hi => ?_⟩
    rw [hl, e j hj]
    by_cases q : j = k
    · rw [if_pos q, iI_toInt (by omega), show ((o : Nat) : Int).toNat = o by omega, q]
      rcases (show i = 0 ∨ i = 1 ∨ i = 2 by omega) with rfl | rfl | rfl
      · rw [if_pos (by omega)]; rfl
      · rw [if_neg (by omega), if_pos rfl]
      · rw [if_neg (by omega), if_neg (by omega), if_pos rfl]
    · rw [if_neg q, if_neg (by omega), if_neg (by omega), if_neg (by omega)]; exact h5 i hi
  · rw [ke 7 (by decide), ke 8 (by decide), ke 9 (by decide)]; exact ho9 j hj
theorem tor_6 {a : St_} {n m o : Nat} (h : or6_ n (a 7)) (ho : o < 6) : or6_ n (tor_ a m o) := fun j hj => by
  unfold tor_
  split
  · rw [iI_toInt (by omega)]; omega
  · exact h j hj
theorem m_wouldBy (u : Ux_) {P : Int32 → St_ → Prop} (a σ : St_) {n mn nf nj ns : Nat} (hV : Vx_ a n mn nf nj) (hN : Vs_ a ns) (hW : Wt_ a) (hR : Rm_ a σ) {m : Nat} (hm : m < n) (H : ∀ σ', Mk_ σ σ' → Rd_ a σ' n mn → (∀ v t : Nat, v < 6 → t < 10 → σ' 36 (10 * v + t) = co_ a n mn nf nj m t v) → P (bs_ (wd_ a n mn nf nj ns m) 6) σ') : MMi_ (zm_ u) mX10_wouldBy [.ref (uq_ u 0), .int (iI_ m)] σ P := by
  have h8 := hV.1.1
  have f8 := hV.2.2.1.1
  have x0 : iI_ 3 * iI_ m = iI_ (3 * m : Nat) := by rw [iI_mul]; congr 1
  have x1 : iI_ (3 * m : Nat) + iI_ 1 = iI_ (3 * m + 1 : Nat) := by rw [iI_add]; congr 1
  have x2 : iI_ (3 * m : Nat) + iI_ 2 = iI_ (3 * m + 2 : Nat) := by rw [iI_add]; congr 1
  have i0 : vp_in (iI_ (3 * m : Nat)) 27 := (iI_in (by omega)).mpr (by omega)
  have i1 : vp_in (iI_ (3 * m + 1 : Nat)) 27 := (iI_in (by omega)).mpr (by omega)
  have i2 : vp_in (iI_ (3 * m + 2 : Nat)) 27 := (iI_in (by omega)).mpr (by omega)
  refine eX10_wouldBy u σ _ (m_asTold u a σ hV hW hR (fun σ1 k1 r1 g1 => ?_))
  obtain ⟨-, -, w⟩ := r1.2.2.1 m hm
  have w0 := w 0 (by omega)
  have w1 := w 1 (by omega)
  have w2 := w 2 (by omega)
  simp only [Nat.add_zero] at w0
  rw [x0, x1, x2, iI_ix (by omega), iI_ix (by omega), iI_ix (by omega), w0, w1, w2]
  refine ⟨i0, i1, i2, ?_⟩
  have mkT : ∀ {τ : St_}, Ke_ [5, 17, 18, 19, 20, 21, 26, 27, 28, 29, 30, 31, 36] σ1 τ → Mk_ σ τ := fun ke => (Mk_.ke k1 (by decide)).tr (Mk_.ke ke (by decide))
  have key : ∀ (d v : Nat) (τ : St_) (or : Nat → Int32), v + d = 6 → Ke_ [5, 17, 18, 19, 20, 21, 26, 27, 28, 29, 30, 31, 36] σ1 τ → Ro_ a τ n mn or → (∀ i, i ≠ m → or i = a 7 i) → (∀ v' t : Nat, v' < v → t < 10 → τ 36 (10 * v' + t) = co_ a n mn nf nj m t v') → GG_ (zm_ u) mX10_wouldBy (Pi_ P) 42 [(0, .ref (uq_ u 0)), (1, .int (iI_ m)), (2, .int (tW_ (3 * (a 7 m).toInt.toNat))), (3, .int (tW_ (3 * (a 7 m).toInt.toNat + 1))), (4, .int (tW_ (3 * (a 7 m).toInt.toNat + 2))), (5, .int (bs_ (wd_ a n mn nf nj ns m) v)), (6, .int (iI_ v))] [] τ := by
    intro d
    induction d with
    | zero =>
      intro v τ or hv ke ro hor h36
      have : v = 6 := by omega
      subst this
      refine bX10_wouldBy_42 u τ _ _ _ _ _ _ (cs_ (fun _ => ?_) (fun c => absurd (by decide) c))
      rw [x0, x1, x2, iI_ix (by omega), iI_ix (by omega), iI_ix (by omega)]
      refine ⟨i0, fun σ2 e2 => ⟨i1, fun σ4 e4 => ⟨i2, fun σ6 e6 => ?_⟩⟩⟩
      have ke6 : Ke_ [5] τ σ6 := by rw [e6, e4, e2]; exact ((Ke_.rf.su (by decide)).su (by decide)).su (by decide)
      have hl : ∀ l, σ6 5 l = if l = 3 * m then tW_ (3 * (a 7 m).toInt.toNat) else if l = 3 * m + 1 then tW_ (3 * (a 7 m).toInt.toNat + 1) else if l = 3 * m + 2 then tW_ (3 * (a 7 m).toInt.toNat + 2) else τ 5 l := fun l => by
        rw [e6, e4, e2, su_at, su_at, su_at]
        by_cases q0 : l = 3 * m
        · rw [if_neg (by omega), if_neg (by omega), if_pos ⟨rfl, q0⟩, if_pos q0]
        · rw [if_neg (c := l = 3 * m) q0]
          by_cases q1 : l = 3 * m + 1
          · rw [if_neg (by omega), if_pos ⟨rfl, q1⟩, if_pos q1]
          · rw [if_neg (c := l = 3 * m + 1) q1]
            by_cases q2 : l = 3 * m + 2
            · rw [if_pos ⟨rfl, q2⟩, if_pos q2]
            · rw [if_neg (by omega), if_neg (by omega), if_neg (by omega), if_neg q2]
      have o6 := hV.o6 m hm
      have ro6 : Ro_ a σ6 n mn (a 7) := ro.take (k := m) (o := (a 7 m).toInt.toNat) ke6 hl (by omega) (fun i hi => by
        by_cases q : i = m
        · rw [if_pos q, q, show (((a 7 m).toInt.toNat : Nat) : Int) = (a 7 m).toInt by omega, iI_of]
        · rw [if_neg q]; exact (hor i q).symm)
      refine H σ6 ((mkT ke).tr (Mk_.ke ke6 (by decide))) ro6.rd (fun v t hv ht => ?_)
      rw [ke6 36 (by decide)]; exact h36 v t hv ht
    | succ d ih =>
      intro v τ or hv ke ro hor h36
      refine bX10_wouldBy_42 u τ _ _ _ _ _ _ (cs_ (fun c => absurd c (by rw [iI_le (by omega) (by omega)]; omega)) (fun _ => m_takesOrder u τ (by omega) (by omega) (fun σ8 k8 hl => ?_)))
      have ke8 : Ke_ [5, 17, 18, 19, 20, 21, 26, 27, 28, 29, 30, 31, 36] σ1 σ8 := ke.tr (k8.up (by decide))
      have ro8 : Ro_ a σ8 n mn (tor_ a m v) := ro.take k8 hl (by omega) (fun i hi => by
        unfold tor_
        by_cases q : i = m
        · rw [if_pos q, if_pos q]
        · rw [if_neg q, if_neg q, hor i q])
      have g8 := g1.ke (σ' := σ8) (fun i hi => ke8 i (by simp; omega))
      refine m_isSeen u a σ8 hV hN (hR.mk (mkT ke8)) (tor_6 hV.o6 (by omega)) ro8 (wo := iI_ (-1)) (fun i hi => by rw [decide_eq_false]; rw [iI_eq (by omega) (by omega)]; omega) g8 (fun σ9 k9 c31 => ?_)
      have ke9 : Ke_ [5, 17, 18, 19, 20, 21, 26, 27, 28, 29, 30, 31, 36] σ1 σ9 := ke8.tr (k9.up (by decide))
      have ro9 : Ro_ a σ9 n mn (tor_ a m v) := ro8.ke (fun i hi => k9 i (by simp; omega))
      have h369 : ∀ v' t : Nat, v' < v → t < 10 → σ9 36 (10 * v' + t) = co_ a n mn nf nj m t v' := fun v' t hv' ht => by rw [k9 36 (by decide), k8 36 (by decide)]; exact h36 v' t hv' ht
      have copy : ∀ (e t : Nat) (τ : St_), t + e = 10 → Ke_ [36] σ9 τ → (∀ v' t : Nat, v' < v → t < 10 → τ 36 (10 * v' + t) = co_ a n mn nf nj m t v') → (∀ t' : Nat, t' < t → τ 36 (10 * v + t') = co_ a n mn nf nj m t' v) → GG_ (zm_ u) mX10_wouldBy (Pi_ P) 79 [(0, .ref (uq_ u 0)), (1, .int (iI_ m)), (2, .int (tW_ (3 * (a 7 m).toInt.toNat))), (3, .int (tW_ (3 * (a 7 m).toInt.toNat + 1))), (4, .int (tW_ (3 * (a 7 m).toInt.toNat + 2))), (5, .int (bs_ (wd_ a n mn nf nj ns m) (v + 1))), (6, .int (iI_ v)), (7, .int (iI_ t))] [] τ := by
        intro e
        induction e with
        | zero =>
          intro t τ ht kt p1 p2
          have : t = 10 := by omega
          subst this
          refine bX10_wouldBy_79 u τ _ _ _ _ _ _ _ (cs_ (fun _ => ?_) (fun c => absurd (by decide) c))
          rw [iI_succ]
          refine ih (v + 1) τ (tor_ a m v) (by omega) (ke9.tr (kt.up (by decide))) (ro9.ke (fun i hi => kt i (by simp; omega))) (fun i hi => by unfold tor_; rw [if_neg hi]) (fun v' t hv' ht => ?_)
          by_cases q : v' = v
          · subst q; exact p2 t ht
          · exact p1 v' t (by omega) ht
        | succ e ih2 =>
          intro t τ ht kt p1 p2
          have y0 : iI_ 10 * iI_ v + iI_ t = iI_ (10 * v + t : Nat) := by rw [iI_mul, iI_add]; congr 1
          refine bX10_wouldBy_79 u τ _ _ _ _ _ _ _ (cs_ (fun c => absurd c (by rw [iI_le (by omega) (by omega)]; omega)) (fun _ => ⟨(iI_in (by omega)).mpr (by omega), ?_⟩))
          rw [y0, iI_ix (by omega), iI_ix (by omega), kt 31 (by decide), c31 t (by omega), iI_succ]
          refine ⟨(iI_in (by omega)).mpr (by omega), fun σ3 e3 => ih2 (t + 1) σ3 (by omega) (by rw [e3]; exact kt.su (by decide)) (fun v' t' hv' ht' => ?_) (fun t' ht' => ?_)⟩
          · rw [e3, su_j _ _ _ (by omega)]; exact p1 v' t' hv' ht'
          · by_cases q : t' = t
            · rw [e3, q, su_same]; rfl
            · rw [e3, su_j _ _ _ (by omega)]; exact p2 t' (by omega)
      refine nxb (fun h => ?_) (fun h => ?_)
      · have := copy 10 0 σ9 (by omega) Ke_.rf h369 (fun t' ht' => by omega)
        rw [bs_, if_neg (by rw [wd_, h]; decide)] at this
        rw [or_0]; exact this
      · have := copy 10 0 σ9 (by omega) Ke_.rf h369 (fun t' ht' => by omega)
        rw [bs_, if_pos (by rw [wd_]; exact h)] at this; exact this
  exact key 6 0 σ1 (a 7) (by omega) Ke_.rf r1.ro (fun i _ => rfl) (fun v' t hv' => by omega)
theorem m_would (u : Ux_) {P : Int32 → St_ → Prop} (a σ : St_) {n mn nf nj ns : Nat} (hV : Vx_ a n mn nf nj) (hN : Vs_ a ns) (hW : Wt_ a) (hR : Rm_ a σ) (m : Int32) (H : ∀ σ', Mk_ σ σ' → P (q_would a n mn nf nj ns m) σ') : MMi_ (zm_ u) mX10_would [.ref (uq_ u 0), .int m] σ P := by
  have h8 := hV.1.1
  refine eX10_would u σ m (m_isMember u a σ hV hW hR m (fun σ1 k1 r1 => nxb (fun h => ?_) (fun h => ?_)))
  · have := H σ1 (Mk_.ke k1 (by decide))
    rw [q_would, if_neg (by simp [h])] at this; exact this
  · rw [q_would, if_pos h] at H
    rw [hV.1.2.1] at h
    obtain ⟨y, hy, rfl⟩ := inr_nat h (by omega)
    rw [iI_ix (by omega)] at H
    exact m_wouldBy u a σ1 hV hN hW (hR.mk (Mk_.ke k1 (by decide))) (by omega) (fun σ2 k2 _ _ => H σ2 ((Mk_.ke k1 (by decide)).tr k2))
/-! ask -/
theorem cnt_mono (f : Nat → Bool) (c : Nat → Int32) (v : Int32) (k : Nat) : ∀ d, cnt_ f c v k ≤ cnt_ f c v (k + d) := by
  intro d
  induction d with
  | zero => exact Nat.le_refl _
  | succ d ih => show _ ≤ cnt_ f c v (k + d) + _; omega
theorem cnt_gr (f : Nat → Bool) (c : Nat → Int32) (v : Int32) : ∀ k, cnt_ f c v k ≤ gr_ f c k := by
  intro k
  induction k with
  | zero => simp [cnt_]
  | succ k ih =>
    by_cases h : f k = true ∧ c k = v
    · unfold gr_
      rw [if_pos h.1, h.2]; omega
    · have e : cnt_ f c v (k + 1) = cnt_ f c v k := by rw [cnt_, if_neg h]; rfl
      rw [e]; unfold gr_
      split <;> omega
def mx_ (f : Nat → Bool) (c : Nat → Int32) : Nat → Nat
  | 0 => 0
  | k + 1 => max (mx_ f c k) (if f k = true then cnt_ f c (c k) 6 else 0)
theorem mx_ge (f : Nat → Bool) (c : Nat → Int32) : ∀ k, k ≤ 6 → gr_ f c k ≤ mx_ f c k := by
  intro k
  induction k with
  | zero => intro _; simp [gr_]
  | succ k ih =>
    intro hk
    have := ih (by omega)
    have m := cnt_mono f c (c k) (k + 1) (6 - (k + 1))
    rw [show k + 1 + (6 - (k + 1)) = 6 by omega] at m
    unfold gr_ mx_
    split <;> omega
theorem mx_le (f : Nat → Bool) (c : Nat → Int32) : ∀ k, mx_ f c k ≤ gr_ f c 6 := by
  intro k
  induction k with
  | zero => simp [mx_]
  | succ k ih =>
    have := cnt_gr f c (c k) 6
    unfold mx_
    split <;> omega
theorem mx_gr (f : Nat → Bool) (c : Nat → Int32) : mx_ f c 6 = gr_ f c 6 := Nat.le_antisymm (mx_le f c 6) (mx_ge f c 6 (by omega))
theorem m_askOf (u : Ux_) {P : Int32 → St_ → Prop} (a σ : St_) {n mn nf nj ns : Nat} (hV : Vx_ a n mn nf nj) (hN : Vs_ a ns) (hW : Wt_ a) (hR : Rm_ a σ) {m : Nat} (hm : m < n) (H : ∀ σ', Mk_ σ σ' → Rd_ a σ' n mn → P (aq_ a n mn nf nj ns m) σ') : MMi_ (zm_ u) mX10_askOf [.ref (uq_ u 0), .int (iI_ m)] σ P := by
  refine eX10_askOf u σ _ (m_wouldBy u a σ hV hN hW hR hm (fun σ1 k1 r1 c36 => ?_))
  have H := H σ1 k1 r1
  generalize hfw : wd_ a n mn nf nj ns m = f at *
  have hbt : ∀ k, k < 6 → bt (bs_ f 6) k = f k := fun k hk => by rw [bs_bt _ 6 (by omega), decide_eq_true hk, Bool.true_and]
  let g : Nat → Nat := fun t => gr_ f (co_ a n mn nf nj m t) 6
  have gb : ∀ t, g t ≤ 6 := fun t => gr_bd f (co_ a n mn nf nj m t) 6
  let best : Nat → Int := fun t => if t = 0 then -1 else ((na_ g t).1 : Int)
  let least : Nat → Int := fun t => if t = 0 then 0 else ((na_ g t).2 : Int)
  have key : ∀ d t : Nat, t + d = 10 → GG_ (zm_ u) mX10_askOf (Pi_ P) 14 [(0, .ref (uq_ u 0)), (2, .int (bs_ f 6)), (3, .int (iI_ (best t))), (4, .int (iI_ (least t))), (5, .int (iI_ t))] [] σ1 := by
    intro d
    induction d with
    | zero =>
      intro t ht
      have : t = 10 := by omega
      subst this
      refine bX10_askOf_14 u σ1 _ _ _ _ (cs_ (fun _ => ?_) (fun c => absurd (by decide) c))
      have e : aq_ a n mn nf nj ns m = iI_ (best 10) := by
        rw [aq_, hfw]; rfl
      rw [e] at H; exact H
    | succ d ih =>
      intro t ht
      have nb := na_bd g gb t
      have bb : -1 ≤ best t ∧ best t ≤ 10 ∧ (best t = -1 ↔ t = 0) := by
        show -1 ≤ (if t = 0 then (-1 : Int) else ((na_ g t).1 : Int)) ∧ (if t = 0 then (-1 : Int) else ((na_ g t).1 : Int)) ≤ 10 ∧ ((if t = 0 then (-1 : Int) else ((na_ g t).1 : Int)) = -1 ↔ t = 0)
        by_cases q : t = 0
        · rw [if_pos q]; omega
        · rw [if_neg q]; omega
      have lb : 0 ≤ least t ∧ least t ≤ 7 := by
        show 0 ≤ (if t = 0 then (0 : Int) else ((na_ g t).2 : Int)) ∧ (if t = 0 then (0 : Int) else ((na_ g t).2 : Int)) ≤ 7
        by_cases q : t = 0
        · rw [if_pos q]; omega
        · rw [if_neg q]; omega
      have nxt := ih (t + 1) (by omega)
      have outer : ∀ e k : Nat, k + e = 6 → GG_ (zm_ u) mX10_askOf (Pi_ P) 27 [(0, .ref (uq_ u 0)), (2, .int (bs_ f 6)), (3, .int (iI_ (best t))), (4, .int (iI_ (least t))), (5, .int (iI_ t)), (6, .int (iI_ (mx_ f (co_ a n mn nf nj m t) k))), (7, .int (iI_ k))] [] σ1 := by
        intro e
        induction e with
        | zero =>
          intro k hk
          have : k = 6 := by omega
          subst this
          have hg : mx_ f (co_ a n mn nf nj m t) 6 = g t := mx_gr _ _
          have gbt := gb t
          refine bX10_askOf_27 u σ1 _ _ _ _ _ _ (cs_ (fun _ => ?_) (fun c => absurd (by decide) c))
          rw [hg, iI_eq (by omega) (by omega), iI_le (by omega) (by omega)]
          have better : (best t = -1 ∨ (g t : Int) < least t) → GG_ (zm_ u) mX10_askOf (Pi_ P) 144 [(0, .ref (uq_ u 0)), (2, .int (bs_ f 6)), (3, .int (iI_ (best t))), (4, .int (iI_ (least t))), (5, .int (iI_ t)), (6, .int (iI_ (g t)))] [] σ1 := by
            intro hb
            have e1 : na_ g (t + 1) = (t, g t) := by
              rw [na_, if_pos]
              by_cases q : t = 0
              · subst q
                show g 0 < 7
                have := gb 0; omega
              · rcases hb with hb | hb
                · exact absurd (bb.2.2.mp hb) q
                · have : least t = ((na_ g t).2 : Int) := if_neg q
                  omega
            have eb : best (t + 1) = (t : Int) := by
              show (if t + 1 = 0 then (-1 : Int) else ((na_ g (t + 1)).1 : Int)) = t
              rw [if_neg (by omega), e1]
            have el : least (t + 1) = (g t : Int) := by
              show (if t + 1 = 0 then (0 : Int) else ((na_ g (t + 1)).2 : Int)) = g t
              rw [if_neg (by omega), e1]
            rw [eb, el] at nxt
            refine bX10_askOf_144 u σ1 _ _ _ _ _ ?_
            rw [iI_succ]; exact nxt
          refine cs_ (fun c => better (Or.inl c)) (fun c => cs_ (fun c2 => ?_) (fun c2 => better (Or.inr (by omega))))
          have q : t ≠ 0 := fun q => c (bb.2.2.mpr q)
          have el0 : least t = ((na_ g t).2 : Int) := if_neg q
          have e1 : na_ g (t + 1) = na_ g t := by rw [na_, if_neg (by omega)]
          have eb : best (t + 1) = best t := by
            show (if t + 1 = 0 then (-1 : Int) else ((na_ g (t + 1)).1 : Int)) = (if t = 0 then (-1 : Int) else ((na_ g t).1 : Int))
            rw [if_neg (by omega), if_neg q, e1]
          have el : least (t + 1) = least t := by
            show (if t + 1 = 0 then (0 : Int) else ((na_ g (t + 1)).2 : Int)) = (if t = 0 then (0 : Int) else ((na_ g t).2 : Int))
            rw [if_neg (by omega), if_neg q, e1]
          rw [eb, el] at nxt
          rw [iI_succ]; exact nxt
        | succ e ih2 =>
          intro k hk
          refine bX10_askOf_27 u σ1 _ _ _ _ _ _ (cs_ (fun c => absurd c (by rw [iI_le (by omega) (by omega)]; omega)) (fun _ => ?_))
          have mb : mx_ f (co_ a n mn nf nj m t) k ≤ 6 := Nat.le_trans (mx_le f (co_ a n mn nf nj m t) k) (gr_bd _ _ _)
          have inner : ∀ e2 l : Nat, l + e2 = 6 → GG_ (zm_ u) mX10_askOf (Pi_ P) 40 [(0, .ref (uq_ u 0)), (2, .int (bs_ f 6)), (3, .int (iI_ (best t))), (4, .int (iI_ (least t))), (5, .int (iI_ t)), (6, .int (iI_ (mx_ f (co_ a n mn nf nj m t) k))), (7, .int (iI_ k)), (8, .int (iI_ ((if f k = true then cnt_ f (co_ a n mn nf nj m t) (co_ a n mn nf nj m t k) l else 0 : Nat)))), (9, .int (iI_ l))] [] σ1 := by
            intro e2
            induction e2 with
            | zero =>
              intro l hl
              have : l = 6 := by omega
              subst this
              have nx := ih2 (k + 1) (by omega)
              unfold mx_ at nx
              have cb : (if f k = true then cnt_ f (co_ a n mn nf nj m t) (co_ a n mn nf nj m t k) 6 else 0) ≤ 6 := by
                have := cnt_bd f (co_ a n mn nf nj m t) (co_ a n mn nf nj m t k) 6
                split <;> omega
              refine bX10_askOf_40 u σ1 _ _ _ _ _ _ _ _ (cs_ (fun _ => ?_) (fun c => absurd (by decide) c))
              generalize (if f k = true then cnt_ f (co_ a n mn nf nj m t) (co_ a n mn nf nj m t k) 6 else 0) = A at nx cb ⊢
              rw [iI_le (by omega) (by omega), iI_succ]
              refine cs_ (fun c => ?_) (fun c => ?_)
              · rw [show max (mx_ f (co_ a n mn nf nj m t) k) A = mx_ f (co_ a n mn nf nj m t) k by omega] at nx; exact nx
              · rw [show max (mx_ f (co_ a n mn nf nj m t) k) A = A by omega] at nx; exact nx
            | succ e2 ih3 =>
              intro l hl
              have nx := ih3 (l + 1) (by omega)
              unfold cnt_ at nx
              have y0 : iI_ 10 * iI_ k + iI_ t = iI_ (10 * k + t : Nat) := by rw [iI_mul, iI_add]; congr 1
              have y1 : iI_ 10 * iI_ l + iI_ t = iI_ (10 * l + t : Nat) := by rw [iI_mul, iI_add]; congr 1
              refine bX10_askOf_40 u σ1 _ _ _ _ _ _ _ _ (cs_ (fun c => absurd c (by rw [iI_le (by omega) (by omega)]; omega)) (fun _ => m_isIn u σ1 _ (by omega) ?_))
              rw [hbt k (by omega), iI_succ, iI_add, iI_succ]
              refine nxb (fun h => ?_) (fun h => m_isIn u σ1 _ (by omega) ?_)
              · rw [if_neg (by simp [h])] at nx ⊢; exact nx
              · rw [if_pos h] at nx ⊢
                rw [hbt l (by omega)]
                refine nxb (fun h2 => ?_) (fun h2 => ?_)
                · rw [if_neg (by simp [h2])] at nx; exact nx
                · rw [y0, y1, iI_ix (by omega), iI_ix (by omega), c36 k t (by omega) (by omega), c36 l t (by omega) (by omega)]
                  refine ⟨(iI_in (by omega)).mpr (by omega), (iI_in (by omega)).mpr (by omega), fun c => ?_, fun c => ?_⟩
                  · rw [if_neg (fun q => c q.2.symm)] at nx; exact nx
                  · rw [if_pos ⟨h2, c.symm⟩] at nx; exact nx
          have := inner 6 0 (by omega)
          rw [show (if f k = true then cnt_ f (co_ a n mn nf nj m t) (co_ a n mn nf nj m t k) 0 else 0) = 0 by split <;> rfl] at this
          exact this
      refine bX10_askOf_14 u σ1 _ _ _ _ (cs_ (fun c => absurd c (by rw [iI_le (by omega) (by omega)]; omega)) (fun _ => outer 6 0 (by omega)))
  exact key 10 0 (by omega)
theorem m_ask (u : Ux_) {P : Int32 → St_ → Prop} (a σ : St_) {n mn nf nj ns : Nat} (hV : Vx_ a n mn nf nj) (hN : Vs_ a ns) (hW : Wt_ a) (hR : Rm_ a σ) (m : Int32) (H : ∀ σ', Mk_ σ σ' → P (q_ask a n mn nf nj ns m) σ') : MMi_ (zm_ u) mX10_ask [.ref (uq_ u 0), .int m] σ P := by
  have h8 := hV.1.1
  refine eX10_ask u σ m (m_isMember u a σ hV hW hR m (fun σ1 k1 r1 => nxb (fun h => ?_) (fun h => ?_)))
  · have := H σ1 (Mk_.ke k1 (by decide))
    rw [q_ask, if_neg (by simp [h])] at this; exact this
  · rw [q_ask, if_pos h] at H
    rw [hV.1.2.1] at h
    obtain ⟨y, hy, rfl⟩ := inr_nat h (by omega)
    rw [iI_ix (by omega)] at H
    exact m_askOf u a σ1 hV hN hW (hR.mk (Mk_.ke k1 (by decide))) (by omega) (fun σ2 k2 _ => H σ2 ((Mk_.ke k1 (by decide)).tr k2))
