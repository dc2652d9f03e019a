/-! ===== one vote: what it is, and how the class makes it ===== -/
def jh_ (a : St_) (t : Int32) : Nat → Bool
  | 0 => false
  | k + 1 => jh_ a t k || decide (a 19 k = t)
/-- shelf and since-when of member m by the first f folds, up to night t, without the fold wo -/
def ly_ (a : St_) (t wo : Int32) (m : Nat) : Nat → Int32 × Int32
  | 0 => (a 6 m, iI_ 0)
  | f + 1 => if ¬ iI_ f = wo ∧ a 16 f = iI_ m ∧ ¬ t < a 15 f ∧ ¬ a 15 f < (ly_ a t wo m f).2 then (a 17 f, a 15 f) else ly_ a t wo m f
def shl_ (or pos : Nat → Int32) (fs ot p : Int32) : Nat → Int
  | 0 => 0
  | k + 1 => shl_ or pos fs ot p k + (if pos k = p then (if rat_ (or k) fs ot = true then 1 else -1) else 0)
def v1_ (n : Nat) (or pos : Nat → Int32) (j : Bool) (fs ot : Int32) (m : Nat) : Bool := if wm_ (pos m).toInt j < 2 ∧ ¬ shl_ or pos fs ot (pos m) n = 0 then decide (0 < shl_ or pos fs ot (pos m) n) else rat_ (or m) fs ot
def spk_ (pos : Nat → Int32) : Nat → Int
  | 0 => -1
  | k + 1 => if spk_ pos k = -1 then k else if (pos k).toInt < (pos (spk_ pos k).toNat).toInt then k else spk_ pos k
def ld_ (v : Nat → Bool) (w : Nat → Int) : Nat → Int
  | 0 => 0
  | k + 1 => ld_ v w k + (if v k = true then w k else - w k)
def fc_ (v : Nat → Bool) : Nat → Int
  | 0 => 0
  | k + 1 => fc_ v k + (if v k = true then 1 else 0)
def cr_ (n : Nat) (v : Nat → Bool) (w : Nat → Int) (pos : Nat → Int32) (fs ot : Int32) : Int32 := if ld_ v w n = 0 then (if v (spk_ pos n).toNat = true then fs else ot) else if 0 < ld_ v w n then fs else ot
theorem spk_bd (pos : Nat → Int32) : ∀ k : Nat, -1 ≤ spk_ pos k ∧ spk_ pos k < k := by
  intro k
  induction k with
  | zero => simp [spk_]
  | succ k ih => unfold spk_; split
                 · omega
                 · split <;> omega
theorem spk_nn (pos : Nat → Int32) : ∀ k : Nat, 0 ≤ spk_ pos (k + 1) := by
  intro k
  have := spk_bd pos k
  unfold spk_; split
  · omega
  · split <;> omega
theorem shl_bd (or pos : Nat → Int32) (fs ot p : Int32) : ∀ k : Nat, -(k : Int) ≤ shl_ or pos fs ot p k ∧ shl_ or pos fs ot p k ≤ k := by
  intro k
  induction k with
  | zero => simp [shl_]
  | succ k ih => unfold shl_; split
                 · split <;> omega
                 · omega
theorem fc_bd (v : Nat → Bool) : ∀ k : Nat, 0 ≤ fc_ v k ∧ fc_ v k ≤ k := by
  intro k
  induction k with
  | zero => simp [fc_]
  | succ k ih => unfold fc_; split <;> omega
theorem ld_bd (v : Nat → Bool) (w : Nat → Int) : ∀ k : Nat, (∀ i, i < k → 0 ≤ w i ∧ w i ≤ 9) → -(9 * k : Int) ≤ ld_ v w k ∧ ld_ v w k ≤ 9 * k := by
  intro k
  induction k with
  | zero => intro _; simp [ld_]
  | succ k ih =>
    intro h
    have q := ih (fun i hi => h i (by omega))
    have := h k (by omega)
    unfold ld_; split <;> omega
theorem x_has (u : Ux_) {P : Int32 → St_ → Prop} (σ : St_) (t : Int32) {nj : Nat} (hn : nj ≤ 6) (e : σ 18 0 = iI_ nj) (H : P (bi_ (jh_ σ t nj)) σ) : MMi_ (zx_ u) mX2_has [.ref (uq_ u 15), .int t] σ P := by
  refine eX2_has u σ t ?_
  have mono : ∀ d k : Nat, jh_ σ t k = true → jh_ σ t (k + d) = true := by
    intro d
    induction d with
    | zero => intro k h; exact h
    | succ d ih => intro k h; show (jh_ σ t (k + d) || _) = true; rw [ih k h]; rfl
  have key : ∀ d k : Nat, k + d = nj → jh_ σ t k = false → GG_ (zx_ u) mX2_has (Pi_ P) 2 [(0, .ref (uq_ u 15)), (1, .int t), (2, .int (iI_ k))] [] σ := by
    intro d
    induction d with
    | zero =>
      intro k hk h0
      have : k = nj := by omega
      subst this
      rw [h0] at H
      exact bX2_has_2 u σ _ _ (cs_ (fun _ => H) (fun c => absurd (by rw [e]; exact Int32.le_refl _) c))
    | succ d ih =>
      intro k hk h0
      refine bX2_has_2 u σ _ _ (cs_ (fun c => absurd c (by rw [e, iI_le (by omega) (by omega)]; omega)) (fun _ => ⟨(iI_in (by omega)).mpr (by omega), ?_⟩))
      rw [iI_ix (by omega)]
      refine ⟨fun c => ?_, fun c => ?_⟩
      · rw [iI_succ]
        exact ih (k + 1) (by omega) (by unfold jh_; simp [h0, c])
      · have h1 : jh_ σ t (k + 1) = true := by unfold jh_; simp [c]
        have h2 := mono d (k + 1) h1
        rw [show k + 1 + d = nj by omega] at h2
        rw [h2] at H; exact H
  exact key nj 0 (by omega) rfl
theorem x_isPut (u : Ux_) {P : Int32 → St_ → Prop} (σ : St_) (t : Int32) {n : Nat} (hr : Wr_ σ n) (H : P (bi_ (decide (0 < n) && inr_ t (σ 9 0))) σ) : MMi_ (zx_ u) mX0_isPut [.ref (uq_ u 20), .int t] σ P := by
  have h8 := hr.1
  refine eX0_isPut u σ t (cs_ (fun c => ?_) (fun c => s_within u σ _ _ (nxb (fun h => ?_) (fun h => ?_)))) <;> rw [hr.2.1, iI_le (by omega) (by omega)] at c
  · rw [decide_eq_false (by omega)] at H; exact H
  · rw [h, Bool.and_false] at H; exact H
  · rw [h, decide_eq_true (by omega)] at H; exact H
theorem x_layAtFirst (u : Ux_) {P : St_ → Prop} (σ : St_) {n : Nat} (hr : Wr_ σ n) (H : ∀ σ', Ke_ [26, 27] σ σ' → (∀ m, m < n → σ' 26 m = σ 6 m ∧ σ' 27 m = iI_ 0) → P σ') : MMv_ (zx_ u) mX0_layAtFirst [.ref (uq_ u 20)] σ P := by
  have h8 := hr.1
  refine eX0_layAtFirst u σ ?_
  have key : ∀ (d m : Nat) (τ : St_), m + d = n → Ke_ [26, 27] σ τ → (∀ i, i < m → τ 26 i = σ 6 i ∧ τ 27 i = iI_ 0) → GG_ (zx_ u) mX0_layAtFirst (Pv_ P) 2 [(0, .ref (uq_ u 20)), (1, .int (iI_ m))] [] τ := by
    intro d
    induction d with
    | zero =>
      intro m τ hm hk hA
      have : m = n := by omega
      subst this
      exact bX0_layAtFirst_2 u τ _ (cs_ (fun _ => H τ hk hA) (fun c => absurd (by rw [hk 3 (by decide), hr.2.1]; exact Int32.le_refl _) c))
    | succ d ih =>
      intro m τ hm hk hA
      have hin : vp_in (iI_ m) 8 := (iI_in (by omega)).mpr (by omega)
      refine bX0_layAtFirst_2 u τ _ (cs_ (fun c => absurd c (by rw [hk 3 (by decide), hr.2.1, iI_le (by omega) (by omega)]; omega)) (fun _ => ⟨hin, hin, ?_⟩))
      rintro σ3 e3
      refine ⟨hin, ?_⟩
      rintro σ5 e5
      rw [iI_ix (by omega)] at e3 e5
      rw [iI_succ]
      refine ih (m + 1) σ5 (by omega) (fun k hk2 => ?_) (fun i hi => ?_)
      · simp only [List.mem_cons, List.not_mem_nil, or_false, not_or] at hk2
        rw [e5, su_i _ _ _ hk2.2, e3, su_i _ _ _ hk2.1, hk k (by simp; omega)]
      · by_cases q : i = m
        · subst q
          refine ⟨?_, ?_⟩
          · rw [e5, su_i _ _ _ (by decide), e3, su_same, hk 6 (by decide)]
          · rw [e5, su_same]
        · have := hA i (by omega)
          refine ⟨?_, ?_⟩
          · rw [e5, su_i _ _ _ (by decide), e3, su_j _ _ _ q]; exact this.1
          · rw [e5, su_j _ _ _ q, e3, su_i _ _ _ (by decide)]; exact this.2
  exact key n 0 σ (by omega) Ke_.rf (fun i hi => by omega)
theorem isF_t {n m s : Int32} (h : isF_ n m s = true) : (0 ≤ n.toInt ∧ n.toInt < 10) ∧ (0 ≤ m.toInt ∧ m.toInt < 8) ∧ 0 ≤ s.toInt ∧ s.toInt < 6 := by
  simp only [isF_, Bool.and_eq_true, inr_t, t_10, t_8, t_6] at h
  exact h
theorem x_lay (u : Ux_) {P : St_ → Prop} (σ : St_) (t wo : Int32) {n nf : Nat} (hr : Wr_ σ n) (hf8 : nf ≤ 8) (ef : σ 14 0 = iI_ nf) (hF : ∀ i, i < nf → isF_ (σ 15 i) (σ 16 i) (σ 17 i) = true) (H : ∀ σ', Ke_ [26, 27] σ σ' → (∀ m, m < n → σ' 26 m = (ly_ σ t wo m nf).1) → P σ') : MMv_ (zx_ u) mX0_lay [.ref (uq_ u 20), .int t, .int wo] σ P := by
  have h8 := hr.1
  refine eX0_lay u σ t wo (x_layAtFirst u σ hr (fun σ1 hk1 hA1 => ?_))
  have key : ∀ (d f : Nat) (τ : St_), f + d = nf → Ke_ [26, 27] σ τ → (∀ m, m < n → τ 26 m = (ly_ σ t wo m f).1 ∧ τ 27 m = (ly_ σ t wo m f).2) → GG_ (zx_ u) mX0_lay (Pv_ P) 6 [(0, .ref (uq_ u 20)), (1, .int t), (2, .int wo), (3, .int (iI_ f))] [] τ := by
    intro d
    induction d with
    | zero =>
      intro f τ hf hk hA
      have : f = nf := by omega
      subst this
      exact bX0_lay_6 u τ _ _ _ (cs_ (fun _ => H τ hk (fun m hm => (hA m hm).1)) (fun c => absurd (by rw [hk 14 (by decide), ef]; exact Int32.le_refl _) c))
    | succ d ih =>
      intro f τ hf hk hA
      have hin : vp_in (iI_ f) 8 := (iI_in (by omega)).mpr (by omega)
      have hq := isF_t (hF f (by omega))
      refine bX0_lay_6 u τ _ _ _ (cs_ (fun c => absurd c (by rw [hk 14 (by decide), ef, iI_le (by omega) (by omega)]; omega)) (fun _ => ⟨hin, hin, ?_⟩))
      rw [iI_ix (by omega), iI_succ, hk 16 (by decide), hk 15 (by decide), hk 3 (by decide), hr.2.1]
      obtain ⟨p, ep, hp⟩ := iI_nat hq.2.1.1
      rw [ep] at hq
      rw [iI_toInt (by omega)] at hq
      have same : (∀ m, m < n → ly_ σ t wo m (f + 1) = ly_ σ t wo m f) → GG_ (zx_ u) mX0_lay (Pv_ P) 6 [(0, .ref (uq_ u 20)), (1, .int t), (2, .int wo), (3, .int (iI_ (f + 1 : Nat)))] [] τ := fun hs => ih (f + 1) τ (by omega) hk (fun m hm => by rw [hs m hm]; exact hA m hm)
      refine cs_ (fun c => ?_) (fun c => s_within u τ _ _ (nxb (fun c2 => ?_) (fun c2 => cs_ (fun c3 => ?_) (fun c3 => ⟨?_, cs_ (fun c4 => ?_) (fun c4 => ⟨hin, ?_, ?_⟩)⟩))))
      · exact same (fun m hm => by rw [ly_, if_neg (fun q => q.1 c)])
      · rw [inr_f, ep, iI_toInt (by omega), iI_toInt (by omega)] at c2
        refine same (fun m hm => ?_)
        rw [ly_, if_neg (fun q => ?_)]
        have := q.2.1
        rw [ep, iI_eq (by omega) (by omega)] at this
        omega
      · exact same (fun m hm => by rw [ly_, if_neg (fun q => q.2.2.1 c3)])
      · rw [ep]; exact (iI_in (by omega)).mpr (by omega)
      · rw [inr_t, ep, iI_toInt (by omega), iI_toInt (by omega)] at c2
        rw [ep, iI_ix (by omega)] at c4
        refine same (fun m hm => ?_)
        by_cases q : m = p
        · subst q
          rw [(hA m hm).2] at c4
          rw [ly_, if_neg (fun q => q.2.2.2 c4)]
        · rw [ly_, if_neg (fun z => ?_)]
          have := z.2.1
          rw [ep, iI_eq (by omega) (by omega)] at this
          omega
      · rw [ep]; exact (iI_in (by omega)).mpr (by omega)
      · rw [inr_t, ep, iI_toInt (by omega), iI_toInt (by omega)] at c2
        rw [ep, iI_ix (by omega)] at c4
        rw [ep, iI_ix (by omega), hk 17 (by decide)]
        rintro σ10 e10
        refine ⟨(iI_in (by omega)).mpr (by omega), ?_⟩
        rintro σ12 e12
        refine ih (f + 1) σ12 (by omega) (fun k hk2 => ?_) (fun m hm => ?_)
        · simp only [List.mem_cons, List.not_mem_nil, or_false, not_or] at hk2
          rw [e12, su_i _ _ _ hk2.2, e10, su_i _ _ _ hk2.1, hk k (by simp; omega)]
        · by_cases q : m = p
          · subst q
            rw [(hA m hm).2] at c4
            rw [ly_, if_pos ⟨c, ep, c3, c4⟩]
            exact ⟨by rw [e12, su_i _ _ _ (by decide), e10, su_same], by rw [e12, su_same]⟩
          · rw [ly_, if_neg (fun z => by
              have := z.2.1
              rw [ep, iI_eq (by omega) (by omega)] at this
              omega)]
            have := hA m hm
            exact ⟨by rw [e12, su_i _ _ _ (by decide), e10, su_j _ _ _ q]; exact this.1, by rw [e12, su_j _ _ _ q, e10, su_i _ _ _ (by decide)]; exact this.2⟩
  exact key nf 0 σ1 (by omega) hk1 (fun m hm => hA1 m hm)
theorem ly_in {a : St_} {t wo : Int32} {m nf : Nat} (h6 : 0 ≤ (a 6 m).toInt ∧ (a 6 m).toInt < 6) (hF : ∀ i, i < nf → isF_ (a 15 i) (a 16 i) (a 17 i) = true) : 0 ≤ (ly_ a t wo m nf).1.toInt ∧ (ly_ a t wo m nf).1.toInt < 6 := by
  induction nf with
  | zero => exact h6
  | succ f ih =>
    have := ih (fun i hi => hF i (by omega))
    have q := (isF_t (hF f (by omega))).2.2
    unfold ly_
    split
    · exact q
    · exact this
