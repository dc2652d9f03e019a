/-! ===== the class: members and motions as facts; sheets; counts ===== -/
def Wr_ (a : St_) (n : Nat) : Prop := n ≤ 8 ∧ a 3 0 = iI_ n ∧ ∀ j, j < n → (0 ≤ (a 5 j).toInt ∧ (a 5 j).toInt < 3) ∧ (0 ≤ (a 6 j).toInt ∧ (a 6 j).toInt < 6) ∧ 0 ≤ (a 7 j).toInt ∧ (a 7 j).toInt < 6
def Wm_ (a : St_) (n : Nat) : Prop := n ≤ 10 ∧ a 9 0 = iI_ n ∧ ∀ j, j < n → (0 ≤ (a 11 j).toInt ∧ (a 11 j).toInt < 3) ∧ (0 ≤ (a 12 j).toInt ∧ (a 12 j).toInt < 3) ∧ ¬ a 11 j = a 12 j ∧ (a 13 j = iI_ 1 ∨ a 13 j = iI_ 2)
theorem let_t {b : Int32} : let_ b = true ↔ 97 ≤ b.toInt ∧ b.toInt ≤ 99 := by simp [let_]
theorem so_in {b : Int32} (h : ¬ so_ b = iI_ (-1)) : 0 ≤ (so_ b).toInt ∧ (so_ b).toInt < 3 := by
  unfold so_ at *
  split
  · decide
  · split
    · decide
    · split
      · decide
      · rename_i h1 h2 h3
        rw [if_neg h1, if_neg h2, if_neg h3] at h
        exact absurd rfl h
theorem sub_iI (b : Int32) (c : Int) : b - iI_ c = iI_ (b.toInt - c) := by rw [← iI_sub, iI_of]
theorem mem_facts {f : Nat → Int32} {n j : Nat} (h : mflt_ f n = -1) (hn : n ≤ 47) (hj : j < (n + 5) / 6) : 6 * j + 4 < n ∧ ¬ so_ (f (6 * j)) = iI_ (-1) ∧ (48 ≤ (f (6 * j + 1)).toInt ∧ (f (6 * j + 1)).toInt < 54) ∧ (97 ≤ (f (6 * j + 2)).toInt ∧ (f (6 * j + 2)).toInt ≤ 99) ∧ (97 ≤ (f (6 * j + 3)).toInt ∧ (f (6 * j + 3)).toInt ≤ 99) ∧ (97 ≤ (f (6 * j + 4)).toInt ∧ (f (6 * j + 4)).toInt ≤ 99) ∧ ¬ f (6 * j + 3) = f (6 * j + 2) ∧ ¬ f (6 * j + 4) = f (6 * j + 3) ∧ ¬ f (6 * j + 4) = f (6 * j + 2) := by
  obtain ⟨hn6, hfit⟩ := mflt_m1 h
  have hl : 6 * j + 4 < n := by omega
  have q0 := hfit (6 * j) (by omega)
  have q1 := hfit (6 * j + 1) (by omega)
  have q2 := hfit (6 * j + 2) (by omega)
  have q3 := hfit (6 * j + 3) (by omega)
  have q4 := hfit (6 * j + 4) (by omega)
  unfold mfit_ at q0 q1 q2 q3 q4
  rw [if_pos (by omega)] at q0
  rw [if_neg (by omega), if_pos (by omega)] at q1
  rw [if_neg (by omega), if_neg (by omega), if_pos (by omega)] at q2
  rw [if_neg (by omega), if_neg (by omega), if_neg (by omega), if_pos (by omega)] at q3
  rw [if_neg (by omega), if_neg (by omega), if_neg (by omega), if_neg (by omega), if_pos (by omega)] at q4
  simp only [Bool.and_eq_true, Bool.not_eq_true', decide_eq_true_eq, decide_eq_false_iff_not, let_t] at q0 q1 q2 q3 q4
  have e3 : 6 * j + 3 - 1 = 6 * j + 2 := by omega
  have e4 : 6 * j + 4 - 1 = 6 * j + 3 := by omega
  have e5 : 6 * j + 4 - 2 = 6 * j + 2 := by omega
  rw [e3] at q3
  rw [e4, e5] at q4
  exact ⟨hl, q0.2, q1, q2, q3.1, q4.1, q3.2, q4.2.1, q4.2.2⟩
theorem mot_facts {f : Nat → Int32} {n j : Nat} (h : oflt_ f n = -1) (hj : j < n / 3) : 3 * j + 2 < n ∧ (97 ≤ (f (3 * j)).toInt ∧ (f (3 * j)).toInt ≤ 99) ∧ (97 ≤ (f (3 * j + 1)).toInt ∧ (f (3 * j + 1)).toInt ≤ 99) ∧ ¬ f (3 * j + 1) = f (3 * j) ∧ (f (3 * j + 2) = iI_ 49 ∨ f (3 * j + 2) = iI_ 50) := by
  obtain ⟨hn6, hfit⟩ := oflt_m1 h
  have hl : 3 * j + 2 < n := by omega
  have q0 := hfit (3 * j) (by omega)
  have q1 := hfit (3 * j + 1) (by omega)
  have q2 := hfit (3 * j + 2) (by omega)
  unfold ofit_ at q0 q1 q2
  rw [if_pos (by omega)] at q0
  rw [if_neg (by omega), if_pos (by omega)] at q1
  rw [if_neg (by omega), if_neg (by omega)] at q2
  simp only [Bool.and_eq_true, Bool.or_eq_true, Bool.not_eq_true', decide_eq_true_eq, decide_eq_false_iff_not, let_t] at q0 q1 q2
  have e3 : 3 * j + 1 - 1 = 3 * j := by omega
  rw [e3] at q1
  exact ⟨hl, q0, q1.1, q1.2, q2⟩
theorem Wt_.roll {a : St_} (h : Wt_ a) : ∃ n, Wr_ a n := by
  obtain ⟨n0, n1, h0, h1, -, -, -, -, -, e3, hm, -⟩ := h
  refine ⟨mcnt_ (a 1) n0, ?_, e3, fun j hj => ?_⟩
  · unfold mcnt_; split <;> omega
  · obtain ⟨e5, e6, e7⟩ := hm j hj
    unfold mcnt_ at hj
    split at hj
    · rename_i c
      obtain ⟨q0, q1, q2, q3, q4, q5, -⟩ := mem_facts c h0 hj
      rw [e5, e6, e7]
      refine ⟨so_in q1, ?_, ?_⟩
      · rw [sub_iI, iI_toInt (by omega)]; omega
      · unfold od_
        rw [sub_iI, iI_mul]
        split <;> rw [iI_add, iI_toInt (by omega)] <;> omega
    · omega
theorem Wt_.mot {a : St_} (h : Wt_ a) : ∃ n, Wm_ a n := by
  obtain ⟨n0, n1, h0, h1, -, -, -, -, -, -, -, -, e9, hm⟩ := h
  refine ⟨ocnt_ (a 2) n1, ?_, e9, fun j hj => ?_⟩
  · unfold ocnt_; split <;> omega
  · obtain ⟨e5, e6, e7⟩ := hm j hj
    unfold ocnt_ at hj
    split at hj
    · rename_i c
      obtain ⟨q0, q1, q2, q3, q4⟩ := mot_facts c hj
      rw [e5, e6, e7, sub_iI, sub_iI, iI_toInt (by omega), iI_toInt (by omega)]
      refine ⟨by omega, by omega, ?_, ?_⟩
      · rw [iI_eq (by omega) (by omega)]
        intro e
        exact q3 (Int32.toInt_inj.mp (by omega))
      · rcases q4 with q | q
        · exact Or.inl (by rw [q]; decide)
        · exact Or.inr (by rw [q]; decide)
    · omega
theorem Wr_.sc {a b : St_} {n : Nat} (h : Wr_ a n) (e : Sc_ a b) : Wr_ b n := by
  unfold Wr_ at *; rw [e 3 (by omega), e 5 (by omega), e 6 (by omega), e 7 (by omega)]; exact h
theorem Wm_.sc {a b : St_} {n : Nat} (h : Wm_ a n) (e : Sc_ a b) : Wm_ b n := by
  unfold Wm_ at *; rw [e 9 (by omega), e 11 (by omega), e 12 (by omega), e 13 (by omega)]; exact h
/-! sheets -/
def nar_ (f v : Int32) : Int32 := if f = iI_ 0 then v.toInt8.toInt32 else if f = iI_ 1 then v.toInt16.toInt32 else v
def rn_ (a : St_) (t : Nat) (f n : Int32) : St_ := sf_ (su_ (su_ a 39 t f) 40 t n) (41 + t) (fun i => if i < 60 then iI_ 0 else a (41 + t) i)
theorem sf_same (σ : St_) (i : Nat) (f : Nat → Int32) : sf_ σ i f i = f := by simp [sf_]
theorem sf_i (σ : St_) {i k : Nat} (f : Nat → Int32) (h : k ≠ i) : sf_ σ i f k = σ k := by simp [sf_, h]
theorem su_sf (σ : St_) (i : Nat) (f : Nat → Int32) (j : Nat) (v : Int32) : su_ (sf_ σ i f) i j v = sf_ σ i (upd f j v) := by
  funext k
  by_cases h : k = i
  · subst h; simp [su_, sf_]
  · simp [su_, sf_, h]
theorem x_renew (u : Ux_) {P : St_ → Prop} {t : Nat} (h : t < 4) (σ : St_) (f n : Int32) (hn : 0 ≤ n.toInt ∧ n.toInt ≤ 60) (H : P (rn_ σ t f n)) : MMv_ (zx_ u) mX6_renew [.ref (uq_ u (36 + t)), .int f, .int n] σ P := by
  refine eX6_renew u t h σ f n ?_
  rintro σ1 rfl σ2 e2
  have en : (if iI_ 0 < (if iI_ 60 < n then iI_ 60 else n) then (if iI_ 60 < n then iI_ 60 else n) else iI_ 0) = n := by
    have e1 : (if iI_ 60 < n then iI_ 60 else n) = n := by
      rw [if_neg (by rw [iI_ltI, show (iI_ 60).toInt = 60 by decide]; omega)]
    rw [e1]
    split
    · rfl
    · rename_i c
      rw [iI_ltI, t_0] at c
      exact (Int32.toInt_inj.mp (by rw [t_0]; omega)).symm
  rw [en] at e2
  have key : ∀ d k : Nat, k + d = 60 → GG_ (zx_ u) mX6_renew (Pv_ P) 21 [(0, .ref (uq_ u (36 + t))), (3, .int (iI_ k))] [] (sf_ (su_ (su_ σ 39 t f) 40 t n) (41 + t) (fun i => if i < k then iI_ 0 else σ (41 + t) i)) := by
    intro d
    induction d with
    | zero =>
      intro k hk
      have : k = 60 := by omega
      subst this
      exact bX6_renew_21 u t h _ _ (cs_ (fun _ => H) (fun c => absurd (by decide) c))
    | succ d ih =>
      intro k hk
      refine bX6_renew_21 u t h _ _ (cs_ (fun c => absurd c (by rw [iI_le (by omega) (by omega)]; omega)) (fun _ => ⟨(iI_in (by omega)).mpr (by omega), ?_⟩))
      rintro σ3 rfl
      rw [iI_ix (by omega), su_sf, iI_succ]
      have e : (upd (fun i => if i < k then iI_ 0 else σ (41 + t) i) k (iI_ 0)) = (fun i => if i < k + 1 then iI_ 0 else σ (41 + t) i) := by
        funext i
        unfold upd
        by_cases q : i = k
        · subst q; simp
        · by_cases q2 : i < k
          · simp only [if_neg q, if_pos q2, if_pos (show i < k + 1 by omega)]
          · simp only [if_neg q, if_neg q2, if_neg (show ¬ i < k + 1 by omega)]
      rw [e]
      exact ih (k + 1) (by omega)
  have e0 : σ2 = sf_ (su_ (su_ σ 39 t f) 40 t n) (41 + t) (fun i => if i < 0 then iI_ 0 else σ (41 + t) i) := by
    rw [e2]
    funext k
    by_cases q : k = 41 + t
    · subst q
      rw [sf_same, su_i _ _ _ (by omega), su_i _ _ _ (by omega)]
      funext i; simp
    · rw [sf_i _ _ q]
  rw [e0]
  exact key 60 0 (by omega)
theorem x_set (u : Ux_) {P : St_ → Prop} {t : Nat} (h : t < 4) (σ : St_) (i v : Int32) (hi : 0 ≤ i.toInt ∧ i.toInt < (σ 40 t).toInt) (hz : (σ 40 t).toInt ≤ 60) (H : P (su_ σ (41 + t) i.toNatClampNeg (nar_ (σ 39 t) v))) : MMv_ (zx_ u) mX6_set [.ref (uq_ u (36 + t)), .int i, .int v] σ P := by
  have hin : vp_in i 60 := vp_in_iff.mpr (by omega)
  refine eX6_set u t h σ i v (cs_ (fun c => ?_) (fun c => cs_ (fun c2 => ⟨fun c3 => ⟨fun c4 => ⟨hin, fun σ5 e => ?_⟩, fun c4 => ⟨hin, fun σ5 e => ?_⟩⟩, fun c3 => ⟨hin, fun σ5 e => ?_⟩⟩) (fun c2 => ?_)))
  · rw [iI_ltI, t_0] at c; omega
  · rw [nar_, if_neg c3, if_neg c4] at H; exact e ▸ H
  · rw [nar_, if_neg c3, if_pos c4] at H; exact e ▸ H
  · rw [nar_, if_pos c3] at H; exact e ▸ H
  · rw [iI_ltI] at c2; omega
def fd_ (a : St_) (x : Int32) : Int32 × St_ := (iI_ (-10) - x, su_ a 38 0 x)
def c_sheet (a : St_) (s f n : Int32) : Int32 × St_ := if inr_ s (iI_ 4) = true ∧ inr_ f (iI_ 3) = true ∧ n.toInt ≤ 60 then (if 0 ≤ n.toInt then (n, rn_ a s.toNatClampNeg f n) else fd_ a (iI_ 5)) else (iI_ (-2), a)
theorem x_sheet (u : Ux_) {P : Int32 → St_ → Prop} (σ : St_) (s f n : Int32) (H : P (c_sheet σ s f n).1 (c_sheet σ s f n).2) : MMi_ (zx_ u) mX9_sheet [.ref (uq_ u 0), .int s, .int f, .int n] σ P := by
  refine eX9_sheet u σ s f n (s_within u σ _ _ (nxb (fun h => ?_) (fun h => s_within u σ _ _ (nxb (fun h2 => ?_) (fun h2 => cs_ (fun c => cs_ (fun c2 => ?_) (fun c2 => ?_)) (fun c => ?_))))))
  · simp [c_sheet, h] at H; exact H
  · simp [c_sheet, h2] at H; exact H
  · rw [iI_leI, show (iI_ 60).toInt = 60 by decide] at c
    rw [iI_leI, t_0] at c2
    have hh := inr_t.mp h
    rw [t_4] at hh
    simp only [c_sheet, h, h2, c, c2, and_self, if_true] at H
    exact ⟨vp_in_iff.mpr (by omega), x_renew u (by rw [clampI]; omega) σ f n (by omega) H⟩
  · rw [iI_leI, show (iI_ 60).toInt = 60 by decide] at c
    rw [iI_leI, t_0] at c2
    simp only [c_sheet, h, h2, c, c2, and_self, if_true, if_false] at H
    exact s_found u σ _ H
  · rw [iI_leI, show (iI_ 60).toInt = 60 by decide] at c
    rw [c_sheet, if_neg (fun q => c q.2.2)] at H
    exact H
def c_lose (a : St_) (s : Int32) : Int32 × St_ := if inr_ s (iI_ 4) = true then (if a 39 s.toNatClampNeg = iI_ (-1) then fd_ a (iI_ 1) else (a 40 s.toNatClampNeg, rn_ a s.toNatClampNeg (iI_ (-1)) (iI_ 0))) else (iI_ (-2), a)
theorem x_lose (u : Ux_) {P : Int32 → St_ → Prop} (σ : St_) (s : Int32) (H : P (c_lose σ s).1 (c_lose σ s).2) : MMi_ (zx_ u) mX9_lose [.ref (uq_ u 0), .int s] σ P := by
  refine eX9_lose u σ s (s_within u σ _ _ (nxn (fun h => ?_) (fun h => ?_)))
  · simp [c_lose, h] at H; exact H
  · have hh := inr_t.mp h
    rw [t_4] at hh
    have hv : vp_in s 4 := vp_in_iff.mpr (by omega)
    simp only [c_lose, h, if_true] at H
    refine ⟨hv, fun c => ⟨hv, hv, ?_⟩, fun c => ?_⟩
    · rw [if_neg c] at H
      exact x_renew u (by rw [clampI]; omega) σ _ _ (by decide) H
    · rw [if_pos c] at H
      exact s_found u σ _ H
def ref_ (a : St_) (s f i : Int32) : Int32 × St_ := if inr_ s (iI_ 4) = true ∧ inr_ f (iI_ 3) = true then (if a 39 s.toNatClampNeg = iI_ (-1) then fd_ a (iI_ 1) else if a 39 s.toNatClampNeg = f then (if inr_ i (a 40 s.toNatClampNeg) = true then (iI_ 0, a) else fd_ a (iI_ 2)) else fd_ a (iI_ 3)) else (iI_ (-2), a)
theorem x_ref (u : Ux_) {P : Int32 → St_ → Prop} (σ : St_) (s f i : Int32) (H : P (ref_ σ s f i).1 (ref_ σ s f i).2) : MMi_ (zx_ u) mX9_itemRefusal [.ref (uq_ u 0), .int s, .int f, .int i] σ P := by
  refine eX9_itemRefusal u σ s f i (s_within u σ _ _ (nxb (fun h => ?_) (fun h => s_within u σ _ _ (nxn (fun h2 => ?_) (fun h2 => ?_)))))
  · simp [ref_, h] at H; exact H
  · simp [ref_, h2] at H; exact H
  · have hh := inr_t.mp h
    rw [t_4] at hh
    have hv : vp_in s 4 := vp_in_iff.mpr (by omega)
    simp only [ref_, h, h2, and_self, if_true] at H
    refine ⟨hv, fun c => ⟨hv, fun c2 => ⟨hv, s_within u σ _ _ (nxb (fun h3 => ?_) (fun h3 => ?_))⟩, fun c2 => ?_⟩, fun c => ?_⟩
    · rw [if_neg c, if_pos c2, if_neg (by simp [h3])] at H; exact s_found u σ _ H
    · rw [if_neg c, if_pos c2, if_pos h3] at H; exact H
    · rw [if_neg c, if_neg c2] at H; exact s_found u σ _ H
    · rw [if_pos c] at H; exact s_found u σ _ H
theorem ref_0 {a : St_} {s f i : Int32} (h : (ref_ a s f i).1 = iI_ 0) : (0 ≤ s.toInt ∧ s.toInt < 4) ∧ ¬ a 39 s.toNatClampNeg = iI_ (-1) ∧ a 39 s.toNatClampNeg = f ∧ (0 ≤ i.toInt ∧ i.toInt < (a 40 s.toNatClampNeg).toInt) ∧ (ref_ a s f i).2 = a := by
  unfold ref_ at *
  split at h
  · rename_i q
    have hh := inr_t.mp q.1
    rw [t_4] at hh
    split at h
    · exact absurd (show iI_ (-10) - iI_ 1 = iI_ 0 from h) (by decide)
    · rename_i c
      split at h
      · rename_i c2
        split at h
        · rename_i c3
          refine ⟨hh, c, c2, inr_t.mp c3, ?_⟩
          rw [if_pos q, if_neg c, if_pos c2, if_pos c3]
        · exact absurd (show iI_ (-10) - iI_ 2 = iI_ 0 from h) (by decide)
      · exact absurd (show iI_ (-10) - iI_ 3 = iI_ 0 from h) (by decide)
  · exact absurd (show iI_ (-2) = iI_ 0 from h) (by decide)
def c_put (a : St_) (s f i v : Int32) : Int32 × St_ := if (ref_ a s f i).1 = iI_ 0 then (iI_ 1, su_ a (41 + s.toNatClampNeg) i.toNatClampNeg (nar_ f v)) else ref_ a s f i
theorem x_put (u : Ux_) {P : Int32 → St_ → Prop} (σ : St_) (s f i v : Int32) (hs : Ws_ σ) (H : P (c_put σ s f i v).1 (c_put σ s f i v).2) : MMi_ (zx_ u) mX9_put [.ref (uq_ u 0), .int s, .int f, .int i, .int v] σ P := by
  refine eX9_put u σ s f i v (x_ref u σ s f i (cs_ (fun c => ?_) (fun c => ?_)))
  · obtain ⟨q1, q2, q3, q4, q5⟩ := ref_0 c
    rw [q5]
    rw [c_put, if_pos c] at H
    refine ⟨vp_in_iff.mpr (by omega), x_set u (by rw [clampI]; omega) σ i v q4 (hs _ (by rw [clampI]; omega)).2.2 ?_⟩
    rw [q3]; exact H
  · rw [c_put, if_neg c] at H; exact H
def c_get (a : St_) (s f i : Int32) : Int32 × St_ := if (ref_ a s f i).1 = iI_ 0 then (a (41 + s.toNatClampNeg) i.toNatClampNeg, a) else (iI_ (-2147483648), (ref_ a s f i).2)
theorem x_get (u : Ux_) {P : Int32 → St_ → Prop} (σ : St_) (s f i : Int32) (hs : Ws_ σ) (H : P (c_get σ s f i).1 (c_get σ s f i).2) : MMi_ (zx_ u) mX9_get [.ref (uq_ u 0), .int s, .int f, .int i] σ P := by
  refine eX9_get u σ s f i (x_ref u σ s f i (cs_ (fun c => ?_) (fun c => ?_)))
  · obtain ⟨q1, q2, q3, q4, q5⟩ := ref_0 c
    rw [q5]
    rw [c_get, if_pos c] at H
    have := (hs s.toNatClampNeg (by rw [clampI]; omega)).2.2
    exact ⟨vp_in_iff.mpr (by omega), vp_in_iff.mpr (by omega), H⟩
  · rw [c_get, if_neg c] at H; exact H
/-- n items from i on are all of a sheet of size z -/
def hol_ (z i n : Int32) : Bool := decide (0 ≤ i.toInt ∧ 0 ≤ n.toInt ∧ i.toInt + n.toInt ≤ z.toInt)
theorem x_holds (u : Ux_) {P : Int32 → St_ → Prop} {t : Nat} (h : t < 4) (σ : St_) (i n : Int32) (hz : 0 ≤ (σ 40 t).toInt ∧ (σ 40 t).toInt ≤ 60) (H : P (bi_ (hol_ (σ 40 t) i n)) σ) : MMi_ (zx_ u) mX6_holds [.ref (uq_ u (36 + t)), .int i, .int n] σ P := by
  refine eX6_holds u t h σ i n (cs_ (fun c => ?_) (fun c => cs_ (fun c2 => ?_) (fun c2 => cs_ (fun c3 => ?_) (fun c3 => cs_ (fun c4 => ?_) (fun c4 => ?_))))) <;> rw [iI_ltI, t_0] at c
  · rw [hol_, decide_eq_false (by omega)] at H; exact H
  · rw [iI_ltI, t_0] at c2
    rw [hol_, decide_eq_false (by omega)] at H; exact H
  · rw [iI_ltI, t_0] at c2
    rw [iI_ltI] at c3
    rw [hol_, decide_eq_false (by omega)] at H; exact H
  · rw [iI_ltI, t_0] at c2
    rw [iI_ltI] at c3
    rw [← iI_of (σ 40 t), ← iI_of n, iI_sub, iI_ltI, iI_toInt (by omega)] at c4
    rw [hol_, decide_eq_false (by omega)] at H; exact H
  · rw [iI_ltI, t_0] at c2
    rw [iI_ltI] at c3
    rw [← iI_of (σ 40 t), ← iI_of n, iI_sub, iI_ltI, iI_toInt (by omega)] at c4
    rw [hol_, decide_eq_true (by omega)] at H; exact H
def c_copy (a : St_) (s i t j n : Int32) : Int32 × St_ := if inr_ s (iI_ 4) = true ∧ inr_ t (iI_ 4) = true then (if a 39 s.toNatClampNeg = iI_ (-1) ∨ a 39 t.toNatClampNeg = iI_ (-1) then fd_ a (iI_ 1) else if a 39 s.toNatClampNeg = a 39 t.toNatClampNeg then (if hol_ (a 40 s.toNatClampNeg) i n = true ∧ hol_ (a 40 t.toNatClampNeg) j n = true then (iI_ 1, sf_ a (41 + t.toNatClampNeg) (va_cpy (a (41 + s.toNatClampNeg)) (a (41 + t.toNatClampNeg)) i.toNatClampNeg j.toNatClampNeg n.toNatClampNeg)) else fd_ a (iI_ 2)) else fd_ a (iI_ 4)) else (iI_ (-2), a)
theorem x_copy (u : Ux_) {P : Int32 → St_ → Prop} (σ : St_) (s i t j n : Int32) (hs : Ws_ σ) (H : P (c_copy σ s i t j n).1 (c_copy σ s i t j n).2) : MMi_ (zx_ u) mX9_copy [.ref (uq_ u 0), .int s, .int i, .int t, .int j, .int n] σ P := by
  refine eX9_copy u σ s i t j n (s_within u σ _ _ (nxb (fun h => ?_) (fun h => s_within u σ _ _ (nxn (fun h2 => ?_) (fun h2 => ?_)))))
  · simp [c_copy, h] at H; exact H
  · simp [c_copy, h2] at H; exact H
  · have hh := inr_t.mp h
    have hh2 := inr_t.mp h2
    rw [t_4] at hh hh2
    have z1 := (hs s.toNatClampNeg (by rw [clampI]; omega)).2
    have z2 := (hs t.toNatClampNeg (by rw [clampI]; omega)).2
    simp only [c_copy, h, h2, and_self, if_true] at H
    refine ⟨vp_in_iff.mpr (by omega), vp_in_iff.mpr (by omega), cs_ (fun c => ?_) (fun c => ⟨fun c2 => cs_ (fun c3 => x_holds u (by rw [clampI]; omega) σ i n z1 (nxb (fun h3 => ?_) (fun h3 => x_holds u (by rw [clampI]; omega) σ j n z2 (nxn (fun h4 => ?_) (fun h4 => ?_))))) (fun c3 => ?_), fun c2 => ?_⟩)⟩
    · rw [if_pos (Or.inl c)] at H; exact s_found u σ _ H
    · rw [if_neg (by simp [c, c2]), if_pos c3, if_neg (by simp [h3])] at H; exact s_found u σ _ H
    · rw [if_neg (by simp [c, c2]), if_pos c3, if_neg (by simp [h4])] at H; exact s_found u σ _ H
    · rw [if_neg (by simp [c, c2]), if_pos c3, if_pos ⟨h3, h4⟩] at H
      simp only [hol_, decide_eq_true_eq] at h3 h4
      refine ⟨?_, ?_, ?_, by rw [clampI, clampI]; omega, by rw [clampI, clampI]; omega, fun σ22 e => e ▸ H⟩
      · rw [iI_ltI, Int32.toInt_zero]; omega
      · rw [iI_ltI, Int32.toInt_zero]; omega
      · rw [iI_ltI, Int32.toInt_zero]; omega
    · rw [if_neg (by simp [c, c2]), if_neg c3] at H; exact s_found u σ _ H
    · rw [if_pos (Or.inr c2)] at H; exact s_found u σ _ H
/-! counts -/
def wg_ (a : St_) (m : Nat) : Int32 := a 8 (a 5 m).toNatClampNeg
def wsm_ (a : St_) : Nat → Int32
  | 0 => iI_ 0
  | m + 1 => wsm_ a m + wg_ a m
theorem x_weightOf (u : Ux_) {P : Int32 → St_ → Prop} (σ : St_) {n m : Nat} (hr : Wr_ σ n) (hm : m < n) (H : P (wg_ σ m) σ) : MMi_ (zx_ u) mX4_weightOf [.ref (uq_ u 2), .int (iI_ m)] σ P := by
  obtain ⟨h8, e3, hA⟩ := hr
  have hq := (hA m hm).1
  have hin : vp_in (iI_ m) 8 := (iI_in (by omega)).mpr (by omega)
  refine eX4_weightOf u σ _ (cs_ (fun c => ?_) (fun _ => cs_ (fun c => ?_) (fun _ => ⟨hin, ?_⟩)))
  · rw [iI_lt (by omega) (by omega)] at c; omega
  · rw [e3, iI_le (by omega) (by omega)] at c; omega
  · rw [iI_ix (by omega)]
    refine cs_ (fun c => ?_) (fun _ => cs_ (fun c => ?_) (fun _ => ⟨vp_in_iff.mpr (by omega), H⟩))
    · rw [iI_ltI, t_0] at c; omega
    · rw [iI_leI, t_3] at c; omega
theorem x_weightOfAll (u : Ux_) {P : Int32 → St_ → Prop} (σ : St_) {n : Nat} (hr : Wr_ σ n) (H : P (wsm_ σ n) σ) : MMi_ (zx_ u) mX4_weightOfAll [.ref (uq_ u 2)] σ P := by
  have h8 := hr.1
  refine eX4_weightOfAll u σ ?_
  have key : ∀ d m : Nat, m + d = n → GG_ (zx_ u) mX4_weightOfAll (Pi_ P) 4 [(0, .ref (uq_ u 2)), (1, .int (wsm_ σ m)), (2, .int (iI_ m))] [] σ := by
    intro d
    induction d with
    | zero =>
      intro m hm
      have : m = n := by omega
      subst this
      exact bX4_weightOfAll_4 u σ _ _ (cs_ (fun _ => H) (fun c => absurd (by rw [hr.2.1]; exact Int32.le_refl _) c))
    | succ d ih =>
      intro m hm
      refine bX4_weightOfAll_4 u σ _ _ (cs_ (fun c => absurd c (by rw [hr.2.1, iI_le (by omega) (by omega)]; omega)) (fun _ => x_weightOf u σ hr (by omega) ?_))
      rw [iI_succ]
      exact ih (m + 1) (by omega)
  exact key n 0 (by omega)
def q_count (a : St_) (n : Nat) (w : Int32) : Int32 := if w = iI_ 0 then a 3 0 else if w = iI_ 1 then a 9 0 else if w = iI_ 2 then a 0 0 else if w = iI_ 3 then a 0 1 else if w = iI_ 4 then a 14 0 else if w = iI_ 5 then a 18 0 else if w = iI_ 6 then wsm_ a n else if w = iI_ 7 then a 20 0 else if w = iI_ 8 then a 38 0 else iI_ (-2)
theorem x_count (u : Ux_) {P : Int32 → St_ → Prop} (σ : St_) {n : Nat} (hr : Wr_ σ n) (w : Int32) (H : P (q_count σ n w) σ) : MMi_ (zx_ u) mX9_count [.ref (uq_ u 0), .int w] σ P := by
  refine eX9_count u σ w ⟨fun c => ?_, fun c => ?_, fun c => ?_, fun c => ?_, fun c => ?_, fun c => ?_, fun c => x_weightOfAll u σ hr ?_, fun c => ?_, fun c => ?_, fun c => ?_⟩
  all_goals first | (subst c; exact H) | skip
  have c0 : ¬ w = iI_ 0 := c 0 (by decide)
  have c1 : ¬ w = iI_ 1 := c 1 (by decide)
  have c2 : ¬ w = iI_ 2 := c 2 (by decide)
  have c3 : ¬ w = iI_ 3 := c 3 (by decide)
  have c4 : ¬ w = iI_ 4 := c 4 (by decide)
  have c5 : ¬ w = iI_ 5 := c 5 (by decide)
  have c6 : ¬ w = iI_ 6 := c 6 (by decide)
  have c7 : ¬ w = iI_ 7 := c 7 (by decide)
  have c8 : ¬ w = iI_ 8 := c 8 (by decide)
  rw [q_count, if_neg c0, if_neg c1, if_neg c2, if_neg c3, if_neg c4, if_neg c5, if_neg c6, if_neg c7, if_neg c8] at H
  exact H
