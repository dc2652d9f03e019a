/-! ===== the class: type, wipe, undo; fault, member, motion ===== -/
def Wtm_ (a : St_) : Prop := ∃ n0 : Nat, n0 ≤ 47 ∧ a 0 0 = iI_ n0 ∧ (∀ i, i < n0 → 0 ≤ (a 1 i).toInt ∧ (a 1 i).toInt < 256) ∧ a 4 0 = iI_ (mflt_ (a 1) n0) ∧ a 3 0 = iI_ (mcnt_ (a 1) n0) ∧ ∀ j, j < mcnt_ (a 1) n0 → a 5 j = so_ (a 1 (6 * j)) ∧ a 6 j = a 1 (6 * j + 1) - iI_ 48 ∧ a 7 j = od_ (a 1) j
def Wto_ (a : St_) : Prop := ∃ n1 : Nat, n1 ≤ 30 ∧ a 0 1 = iI_ n1 ∧ (∀ i, i < n1 → 0 ≤ (a 2 i).toInt ∧ (a 2 i).toInt < 256) ∧ a 10 0 = iI_ (oflt_ (a 2) n1) ∧ a 9 0 = iI_ (ocnt_ (a 2) n1) ∧ ∀ j, j < ocnt_ (a 2) n1 → a 11 j = a 2 (3 * j) - iI_ 97 ∧ a 12 j = a 2 (3 * j + 1) - iI_ 97 ∧ a 13 j = a 2 (3 * j + 2) - iI_ 48
theorem Wt_iff {a : St_} : Wt_ a ↔ Wtm_ a ∧ Wto_ a := by
  constructor
  · rintro ⟨n0, n1, h1, h2, h3, h4, h5, h6, h7, h8, h9, h10, h11, h12⟩
    exact ⟨⟨n0, h1, h3, h5, h7, h8, h9⟩, ⟨n1, h2, h4, h6, h10, h11, h12⟩⟩
  · rintro ⟨⟨n0, h1, h3, h5, h7, h8, h9⟩, ⟨n1, h2, h4, h6, h10, h11, h12⟩⟩
    exact ⟨n0, n1, h1, h2, h3, h4, h5, h6, h7, h8, h9, h10, h11, h12⟩
/-- b is a, with its texts taken again -/
def Tk_ (a b : St_) : Prop := (∀ k, k < 3 ∨ k = 8 ∨ 14 ≤ k → b k = a k) ∧ Wt_ b
theorem Tk_.rf {a : St_} (h : Wt_ a) : Tk_ a a := ⟨fun _ _ => rfl, h⟩
/-- a text of t, within its bounds -/
def To_ (a : St_) (t : Nat) : Prop := ∃ n : Nat, n ≤ tl_ t ∧ a 0 t = iI_ n ∧ ∀ i, i < n → 0 ≤ (a (1 + t) i).toInt ∧ (a (1 + t) i).toInt < 256
theorem x_takeAgain (u : Ux_) {P : St_ → Prop} {t : Nat} (ht : t < 2) (σ : St_) (h : To_ σ t) (ho : if t = 0 then Wto_ σ else Wtm_ σ) (H : ∀ σ', Tk_ σ σ' → P σ') : MMv_ (zx_ u) mX9_takeAgain [.ref (uq_ u 0), .int (iI_ t)] σ P := by
  obtain ⟨n, hn, e, hb⟩ := h
  refine eX9_takeAgain u σ _ ⟨fun c => ?_, fun c => ?_⟩
  · have : t = 1 := by
      rcases (show t = 0 ∨ t = 1 by omega) with q | q
      · exact absurd (by rw [q]; rfl) c
      · exact q
    subst this
    have hn : n ≤ 30 := hn
    refine s_otake u (t := 1) (by decide) σ e (by exact hn) hn (fun σ' hk h1 h2 h3 => H σ' ⟨fun k hk2 => hk k (by simp; omega), Wt_iff.mpr ⟨?_, ?_⟩⟩)
    · have ho : Wtm_ σ := ho
      unfold Wtm_ at *
      rw [hk 0 (by decide), hk 1 (by decide), hk 3 (by decide), hk 4 (by decide), hk 5 (by decide), hk 6 (by decide), hk 7 (by decide)]
      exact ho
    · refine ⟨n, hn, by rw [hk 0 (by decide)]; exact e, ?_⟩
      rw [hk 2 (by decide)]
      exact ⟨hb, h1, h2, h3⟩
  · have : t = 0 := by
      rcases (show t = 0 ∨ t = 1 by omega) with q | q
      · exact q
      · rw [q] at c; exact absurd c (by decide)
    subst this
    have hn : n ≤ 47 := hn
    refine s_mtake u (t := 0) (by decide) σ e (by exact hn) hn (fun σ' hk h1 h2 h3 => H σ' ⟨fun k hk2 => hk k (by simp; omega), Wt_iff.mpr ⟨?_, ?_⟩⟩)
    · refine ⟨n, hn, by rw [hk 0 (by decide)]; exact e, ?_⟩
      rw [hk 1 (by decide)]
      exact ⟨hb, h1, h2, h3⟩
    · have ho : Wto_ σ := ho
      unfold Wto_ at *
      rw [hk 0 (by decide), hk 2 (by decide), hk 9 (by decide), hk 10 (by decide), hk 11 (by decide), hk 12 (by decide), hk 13 (by decide)]
      exact ho
theorem Wt_.to {a : St_} (h : Wt_ a) {t : Nat} (ht : t < 2) : To_ a t := by
  obtain ⟨⟨n0, h1, h3, h5, -⟩, ⟨n1, h2, h4, h6, -⟩⟩ := Wt_iff.mp h
  rcases (show t = 0 ∨ t = 1 by omega) with rfl | rfl
  · exact ⟨n0, h1, h3, h5⟩
  · exact ⟨n1, h2, h4, h6⟩
/-- a change of text t alone leaves the other's part -/
theorem Wt_.other {a b : St_} (h : Wt_ a) {t : Nat} (ht : t < 2) (e0 : b 0 (1 - t) = a 0 (1 - t)) (e : ∀ k, k ≠ 0 → k ≠ 1 + t → b k = a k) : if t = 0 then Wto_ b else Wtm_ b := by
  obtain ⟨hm, ho⟩ := Wt_iff.mp h
  rcases (show t = 0 ∨ t = 1 by omega) with rfl | rfl
  · show Wto_ b
    unfold Wto_ at *
    have e0 : b 0 1 = a 0 1 := e0
    rw [e0, e 2 (by decide) (by decide), e 9 (by decide) (by decide), e 10 (by decide) (by decide), e 11 (by decide) (by decide), e 12 (by decide) (by decide), e 13 (by decide) (by decide)]
    exact ho
  · show Wtm_ b
    unfold Wtm_ at *
    have e0 : b 0 0 = a 0 0 := e0
    rw [e0, e 1 (by decide) (by decide), e 3 (by decide) (by decide), e 4 (by decide) (by decide), e 5 (by decide) (by decide), e 6 (by decide) (by decide), e 7 (by decide) (by decide)]
    exact hm
def tadd_ (a : St_) (t : Nat) (b : Int32) : St_ := su_ (su_ a 0 t (a 0 t + iI_ 1)) (1 + t) (a 0 t).toNatClampNeg b
theorem inr_nat {x : Int32} {k : Int} (h : inr_ x (iI_ k) = true) (hk : 0 ≤ k ∧ k < 2147483648) : ∃ t : Nat, (t : Int) < k ∧ x = iI_ t := by
  rw [inr_t, iI_toInt (by omega)] at h
  exact ⟨x.toInt.toNat, by omega, by rw [show ((x.toInt.toNat : Nat) : Int) = x.toInt by omega, iI_of]⟩
def c_type (a : St_) (t b : Int32) : Int32 × St_ := if inr_ t (iI_ 2) = true ∧ inr_ b (iI_ 256) = true then (if (a 0 t.toNatClampNeg).toInt < tl_ t.toNatClampNeg then (a 0 t.toNatClampNeg + iI_ 1, tadd_ a t.toNatClampNeg b) else (iI_ (-4), a)) else (iI_ (-2), a)
theorem x_type (u : Ux_) {P : Int32 → St_ → Prop} (σ : St_) (t b : Int32) (hw : Wt_ σ) (H : ∀ σ', Tk_ (c_type σ t b).2 σ' → P (c_type σ t b).1 σ') : MMi_ (zx_ u) mX9_type [.ref (uq_ u 0), .int t, .int b] σ P := by
  refine eX9_type u σ t b (s_within u σ _ _ (nxb (fun h => ?_) (fun h => s_within u σ _ _ (nxn (fun h2 => ?_) (fun h2 => ?_)))))
  · simp [c_type, h] at H; exact H σ (Tk_.rf hw)
  · simp [c_type, h2] at H; exact H σ (Tk_.rf hw)
  · simp only [c_type, h, h2, and_self, if_true] at H
    obtain ⟨k, hk, rfl⟩ := inr_nat h (by decide)
    have hb := inr_t.mp h2
    rw [show (iI_ 256).toInt = 256 by decide] at hb
    have hk2 : k < 2 := by omega
    rw [iI_ix (by omega)] at H ⊢
    obtain ⟨n, hn, e, hB⟩ := hw.to hk2
    have htl := tl_b k
    refine ⟨(iI_in (by omega)).mpr (by omega), eX8_add u k hk2 σ b (cs_ (fun c => ?_) (fun c => ?_))⟩
    · rw [iI_ltI, iI_toInt (by omega)] at c
      rw [if_pos c] at H
      have c' := c
      rw [e, iI_toInt (by omega)] at c
      rintro σ2 rfl
      refine ⟨by rw [e]; exact (iI_in (by omega)).mpr (by omega), ?_⟩
      rintro σ3 e3
      refine ⟨fun _ => ?_, fun q => absurd q (by decide)⟩
      have e3' : σ3 = tadd_ σ k b := e3
      have h0 : tadd_ σ k b 0 = su_ σ 0 k (σ 0 k + iI_ 1) 0 := by rw [tadd_, su_i _ _ _ (by omega)]
      have hn' : tadd_ σ k b 0 k = iI_ (n + 1 : Nat) := by rw [h0, su_same, e, iI_succ]
      rw [e3']
      refine x_takeAgain u hk2 (tadd_ σ k b) ⟨n + 1, by omega, hn', fun i hi => ?_⟩ (hw.other hk2 (by rw [h0, su_j _ _ _ (by omega)]) (fun j h1 h2 => by rw [tadd_, su_i _ _ _ h2, su_i _ _ _ h1])) (fun σ' hT => ⟨(iI_in (by omega)).mpr (by omega), ?_⟩)
      · rw [tadd_, e, iI_ix (by omega)]
        by_cases q : i = n
        · subst q; rw [su_same]; omega
        · rw [su_j _ _ _ q, su_i _ _ _ (by omega)]; exact hB i (by omega)
      · have := H σ' hT
        rw [hT.1 0 (by omega), hn']
        rw [e, iI_succ] at this
        exact this
    · rw [iI_ltI, iI_toInt (by omega)] at c
      rw [if_neg c] at H
      exact ⟨fun q => absurd rfl q, fun _ => H σ (Tk_.rf hw)⟩
def c_wipe (a : St_) (t : Int32) : Int32 × St_ := if inr_ t (iI_ 2) = true then (a 0 t.toNatClampNeg, su_ a 0 t.toNatClampNeg (iI_ 0)) else (iI_ (-2), a)
theorem x_wipe (u : Ux_) {P : Int32 → St_ → Prop} (σ : St_) (t : Int32) (hw : Wt_ σ) (H : ∀ σ', Tk_ (c_wipe σ t).2 σ' → P (c_wipe σ t).1 σ') : MMi_ (zx_ u) mX9_wipe [.ref (uq_ u 0), .int t] σ P := by
  refine eX9_wipe u σ t (s_within u σ _ _ (nxn (fun h => ?_) (fun h => ?_)))
  · simp [c_wipe, h] at H; exact H σ (Tk_.rf hw)
  · simp only [c_wipe, h, if_true] at H
    obtain ⟨k, hk, rfl⟩ := inr_nat h (by decide)
    have hk2 : k < 2 := by omega
    rw [iI_ix (by omega)] at H ⊢
    refine ⟨(iI_in (by omega)).mpr (by omega), (iI_in (by omega)).mpr (by omega), ?_⟩
    rintro σ6 rfl
    refine x_takeAgain u hk2 _ ⟨0, by omega, by rw [su_same]; rfl, fun i hi => by omega⟩ (hw.other hk2 (by rw [su_j _ _ _ (by omega)]) (fun j h1 h2 => by rw [su_i _ _ _ h1])) H
def c_undo (a : St_) (t : Int32) : Int32 × St_ := if inr_ t (iI_ 2) = true then (if a 0 t.toNatClampNeg = iI_ 0 then (iI_ (-3), a) else (a 0 t.toNatClampNeg - iI_ 1, su_ a 0 t.toNatClampNeg (a 0 t.toNatClampNeg - iI_ 1))) else (iI_ (-2), a)
theorem x_undo (u : Ux_) {P : Int32 → St_ → Prop} (σ : St_) (t : Int32) (hw : Wt_ σ) (H : ∀ σ', Tk_ (c_undo σ t).2 σ' → P (c_undo σ t).1 σ') : MMi_ (zx_ u) mX9_undo [.ref (uq_ u 0), .int t] σ P := by
  refine eX9_undo u σ t (s_within u σ _ _ (nxn (fun h => ?_) (fun h => ?_)))
  · simp [c_undo, h] at H; exact H σ (Tk_.rf hw)
  · simp only [c_undo, h, if_true] at H
    obtain ⟨k, hk, rfl⟩ := inr_nat h (by decide)
    have hk2 : k < 2 := by omega
    rw [iI_ix (by omega)] at H ⊢
    have hin : vp_in (iI_ k) 2 := (iI_in (by omega)).mpr (by omega)
    obtain ⟨n, hn, e, hB⟩ := hw.to hk2
    have htl := tl_b k
    refine ⟨hin, fun c => ⟨hin, ?_⟩, fun c => ?_⟩
    · rw [if_neg c] at H
      rw [e, iI_eq (by omega) (by omega)] at c
      have en : iI_ n - iI_ 1 = iI_ (n - 1 : Nat) := by rw [iI_sub]; congr 1; omega
      rintro σ7 rfl
      refine x_takeAgain u hk2 _ ⟨n - 1, by omega, by rw [su_same, e, en], fun i hi => ?_⟩ (hw.other hk2 (by rw [su_j _ _ _ (by omega)]) (fun j h1 h2 => by rw [su_i _ _ _ h1])) (fun σ' hT => ⟨hin, ?_⟩)
      · rw [su_i _ _ _ (by omega)]; exact hB i (by omega)
      · have := H σ' hT
        rw [hT.1 0 (by omega), su_same]
        exact this
    · rw [if_pos c] at H; exact H σ (Tk_.rf hw)
def q_fault (a : St_) (t : Int32) : Int32 := if inr_ t (iI_ 2) = true then (if t = iI_ 0 then a 4 0 else a 10 0) else iI_ (-2)
theorem x_fault (u : Ux_) {P : Int32 → St_ → Prop} (σ : St_) (t : Int32) (H : P (q_fault σ t) σ) : MMi_ (zx_ u) mX9_fault [.ref (uq_ u 0), .int t] σ P := by
  refine eX9_fault u σ t (s_within u σ _ _ (nxn (fun h => ?_) (fun h => ⟨fun c => ?_, fun c => ?_⟩)))
  · simp [q_fault, h] at H; exact H
  · simp [q_fault, h, c] at H; exact H
  · simp [q_fault, h, c] at H; rw [c] at h; simp [h] at H; exact H
def q_member (a : St_) (m w : Int32) : Int32 := if inr_ m (a 3 0) = true ∧ inr_ w (iI_ 5) = true then (if w = iI_ 0 then a 5 m.toNatClampNeg else if w = iI_ 1 then a 6 m.toNatClampNeg else wan_ (a 7 m.toNatClampNeg) (w - iI_ 2)) else iI_ (-2)
theorem x_member (u : Ux_) {P : Int32 → St_ → Prop} (σ : St_) {n : Nat} (hr : Wr_ σ n) (m w : Int32) (H : P (q_member σ m w) σ) : MMi_ (zx_ u) mX9_member [.ref (uq_ u 0), .int m, .int w] σ P := by
  have h8 := hr.1
  refine eX9_member u σ m w (s_isMember u σ _ (nxb (fun h => ?_) (fun h => s_within u σ _ _ (nxn (fun h2 => ?_) (fun h2 => ?_)))))
  · simp [q_member, h] at H; exact H
  · simp [q_member, h2] at H; exact H
  · have hh := inr_t.mp h
    rw [hr.2.1, iI_toInt (by omega)] at hh
    have hv : vp_in m 8 := vp_in_iff.mpr (by omega)
    simp only [q_member, h, h2, and_self, if_true] at H
    refine ⟨fun c => ⟨fun c2 => ⟨hv, s_wanted u σ _ _ ?_⟩, fun c2 => ⟨hv, ?_⟩⟩, fun c => ⟨hv, ?_⟩⟩
    · rw [if_neg c, if_neg c2] at H; exact H
    · rw [if_neg c, if_pos c2] at H; exact H
    · rw [if_pos c] at H; exact H
def q_motion (a : St_) (n w : Int32) : Int32 := if inr_ n (iI_ 10) = true ∧ inr_ w (iI_ 3) = true then (if n < a 9 0 then (if w = iI_ 0 then a 11 n.toNatClampNeg else if w = iI_ 1 then a 12 n.toNatClampNeg else a 13 n.toNatClampNeg) else iI_ (-1)) else iI_ (-2)
theorem x_motion (u : Ux_) {P : Int32 → St_ → Prop} (σ : St_) (n w : Int32) (H : P (q_motion σ n w) σ) : MMi_ (zx_ u) mX9_motion [.ref (uq_ u 0), .int n, .int w] σ P := by
  refine eX9_motion u σ n w (s_isNight u σ _ (nxb (fun h => ?_) (fun h => s_within u σ _ _ (nxn (fun h2 => ?_) (fun h2 => ?_)))))
  · simp [q_motion, h] at H; exact H
  · simp [q_motion, h2] at H; exact H
  · have hh := inr_t.mp h
    rw [t_10] at hh
    have hv : vp_in n 10 := vp_in_iff.mpr (by omega)
    simp only [q_motion, h, h2, and_self, if_true] at H
    refine cs_ (fun c0 => ⟨fun c => ⟨fun c2 => ⟨hv, ?_⟩, fun c2 => ⟨hv, ?_⟩⟩, fun c => ⟨hv, ?_⟩⟩) (fun c0 => ?_)
    · rw [if_pos c0, if_neg c, if_neg c2] at H; exact H
    · rw [if_pos c0, if_neg c, if_pos c2] at H; exact H
    · rw [if_pos c0, if_pos c] at H; exact H
    · rw [if_neg c0] at H; exact H
