/-! ===== the reference: how its state stands to the class's ===== -/
def Rm_ (a σ : St_) : Prop := (∀ t, t < 2 → σ 0 t = a 0 t) ∧ (∀ t, t < 2 → ∀ i : Nat, (i : Int) < (a 0 t).toInt → σ 1 (47 * t + i) = a (1 + t) i) ∧ (∀ s, s < 3 → σ 10 s = a 8 s) ∧ σ 11 0 = a 14 0 ∧ (∀ i, i < 8 → σ 12 i = a 15 i ∧ σ 13 i = a 16 i ∧ σ 14 i = a 17 i) ∧ σ 15 0 = a 18 0 ∧ (∀ i, i < 6 → σ 16 i = a 19 i) ∧ σ 33 0 = a 20 0 ∧ (∀ i, i < 8 → σ 34 i = a 21 i ∧ σ 35 i = (if a 22 i = iI_ (-1) then iI_ 3 else a 22 i)) ∧ (∀ s, s < 4 → σ 38 s = bi_ (!decide (a 39 s = iI_ (-1)))) ∧ (∀ s, s < 4 → ¬ a 39 s = iI_ (-1) → σ 39 s = a 39 s ∧ σ 40 s = a 40 s ∧ ∀ i, i < 60 → σ 41 (60 * s + i) = a (41 + s) i) ∧ σ 43 0 = a 38 0
/-- the reference's scratch: components 2 to 9, 17 to 32, 36, 37, 42 -/
def Mk_ (σ σ' : St_) : Prop := ∀ k, k < 2 ∨ (10 ≤ k ∧ k < 17) ∨ (33 ≤ k ∧ k < 36) ∨ (38 ≤ k ∧ k < 42) ∨ k = 43 → σ' k = σ k
theorem Mk_.rf {σ : St_} : Mk_ σ σ := fun _ _ => rfl
theorem Mk_.tr {a b c : St_} (h : Mk_ a b) (h2 : Mk_ b c) : Mk_ a c := fun k hk => (h2 k hk).trans (h k hk)
theorem Mk_.ke {S : List Nat} {a b : St_} (h : Ke_ S a b) (hS : ∀ k ∈ S, (2 ≤ k ∧ k < 10) ∨ (17 ≤ k ∧ k < 33) ∨ k = 36 ∨ k = 37 ∨ k = 42) : Mk_ a b := fun k hk => h k (fun q => by have := hS k q; omega)
theorem Mk_.su {a b : St_} {i j : Nat} {v : Int32} (h : Mk_ a b) (hi : (2 ≤ i ∧ i < 10) ∨ (17 ≤ i ∧ i < 33) ∨ i = 36 ∨ i = 37 ∨ i = 42) : Mk_ a (su_ b i j v) := fun k hk => by
  rw [su_i _ _ _ (by omega)]
  exact h k hk
theorem Rm_.mk {a σ σ' : St_} (h : Rm_ a σ) (e : Mk_ σ σ') : Rm_ a σ' := by
  unfold Rm_ at *
  rw [e 0 (by omega), e 1 (by omega), e 10 (by omega), e 11 (by omega), e 12 (by omega), e 13 (by omega), e 14 (by omega), e 15 (by omega), e 16 (by omega), e 33 (by omega), e 34 (by omega), e 35 (by omega), e 38 (by omega), e 39 (by omega), e 40 (by omega), e 41 (by omega), e 43 (by omega)]
  exact h
/-! helpers -/
def ini_ (v l h : Int32) : Bool := decide (l.toInt ≤ v.toInt ∧ v.toInt ≤ h.toInt)
theorem ini_t {v l h : Int32} : ini_ v l h = true ↔ l.toInt ≤ v.toInt ∧ v.toInt ≤ h.toInt := by simp [ini_]
theorem ini_f {v l h : Int32} : ini_ v l h = false ↔ ¬ (l.toInt ≤ v.toInt ∧ v.toInt ≤ h.toInt) := by simp only [ini_, decide_eq_false_iff_not]
theorem m_in (u : Ux_) {P : Int32 → St_ → Prop} (σ : St_) (v l h : Int32) (H : P (bi_ (ini_ v l h)) σ) : MMi_ (zm_ u) mX10_in [.int v, .int l, .int h] σ P := by
  refine eX10_in u σ v l h (cs_ (fun c => ?_) (fun c => cs_ (fun c2 => ?_) (fun c2 => ?_))) <;> rw [iI_ltI] at c
  · rw [ini_f.mpr (by omega)] at H; exact H
  · rw [iI_ltI] at c2
    rw [ini_f.mpr (by omega)] at H; exact H
  · rw [iI_ltI] at c2
    rw [ini_t.mpr (by omega)] at H; exact H
theorem ini_inr (v : Int32) (k : Int) (hk : 0 ≤ k ∧ k < 2147483647) : ini_ v (iI_ 0) (iI_ k) = inr_ v (iI_ (k + 1)) := by
  unfold ini_ inr_
  rw [t_0, iI_toInt (by omega), iI_toInt (by omega)]
  congr 1
  simp only [eq_iff_iff]
  omega
theorem m_isIn (u : Ux_) {P : Int32 → St_ → Prop} (σ : St_) (x : Int32) {k : Nat} (hk : k < 31) (H : P (bi_ (bt x k)) σ) : MMi_ (zm_ u) mX10_isIn [.int x, .int (iI_ k)] σ P := by
  refine eX10_isIn u σ x _ ?_
  rw [bt_is x hk]
  refine ⟨fun c => ?_, fun c => ?_⟩
  · have : bt x k = false := by simpa using c
    rw [this] at H; exact H
  · rw [c] at H; exact H
theorem m_no (u : Ux_) {P : Int64 → St_ → Prop} (σ : St_) (H : P no_ σ) : MMl_ (zm_ u) mX10_no [.int (iI_ (-2))] σ P := eX10_no u σ _ H
theorem m_isText (u : Ux_) {P : Int32 → St_ → Prop} (σ : St_) (v : Int32) (H : P (bi_ (inr_ v (iI_ 2))) σ) : MMi_ (zm_ u) mX10_isText [.int v] σ P :=
  eX10_isText u σ v (m_in u σ _ _ _ ⟨bi_01 _, by rw [ini_inr v 1 (by decide)]; exact H⟩)
theorem m_isNight (u : Ux_) {P : Int32 → St_ → Prop} (σ : St_) (v : Int32) (H : P (bi_ (inr_ v (iI_ 10))) σ) : MMi_ (zm_ u) mX10_isNight [.int v] σ P :=
  eX10_isNight u σ v (m_in u σ _ _ _ ⟨bi_01 _, by rw [ini_inr v 9 (by decide)]; exact H⟩)
/-! texts -/
def mb_ (a : St_) (t N k : Nat) : Int32 := if k < N then a (1 + t) k else iI_ (-1)
theorem m_byteAt (u : Ux_) {P : Int32 → St_ → Prop} (a σ : St_) (hR : Rm_ a σ) {t N k : Nat} (ht : t < 2) (hN : N ≤ 47) (eN : a 0 t = iI_ N) (hk : k < 1000) {x y : Int32} (ex : x = iI_ t) (ey : y = iI_ k) (H : P (mb_ a t N k) σ) : MMi_ (zm_ u) mX10_byteAt [.ref (uq_ u 0), .int x, .int y] σ P := by
  subst ex; subst ey
  refine eX10_byteAt u σ _ _ ⟨(iI_in (by omega)).mpr (by omega), ?_⟩
  rw [iI_ix (by omega), hR.1 t ht, eN, iI_mul, iI_add, show ((47 : Int) * (t : Nat) + (k : Nat)) = ((47 * t + k : Nat) : Int) by omega, iI_ix (by omega), iI_le (by omega) (by omega)]
  refine cs_ (fun c => ?_) (fun c => ⟨(iI_in (by omega)).mpr (by omega), ?_⟩)
  · rw [mb_, if_neg (by omega)] at H; exact H
  · rw [mb_, if_pos (by omega)] at H
    rw [hR.2.1 t ht k (by rw [eN, iI_toInt (by omega)]; omega)]
    exact H
/-- a letter as a number, or -1 -/
def ml_ (b : Int32) : Int32 := if let_ b = true then b - iI_ 97 else iI_ (-1)
theorem ml_ini (b : Int32) (hb : -1 ≤ b.toInt ∧ b.toInt < 256) : ini_ (b - iI_ 97) (iI_ 0) (iI_ 2) = let_ b := by
  unfold ini_ let_
  rw [sub_iI, t_0, t_2, iI_toInt (by omega)]
  congr 1
  simp only [eq_iff_iff]
  omega
theorem mb_bd {a : St_} {t N k : Nat} (hB : ∀ i, i < N → 0 ≤ (a (1 + t) i).toInt ∧ (a (1 + t) i).toInt < 256) : -1 ≤ (mb_ a t N k).toInt ∧ (mb_ a t N k).toInt < 256 := by
  unfold mb_
  split
  · have := hB k (by assumption); omega
  · decide
theorem m_letterAt (u : Ux_) {P : Int32 → St_ → Prop} (a σ : St_) (hR : Rm_ a σ) {t N k : Nat} (ht : t < 2) (hN : N ≤ 47) (eN : a 0 t = iI_ N) (hB : ∀ i, i < N → 0 ≤ (a (1 + t) i).toInt ∧ (a (1 + t) i).toInt < 256) (hk : k < 1000) {x y : Int32} (ex : x = iI_ t) (ey : y = iI_ k) (H : P (ml_ (mb_ a t N k)) σ) : MMi_ (zm_ u) mX10_letterAt [.ref (uq_ u 0), .int x, .int y] σ P := by
  refine eX10_letterAt u σ x y (m_byteAt u a σ hR ht hN eN hk ex ey (m_in u σ _ _ _ ?_))
  rw [ml_ini _ (mb_bd hB)]
  refine nxb (fun h => ?_) (fun h => ?_)
  · rw [ml_, if_neg (by simp [h])] at H; exact H
  · rw [ml_, if_pos h] at H; exact H
/-! which fault -/
theorem fb_at {fit : Nat → Bool} {N k : Nat} (hk : k < N) (h1 : ∀ i, i < k → fit i = true) (h2 : fit k = false) : fb_ fit N 0 = k := by
  have hl := fb_le fit N 0
  rcases Nat.lt_trichotomy (fb_ fit N 0) k with q | q | q
  · have := fb_bad fit N 0 (by omega)
    rw [h1 _ q] at this; cases this
  · exact q
  · have := fb_fit fit N 0 k (by omega) q
    rw [h2] at this; cases this
theorem fb_all {fit : Nat → Bool} {N : Nat} (h1 : ∀ i, i < N → fit i = true) : fb_ fit N 0 = N := by
  have hl := fb_le fit N 0
  rcases Nat.lt_or_ge (fb_ fit N 0) N with q | q
  · have := fb_bad fit N 0 (by omega)
    rw [h1 _ q] at this; cases this
  · omega
theorem mflt_at {f : Nat → Int32} {N k : Nat} (hk : k < N) (h1 : ∀ i, i < k → mfit_ f i = true) (h2 : mfit_ f k = false) : mflt_ f N = k := by rw [mflt_, fb_at hk h1 h2, if_pos hk]
theorem mflt_end {f : Nat → Int32} {N : Nat} (h1 : ∀ i, i < N → mfit_ f i = true) (h : ¬ (N = 0 ∨ N % 6 = 5)) : mflt_ f N = N := by rw [mflt_, fb_all h1, if_neg (by omega), if_neg h]
theorem mflt_ok {f : Nat → Int32} {N : Nat} (h1 : ∀ i, i < N → mfit_ f i = true) (h : N = 0 ∨ N % 6 = 5) : mflt_ f N = -1 := by rw [mflt_, fb_all h1, if_neg (by omega), if_pos h]
theorem oflt_at {f : Nat → Int32} {N k : Nat} (hk : k < N) (h1 : ∀ i, i < k → ofit_ f i = true) (h2 : ofit_ f k = false) : oflt_ f N = k := by rw [oflt_, fb_at hk h1 h2, if_pos hk]
theorem oflt_end {f : Nat → Int32} {N : Nat} (h1 : ∀ i, i < N → ofit_ f i = true) (h : ¬ N % 3 = 0) : oflt_ f N = N := by rw [oflt_, fb_all h1, if_neg (by omega), if_neg h]
theorem oflt_ok {f : Nat → Int32} {N : Nat} (h1 : ∀ i, i < N → ofit_ f i = true) (h : N % 3 = 0) : oflt_ f N = -1 := by rw [oflt_, fb_all h1, if_neg (by omega), if_pos h]
/-! one member -/
/-- the bytes of a member from at on that fit, five at most -/
def okm_ (f : Nat → Int32) (N i : Nat) : Bool := decide (i < N) && mfit_ f i
theorem so_115 {b : Int32} : so_ b = iI_ (-1) ↔ ¬ b = iI_ 115 ∧ ¬ b = iI_ 98 ∧ ¬ b = iI_ 100 := by
  unfold so_
  constructor
  · intro h
    refine ⟨fun e => ?_, fun e => ?_, fun e => ?_⟩ <;> subst e <;> exact absurd h (by decide)
  · rintro ⟨h1, h2, h3⟩
    rw [if_neg h2, if_neg h3, if_neg h1]
theorem fit0 {f : Nat → Int32} {i : Nat} (h : i % 6 = 0) (h2 : i < 48) : mfit_ f i = true ↔ ¬ so_ (f i) = iI_ (-1) := by
  unfold mfit_; rw [if_pos h]; simp [h2]
theorem fit1 {f : Nat → Int32} {i : Nat} (h : i % 6 = 1) : mfit_ f i = true ↔ 48 ≤ (f i).toInt ∧ (f i).toInt < 54 := by
  unfold mfit_; rw [if_neg (by omega), if_pos h]; simp
theorem fit2 {f : Nat → Int32} {i : Nat} (h : i % 6 = 2) : mfit_ f i = true ↔ let_ (f i) = true := by
  unfold mfit_; rw [if_neg (by omega), if_neg (by omega), if_pos h]
theorem fit3 {f : Nat → Int32} {i : Nat} (h : i % 6 = 3) : mfit_ f i = true ↔ let_ (f i) = true ∧ ¬ f i = f (i - 1) := by
  unfold mfit_; rw [if_neg (by omega), if_neg (by omega), if_neg (by omega), if_pos h]; simp
theorem fit4 {f : Nat → Int32} {i : Nat} (h : i % 6 = 4) : mfit_ f i = true ↔ let_ (f i) = true ∧ ¬ f i = f (i - 1) ∧ ¬ f i = f (i - 2) := by
  unfold mfit_; rw [if_neg (by omega), if_neg (by omega), if_neg (by omega), if_neg (by omega), if_pos h]; simp
theorem fit5 {f : Nat → Int32} {i : Nat} (h : i % 6 = 5) : mfit_ f i = true ↔ f i = iI_ 59 := by
  unfold mfit_; rw [if_neg (by omega), if_neg (by omega), if_neg (by omega), if_neg (by omega), if_neg (by omega)]; simp
theorem od_W : ∀ l0 l1 l2 : Fin 3, l0 ≠ l1 → l0 ≠ l2 → l1 ≠ l2 → tW_ (3 * (2 * l0.val + (if l1.val ≤ l2.val then 0 else 1))) = iI_ l0.val ∧ tW_ (3 * (2 * l0.val + (if l1.val ≤ l2.val then 0 else 1)) + 1) = iI_ l1.val ∧ tW_ (3 * (2 * l0.val + (if l1.val ≤ l2.val then 0 else 1)) + 2) = iI_ l2.val := by decide +kernel
/-- what a letter's number is -/
theorem ml_nat {b : Int32} (h : let_ b = true) : ∃ l : Nat, l < 3 ∧ ml_ b = iI_ l ∧ b.toInt = 97 + l := by
  have q := let_t.mp h
  refine ⟨(b.toInt - 97).toNat, by omega, ?_, by omega⟩
  rw [ml_, if_pos h, sub_iI]; congr 1; omega
theorem ml_m1 {b : Int32} : ml_ b = iI_ (-1) ↔ let_ b = false := by
  unfold ml_
  cases h : let_ b
  · simp
  · have q := let_t.mp h
    simp only [if_true]
    constructor
    · intro e
      rw [sub_iI, iI_eq (by omega) (by omega)] at e; omega
    · intro e; cases e
theorem let_m1 : let_ (iI_ (-1)) = false := by decide
