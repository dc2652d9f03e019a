/-! ===== the class: texts, and what they tell ===== -/
theorem iI_rem6 {k : Nat} (hk : k < 2147483648) : iI_ k - iI_ k / iI_ 6 * iI_ 6 = iI_ (k % 6 : Nat) := pk_rem (a := k) (d := 6) (by omega) (by omega) (by omega)
theorem iI_rem3 {k : Nat} (hk : k < 2147483648) : iI_ k - iI_ k / iI_ 3 * iI_ 3 = iI_ (k % 3 : Nat) := pk_rem (a := k) (d := 3) (by omega) (by omega) (by omega)
/-- the byte at a place of a text, or -1 -/
def tx_ (σ : St_) (t : Nat) (i : Int32) : Int32 := if 0 ≤ i.toInt ∧ i.toInt < (σ 0 t).toInt then σ (1 + t) i.toInt.toNat else iI_ (-1)
def let_ (b : Int32) : Bool := decide (97 ≤ b.toInt ∧ b.toInt ≤ 99)
theorem s_at (u : Ux_) {P : Int32 → St_ → Prop} {t : Nat} (h : t < 2) (σ : St_) (x : Int32) (hn : (σ 0 t).toInt ≤ tl_ t) (H : P (tx_ σ t x) σ) : MMi_ (zx_ u) mX8_at [.ref (uq_ u (32 + t)), .int x] σ P := by
  refine eX8_at u t h σ x (cs_ (fun c => ?_) (fun c => cs_ (fun c2 => ?_) (fun c2 => ?_))) <;> simp only [iI_ltI, iI_leI, t_0] at *
  · rw [tx_, if_neg (by omega)] at H; exact H
  · rw [tx_, if_neg (by omega)] at H; exact H
  · rw [tx_, if_pos (by omega)] at H
    exact ⟨vp_in_iff.mpr (by omega), H⟩
theorem s_at2 (u : Ux_) {P : Int32 → St_ → Prop} {t : Nat} (h : t < 2) (σ : St_) {x : Int32} {i n : Nat} (hx : x = iI_ i) (hn : σ 0 t = iI_ n) (hi : i < n) (hl : n ≤ tl_ t) (hl2 : tl_ t < 2147483648) (H : P (σ (1 + t) i) σ) : MMi_ (zx_ u) mX8_at [.ref (uq_ u (32 + t)), .int x] σ P := by
  refine s_at u h σ x (by rw [hn, iI_toInt (by omega)]; omega) ?_
  rw [tx_, hn, hx, iI_toInt (by omega), iI_toInt (by omega), if_pos (by omega)]
  simpa using H
theorem tl_b (t : Nat) : tl_ t < 2147483648 := by unfold tl_; split <;> omega
theorem s_isLetter (u : Ux_) {P : Int32 → St_ → Prop} {t : Nat} (h : t < 2) (σ : St_) (x : Int32) (hn : (σ 0 t).toInt ≤ tl_ t) (H : P (bi_ (let_ (tx_ σ t x))) σ) : MMi_ (zx_ u) mX8_isLetter [.ref (uq_ u (32 + t)), .int x] σ P := by
  refine eX8_isLetter u t h σ x (s_at u h σ x hn (cs_ (fun c => ?_) (fun c => s_at u h σ x hn (cs_ (fun c2 => ?_) (fun c2 => ?_))))) <;> simp only [iI_ltI] at * <;> rw [show (iI_ 97).toInt = 97 by decide] at c
  · rw [let_, decide_eq_false (by omega)] at H; exact H
  · rw [show (iI_ 99).toInt = 99 by decide] at c2
    rw [let_, decide_eq_false (by omega)] at H; exact H
  · rw [show (iI_ 99).toInt = 99 by decide] at c2
    rw [let_, decide_eq_true (by omega)] at H; exact H
def so_ (b : Int32) : Int32 := if b = iI_ 98 then iI_ 1 else if b = iI_ 100 then iI_ 2 else if b = iI_ 115 then iI_ 0 else iI_ (-1)
theorem s_sortOf (u : Ux_) {P : Int32 → St_ → Prop} (σ : St_) (x : Int32) (H : P (so_ x) σ) : MMi_ (zx_ u) mX4_sortOf [.int x] σ P := by
  refine eX4_sortOf u σ x ⟨fun c => ?_, fun c => ?_, fun c => ?_, fun c1 c2 c3 => ?_⟩
  · subst c; exact H
  · subst c; exact H
  · subst c; exact H
  · rw [so_, if_neg c1, if_neg c2, if_neg c3] at H; exact H
/-- a byte of the members' text fits where it stands -/
def mfit_ (f : Nat → Int32) (i : Nat) : Bool :=
  if i % 6 = 0 then decide (i < 48) && !decide (so_ (f i) = iI_ (-1)) else if i % 6 = 1 then decide (48 ≤ (f i).toInt ∧ (f i).toInt < 54) else if i % 6 = 2 then let_ (f i) else if i % 6 = 3 then let_ (f i) && !decide (f i = f (i - 1))
  else if i % 6 = 4 then let_ (f i) && (!decide (f i = f (i - 1)) && !decide (f i = f (i - 2))) else decide (f i = iI_ 59)
def ofit_ (f : Nat → Int32) (i : Nat) : Bool :=
  if i % 3 = 0 then let_ (f i) else if i % 3 = 1 then let_ (f i) && !decide (f i = f (i - 1)) else decide (f i = iI_ 49) || decide (f i = iI_ 50)
theorem tx_at {σ : St_} {t i n : Nat} (hn : σ 0 t = iI_ n) (hi : i < n) (hl : n ≤ tl_ t) : tx_ σ t (iI_ i) = σ (1 + t) i := by
  have := tl_b t
  rw [tx_, hn, iI_toInt (by omega), iI_toInt (by omega), if_pos (by omega)]
  simp
theorem s_mfits (u : Ux_) {P : Int32 → St_ → Prop} {t : Nat} (h : t < 2) (σ : St_) {n i : Nat} (hn : σ 0 t = iI_ n) (hi : i < n) (hl : n ≤ tl_ t) (H : P (bi_ (mfit_ (σ (1 + t)) i)) σ) : MMi_ (zx_ u) mX4_fits [.ref (uq_ u (32 + t)), .int (iI_ i)] σ P := by
  have hb := tl_b t
  have hn' : (σ 0 t).toInt ≤ tl_ t := by rw [hn, iI_toInt (by omega)]; omega
  have hm : i % 6 < 6 := Nat.mod_lt _ (by decide)
  refine eX4_fits u t h σ (iI_ i) (s_at u h σ _ hn' ?_)
  rw [tx_at hn hi hl]
  rw [iI_rem6 (by omega)]
  refine ⟨fun c => ?_, fun c => ?_, fun c => ?_, fun c => ?_, fun c => ?_, fun c => ?_⟩
  · rw [iI_eq (by omega) (by omega)] at c
    have c : i % 6 = 0 := by omega
    simp only [mfit_, c, if_true] at H
    refine cs_ (fun c2 => ?_) (fun c2 => s_sortOf u σ _ (cs_ (fun c3 => ?_) (fun c3 => ?_))) <;> rw [iI_le (by omega) (by omega)] at c2
    · rw [decide_eq_false (by omega)] at H; exact H
    · simp [c3] at H; exact H
    · rw [decide_eq_true (by omega), decide_eq_false c3] at H; exact H
  · rw [iI_eq (by omega) (by omega)] at c
    have c : i % 6 = 1 := by omega
    simp [mfit_, c] at H
    refine cs_ (fun c2 => ?_) (fun c2 => cs_ (fun c3 => ?_) (fun c3 => ?_)) <;> simp only [iI_ltI, iI_leI] at * <;> rw [show (iI_ 48).toInt = 48 by decide] at c2
    · rw [decide_eq_false (by omega)] at H; exact H
    · rw [show (iI_ 54).toInt = 54 by decide] at c3
      rw [decide_eq_false (p := (σ (1 + t) i).toInt < 54) (by omega)] at H
      simp at H; exact H
    · rw [show (iI_ 54).toInt = 54 by decide] at c3
      rw [decide_eq_true (by omega), decide_eq_true (by omega)] at H; exact H
  · rw [iI_eq (by omega) (by omega)] at c
    have c : i % 6 = 2 := by omega
    simp [mfit_, c] at H
    exact s_isLetter u h σ _ hn' ⟨bi_01 _, by rw [tx_at hn hi hl]; exact H⟩
  · rw [iI_eq (by omega) (by omega)] at c
    have c : i % 6 = 3 := by omega
    simp only [mfit_, c] at H
    refine s_isLetter u h σ _ hn' (nxb (fun c2 => ?_) (fun c2 => s_at2 u h σ (i := i - 1) (by rw [iI_sub]; congr 1; omega) hn (by omega) hl hb ?_)) <;> rw [tx_at hn hi hl] at c2 <;> simp [c2] at H
    · exact H
    · refine cs_ (fun c3 => ?_) (fun c3 => ?_) <;> simp [c3] at H <;> exact H
  · rw [iI_eq (by omega) (by omega)] at c
    have c : i % 6 = 4 := by omega
    simp only [mfit_, c] at H
    refine s_isLetter u h σ _ hn' (nxb (fun c2 => ?_) (fun c2 => s_at2 u h σ (i := i - 1) (by rw [iI_sub]; congr 1; omega) hn (by omega) hl hb ?_)) <;> rw [tx_at hn hi hl] at c2 <;> simp [c2] at H
    · exact H
    · refine cs_ (fun c3 => ?_) (fun c3 => s_at2 u h σ (i := i - 2) (by rw [iI_sub]; congr 1; omega) hn (by omega) hl hb ?_)
      · simp [c3] at H; exact H
      · refine cs_ (fun c4 => ?_) (fun c4 => ?_) <;> simp [c3, c4] at H <;> exact H
  · have c5 : i % 6 = 5 := by
      have q : ∀ j : Nat, j < 5 → ¬ i % 6 = j := fun j hj e => c j hj (by rw [e])
      have := q 0; have := q 1; have := q 2; have := q 3; have := q 4
      omega
    simp only [mfit_, c5] at H
    refine ⟨fun c2 => ?_, fun c2 => ?_⟩ <;> simp [c2] at H <;> exact H
theorem s_ofits (u : Ux_) {P : Int32 → St_ → Prop} {t : Nat} (h : t < 2) (σ : St_) {n i : Nat} (hn : σ 0 t = iI_ n) (hi : i < n) (hl : n ≤ tl_ t) (H : P (bi_ (ofit_ (σ (1 + t)) i)) σ) : MMi_ (zx_ u) mX3_fits [.ref (uq_ u (32 + t)), .int (iI_ i)] σ P := by
  have hb := tl_b t
  have hn' : (σ 0 t).toInt ≤ tl_ t := by rw [hn, iI_toInt (by omega)]; omega
  have hm : i % 3 < 3 := Nat.mod_lt _ (by decide)
  refine eX3_fits u t h σ (iI_ i) (s_at u h σ _ hn' ?_)
  rw [tx_at hn hi hl]
  rw [iI_rem3 (by omega)]
  refine ⟨fun c => ?_, fun c => ?_, fun c c' => ?_⟩
  · rw [iI_eq (by omega) (by omega)] at c
    have c : i % 3 = 0 := by omega
    simp [ofit_, c] at H
    exact s_isLetter u h σ _ hn' ⟨bi_01 _, by rw [tx_at hn hi hl]; exact H⟩
  · rw [iI_eq (by omega) (by omega)] at c
    have c : i % 3 = 1 := by omega
    simp only [ofit_, c] at H
    refine s_isLetter u h σ _ hn' (nxb (fun c2 => ?_) (fun c2 => s_at2 u h σ (i := i - 1) (by rw [iI_sub]; congr 1; omega) hn (by omega) hl hb ?_)) <;> rw [tx_at hn hi hl] at c2 <;> simp [c2] at H
    · exact H
    · refine cs_ (fun c3 => ?_) (fun c3 => ?_) <;> simp [c3] at H <;> exact H
  · rw [iI_eq (by omega) (by omega)] at c c'
    have c5 : i % 3 = 2 := by omega
    simp only [ofit_, c5] at H
    refine cs_ (fun c2 => ?_) (fun c2 => ⟨fun c3 => ?_, fun c3 => ?_⟩)
    · simp [c2] at H; exact H
    · simp [c2, c3] at H; exact H
    · simp [c3] at H; exact H
/-- the first of d places from i on that doesn't fit, or i + d -/
def fb_ (fit : Nat → Bool) : Nat → Nat → Nat
  | 0, i => i
  | d + 1, i => if fit i = true then fb_ fit d (i + 1) else i
def mflt_ (f : Nat → Int32) (n : Nat) : Int := if fb_ (mfit_ f) n 0 < n then fb_ (mfit_ f) n 0 else if n = 0 ∨ n % 6 = 5 then -1 else n
def oflt_ (f : Nat → Int32) (n : Nat) : Int := if fb_ (ofit_ f) n 0 < n then fb_ (ofit_ f) n 0 else if n % 3 = 0 then -1 else n
theorem fb_le (fit : Nat → Bool) : ∀ d i, i ≤ fb_ fit d i ∧ fb_ fit d i ≤ i + d := by
  intro d
  induction d with
  | zero => intro i; simp [fb_]
  | succ d ih =>
    intro i
    unfold fb_
    split
    · have := ih (i + 1); omega
    · omega
theorem fb_fit (fit : Nat → Bool) : ∀ d i j, i ≤ j → j < fb_ fit d i → fit j = true := by
  intro d
  induction d with
  | zero => intro i j h1 h2; simp [fb_] at h2; omega
  | succ d ih =>
    intro i j h1 h2
    unfold fb_ at h2
    split at h2
    · rename_i c
      by_cases e : j = i
      · rw [e]; exact c
      · exact ih (i + 1) j (by omega) h2
    · omega
theorem fb_bad (fit : Nat → Bool) : ∀ d i, fb_ fit d i < i + d → fit (fb_ fit d i) = false := by
  intro d
  induction d with
  | zero => intro i h; simp [fb_] at h
  | succ d ih =>
    intro i h
    unfold fb_ at h ⊢
    split
    · rename_i c
      rw [if_pos c] at h
      exact ih (i + 1) (by omega)
    · rename_i c; simpa using c
theorem s_mfault (u : Ux_) {P : Int32 → St_ → Prop} {t : Nat} (h : t < 2) (σ : St_) {n : Nat} (hn : σ 0 t = iI_ n) (hl : n ≤ tl_ t) (H : P (iI_ (mflt_ (σ (1 + t)) n)) σ) : MMi_ (zx_ u) mX4_findFault [.ref (uq_ u (32 + t))] σ P := by
  have hb := tl_b t
  refine eX4_findFault u t h σ ?_
  have key : ∀ d i : Nat, i + d = n → fb_ (mfit_ (σ (1 + t))) n 0 = fb_ (mfit_ (σ (1 + t))) d i → GG_ (zx_ u) mX4_findFault (Pi_ P) 2 [(0, .ref (uq_ u (32 + t))), (1, .int (iI_ i))] [] σ := by
    intro d
    induction d with
    | zero =>
      intro i hi e
      refine bX4_findFault_2 u t h σ (iI_ i) (cs_ (fun _ => ?_) (fun c => absurd (by rw [hn, iI_le (by omega) (by omega)]; omega) c))
      have e2 : fb_ (mfit_ (σ (1 + t))) n 0 = n := by rw [e, fb_]; omega
      rw [mflt_, e2, if_neg (by omega)] at H
      rw [hn, iI_rem6 (by omega)]
      refine cs_ (fun c => ?_) (fun c => ⟨fun c2 => ?_, fun c2 => ?_⟩)
      · rw [iI_eq (by omega) (by omega)] at c
        rw [if_pos (by omega)] at H; exact H
      · rw [iI_eq (by omega) (by omega)] at c c2
        rw [if_neg (by omega)] at H; exact H
      · rw [iI_eq (by omega) (by omega)] at c2
        rw [if_pos (by omega)] at H; exact H
    | succ d ih =>
      intro i hi e
      refine bX4_findFault_2 u t h σ (iI_ i) (cs_ (fun c => absurd c (by rw [hn, iI_le (by omega) (by omega)]; omega)) (fun _ => s_mfits u h σ hn (by omega) hl (nxn (fun c => ?_) (fun c => ?_))))
      · have e2 : fb_ (mfit_ (σ (1 + t))) n 0 = i := by rw [e, fb_, if_neg (by simp [c])]
        rw [mflt_, e2, if_pos (by omega)] at H; exact H
      · rw [iI_succ]
        exact ih (i + 1) (by omega) (by rw [e, fb_, if_pos c])
  exact key n 0 (by omega) rfl
theorem s_ofault (u : Ux_) {P : Int32 → St_ → Prop} {t : Nat} (h : t < 2) (σ : St_) {n : Nat} (hn : σ 0 t = iI_ n) (hl : n ≤ tl_ t) (H : P (iI_ (oflt_ (σ (1 + t)) n)) σ) : MMi_ (zx_ u) mX3_findFault [.ref (uq_ u (32 + t))] σ P := by
  have hb := tl_b t
  refine eX3_findFault u t h σ ?_
  have key : ∀ d i : Nat, i + d = n → fb_ (ofit_ (σ (1 + t))) n 0 = fb_ (ofit_ (σ (1 + t))) d i → GG_ (zx_ u) mX3_findFault (Pi_ P) 2 [(0, .ref (uq_ u (32 + t))), (1, .int (iI_ i))] [] σ := by
    intro d
    induction d with
    | zero =>
      intro i hi e
      refine bX3_findFault_2 u t h σ (iI_ i) (cs_ (fun _ => ?_) (fun c => absurd (by rw [hn, iI_le (by omega) (by omega)]; omega) c))
      have e2 : fb_ (ofit_ (σ (1 + t))) n 0 = n := by rw [e, fb_]; omega
      rw [oflt_, e2, if_neg (by omega)] at H
      rw [hn, iI_rem3 (by omega)]
      refine ⟨fun c => ?_, fun c => ?_⟩
      · rw [iI_eq (by omega) (by omega)] at c
        rw [if_neg (by omega)] at H; exact H
      · rw [iI_eq (by omega) (by omega)] at c
        rw [if_pos (by omega)] at H; exact H
    | succ d ih =>
      intro i hi e
      refine bX3_findFault_2 u t h σ (iI_ i) (cs_ (fun c => absurd c (by rw [hn, iI_le (by omega) (by omega)]; omega)) (fun _ => s_ofits u h σ hn (by omega) hl (nxn (fun c => ?_) (fun c => ?_))))
      · have e2 : fb_ (ofit_ (σ (1 + t))) n 0 = i := by rw [e, fb_, if_neg (by simp [c])]
        rw [oflt_, e2, if_pos (by omega)] at H; exact H
      · rw [iI_succ]
        exact ih (i + 1) (by omega) (by rw [e, fb_, if_pos c])
  exact key n 0 (by omega) rfl
