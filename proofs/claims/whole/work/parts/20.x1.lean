/-! ===== the class: helpers without a state of their own ===== -/
theorem nx1 {A B : Prop} (h : B) : (iI_ 1 = iI_ 0 → A) ∧ (¬ iI_ 1 = iI_ 0 → B) := ⟨fun e => absurd e (by decide), fun _ => h⟩
theorem nx0 {A B : Prop} (h : A) : (iI_ 0 = iI_ 0 → A) ∧ (¬ iI_ 0 = iI_ 0 → B) := ⟨fun _ => h, fun e => absurd rfl e⟩
theorem nxb {A B : Prop} {b : Bool} (hf : b = false → A) (ht : b = true → B) : (bi_ b = iI_ 0 → A) ∧ (¬ bi_ b = iI_ 0 → B) := by
  cases b
  · exact ⟨fun _ => hf rfl, fun e => absurd rfl e⟩
  · exact ⟨fun e => absurd e (by decide), fun _ => ht rfl⟩
theorem nxn {A B : Prop} {b : Bool} (hf : b = false → A) (ht : b = true → B) : (¬ bi_ b = iI_ 0 → B) ∧ (bi_ b = iI_ 0 → A) := ⟨(nxb hf ht).2, (nxb hf ht).1⟩
theorem cs_ {c A B : Prop} (ht : c → A) (hf : ¬ c → B) : (c → A) ∧ (¬ c → B) := ⟨ht, hf⟩
/-- v is one of 0 to e - 1 -/
def inr_ (v e : Int32) : Bool := decide (0 ≤ v.toInt ∧ v.toInt < e.toInt)
theorem inr_t {v e : Int32} : inr_ v e = true ↔ 0 ≤ v.toInt ∧ v.toInt < e.toInt := by simp [inr_]
theorem inr_f {v e : Int32} : inr_ v e = false ↔ ¬ (0 ≤ v.toInt ∧ v.toInt < e.toInt) := by simp only [inr_, decide_eq_false_iff_not]
theorem t_0 : (iI_ 0).toInt = 0 := by decide
theorem t_1 : (iI_ 1).toInt = 1 := by decide
theorem t_2 : (iI_ 2).toInt = 2 := by decide
theorem t_3 : (iI_ 3).toInt = 3 := by decide
theorem t_4 : (iI_ 4).toInt = 4 := by decide
theorem t_5 : (iI_ 5).toInt = 5 := by decide
theorem t_6 : (iI_ 6).toInt = 6 := by decide
theorem t_8 : (iI_ 8).toInt = 8 := by decide
theorem t_10 : (iI_ 10).toInt = 10 := by decide
theorem s_within (u : Ux_) {P : Int32 → St_ → Prop} (σ : St_) (v e : Int32) (H : P (bi_ (inr_ v e)) σ) : MMi_ (zx_ u) mX9_within [.int v, .int e] σ P := by
  refine eX9_within u σ v e (cs_ (fun c => ?_) (fun c => cs_ (fun c2 => ?_) (fun c2 => ?_)))
  · rw [iI_ltI, t_0] at c
    rw [inr_f.mpr (by omega)] at H; exact H
  · rw [iI_ltI, t_0] at c; rw [iI_leI] at c2
    rw [inr_f.mpr (by omega)] at H; exact H
  · rw [iI_ltI, t_0] at c; rw [iI_leI] at c2
    rw [inr_t.mpr (by omega)] at H; exact H
theorem s_isNight (u : Ux_) {P : Int32 → St_ → Prop} (σ : St_) (v : Int32) (H : P (bi_ (inr_ v (iI_ 10))) σ) : MMi_ (zx_ u) mX9_isNight [.int v] σ P :=
  eX9_isNight u σ v (s_within u σ _ _ ⟨bi_01 _, H⟩)
theorem s_isMember (u : Ux_) {P : Int32 → St_ → Prop} (σ : St_) (v : Int32) (H : P (bi_ (inr_ v (σ 3 0))) σ) : MMi_ (zx_ u) mX9_isMember [.ref (uq_ u 0), .int v] σ P :=
  eX9_isMember u σ v (s_within u σ _ _ ⟨bi_01 _, H⟩)
def isF_ (n m s : Int32) : Bool := inr_ n (iI_ 10) && (inr_ m (iI_ 8) && inr_ s (iI_ 6))
theorem s_isFold (u : Ux_) {P : Int32 → St_ → Prop} (σ : St_) (x0 x1 x2 : Int32) (H : P (bi_ (isF_ x0 x1 x2)) σ) : MMi_ (zx_ u) mX9_isFold [.int x0, .int x1, .int x2] σ P := by
  refine eX9_isFold u σ x0 x1 x2 (s_isNight u σ _ (nxb (fun h => ?_) (fun h => s_within u σ _ _ (nxb (fun h2 => ?_) (fun h2 => s_within u σ _ _ (nxb (fun h3 => ?_) (fun h3 => ?_))))))) <;> simp [isF_, *] at H <;> exact H
theorem s_refusedLong (u : Ux_) {P : Int64 → St_ → Prop} (σ : St_) (x0 : Int32) (H : P (iL_ (-9223372036854775808) - x0.toInt64) σ) : MMl_ (zx_ u) mX9_refusedLong [.int x0] σ P := eX9_refusedLong u σ x0 H
theorem s_found (u : Ux_) {P : Int32 → St_ → Prop} (σ : St_) (x1 : Int32) (H : P (iI_ (-10) - x1) (su_ σ 38 0 x1)) : MMi_ (zx_ u) mX9_found [.ref (uq_ u 0), .int x1] σ P := eX9_found u σ x1 (fun σ1 e => e ▸ H)
/-- what an order has at a place -/
def wan_ (o p : Int32) : Int32 := if inr_ o (iI_ 6) = true ∧ inr_ p (iI_ 3) = true then tW_ (3 * o.toInt.toNat + p.toInt.toNat) else iI_ (-1)
/-- an order would rather have a than b -/
def rat_ (o a b : Int32) : Bool := inr_ o (iI_ 6) && (inr_ a (iI_ 3) && (inr_ b (iI_ 3) && decide (tP_ (3 * o.toInt.toNat + a.toInt.toNat) < tP_ (3 * o.toInt.toNat + b.toInt.toNat))))
theorem ix3 {o a : Int32} (ho : 0 ≤ o.toInt ∧ o.toInt < 6) (ha : 0 ≤ a.toInt ∧ a.toInt < 3) : vp_in (o * iI_ 3 + a) 18 ∧ (o * iI_ 3 + a).toNatClampNeg = 3 * o.toInt.toNat + a.toInt.toNat := by
  rw [← iI_of o, ← iI_of a, iI_mul, iI_add]
  rw [iI_in (by omega), iI_clamp (by omega)]
  rw [iI_toInt (by omega), iI_toInt (by omega)]
  omega
theorem s_wanted (u : Ux_) {P : Int32 → St_ → Prop} (σ : St_) (o p : Int32) (H : P (wan_ o p) σ) : MMi_ (zx_ u) mX9_wanted [.int o, .int p] σ P := by
  refine eX9_wanted u σ o p (s_within u σ _ _ (nxb (fun h => ?_) (fun h => s_within u σ _ _ (nxb (fun h2 => ?_) (fun h2 => ?_)))))
  · simp [wan_, h] at H; exact H
  · simp [wan_, h2] at H; exact H
  · rw [inr_t, t_6] at h
    rw [inr_t, t_3] at h2
    obtain ⟨q1, q2⟩ := ix3 h h2
    refine ⟨q1, ?_⟩
    rw [q2]
    rw [wan_, if_pos ⟨inr_t.mpr (by rw [t_6]; exact h), inr_t.mpr (by rw [t_3]; exact h2)⟩] at H
    exact H
theorem s_rather (u : Ux_) {P : Int32 → St_ → Prop} (σ : St_) (o a b : Int32) (H : P (bi_ (rat_ o a b)) σ) : MMi_ (zx_ u) mX9_rather [.int o, .int a, .int b] σ P := by
  have no : ∀ {c : Prop}, (c → rat_ o a b = false) → c → P (iI_ 0) σ := fun h q => by rw [h q] at H; exact H
  refine eX9_rather u σ o a b (cs_ (fun c => ?_) (fun c1 => cs_ (fun c => ?_) (fun c2 => cs_ (fun c => ?_) (fun c3 => cs_ (fun c => ?_) (fun c4 => cs_ (fun c => ?_) (fun c5 => cs_ (fun c => ?_) (fun c6 => ?_))))))) <;> simp only [iI_ltI, iI_leI, t_0, t_3, t_6] at *
  · exact no (fun c => by simp [rat_, inr_, t_6]; omega) c
  · exact no (fun c => by simp [rat_, inr_, t_6]; omega) c
  · exact no (fun c => by simp [rat_, inr_, t_3]; omega) c
  · exact no (fun c => by simp [rat_, inr_, t_3]; omega) c
  · exact no (fun c => by simp [rat_, inr_, t_3]; omega) c
  · exact no (fun c => by simp [rat_, inr_, t_3]; omega) c
  · have ho : 0 ≤ o.toInt ∧ o.toInt < 6 := by omega
    have ha : 0 ≤ a.toInt ∧ a.toInt < 3 := by omega
    have hb : 0 ≤ b.toInt ∧ b.toInt < 3 := by omega
    obtain ⟨q1, q2⟩ := ix3 ho ha
    obtain ⟨q3, q4⟩ := ix3 ho hb
    refine ⟨q1, q3, ?_⟩
    have e : rat_ o a b = decide (tP_ (3 * o.toInt.toNat + a.toInt.toNat) < tP_ (3 * o.toInt.toNat + b.toInt.toNat)) := by simp [rat_, inr_, t_3, t_6, ho, ha, hb]
    rw [e] at H
    rw [q2, q4]
    refine ⟨fun c => ?_, fun c => ?_⟩
    · rw [decide_eq_false (by rw [iI_ltI]; omega)] at H; exact H
    · rw [decide_eq_true (by rw [iI_ltI]; omega)] at H; exact H
/-- how warm a shelf is -/
def wm_ (p : Int) (j : Bool) : Int := if 0 ≤ 5 - p - (if j = true then 3 else 0) then 5 - p - (if j = true then 3 else 0) else 0
theorem s_warmth (u : Ux_) {P : Int32 → St_ → Prop} (σ : St_) (x : Int32) (j : Bool) (hx : 0 ≤ x.toInt ∧ x.toInt < 6) (H : P (iI_ (wm_ x.toInt j)) σ) : MMi_ (zx_ u) mX9_warmth [.int x, .int (bi_ j)] σ P := by
  refine eX9_warmth u σ x (bi_ j) ?_
  rw [← iI_of x]
  simp only [iI_sub]
  refine nxb (fun h => ?_) (fun h => ?_) <;> subst h <;> simp only [wm_] at H
  · refine cs_ (fun c => ?_) (fun c => ?_) <;> rw [iI_le (by omega) (by omega)] at c
    · rw [if_pos (by simp; omega)] at H; simpa using H
    · rw [if_neg (by simp; omega)] at H; exact H
  · refine cs_ (fun c => ?_) (fun c => ?_) <;> rw [iI_le (by omega) (by omega)] at c
    · rw [if_pos (by simp; omega)] at H; simpa using H
    · rw [if_neg (by simp; omega)] at H; exact H
