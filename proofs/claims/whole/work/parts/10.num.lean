/-! ===== numbers: ints by their values ===== -/
theorem iI_toInt {a : Int} (h : -2147483648 ≤ a ∧ a < 2147483648) : (iI_ a).toInt = a := by
  unfold iI_
  rw [Int32.toInt_ofInt]
  have e : ((Int32.size : Nat) : Int) = 4294967296 := rfl
  exact Int.bmod_eq_of_le (by omega) (by omega)
theorem iI_of (x : Int32) : iI_ x.toInt = x := by
  unfold iI_
  exact Int32.ofInt_toInt x
theorem iI_bd (x : Int32) : -2147483648 ≤ x.toInt ∧ x.toInt < 2147483648 := by
  have h1 := Int32.le_toInt x
  have h2 := Int32.toInt_lt x
  omega
theorem iI_add (a b : Int) : iI_ a + iI_ b = iI_ (a + b) := by unfold iI_; rw [Int32.ofInt_add]
theorem iI_sub (a b : Int) : iI_ a - iI_ b = iI_ (a - b) := by unfold iI_; rw [Int32.ofInt_sub]
theorem iI_mul (a b : Int) : iI_ a * iI_ b = iI_ (a * b) := by unfold iI_; rw [Int32.ofInt_mul]
theorem iI_eq {a b : Int} (ha : -2147483648 ≤ a ∧ a < 2147483648) (hb : -2147483648 ≤ b ∧ b < 2147483648) : (iI_ a = iI_ b) ↔ a = b :=
  ⟨fun h => by rw [← iI_toInt ha, ← iI_toInt hb, h], fun h => by rw [h]⟩
theorem iI_lt {a b : Int} (ha : -2147483648 ≤ a ∧ a < 2147483648) (hb : -2147483648 ≤ b ∧ b < 2147483648) : (iI_ a < iI_ b) ↔ a < b := by
  rw [Int32.lt_iff_toInt_lt, iI_toInt ha, iI_toInt hb]
theorem iI_le {a b : Int} (ha : -2147483648 ≤ a ∧ a < 2147483648) (hb : -2147483648 ≤ b ∧ b < 2147483648) : (iI_ a ≤ iI_ b) ↔ a ≤ b := by
  rw [Int32.le_iff_toInt_le, iI_toInt ha, iI_toInt hb]
theorem iI_clamp {a : Int} (ha : -2147483648 ≤ a ∧ a < 2147483648) : (iI_ a).toNatClampNeg = a.toNat := by
  show (iI_ a).toInt.toNat = _
  rw [iI_toInt ha]
theorem iI_ix {k : Nat} (h : k < 2147483648) : (iI_ k).toNatClampNeg = k := by
  rw [iI_clamp (by omega)]; omega
theorem iI_in {a : Int} {n : Nat} (ha : -2147483648 ≤ a ∧ a < 2147483648) : vp_in (iI_ a) n ↔ 0 ≤ a ∧ a < n := by
  rw [vp_in_iff, iI_toInt ha]
theorem iI_succ (k : Nat) : iI_ k + iI_ 1 = iI_ (k + 1 : Nat) := by rw [iI_add]; rfl
/-- from an int that is at least 0 to its number -/
theorem iI_nat {x : Int32} (h : 0 ≤ x.toInt) : ∃ k : Nat, x = iI_ k ∧ k < 2147483648 := by
  have hb := iI_bd x
  exact ⟨x.toInt.toNat, by rw [show ((x.toInt.toNat : Nat) : Int) = x.toInt by omega, iI_of], by omega⟩
theorem iI_ltI {x y : Int32} : x < y ↔ x.toInt < y.toInt := Int32.lt_iff_toInt_lt
theorem iI_leI {x y : Int32} : x ≤ y ↔ x.toInt ≤ y.toInt := Int32.le_iff_toInt_le
theorem iI_eqI {x y : Int32} : x = y ↔ x.toInt = y.toInt := Int32.toInt_inj.symm
theorem clampI (x : Int32) : x.toNatClampNeg = x.toInt.toNat := rfl
/-- truth as an int -/
def bi_ (b : Bool) : Int32 := if b = true then iI_ 1 else iI_ 0
theorem bi_t : bi_ true = iI_ 1 := rfl
theorem bi_f : bi_ false = iI_ 0 := rfl
theorem bi_z (b : Bool) : bi_ b = iI_ 0 ↔ b = false := by cases b <;> decide
theorem bi_01 (b : Bool) : bi_ b = iI_ 0 ∨ bi_ b = iI_ 1 := by cases b <;> decide
theorem bi_1 (b : Bool) : bi_ b = iI_ 1 ↔ b = true := by cases b <;> decide
/-! states -/
theorem su_same (σ : St_) (i j : Nat) (v : Int32) : su_ σ i j v i j = v := by simp [su_, upd]
theorem su_i (σ : St_) {i k : Nat} (j : Nat) (v : Int32) (h : k ≠ i) : su_ σ i j v k = σ k := by simp [su_, h]
theorem su_j (σ : St_) (i : Nat) {j l : Nat} (v : Int32) (h : l ≠ j) : su_ σ i j v i l = σ i l := by simp [su_, upd, h]
theorem su_at (σ : St_) (i j k l : Nat) (v : Int32) : su_ σ i j v k l = if k = i ∧ l = j then v else σ k l := by
  by_cases h : k = i
  · subst h
    by_cases h2 : l = j <;> simp [su_, upd, h2]
  · simp [su_, h]
/-- all is kept but components that S names -/
def Ke_ (S : List Nat) (σ σ' : St_) : Prop := ∀ k, k ∉ S → σ' k = σ k
theorem Ke_.rf {S : List Nat} {σ : St_} : Ke_ S σ σ := fun _ _ => rfl
theorem Ke_.tr {S : List Nat} {a b c : St_} (h : Ke_ S a b) (h2 : Ke_ S b c) : Ke_ S a c := fun k hk => (h2 k hk).trans (h k hk)
theorem Ke_.su {S : List Nat} {a b : St_} {i j : Nat} {v : Int32} (h : Ke_ S a b) (hi : i ∈ S) : Ke_ S a (su_ b i j v) := fun k hk => by
  have hne : k ≠ i := fun e => hk (by rw [e]; exact hi)
  rw [su_i _ _ _ hne]
  exact h k hk
theorem Ke_.up {S T : List Nat} {a b : St_} (h : Ke_ S a b) (hST : ∀ k ∈ S, k ∈ T) : Ke_ T a b := fun k hk => h k (fun q => hk (hST k q))
/-- the class's scratch: components 23 to 37; all else is as a has it -/
def Sc_ (a σ : St_) : Prop := ∀ k, k < 23 ∨ 38 ≤ k → σ k = a k
theorem Sc_.ke {S : List Nat} {a b c : St_} (h : Sc_ a b) (hk : Ke_ S b c) (hS : ∀ k ∈ S, 23 ≤ k ∧ k < 38) : Sc_ a c := fun k hkk => by
  rw [hk k (fun q => by have := hS k q; omega)]
  exact h k hkk
theorem Sc_.su {a b : St_} {i j : Nat} {v : Int32} (h : Sc_ a b) (hi : 23 ≤ i ∧ i < 38) : Sc_ a (su_ b i j v) := fun k hk => by
  rw [su_i _ _ _ (by omega)]
  exact h k hk
