/-! rows on bits, shifts and unsigned numbers, to paste: each family out of a closed proof of our own, whole with what it rests on; each by itself clean at Lean in its own claim (generation 39, form 5). Take a family whole -/
/-! ===== Int32 by its bits: bt x i ===== -/
def bt (x : Int32) (i : Nat) : Bool := x.toBitVec.getLsbD i
theorem b_ext {x y : Int32} (h : ∀ i, i < 32 → bt x i = bt y i) : x = y := Int32.toBitVec_inj.mp (BitVec.eq_of_getLsbD_eq (fun i hi => h i hi))
theorem b_or (x y : Int32) (i : Nat) : bt (x ||| y) i = (bt x i || bt y i) := by unfold bt; rw [Int32.toBitVec_or, BitVec.getLsbD_or]
theorem b_and (x y : Int32) (i : Nat) : bt (x &&& y) i = (bt x i && bt y i) := by unfold bt; rw [Int32.toBitVec_and, BitVec.getLsbD_and]
theorem b_xor (x y : Int32) (i : Nat) : bt (x ^^^ y) i = (bt x i ^^ bt y i) := by unfold bt; rw [Int32.toBitVec_xor, BitVec.getLsbD_xor]
theorem b_big {x : Int32} {i : Nat} (h : 32 ≤ i) : bt x i = false := BitVec.getLsbD_of_ge _ _ h
theorem b_0 (i : Nat) : bt 0 i = false := BitVec.getLsbD_zero
theorem s_l : ∀ n, n < 32 → ((nI n &&& 31).toBitVec.smod 32).toNat = n := by decide +kernel
theorem b_shl (n : Nat) (hn : n < 32) (x : Int32) {i : Nat} (hi : i < 32) : bt (x <<< (nI n &&& 31)) i = (decide (n ≤ i) && bt x (i - n)) := by
  unfold bt
  rw [Int32.toBitVec_shiftLeft]
  show (x.toBitVec <<< ((nI n &&& 31).toBitVec.smod 32).toNat).getLsbD i = _
  rw [s_l n hn, BitVec.getLsbD_shiftLeft]
  rcases Nat.lt_or_ge i n with h | h
  · simp [h, Nat.not_le.mpr h]
  · simp [hi, h, Nat.not_lt.mpr h]
theorem b_sshr (n : Nat) (hn : n < 32) (x : Int32) {i : Nat} (hi : i < 32) : bt (x >>> (nI n &&& 31)) i = if n + i < 32 then bt x (n + i) else bt x 31 := by
  unfold bt
  rw [Int32.toBitVec_shiftRight]
  show (x.toBitVec.sshiftRight ((nI n &&& 31).toBitVec.smod 32).toNat).getLsbD i = _
  rw [s_l n hn, BitVec.getLsbD_sshiftRight, BitVec.msb_eq_getLsbD_last]
  simp [hi]
theorem bt_1 (i : Nat) : bt (iI_ 1) i = decide (i = 0) := by
  by_cases h : i < 32
  · revert h; revert i; decide +kernel
  · rw [b_big (by omega), decide_eq_false (by omega)]
theorem bt_and1 (y : Int32) : (y &&& iI_ 1) = iI_ 1 ↔ bt y 0 = true := by
  constructor
  · intro h
    have := congrArg (fun q => bt q 0) h
    simpa [b_and, bt_1] using this
  · intro h
    refine b_ext (fun i hi => ?_)
    rw [b_and, bt_1]
    by_cases q : i = 0
    · subst q; simp [h]
    · simp [q]
theorem bt_and0 (y : Int32) : (y &&& iI_ 1) = iI_ 0 ↔ bt y 0 = false := by
  constructor
  · intro h
    have := congrArg (fun q => bt q 0) h
    simpa [b_and, bt_1, show bt (iI_ 0) 0 = false by decide] using this
  · intro h
    refine b_ext (fun i hi => ?_)
    rw [b_and, bt_1, show bt (iI_ 0) i = false from b_0 i]
    by_cases q : i = 0
    · subst q; simp [h]
    · simp [q]
/-- bit k of x, as javac asks for it -/
theorem bt_is (x : Int32) {k : Nat} (hk : k < 31) : ((x >>> (iI_ k &&& 31)) &&& iI_ 1) = iI_ 1 ↔ bt x k = true := by
  rw [bt_and1, show iI_ (k : Int) = nI k from rfl, b_sshr k (by omega) x (by omega), if_pos (by omega)]
  simp
theorem bt_is0 (x : Int32) {k : Nat} (hk : k < 31) : ((x >>> (iI_ k &&& 31)) &&& iI_ 1) = iI_ 0 ↔ bt x k = false := by
  rw [bt_and0, show iI_ (k : Int) = nI k from rfl, b_sshr k (by omega) x (by omega), if_pos (by omega)]
  simp
theorem bt_pow {n : Nat} (hn : n < 31) (i : Nat) : bt (iI_ 1 <<< (iI_ n &&& 31)) i = decide (i = n) := by
  by_cases h : i < 32
  · rw [show iI_ (n : Int) = nI n from rfl, b_shl n (by omega) _ h, bt_1]
    by_cases q : i = n
    · subst q; simp
    · by_cases q2 : n ≤ i
      · simp [q]; omega
      · simp [q]; omega
  · rw [b_big (by omega), decide_eq_false (by omega)]
/-- the bits of f, up to n -/
def bs_ (f : Nat → Bool) : Nat → Int32
  | 0 => iI_ 0
  | k + 1 => if f k = true then bs_ f k ||| (iI_ 1 <<< (iI_ k &&& 31)) else bs_ f k
theorem bs_bt (f : Nat → Bool) : ∀ (n : Nat), n ≤ 31 → ∀ k, bt (bs_ f n) k = (decide (k < n) && f k) := by
  intro n
  induction n with
  | zero => intro _ k; rw [bs_, show bt (iI_ 0) k = false from b_0 k]; simp
  | succ n ih =>
    intro hn k
    have q := ih (by omega) k
    unfold bs_
    by_cases h : f n = true
    · rw [if_pos h, b_or, q, bt_pow (by omega)]
      by_cases e : k = n
      · subst e; simp [h]
      · rw [decide_eq_false e]
        by_cases e2 : k < n
        · simp [e2]; intro; omega
        · rw [decide_eq_false e2, decide_eq_false (by omega)]; rfl
    · rw [if_neg h, q]
      by_cases e : k = n
      · subst e; simp at h; simp [h]
      · by_cases e2 : k < n
        · simp [e2]; intro; omega
        · rw [decide_eq_false e2, decide_eq_false (by omega)]
theorem or_0 (x : Int32) : x ||| iI_ 0 = x := b_ext (fun i hi => by rw [b_or, show bt (iI_ 0) i = false from b_0 i]; simp)
