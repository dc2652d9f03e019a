/-! ===== the class: fractions; evenings; write ===== -/
theorem iL_toInt {a : Int} (h : -9223372036854775808 ≤ a ∧ a < 9223372036854775808) : (iL_ a).toInt = a := by
  unfold iL_
  rw [Int64.toInt_ofInt]
  have e : ((Int64.size : Nat) : Int) = 18446744073709551616 := rfl
  exact Int.bmod_eq_of_le (by omega) (by omega)
theorem iL_eq {a b : Int} (ha : -9223372036854775808 ≤ a ∧ a < 9223372036854775808) (hb : -9223372036854775808 ≤ b ∧ b < 9223372036854775808) : (iL_ a = iL_ b) ↔ a = b :=
  ⟨fun h => by rw [← iL_toInt ha, ← iL_toInt hb, h], fun h => by rw [h]⟩
theorem iL_add (a b : Int) : iL_ a + iL_ b = iL_ (a + b) := by unfold iL_; rw [Int64.ofInt_add]
theorem iL_sub (a b : Int) : iL_ a - iL_ b = iL_ (a - b) := by unfold iL_; rw [Int64.ofInt_sub]
theorem iL_mul (a b : Int) : iL_ a * iL_ b = iL_ (a * b) := by unfold iL_; rw [Int64.ofInt_mul]
theorem iI_L {a : Int} (h : -2147483648 ≤ a ∧ a < 2147483648) : (iI_ a).toInt64 = iL_ a := by
  apply Int64.toInt_inj.mp
  rw [Int32.toInt_toInt64, iI_toInt h, iL_toInt (by omega)]
theorem cmp_0 (x : Int64) : lg_cmp x (iL_ 0) = iI_ 0 ↔ x = iL_ 0 := by
  unfold lg_cmp
  by_cases h : x > iL_ 0
  · rw [if_pos h]
    constructor
    · intro e; exact absurd e (by decide)
    · intro e; rw [e] at h; exact absurd h (by decide)
  · rw [if_neg h]
    by_cases h2 : x = iL_ 0
    · rw [if_pos h2]; exact ⟨fun _ => h2, fun _ => by decide⟩
    · rw [if_neg h2]
      constructor
      · intro e; exact absurd e (by decide)
      · intro e; exact absurd e h2
theorem iL_00 : iL_ 0 = 0 := by decide
/-- a part of a fraction in its lowest terms -/
def lw_ (t b : Nat) (w : Int32) : Int64 := if w = iI_ 0 then iL_ (t / Nat.gcd t b : Nat) else iL_ (b / Nat.gcd t b : Nat)
theorem s_lowest (u : Ux_) {P : Int64 → St_ → Prop} (σ : St_) (t b : Nat) (w : Int32) (ht : t < 4294967296) (hb : 0 < b) (hb2 : b < 65536) (H : P (lw_ t b w) σ) : MMl_ (zx_ u) mX9_lowest [.long (iL_ t), .long (iL_ b), .int w] σ P := by
  refine eX9_lowest u σ _ _ w ?_
  have hg : 0 < Nat.gcd t b := Nat.gcd_pos_of_pos_right t hb
  have gle : Nat.gcd t b ≤ b := Nat.gcd_le_right t hb
  -- the end of the loop
  have fin : ∀ p s : Nat, p = Nat.gcd t b → s ≤ 100 → GG_ (zx_ u) mX9_lowest (Pl_ P) 9 [(0, .long (iL_ t)), (2, .long (iL_ b)), (4, .int w), (5, .long (iL_ p)), (7, .long (iL_ (0 : Nat))), (9, .int (iI_ s))] [] σ := by
    intro p s hp hs
    have hne : ¬ iL_ p = iL_ 0 := by rw [iL_eq (by omega) (by omega)]; omega
    have hne0 : ¬ iL_ p = 0 := by rw [← iL_00]; exact hne
    have tail : ((¬ w = iI_ 0 → ((¬ (lg_cmp (iL_ p) (iL_ 0)) = iI_ 0 → ¬ iL_ p = 0 ∧ P (iL_ b / iL_ p) σ) ∧ ((lg_cmp (iL_ p) (iL_ 0)) = iI_ 0 → P (iL_ b) σ))) ∧ (w = iI_ 0 → ((¬ (lg_cmp (iL_ p) (iL_ 0)) = iI_ 0 → ¬ iL_ p = 0 ∧ P (iL_ t / iL_ p) σ) ∧ ((lg_cmp (iL_ p) (iL_ 0)) = iI_ 0 → P (iL_ t) σ)))) := by
      rw [cmp_0]
      refine ⟨fun c => ⟨fun _ => ⟨hne0, ?_⟩, fun c2 => absurd c2 hne⟩, fun c => ⟨fun _ => ⟨hne0, ?_⟩, fun c2 => absurd c2 hne⟩⟩
      · rw [show iL_ (b : Int) = lN b from rfl, show iL_ (p : Int) = lN p from rfl, pk_lDiv (by omega) (by omega) (by omega)]
        rw [lw_, if_neg c, ← hp] at H; exact H
      · rw [show iL_ (t : Int) = lN t from rfl, show iL_ (p : Int) = lN p from rfl, pk_lDiv (by omega) (by omega) (by omega)]
        rw [lw_, if_pos c, ← hp] at H; exact H
    refine bX9_lowest_9 u σ _ _ _ _ _ _ (cs_ (fun _ => tail) (fun _ => ⟨fun _ => tail, fun c => absurd ((cmp_0 _).mpr rfl) c⟩))
  have step : ∀ p q s : Nat, 0 < q → q < 4294967296 → p < 4294967296 → s < 100 → GG_ (zx_ u) mX9_lowest (Pl_ P) 9 [(0, .long (iL_ t)), (2, .long (iL_ b)), (4, .int w), (5, .long (iL_ q)), (7, .long (iL_ (p % q : Nat))), (9, .int (iI_ (s + 1 : Nat)))] [] σ → GG_ (zx_ u) mX9_lowest (Pl_ P) 9 [(0, .long (iL_ t)), (2, .long (iL_ b)), (4, .int w), (5, .long (iL_ p)), (7, .long (iL_ q)), (9, .int (iI_ s))] [] σ := by
    intro p q s hq hq2 hp2 hs h
    have hne : ¬ iL_ q = iL_ 0 := by rw [iL_eq (by omega) (by omega)]; omega
    refine bX9_lowest_9 u σ _ _ _ _ _ _ (cs_ (fun c => absurd c (by rw [iI_le (by omega) (by omega)]; omega)) (fun _ => ⟨fun c => absurd ((cmp_0 _).mp c) hne, fun _ => ⟨by rw [← iL_00]; exact hne, ?_⟩⟩))
    rw [iI_succ, show iL_ (p : Int) = lN p from rfl, show iL_ (q : Int) = lN q from rfl, pk_lRem (by omega) (by omega) (by omega)]
    exact h
  have key : ∀ j p q s : Nat, q < 2 ^ j → j ≤ 32 → p < 4294967296 → s + 2 * j ≤ 100 → Nat.gcd p q = Nat.gcd t b → GG_ (zx_ u) mX9_lowest (Pl_ P) 9 [(0, .long (iL_ t)), (2, .long (iL_ b)), (4, .int w), (5, .long (iL_ p)), (7, .long (iL_ q)), (9, .int (iI_ s))] [] σ := by
    intro j
    induction j with
    | zero =>
      intro p q s hq hj hp hs hgc
      have : q = 0 := by omega
      subst this
      exact fin p s (by rw [← hgc, Nat.gcd_zero_right]) (by omega)
    | succ j ih =>
      intro p q s hq hj hp hs hgc
      have h32 : (2 : Nat) ^ (j + 1) ≤ 2 ^ 32 := Nat.pow_le_pow_right (by decide) hj
      by_cases q0 : q = 0
      · subst q0
        exact fin p s (by rw [← hgc, Nat.gcd_zero_right]) (by omega)
      · have g1 : Nat.gcd q (p % q) = Nat.gcd t b := by rw [← hgc, Nat.gcd_comm p q, Nat.gcd_rec q p, Nat.gcd_comm]
        have hlt : p % q < q := Nat.mod_lt _ (by omega)
        refine step p q s (by omega) (by omega) hp (by omega) ?_
        by_cases r0 : p % q = 0
        · rw [r0] at g1 ⊢
          exact fin q (s + 1) (by rw [← g1, Nat.gcd_zero_right]) (by omega)
        · have hlt2 : q % (p % q) < p % q := Nat.mod_lt _ (by omega)
          refine step q (p % q) (s + 1) (by omega) (by omega) (by omega) (by omega) ?_
          refine ih (p % q) (q % (p % q)) (s + 1 + 1) ?_ (by omega) (by omega) (by omega) ?_
          · have hd := Nat.div_add_mod q (p % q)
            have : 1 ≤ q / (p % q) := Nat.div_pos (by omega) (by omega)
            have h2 : (p % q) * 1 ≤ (p % q) * (q / (p % q)) := Nat.mul_le_mul_left _ this
            rw [Nat.pow_succ] at hq
            omega
          · rw [← g1, Nat.gcd_comm q (p % q), Nat.gcd_rec (p % q) q, Nat.gcd_comm]
  exact key 16 t b 0 (by omega) (by omega) ht (by omega) rfl
/-! evenings -/
def dr_ (seed : Int32) : Nat → Int32
  | 0 => seed
  | k + 1 => iI_ 1103515245 * dr_ seed k + iI_ 12345
/-- the order drawn for member m -/
def do_ (seed : Int32) (m : Nat) : Int32 := (Int32.toUInt32 (dr_ seed (m + 1)) >>> (Int32.toUInt32 (iI_ 16) &&& Int32.toUInt32 31)).toInt32 - (Int32.toUInt32 (dr_ seed (m + 1)) >>> (Int32.toUInt32 (iI_ 16) &&& Int32.toUInt32 31)).toInt32 / iI_ 6 * iI_ 6
theorem x_draw (u : Ux_) {P : St_ → Prop} (σ : St_) {n : Nat} (hr : Wr_ σ n) (seed : Int32) (H : ∀ σ', Ke_ [34] σ σ' → (∀ i, i < n → σ' 34 i = do_ seed i) → P σ') : MMv_ (zx_ u) mX9_drawOrders [.ref (uq_ u 0), .int seed] σ P := by
  have h8 := hr.1
  refine eX9_drawOrders u σ _ ?_
  have key : ∀ (d i : Nat) (τ : St_), i + d = n → Ke_ [34] σ τ → (∀ k, k < i → τ 34 k = do_ seed k) → GG_ (zx_ u) mX9_drawOrders (Pv_ P) 4 [(0, .ref (uq_ u 0)), (2, .int (dr_ seed i)), (3, .int (iI_ i))] [] τ := by
    intro d
    induction d with
    | zero =>
      intro i τ hi hk hA
      have : i = n := by omega
      subst this
      exact bX9_drawOrders_4 u τ _ _ (cs_ (fun _ => H τ hk hA) (fun c => absurd (by rw [hk 3 (by decide), hr.2.1]; exact Int32.le_refl _) c))
    | succ d ih =>
      intro i τ hi hk hA
      refine bX9_drawOrders_4 u τ _ _ (cs_ (fun c => absurd c (by rw [hk 3 (by decide), hr.2.1, iI_le (by omega) (by omega)]; omega)) (fun _ => ⟨(iI_in (by omega)).mpr (by omega), ?_⟩))
      rw [iI_ix (by omega), iI_succ]
      rintro σ2 e2
      refine ih (i + 1) σ2 (by omega) (by rw [e2]; exact hk.su (by decide)) (fun k hk2 => ?_)
      by_cases q : k = i
      · rw [e2, q, su_same]; rfl
      · rw [e2, su_j _ _ _ q]; exact hA k (by omega)
  exact key n 0 σ (by omega) Ke_.rf (fun k hk => by omega)
/-- nights of the first k on which other orders make another one carry -/
def ev_ (a : St_) (n mn nf nj : Nat) (seed : Int32) : Nat → Nat
  | 0 => 0
  | k + 1 => ev_ a n mn nf nj seed k + (if ca_ a n mn nf (do_ seed) (jh_ a (iI_ k) nj) (iI_ (-1)) (iI_ k) = ct_ a n mn nf nj (iI_ k) then 0 else 1)
theorem ev_bd (a : St_) (n mn nf nj : Nat) (seed : Int32) (k : Nat) : ev_ a n mn nf nj seed k ≤ k := by
  induction k with
  | zero => simp [ev_]
  | succ k ih => unfold ev_; split <;> omega
def q_even (a : St_) (n mn nf nj : Nat) (seed w : Int32) : Int32 := if inr_ w (iI_ 2) = true then (if w = iI_ 1 then ca_ a n mn nf (do_ seed) (jh_ a (lp_ mn (iI_ 9)) nj) (iI_ (-1)) (lp_ mn (iI_ 9)) else iI_ (ev_ a n mn nf nj seed mn)) else iI_ (-2)
theorem x_evenings (u : Ux_) {P : Int32 → St_ → Prop} (a σ : St_) {n mn nf nj : Nat} (hV : Vx_ a n mn nf nj) (hS : Sc_ a σ) (seed w : Int32) (H : ∀ σ', Sc_ a σ' → P (q_even a n mn nf nj seed w) σ') : MMi_ (zx_ u) mX9_evenings [.ref (uq_ u 0), .int seed, .int w] σ P := by
  have h8 := hV.1.1
  have h10 := hV.2.1.1
  refine eX9_evenings u σ seed w (s_within u σ _ _ (nxn (fun h => ?_) (fun h => ?_)))
  · have := H σ hS; simp [q_even, h] at this; exact this
  · simp only [q_even, h, if_true] at H
    refine x_draw u σ (hV.sc hS).1 seed (fun σ1 k1 h1 => ?_)
    have s1 : Sc_ a σ1 := hS.ke k1 (by decide)
    refine ⟨fun c => ?_, fun c => ?_⟩
    · rw [if_neg c] at H
      have key : ∀ (d k : Nat) (τ : St_), k + d = mn → Sc_ a τ → (∀ i, i < n → τ 34 i = do_ seed i) → GG_ (zx_ u) mX9_evenings (Pi_ P) 37 [(0, .ref (uq_ u 0)), (3, .int (iI_ (ev_ a n mn nf nj seed k))), (4, .int (iI_ k))] [] τ := by
        intro d
        induction d with
        | zero =>
          intro k τ hk hs hA
          have : k = mn := by omega
          subst this
          exact bX9_evenings_37 u τ _ _ (cs_ (fun _ => H τ hs) (fun c => absurd (by rw [hs 9 (by omega), hV.2.1.2.1]; exact Int32.le_refl _) c))
        | succ d ih =>
          intro k τ hk hs hA
          refine bX9_evenings_37 u τ _ _ (cs_ (fun c => absurd c (by rw [hs 9 (by omega), hV.2.1.2.1, iI_le (by omega) (by omega)]; omega)) (fun _ => x_asTried u a τ hV hs (do_ seed) hA _ (fun σ2 k2 => x_asTold u a σ2 hV (CH_sc hs k2) _ (fun σ3 k3 _ => ?_))))
          have s3 := CH_sc (CH_sc hs k2) k3
          rw [iI_succ, iI_succ]
          have := ih (k + 1) σ3 (by omega) s3 (fun i hi => by rw [k3 34 (by decide), k2 34 (by decide)]; exact hA i hi)
          rw [ev_] at this
          refine cs_ (fun c => ?_) (fun c => ?_)
          · rw [if_pos c] at this; exact this
          · rw [if_neg c] at this; exact this
      exact key mn 0 σ1 (by omega) s1 h1
    · rw [if_pos c] at H
      exact x_lastPut u σ1 (hV.sc s1).2.1 _ (x_asTried u a σ1 hV s1 (do_ seed) h1 _ (fun σ2 k2 => H σ2 (CH_sc s1 k2)))
/-! write -/
def Lo_ (a b : St_) : Prop := ∀ k, k < 23 → b k = a k
theorem ly_lo {a b : St_} (e : Lo_ a b) (t wo : Int32) (m f : Nat) : ly_ b t wo m f = ly_ a t wo m f := by
  induction f with
  | zero => unfold ly_; rw [e 6 (by omega)]
  | succ f ih => unfold ly_; rw [ih, e 15 (by omega), e 16 (by omega), e 17 (by omega)]
theorem jh_lo {a b : St_} (e : Lo_ a b) (t : Int32) (k : Nat) : jh_ b t k = jh_ a t k := by
  induction k with
  | zero => rfl
  | succ k ih => unfold jh_; rw [ih, e 19 (by omega)]
theorem ps_lo {a b : St_} (e : Lo_ a b) (nf : Nat) (t wo : Int32) : ps_ b nf t wo = ps_ a nf t wo := by
  funext m; unfold ps_; rw [ly_lo e]
theorem ww_lo {a b : St_} (e : Lo_ a b) (t : Nat) : ww_ b t = ww_ a t := by
  funext m; unfold ww_ wg_; rw [e 13 (by omega), e 8 (by omega), e 5 (by omega)]
theorem vv_lo {a b : St_} (e : Lo_ a b) (n nf : Nat) (or : Nat → Int32) (j : Bool) (wo : Int32) (t : Nat) : vv_ b n nf or j wo t = vv_ a n nf or j wo t := by
  funext m; unfold vv_; rw [ps_lo e, e 11 (by omega), e 12 (by omega)]
theorem cx_lo {a b : St_} (e : Lo_ a b) (n nf : Nat) (or : Nat → Int32) (j : Bool) (wo : Int32) (t : Nat) : cx_ b n nf or j wo t = cx_ a n nf or j wo t := by
  unfold cx_; rw [vv_lo e, ww_lo e, ps_lo e, e 11 (by omega), e 12 (by omega)]
theorem ct_lo {a b : St_} (e : Lo_ a b) (n mn nf nj : Nat) (t : Int32) : ct_ b n mn nf nj t = ct_ a n mn nf nj t := by
  unfold ct_ ca_; rw [cx_lo e, e 7 (by omega), jh_lo e]
theorem Vx_.lo {a b : St_} {n mn nf nj : Nat} (h : Vx_ a n mn nf nj) (e : Lo_ a b) : Vx_ b n mn nf nj := by
  unfold Vx_ Wr_ Wm_ Ww_ at *
  rw [e 3 (by omega), e 5 (by omega), e 6 (by omega), e 7 (by omega), e 8 (by omega), e 9 (by omega), e 11 (by omega), e 12 (by omega), e 13 (by omega), e 14 (by omega), e 15 (by omega), e 16 (by omega), e 17 (by omega), e 18 (by omega), e 19 (by omega)]
  exact h
/-- the sheet s with what carries on the first k nights -/
def wrt_ (a : St_) (n mn nf nj s : Nat) : Nat → St_
  | 0 => a
  | k + 1 => su_ (wrt_ a n mn nf nj s k) (41 + s) k (nar_ (a 39 s) (ct_ a n mn nf nj (iI_ k)))
theorem wrt_i (a : St_) (n mn nf nj s k : Nat) {c : Nat} (hc : c ≠ 41 + s) : wrt_ a n mn nf nj s k c = a c := by
  induction k with
  | zero => rfl
  | succ k ih => unfold wrt_; rw [su_i _ _ _ hc]; exact ih
def mi_ (z : Int32) : Nat := if 10 < z.toInt then 10 else z.toInt.toNat
def c_write (a : St_) (n mn nf nj : Nat) (s : Int32) : Int32 × St_ := if inr_ s (iI_ 4) = true then (if a 39 s.toNatClampNeg = iI_ (-1) then fd_ a (iI_ 1) else (iI_ (mi_ (a 40 s.toNatClampNeg)), wrt_ a n mn nf nj s.toNatClampNeg (mi_ (a 40 s.toNatClampNeg)))) else (iI_ (-2), a)
theorem x_write (u : Ux_) {P : Int32 → St_ → Prop} (σ : St_) {n mn nf nj : Nat} (hV : Vx_ σ n mn nf nj) (hs : Ws_ σ) (s : Int32) (H : ∀ σ', Sc_ (c_write σ n mn nf nj s).2 σ' → P (c_write σ n mn nf nj s).1 σ') : MMi_ (zx_ u) mX9_write [.ref (uq_ u 0), .int s] σ P := by
  refine eX9_write u σ s (s_within u σ _ _ (nxn (fun h => ?_) (fun h => ?_)))
  · simp only [c_write, h, Bool.false_eq_true, if_false] at H; exact H σ (fun _ _ => rfl)
  · simp only [c_write, h, if_true] at H
    obtain ⟨t, ht, rfl⟩ := inr_nat h (by decide)
    have ht : t < 4 := by omega
    rw [iI_ix (by omega)] at H ⊢
    have hin : vp_in (iI_ t) 4 := (iI_in (by omega)).mpr (by omega)
    have hz := (hs t ht).2
    refine ⟨hin, fun c => ⟨hin, ?_⟩, fun c => ?_⟩
    · rw [if_neg c] at H
      have em : (if iI_ 10 < σ 40 t then iI_ 10 else σ 40 t) = iI_ (mi_ (σ 40 t)) := by
        unfold mi_
        by_cases q : 10 < (σ 40 t).toInt
        · rw [if_pos (by rw [iI_ltI, t_10]; exact q), if_pos q]; rfl
        · rw [if_neg (by rw [iI_ltI, t_10]; exact q), if_neg q, show (((σ 40 t).toInt.toNat : Nat) : Int) = (σ 40 t).toInt by omega, iI_of]
      have hm : mi_ (σ 40 t) ≤ 10 ∧ (mi_ (σ 40 t) : Int) ≤ (σ 40 t).toInt := by unfold mi_; split <;> omega
      rw [em]
      have key : ∀ (d k : Nat) (τ : St_), k + d = mi_ (σ 40 t) → Sc_ (wrt_ σ n mn nf nj t k) τ → GG_ (zx_ u) mX9_write (Pi_ P) 47 [(0, .ref (uq_ u 0)), (1, .int (iI_ t)), (2, .int (iI_ (mi_ (σ 40 t)))), (3, .int (iI_ k))] [] τ := by
        intro d
        induction d with
        | zero =>
          intro k τ hk hsc
          have : k = mi_ (σ 40 t) := by omega
          subst this
          exact bX9_write_47 u τ _ _ _ (cs_ (fun _ => H τ hsc) (fun c => absurd (Int32.le_refl _) c))
        | succ d ih =>
          intro k τ hk hsc
          have lo : Lo_ σ (wrt_ σ n mn nf nj t k) := fun j hj => wrt_i _ _ _ _ _ _ _ (by omega)
          refine bX9_write_47 u τ _ _ _ (cs_ (fun c => absurd c (by rw [iI_le (by omega) (by omega)]; omega)) (fun _ => ⟨hin, x_asTold u (wrt_ σ n mn nf nj t k) τ (hV.lo lo) hsc _ (fun σ1 k1 _ => ?_)⟩))
          rw [iI_ix (by omega), ct_lo lo]
          have s1 := CH_sc hsc k1
          have e39 : σ1 39 = σ 39 := by rw [s1 39 (by omega), wrt_i _ _ _ _ _ _ _ (by omega)]
          have e40 : σ1 40 = σ 40 := by rw [s1 40 (by omega), wrt_i _ _ _ _ _ _ _ (by omega)]
          refine x_set u ht σ1 _ _ (by rw [e40, iI_toInt (by omega)]; omega) (by rw [e40]; omega) ?_
          rw [iI_ix (by omega), e39, iI_succ]
          refine ih (k + 1) _ (by omega) (fun c hc => ?_)
          by_cases q : c = 41 + t
          · subst q
            unfold wrt_
            unfold su_
            simp only [if_pos]
            rw [s1 (41 + t) (by omega)]
          · rw [su_i _ _ _ q, s1 c hc, wrt_, su_i _ _ _ q]
      exact key (mi_ (σ 40 t)) 0 σ (by omega) (fun _ _ => rfl)
    · rw [if_pos c] at H
      exact s_found u σ _ (H _ (fun _ _ => rfl))
