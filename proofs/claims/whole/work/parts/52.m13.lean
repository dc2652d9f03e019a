/-! ===== the reference: jars by chance; digest ===== -/
def sm_ (f : Nat → Nat) : Nat → Nat
  | 0 => 0
  | k + 1 => sm_ f k + f k
theorem sm_cg {f g : Nat → Nat} : ∀ n, (∀ s, s < n → f s = g s) → sm_ f n = sm_ g n := by
  intro n
  induction n with
  | zero => intro _; rfl
  | succ n ih => intro h; unfold sm_; rw [ih (fun s hs => h s (by omega)), h n (by omega)]
theorem sm_add (f : Nat → Nat) (x : Nat) : ∀ y, sm_ f (x + y) = sm_ f x + sm_ (fun s => f (x + s)) y := by
  intro y
  induction y with
  | zero => rfl
  | succ y ih =>
    show sm_ f (x + y) + f (x + y) = sm_ f x + (sm_ (fun s => f (x + s)) y + f (x + y))
    rw [ih, Nat.add_assoc]
theorem sm_mul (f : Nat → Nat) (c : Nat) : ∀ n, sm_ (fun s => f s * c) n = sm_ f n * c := by
  intro n
  induction n with
  | zero => unfold sm_; rw [Nat.zero_mul]
  | succ n ih => unfold sm_; rw [ih, Nat.add_mul]
theorem smz_ : ∀ n, sm_ (fun _ => 0) n = 0 := by
  intro n
  induction n with
  | zero => rfl
  | succ n ih => unfold sm_; rw [ih]
/-- the weight of a set of jars, in sixteenths a night, over its first nights -/
def wt_ (c S : Nat) : Nat → Nat
  | 0 => 1
  | k + 1 => wt_ c S k * (if S.testBit k = true then c else 16 - c)
theorem wt_bd {c : Nat} (hc : c ≤ 16) (S : Nat) : ∀ k, wt_ c S k ≤ 16 ^ k := by
  intro k
  induction k with
  | zero => exact Nat.le_refl _
  | succ k ih =>
    unfold wt_
    rw [Nat.pow_succ]
    exact Nat.mul_le_mul ih (by split <;> omega)
theorem wt_low (c : Nat) (S L : Nat) : ∀ k, k ≤ L → wt_ c (2 ^ L + S) k = wt_ c S k := by
  intro k
  induction k with
  | zero => intro _; rfl
  | succ k ih => intro hk; unfold wt_; rw [ih (by omega), tb_low (by omega)]
/-- sums over all sets of L nights, split by the last night -/
theorem sm_half (c L : Nat) (f : Nat → Nat → Nat) (hlo : ∀ S, S < 2 ^ L → f (L + 1) S = f L S * (16 - c)) (hhi : ∀ S, S < 2 ^ L → f (L + 1) (2 ^ L + S) = f L S * c) (hc : c ≤ 16) : sm_ (f (L + 1)) (2 ^ (L + 1)) = sm_ (f L) (2 ^ L) * 16 := by
  rw [Nat.pow_succ, Nat.mul_two, sm_add, sm_cg (g := fun S => f L S * (16 - c)) _ hlo, sm_cg (f := fun s => f (L + 1) (2 ^ L + s)) (g := fun S => f L S * c) _ hhi, sm_mul, sm_mul, ← Nat.mul_add]
  congr 1; omega
theorem wt_lo {c L S : Nat} (h : S < 2 ^ L) : wt_ c S (L + 1) = wt_ c S L * (16 - c) := by
  rw [wt_, tb_lt h, if_neg (by decide)]
theorem wt_hi {c L S : Nat} (h : S < 2 ^ L) : wt_ c (2 ^ L + S) (L + 1) = wt_ c S L * c := by
  rw [wt_, tb_add h, if_pos rfl, wt_low c S L L (by omega)]
theorem wt_all {c : Nat} (hc : c ≤ 16) : ∀ L, sm_ (fun S => wt_ c S L) (2 ^ L) = 16 ^ L := by
  intro L
  induction L with
  | zero => rfl
  | succ L ih =>
    have := sm_half c L (fun L S => wt_ c S L) (fun S hS => wt_lo hS) (fun S hS => wt_hi hS) hc
    rw [this, ih, Nat.pow_succ]
/-- the weight of the sets whose night l is as p asks -/
def wsl_ (p : Bool → Bool) (l c L S : Nat) : Nat := if p (S.testBit l) = true then wt_ c S L else 0
def wz_ (p : Bool → Bool) (l c L : Nat) : Nat := (if p true = true then (if l < L then c * 16 ^ (L - 1) else 0) else 0) + (if p false = true then (if l < L then (16 - c) * 16 ^ (L - 1) else 16 ^ L) else 0)
theorem wsl_sum {c : Nat} (hc : c ≤ 16) (p : Bool → Bool) (l : Nat) : ∀ L, sm_ (wsl_ p l c L) (2 ^ L) = wz_ p l c L := by
  intro L
  induction L with
  | zero =>
    show sm_ (wsl_ p l c 0) 1 = _
    unfold sm_ sm_ wsl_ wz_
    rw [Nat.zero_testBit]
    simp only [Nat.not_lt_zero, if_false]
    cases p true <;> cases p false <;> rfl
  | succ L ih =>
    rcases Nat.lt_trichotomy l L with h | h | h
    · have := sm_half c L (fun L S => wsl_ p l c L S) (fun S hS => by
        unfold wsl_
        split
        · exact wt_lo hS
        · rw [Nat.zero_mul]) (fun S hS => by
        unfold wsl_
        rw [tb_low h]
        split
        · exact wt_hi hS
        · rw [Nat.zero_mul]) hc
      show sm_ (fun S => wsl_ p l c (L + 1) S) _ = _
      rw [this]
      show sm_ (wsl_ p l c L) _ * 16 = _
      rw [ih]
      unfold wz_
      rw [if_pos h, if_pos h, if_pos (show l < L + 1 by omega), if_pos (show l < L + 1 by omega), Nat.add_mul]
      have e : 16 ^ (L + 1 - 1) = 16 ^ (L - 1) * 16 := by
        rw [← Nat.pow_succ]; congr 1; omega
      rw [e]
      congr 1
      · split
        · rw [Nat.mul_assoc]
        · rfl
      · split
        · rw [Nat.mul_assoc]
        · rfl
    · subst h
      rw [Nat.pow_succ, Nat.mul_two, sm_add]
      have e1 : sm_ (wsl_ p l c (l + 1)) (2 ^ l) = if p false = true then 16 ^ l * (16 - c) else 0 := by
        by_cases q : p false = true
        · rw [if_pos q, ← wt_all hc l, ← sm_mul]
          refine sm_cg _ (fun S hS => ?_)
          unfold wsl_; rw [tb_lt hS, if_pos q]; exact wt_lo hS
        · rw [if_neg q, ← smz_ (2 ^ l)]
          refine sm_cg _ (fun S hS => ?_)
          unfold wsl_; rw [tb_lt hS, if_neg q]
      have e2 : sm_ (fun s => wsl_ p l c (l + 1) (2 ^ l + s)) (2 ^ l) = if p true = true then 16 ^ l * c else 0 := by
        by_cases q : p true = true
        · rw [if_pos q, ← wt_all hc l, ← sm_mul]
          refine sm_cg _ (fun S hS => ?_)
          unfold wsl_; rw [tb_add hS, if_pos q]; exact wt_hi hS
        · rw [if_neg q, ← smz_ (2 ^ l)]
          refine sm_cg _ (fun S hS => ?_)
          unfold wsl_; rw [tb_add hS, if_neg q]
      rw [e1, e2, Nat.add_comm]
      unfold wz_
      rw [if_pos (show l < l + 1 by omega), if_pos (show l < l + 1 by omega), show l + 1 - 1 = l by omega, Nat.mul_comm c, Nat.mul_comm (16 - c)]
    · have hz : ∀ S, S < 2 ^ (L + 1) → S.testBit l = false := fun S hS => tb_lt (Nat.lt_of_lt_of_le hS (Nat.pow_le_pow_right (by decide) (by omega)))
      unfold wz_
      rw [if_neg (show ¬ l < L + 1 by omega), if_neg (show ¬ l < L + 1 by omega)]
      have e1 : (if p true = true then 0 else 0) = 0 := by split <;> rfl
      rw [e1, Nat.zero_add]
      by_cases q : p false = true
      · rw [if_pos q, ← wt_all hc (L + 1)]
        refine sm_cg _ (fun S hS => ?_)
        unfold wsl_; rw [hz S hS, if_pos q]
      · rw [if_neg q, ← smz_ (2 ^ (L + 1))]
        refine sm_cg _ (fun S hS => ?_)
        unfold wsl_; rw [hz S hS, if_neg q]
theorem lw_mul {t b k : Nat} (hk : 0 < k) (w : Int32) : lw_ (t * k) (b * k) w = lw_ t b w := by
  unfold lw_
  rw [Nat.gcd_mul_right, Nat.mul_div_mul_right _ _ hk, Nat.mul_div_mul_right _ _ hk]
theorem shl16 : ∀ l : Fin 10, iL_ 1 <<< (Int32.toInt64 (iI_ 4 * (iI_ (l.val : Nat) + iI_ 1)) &&& 63) = iL_ (16 ^ (l.val + 1) : Nat) := by decide +kernel
theorem m_ajarOf (u : Ux_) {P : Int64 → St_ → Prop} (a σ : St_) {n mn nf nj : Nat} (hV : Vx_ a n mn nf nj) (hW : Wt_ a) (hR : Rm_ a σ) (c last one night w : Int32) (hc : inr_ c (iI_ 17) = true) (hl : inr_ last (iI_ 10) = true) (ho : inr_ one (iI_ 3) = true) (ht : inr_ night (iI_ 10) = true) (hw : inr_ w (iI_ 2) = true) (H : ∀ σ', Mk_ σ σ' → P (q_ajar a n mn nf c last one night w) σ') : MMl_ (zm_ u) mX10_ajarOf [.ref (uq_ u 0), .int c, .int last, .int one, .int night, .int w] σ P := by
  have h8 := hV.1.1
  have h10 := hV.2.1.1
  have f8 := hV.2.2.1.1
  unfold q_ajar at H
  rw [if_pos ⟨hc, hl, ho, ht, hw⟩] at H
  obtain ⟨c, hc2, rfl⟩ := inr_nat hc (by decide)
  obtain ⟨l, hl2, rfl⟩ := inr_nat hl (by decide)
  obtain ⟨t, ht2, rfl⟩ := inr_nat ht (by decide)
  have hc16 : c ≤ 16 := by omega
  have hl10 : l < 10 := by omega
  have ht10 : t < 10 := by omega
  have hp : (2 : Nat) ^ (l + 1) ≤ 2 ^ 10 := Nat.pow_le_pow_right (by decide) (by omega)
  have hp0 : 0 < (2 : Nat) ^ (l + 1) := Nat.two_pow_pos (l + 1)
  have h16 : (16 : Nat) ^ l ≤ 16 ^ 9 := Nat.pow_le_pow_right (by decide) (by omega)
  have h160 : 0 < (16 : Nat) ^ l := Nat.pow_pos (by decide)
  -- the night that tells
  let L : Nat := if mn - 1 < t then mn - 1 else t
  let p : Bool → Bool := fun J => decide (ca_ a n mn nf (a 7) J (iI_ (-1)) (lp_ mn (iI_ t)) = one)
  have hsx : wz_ p L c (l + 1) = sx_ a n mn nf (iI_ c) (iI_ l) one (iI_ t) * 16 ^ l := by
    unfold wz_ sx_
    rw [show l + 1 - 1 = l by omega, iI_toInt (by omega), iI_toInt (by omega), show ((c : Nat) : Int).toNat = c by omega]
    have e16 : 16 ^ (l + 1) = 16 * 16 ^ l := by rw [Nat.pow_succ, Nat.mul_comm]
    by_cases hm : 0 < mn
    · have el : (lp_ mn (iI_ t)).toInt = (L : Int) := by
        unfold lp_
        rw [iI_toInt (by omega)]
        show _ = ((if mn - 1 < t then mn - 1 else t : Nat) : Int)
        by_cases q : mn - 1 < t
        · rw [if_pos (by omega), if_pos q, iI_toInt (by omega)]; omega
        · rw [if_neg (by omega), if_neg q, iI_toInt (by omega)]
      rw [el, Nat.add_mul]
      by_cases q : L < l + 1
      · rw [if_pos q, if_pos q, if_neg (show ¬ ((l : Nat) : Int) < ((L : Nat) : Int) by omega)]
        congr 1
        · by_cases z : ca_ a n mn nf (a 7) true (iI_ (-1)) (lp_ mn (iI_ t)) = one
          · rw [if_pos (decide_eq_true z), if_pos z]
          · rw [if_neg (by rw [show p true = false from decide_eq_false z]; decide), if_neg z, Nat.zero_mul]
        · by_cases z : ca_ a n mn nf (a 7) false (iI_ (-1)) (lp_ mn (iI_ t)) = one
          · rw [if_pos (decide_eq_true z), if_pos z]
          · rw [if_neg (by rw [show p false = false from decide_eq_false z]; decide), if_neg z, Nat.zero_mul]
      · rw [if_neg q, if_neg q, if_pos (show ((l : Nat) : Int) < ((L : Nat) : Int) by omega), e16, Nat.sub_zero]
        congr 1
        · by_cases z : ca_ a n mn nf (a 7) true (iI_ (-1)) (lp_ mn (iI_ t)) = one
          · rw [if_pos (decide_eq_true z), if_pos z, Nat.zero_mul]
          · rw [if_neg (by rw [show p true = false from decide_eq_false z]; decide), if_neg z, Nat.zero_mul]
        · by_cases z : ca_ a n mn nf (a 7) false (iI_ (-1)) (lp_ mn (iI_ t)) = one
          · rw [if_pos (decide_eq_true z), if_pos z]
          · rw [if_neg (by rw [show p false = false from decide_eq_false z]; decide), if_neg z, Nat.zero_mul]
    · have no : ∀ J, ¬ ca_ a n mn nf (a 7) J (iI_ (-1)) (lp_ mn (iI_ t)) = one := fun J e => by
        rw [ca_, if_neg] at e
        · rw [← e] at ho; exact absurd ho (by decide)
        · rintro ⟨-, q⟩
          rw [inr_t, iI_toInt (by omega)] at q
          omega
      rw [if_neg (by rw [show p true = false from decide_eq_false (no true)]; decide), if_neg (by rw [show p false = false from decide_eq_false (no false)]; decide), if_neg (no true), if_neg (no false), Nat.zero_mul]
  have hsxb : sx_ a n mn nf (iI_ c) (iI_ l) one (iI_ t) ≤ 32 := by
    unfold sx_
    rw [iI_toInt (by omega), iI_toInt (by omega), show ((c : Nat) : Int).toNat = c by omega]
    split <;> split <;> first | omega | (split <;> omega)
  refine eX10_ajarOf u σ _ _ _ _ _ (m_asTold u a σ hV hW hR (fun σ1 k1 r1 g1 => ?_))
  have key : ∀ (d S : Nat) (τ : St_), S + d = 2 ^ (l + 1) → Ke_ [17, 18, 19, 20, 21, 23, 26, 27, 28, 29, 30, 31] σ1 τ → GG_ (zm_ u) mX10_ajarOf (Pl_ P) 10 [(0, .ref (uq_ u 0)), (1, .int (iI_ c)), (2, .int (iI_ l)), (3, .int one), (4, .int (iI_ t)), (5, .int w), (6, .long (iL_ (sm_ (wsl_ p L c (l + 1)) S))), (8, .int (iI_ S))] [] τ := by
    intro d
    induction d with
    | zero =>
      intro S τ hS ke
      have : S = 2 ^ (l + 1) := by omega
      subst this
      have mk : Mk_ σ τ := (Mk_.ke k1 (by decide)).tr (Mk_.ke ke (by decide))
      refine bX10_ajarOf_10 u τ _ _ _ _ _ _ _ (cs_ (fun _ => ?_) (fun q => absurd (by rw [iI_succ, pow_n (l + 1) (by omega)]; exact Int32.le_refl _) q))
      have hm : sx_ a n mn nf (iI_ c) (iI_ l) one (iI_ t) * 16 ^ l ≤ 32 * 16 ^ 9 := Nat.mul_le_mul hsxb h16
      have e16 : (16 : Nat) ^ (l + 1) = 16 * 16 ^ l := by rw [Nat.pow_succ, Nat.mul_comm]
      rw [shl16 ⟨l, hl10⟩, wsl_sum hc16, hsx]
      refine m_lowest u τ _ _ w (by omega) (by simp only; omega) (by simp only; omega) ?_
      show P (lw_ (sx_ a n mn nf (iI_ c) (iI_ l) one (iI_ t) * 16 ^ l) (16 ^ (l + 1)) w) τ
      rw [e16, lw_mul h160]
      exact H τ mk
    | succ d ih =>
      intro S τ hS ke
      have mk : Mk_ σ τ := (Mk_.ke k1 (by decide)).tr (Mk_.ke ke (by decide))
      refine bX10_ajarOf_10 u τ _ _ _ _ _ _ _ (cs_ (fun q => absurd q (by rw [iI_succ, pow_n (l + 1) (by omega), iI_le (by omega) (by omega)]; omega)) (fun _ => ?_))
      have weigh : ∀ e i : Nat, i + e = l + 1 → GG_ (zm_ u) mX10_ajarOf (Pl_ P) 26 [(0, .ref (uq_ u 0)), (1, .int (iI_ c)), (2, .int (iI_ l)), (3, .int one), (4, .int (iI_ t)), (5, .int w), (6, .long (iL_ (sm_ (wsl_ p L c (l + 1)) S))), (8, .int (iI_ S)), (9, .long (iL_ (wt_ c S i))), (11, .int (iI_ i))] [] τ := by
        intro e
        induction e with
        | zero =>
          intro i hi
          have : i = l + 1 := by omega
          subst this
          have wb := wt_bd hc16 S (l + 1)
          have e16 : (16 : Nat) ^ (l + 1) = 16 * 16 ^ l := by rw [Nat.pow_succ, Nat.mul_comm]
          refine bX10_ajarOf_26 u τ _ _ _ _ _ _ _ _ _ (cs_ (fun _ => ?_) (fun q => absurd (by rw [iI_lt (by omega) (by omega)]; omega) q))
          have hcmp : lg_cmp (iL_ (wt_ c S (l + 1))) (iL_ 0) ≤ iI_ 0 ↔ wt_ c S (l + 1) = 0 := by
            show lg_cmp (iL_ (wt_ c S (l + 1))) (iL_ 0) ≤ 0 ↔ _
            rw [lg_cmp_le, Int64.le_iff_toInt_le, iL_toInt (by omega), iL_toInt (by omega)]; omega
          rw [hcmp]
          refine cs_ (fun q => ?_) (fun q => fun σ3 e3 => ?_)
          · have nx := ih (S + 1) τ (by omega) ke
            have ez : wsl_ p L c (l + 1) S = 0 := by unfold wsl_; rw [q]; split <;> rfl
            unfold sm_ at nx
            rw [ez] at nx
            rw [iI_succ]; exact nx
          · have ke3 : Ke_ [17, 18, 19, 20, 21, 23, 26, 27, 28, 29, 30, 31] σ1 σ3 := by rw [e3]; exact ke.su (by decide)
            have mk3 : Mk_ σ σ3 := (Mk_.ke k1 (by decide)).tr (Mk_.ke ke3 (by decide))
            have hg : Sg_ σ3 n nf (fun _ => false) (fun t => S.testBit t) (iI_ (-1)) (fun _ => false) := by
              refine ⟨fun i hi => by rw [ke3 22 (by decide)]; exact g1.1 i hi, fun t ht => ?_, by rw [ke3 24 (by decide)]; exact g1.2.2.1, fun i hi => by rw [ke3 25 (by decide)]; exact g1.2.2.2 i hi⟩
              rw [e3, su_same, bt_nat, decide_eq_true (show t < 32 by omega), Bool.true_and]
            refine m_runs u a σ3 hV (hR.mk mk3) hV.o6 (r1.ro.ke (fun i hi => ke3 i (by simp; omega))) hg (fun σ4 k4 n4 => ?_)
            have n4 := n4.pos (pos' := fun t => ps_ a nf (iI_ t) (iI_ (-1))) (fun t ht => by
              funext q
              exact lR_ps hV.2.2.1.2.2 (fun i hi => by rw [decide_eq_false]; rw [iI_eq (by omega) (by omega)]; omega) t ht (fun t' ht' => by rw [iI_eq (by omega) (by omega)]; omega))
            have ke4 : Ke_ [17, 18, 19, 20, 21, 23, 26, 27, 28, 29, 30, 31] σ1 σ4 := ke3.tr (k4.up (by decide))
            refine m_houseNow u σ4 n4.2.1 ht10 ?_
            rw [hN_ca hV (a 7) (iI_ (-1)) _ ht10 (J := S.testBit L) (fun _ => rfl)]
            have nx := ih (S + 1) σ4 (by omega) ke4
            unfold sm_ at nx
            rw [iI_succ, iL_add, iL_add]
            refine ⟨fun z => ?_, fun z => ?_⟩
            · have ez : wsl_ p L c (l + 1) S = 0 := by
                unfold wsl_
                rw [if_neg (by rw [show p (S.testBit L) = false from decide_eq_false z]; decide)]
              rw [ez] at nx; exact nx
            · have ez : wsl_ p L c (l + 1) S = wt_ c S (l + 1) := by
                unfold wsl_
                rw [if_pos (decide_eq_true z)]
              rw [ez] at nx; exact nx
        | succ e ih2 =>
          intro i hi
          refine bX10_ajarOf_26 u τ _ _ _ _ _ _ _ _ _ (cs_ (fun q => absurd q (by rw [iI_lt (by omega) (by omega)]; omega)) (fun _ => m_isIn u τ _ (by omega) ?_))
          rw [bt_nat, decide_eq_true (show i < 32 by omega), Bool.true_and, iI_sub, iI_L (by omega), iI_L (by omega), iL_mul, iL_mul, iI_succ]
          have nx := ih2 (i + 1) (by omega)
          unfold wt_ at nx
          refine nxb (fun h => ?_) (fun h => ?_)
          · rw [if_neg (by rw [h]; decide), Int.natCast_mul, show ((16 - c : Nat) : Int) = 16 - (c : Nat) by omega] at nx; exact nx
          · rw [if_pos h, Int.natCast_mul] at nx; exact nx
      exact weigh (l + 1) 0 (by omega)
  exact key (2 ^ (l + 1)) 0 σ1 (by omega) Ke_.rf
theorem m_ajar (u : Ux_) {P : Int64 → St_ → Prop} (a σ : St_) {n mn nf nj : Nat} (hV : Vx_ a n mn nf nj) (hW : Wt_ a) (hR : Rm_ a σ) (c last one night w : Int32) (H : ∀ σ', Mk_ σ σ' → P (q_ajar a n mn nf c last one night w) σ') : MMl_ (zm_ u) mX10_ajar [.ref (uq_ u 0), .int c, .int last, .int one, .int night, .int w] σ P := by
  have H0 := H σ Mk_.rf
  refine eX10_ajar u σ _ _ _ _ _ (m_in u σ _ _ _ ?_)
  rw [ini_inr c 16 (by decide)]
  simp only [show (16 : Int) + 1 = 17 from rfl]
  refine nxb (fun h => m_no u σ ?_) (fun h => m_in u σ _ _ _ ?_)
  · rw [q_ajar, if_neg (by simp [h])] at H0; exact H0
  rw [ini_inr last 9 (by decide)]
  simp only [show (9 : Int) + 1 = 10 from rfl]
  refine nxb (fun h2 => m_no u σ ?_) (fun h2 => m_in u σ _ _ _ ?_)
  · rw [q_ajar, if_neg (by simp [h2])] at H0; exact H0
  rw [ini_inr one 2 (by decide)]
  simp only [show (2 : Int) + 1 = 3 from rfl]
  refine nxb (fun h3 => m_no u σ ?_) (fun h3 => m_isNight u σ _ (nxb (fun h4 => m_no u σ ?_) (fun h4 => m_in u σ _ _ _ ?_)))
  · rw [q_ajar, if_neg (by simp [h3])] at H0; exact H0
  · rw [q_ajar, if_neg (by simp [h4])] at H0; exact H0
  rw [ini_inr w 1 (by decide)]
  simp only [show (1 : Int) + 1 = 2 from rfl]
  refine nxb (fun h5 => m_no u σ ?_) (fun h5 => m_ajarOf u a σ hV hW hR c last one night w h h2 h3 h4 h5 H)
  rw [q_ajar, if_neg (by simp [h5])] at H0; exact H0
/-! digest -/
theorem inr_lit {k m : Nat} (h : k < m) (hm : m < 1000) : inr_ (iI_ k) (iI_ m) = true := (inr_n (by omega) (by omega)).mpr h
theorem m_nightsDigest (u : Ux_) {P : Int64 → St_ → Prop} (a σ : St_) {n mn nf nj : Nat} (hV : Vx_ a n mn nf nj) (hW : Wt_ a) (hR : Rm_ a σ) (h : Int64) {t m : Nat} (ht : t < 10) (hm : m < n) (H : ∀ σ', Mk_ σ σ' → Rd_ a σ' n mn → P (dgn_ a n mn nf nj m h t) σ') : MMl_ (zm_ u) mX10_nightsDigest [.ref (uq_ u 0), .long h, .int (iI_ t), .int (iI_ m)] σ P := by
  have h8 := hV.1.1
  have hmi : inr_ (iI_ m) (a 3 0) = true := by rw [hV.1.2.1]; exact inr_lit hm (by omega)
  refine eX10_nightsDigest u σ _ _ _ ?_
  have key : ∀ (d w : Nat) (τ : St_), w + d = 3 → Mk_ σ τ → GG_ (zm_ u) mX10_nightsDigest (Pl_ P) 6 [(0, .ref (uq_ u 0)), (3, .int (iI_ t)), (4, .int (iI_ m)), (5, .long (dgl_ (fun w => q_lies a n mn nf nj (iI_ t) (iI_ m) (iI_ w)) h w)), (7, .int (iI_ w))] [] τ := by
    intro d
    induction d with
    | zero =>
      intro w τ hw mk
      have : w = 3 := by omega
      subst this
      exact bX10_nightsDigest_6 u τ _ _ _ _ (cs_ (fun _ => m_shamOf u a τ hV hW (hR.mk mk) _ _ (inr_lit (m := 10) ht (by omega)) hmi (fun σ1 k1 r1 => H σ1 (mk.tr k1) r1)) (fun c => absurd (by decide) c))
    | succ d ih =>
      intro w τ hw mk
      refine bX10_nightsDigest_6 u τ _ _ _ _ (cs_ (fun c => absurd c (by rw [iI_le (by omega) (by omega)]; omega)) (fun _ => m_liesOf u a τ hV hW (hR.mk mk) _ _ _ (inr_lit (m := 10) ht (by omega)) hmi (inr_lit (m := 3) (by omega) (by omega)) (fun σ1 k1 r1 => ?_)))
      rw [iI_succ]
      exact ih (w + 1) σ1 (by omega) (mk.tr k1)
  exact key 3 0 σ (by omega) Mk_.rf
theorem m_memberDigest (u : Ux_) {P : Int64 → St_ → Prop} (a σ : St_) {n mn nf nj ns : Nat} (hV : Vx_ a n mn nf nj) (hN : Vs_ a ns) (hW : Wt_ a) (hR : Rm_ a σ) (hd : Rd_ a σ n mn) (h : Int64) {m : Nat} (hm : m < n) (H : ∀ σ', Mk_ σ σ' → Rd_ a σ' n mn → P (dgm_ a n mn nf nj ns h m) σ') : MMl_ (zm_ u) mX10_memberDigest [.ref (uq_ u 0), .long h, .int (iI_ m)] σ P := by
  have h8 := hV.1.1
  have hmi : inr_ (iI_ m) (a 3 0) = true := by rw [hV.1.2.1]; exact inr_lit hm (by omega)
  have ep : ∀ w : Int32, inr_ w (iI_ 2) = true → q_power a n (iI_ m) w = lw_ (tu_ a n m (2 ^ n)) (fac_ n) w := fun w hw => by
    rw [q_power, if_pos ⟨hmi, hw⟩, iI_ix (by omega)]
  refine eX10_memberDigest u σ _ _ ?_
  have key : ∀ d w : Nat, w + d = 5 → GG_ (zm_ u) mX10_memberDigest (Pl_ P) 6 [(0, .ref (uq_ u 0)), (3, .int (iI_ m)), (4, .long (dgl_ (fun w => q_member a (iI_ m) (iI_ w)) h w)), (6, .int (iI_ w))] [] σ := by
    intro d
    induction d with
    | zero =>
      intro w hw
      have : w = 5 := by omega
      subst this
      refine bX10_memberDigest_6 u σ _ _ _ (cs_ (fun _ => ?_) (fun c => absurd (by decide) c))
      refine m_nightsDigest u a σ hV hW hR _ (t := 0) (by omega) hm (fun σ1 k1 _ => m_nightsDigest u a σ1 hV hW (hR.mk k1) _ (t := 4) (by omega) hm (fun σ2 k2 _ => m_nightsDigest u a σ2 hV hW (hR.mk (k1.tr k2)) _ (t := 9) (by omega) hm (fun σ3 k3 r3 => ?_)))
      have mk3 := (k1.tr k2).tr k3
      refine m_powerOf u a σ3 hV (hR.mk mk3) r3 hm (iI_ 0) (m_powerOf u a σ3 hV (hR.mk mk3) r3 hm (iI_ 1) (m_wouldBy u a σ3 hV hN hW (hR.mk mk3) hm (fun σ4 k4 _ _ => m_askOf u a σ4 hV hN hW (hR.mk (mk3.tr k4)) hm (fun σ5 k5 r5 => ?_))))
      have := H σ5 ((mk3.tr k4).tr k5) r5
      unfold dgm_ at this
      rw [ep _ (by decide), ep _ (by decide)] at this
      exact this
    | succ d ih =>
      intro w hw
      refine bX10_memberDigest_6 u σ _ _ _ (cs_ (fun c => absurd c (by rw [iI_le (by omega) (by omega)]; omega)) (fun _ => m_memberOf u a σ hV.1 hd _ _ hmi (inr_lit (m := 5) (by omega) (by omega)) ?_))
      rw [iI_succ]
      exact ih (w + 1) (by omega)
  exact key 5 0 (by omega)
theorem m_nightDigest (u : Ux_) {P : Int64 → St_ → Prop} (a σ : St_) {n mn nf nj : Nat} (hV : Vx_ a n mn nf nj) (hW : Wt_ a) (hR : Rm_ a σ) (h : Int64) {t : Nat} (ht : t < 10) (H : ∀ σ', Mk_ σ σ' → P (dgt_ a n mn nf nj h t) σ') : MMl_ (zm_ u) mX10_nightDigest [.ref (uq_ u 0), .long h, .int (iI_ t)] σ P := by
  have hti : inr_ (iI_ t) (iI_ 10) = true := inr_lit (m := 10) ht (by omega)
  refine eX10_nightDigest u σ _ _ ?_
  have votes : ∀ (d w : Nat) (τ : St_), w + d = 4 → Mk_ σ τ → GG_ (zm_ u) mX10_nightDigest (Pl_ P) 38 [(0, .ref (uq_ u 0)), (3, .int (iI_ t)), (4, .long (dgl_ (fun w => q_vote a n mn nf nj (iI_ t) (iI_ w)) (dgl_ (fun w => q_motion a (iI_ t) (iI_ w)) h 3) w)), (6, .int (iI_ w))] [] τ := by
    intro d
    induction d with
    | zero =>
      intro w τ hw mk
      have : w = 4 := by omega
      subst this
      refine bX10_nightDigest_38 u τ _ _ _ (cs_ (fun _ => ?_) (fun c => absurd (by decide) c))
      refine m_houseOf u a τ hV hW (hR.mk mk) _ hti (fun σ1 k1 _ => m_liftBy u a σ1 hV hW (hR.mk (mk.tr k1)) _ hti (fun σ2 k2 _ p0 p1 => m_ofRow u a σ2 _ _ hti (by decide) p0 p1 ?_))
      have := H σ2 ((mk.tr k1).tr k2)
      unfold dgt_ at this
      rw [show q_lift a n mn nf nj (iI_ t) (iI_ (-1)) = iI_ (lq_ a n mn nf nj (iI_ t)).1 by rw [q_lift, if_pos ⟨hti, by decide⟩, if_pos rfl]] at this
      exact this
    | succ d ih =>
      intro w τ hw mk
      refine bX10_nightDigest_38 u τ _ _ _ (cs_ (fun c => absurd c (by rw [iI_le (by omega) (by omega)]; omega)) (fun _ => m_voteOf u a τ hV hW (hR.mk mk) _ _ hti (inr_lit (m := 4) (by omega) (by omega)) (fun σ1 k1 _ => ?_)))
      rw [iI_succ]
      exact ih (w + 1) σ1 (by omega) (mk.tr k1)
  have motions : ∀ (d w : Nat) (τ : St_), w + d = 3 → Mk_ σ τ → GG_ (zm_ u) mX10_nightDigest (Pl_ P) 6 [(0, .ref (uq_ u 0)), (3, .int (iI_ t)), (4, .long (dgl_ (fun w => q_motion a (iI_ t) (iI_ w)) h w)), (6, .int (iI_ w))] [] τ := by
    intro d
    induction d with
    | zero =>
      intro w τ hw mk
      have : w = 3 := by omega
      subst this
      exact bX10_nightDigest_6 u τ _ _ _ (cs_ (fun _ => votes 4 0 τ (by omega) mk) (fun c => absurd (by decide) c))
    | succ d ih =>
      intro w τ hw mk
      refine bX10_nightDigest_6 u τ _ _ _ (cs_ (fun c => absurd c (by rw [iI_le (by omega) (by omega)]; omega)) (fun _ => m_motionOf u a τ hV hW (hR.mk mk) _ _ hti (inr_lit (m := 3) (by omega) (by omega)) (fun σ1 k1 _ => ?_)))
      rw [iI_succ]
      exact ih (w + 1) σ1 (by omega) (mk.tr (Mk_.ke k1 (by decide)))
  exact motions 3 0 σ (by omega) Mk_.rf
theorem m_digest (u : Ux_) {P : Int64 → St_ → Prop} (a σ : St_) {n mn nf nj ns : Nat} (hV : Vx_ a n mn nf nj) (hN : Vs_ a ns) (hW : Wt_ a) (hR : Rm_ a σ) (H : ∀ σ', Mk_ σ σ' → P (q_digest a n mn nf nj ns) σ') : MMl_ (zm_ u) mX10_digest [.ref (uq_ u 0)] σ P := by
  have h8 := hV.1.1
  refine eX10_digest u σ ?_
  have ends : ∀ (hb : Int64) (d o : Nat) (τ : St_), q_digest a n mn nf nj ns = dgp_ a n mn nf nj ns hb → o + d = 3 → Mk_ σ τ → GG_ (zm_ u) mX10_digest (Pl_ P) 127 [(0, .ref (uq_ u 0)), (1, .long (dgl_ (fun o => q_agenda a n (iI_ o)) (hh_ (hh_ hb (iI_ (tld_ a n nf nj mn)).toInt64) (iI_ (bst_ (fun m => pls_ a n nf nj m mn) n)).toInt64) o)), (3, .int (iI_ o))] [] τ := by
    intro hb d
    induction d with
    | zero =>
      intro o τ hq ho mk
      have : o = 3 := by omega
      subst this
      refine bX10_digest_127 u τ _ _ (cs_ (fun _ => ?_) (fun c => absurd (by decide) c))
      refine m_ringNow u a τ hV hW (hR.mk mk) (fun σ1 k1 _ => m_neverNow u a σ1 hV hN hW (hR.mk (mk.tr k1)) (fun σ2 k2 _ => ?_))
      have mk2 := (mk.tr k1).tr k2
      refine m_ajarOf u a σ2 hV hW (hR.mk mk2) _ _ _ _ _ (by decide) (by decide) (by decide) (by decide) (by decide) (fun σ3 k3 => m_ajarOf u a σ3 hV hW (hR.mk (mk2.tr k3)) _ _ _ _ _ (by decide) (by decide) (by decide) (by decide) (by decide) (fun σ4 k4 => ?_))
      have mk4 := (mk2.tr k3).tr k4
      refine m_eveningsOf u a σ4 hV hW (hR.mk mk4) _ _ (by decide) (fun σ5 k5 => m_eveningsOf u a σ5 hV hW (hR.mk (mk4.tr k5)) _ _ (by decide) (fun σ6 k6 => ?_))
      have := H σ6 ((mk4.tr k5).tr k6)
      rw [hq] at this
      exact this
    | succ d ih =>
      intro o τ hq ho mk
      refine bX10_digest_127 u τ _ _ (cs_ (fun c => absurd c (by rw [iI_le (by omega) (by omega)]; omega)) (fun _ => m_agendaOf u a τ hV hW (hR.mk mk) _ (inr_lit (m := 3) (by omega) (by omega)) (fun σ1 k1 _ => ?_)))
      rw [iI_succ]
      exact ih (o + 1) σ1 hq (by omega) (mk.tr k1)
  have nights : ∀ (hb : Int64) (d t : Nat) (τ : St_), q_digest a n mn nf nj ns = dgp_ a n mn nf nj ns (dgT_ a n mn nf nj hb 10) → t + d = 10 → Mk_ σ τ → GG_ (zm_ u) mX10_digest (Pl_ P) 82 [(0, .ref (uq_ u 0)), (1, .long (dgT_ a n mn nf nj hb t)), (3, .int (iI_ t))] [] τ := by
    intro hb d
    induction d with
    | zero =>
      intro t τ hq ht mk
      have : t = 10 := by omega
      subst this
      refine bX10_digest_82 u τ _ _ (cs_ (fun _ => ?_) (fun c => absurd (by decide) c))
      exact m_toldNow u a τ hV hW (hR.mk mk) (fun σ1 k1 _ => m_pleasedNow u a σ1 hV hW (hR.mk (mk.tr k1)) (fun σ2 k2 _ => ends _ 3 0 σ2 hq (by omega) ((mk.tr k1).tr k2)))
    | succ d ih =>
      intro t τ hq ht mk
      refine bX10_digest_82 u τ _ _ (cs_ (fun c => absurd c (by rw [iI_le (by omega) (by omega)]; omega)) (fun _ => m_nightDigest u a τ hV hW (hR.mk mk) _ (by omega) (fun σ1 k1 => ?_)))
      rw [iI_succ]
      exact ih (t + 1) σ1 hq (by omega) (mk.tr k1)
  have members : ∀ (hb : Int64) (d m : Nat) (τ : St_), q_digest a n mn nf nj ns = dgp_ a n mn nf nj ns (dgT_ a n mn nf nj (dgM_ a n mn nf nj ns hb n) 10) → m + d = n → Mk_ σ τ → Rd_ a τ n mn → GG_ (zm_ u) mX10_digest (Pl_ P) 59 [(0, .ref (uq_ u 0)), (1, .long (dgM_ a n mn nf nj ns hb m)), (3, .int (iI_ m))] [] τ := by
    intro hb d
    induction d with
    | zero =>
      intro m τ hq hm mk rd
      have : m = n := by omega
      subst this
      exact bX10_digest_59 u τ _ _ (cs_ (fun _ => nights _ 10 0 τ hq (by omega) mk) (fun c => absurd (by rw [rd.1]; exact Int32.le_refl _) c))
    | succ d ih =>
      intro m τ hq hm mk rd
      refine bX10_digest_59 u τ _ _ (cs_ (fun c => absurd c (by rw [rd.1, iI_le (by omega) (by omega)]; omega)) (fun _ => m_memberDigest u a τ hV hN hW (hR.mk mk) rd _ (by omega) (fun σ1 k1 r1 => ?_)))
      rw [iI_succ]
      exact ih (m + 1) σ1 hq (by omega) (mk.tr k1) r1
  have counts : ∀ (d w : Nat) (τ : St_), w + d = 8 → Mk_ σ τ → GG_ (zm_ u) mX10_digest (Pl_ P) 6 [(0, .ref (uq_ u 0)), (1, .long (dgl_ (fun w => q_count a n (iI_ w)) (iL_ 17) w)), (3, .int (iI_ w))] [] τ := by
    intro d
    induction d with
    | zero =>
      intro w τ hw mk
      have : w = 8 := by omega
      subst this
      refine bX10_digest_6 u τ _ _ (cs_ (fun _ => ?_) (fun c => absurd (by decide) c))
      refine m_faultOf u a τ hV hW (hR.mk mk) _ (fun σ1 k1 _ => m_faultOf u a σ1 hV hW (hR.mk (mk.tr (Mk_.ke k1 (by decide)))) _ (fun σ2 k2 r2 => ?_))
      refine members (dgl_ (fun t => q_fault a (iI_ t)) (dgl_ (fun w => q_count a n (iI_ w)) (iL_ 17) 8) 2) n 0 σ2 rfl (by omega) ((mk.tr (Mk_.ke k1 (by decide))).tr (Mk_.ke k2 (by decide))) r2
    | succ d ih =>
      intro w τ hw mk
      refine bX10_digest_6 u τ _ _ (cs_ (fun c => absurd c (by rw [iI_le (by omega) (by omega)]; omega)) (fun _ => m_count u a τ hV hW (hR.mk mk) _ (fun σ1 k1 => ?_)))
      rw [iI_succ]
      exact ih (w + 1) σ1 (by omega) (mk.tr k1)
  exact counts 8 0 σ (by omega) Mk_.rf
