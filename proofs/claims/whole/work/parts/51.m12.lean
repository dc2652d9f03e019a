/-! ===== the reference: evenings, write, fractions, power ===== -/
theorem do_nat (seed : Int32) (m : Nat) : ∃ o : Nat, o < 6 ∧ do_ seed m = iI_ o := by
  have hz := pk_ushr (dr_ seed (m + 1)) (iI_ 16) 16 (by decide)
  unfold do_
  generalize (Int32.toUInt32 (dr_ seed (m + 1)) >>> (Int32.toUInt32 (iI_ 16) &&& Int32.toUInt32 31)).toInt32 = z at hz ⊢
  have hlt := (dr_ seed (m + 1)).toBitVec.isLt
  have hk : z.toBitVec.toNat < 2147483648 := by rw [hz]; omega
  have ez : z = iI_ (z.toBitVec.toNat : Nat) := by
    refine Int32.toBitVec_inj.mp ?_
    show z.toBitVec = BitVec.ofNat 32 z.toBitVec.toNat
    exact BitVec.eq_of_toNat_eq (by rw [BitVec.toNat_ofNat, Nat.mod_eq_of_lt z.toBitVec.isLt])
  generalize z.toBitVec.toNat = k at hk ez
  refine ⟨k % 6, Nat.mod_lt _ (by decide), ?_⟩
  rw [ez]
  exact iI_rem6 hk
theorem do_6 (seed : Int32) (n : Nat) : or6_ n (do_ seed) := fun j _ => by
  obtain ⟨o, ho, eo⟩ := do_nat seed j
  rw [eo, iI_toInt (by omega)]; omega
theorem ev_mn {a : St_} {n mn nf nj : Nat} (hV : Vx_ a n mn nf nj) (seed : Int32) : ∀ d, mn + d ≤ 10 → ev_ a n mn nf nj seed (mn + d) = ev_ a n mn nf nj seed mn := by
  intro d
  induction d with
  | zero => intro _; rfl
  | succ d ih =>
    intro h
    show ev_ a n mn nf nj seed ((mn + d) + 1) = _
    have no : ∀ (or : Nat → Int32) (j : Bool), ca_ a n mn nf or j (iI_ (-1)) (iI_ (mn + d : Nat)) = iI_ (-1) := fun or j => by
      rw [ca_, if_neg]
      rintro ⟨-, q⟩
      have := (inr_n (by omega) (by omega)).mp q
      omega
    rw [ev_, ct_, no, no, if_pos rfl, ih (by omega)]; rfl
theorem m_eveningsOf (u : Ux_) {P : Int32 → St_ → Prop} (a σ : St_) {n mn nf nj : Nat} (hV : Vx_ a n mn nf nj) (hW : Wt_ a) (hR : Rm_ a σ) (seed w : Int32) (hw : inr_ w (iI_ 2) = true) (H : ∀ σ', Mk_ σ σ' → P (q_even a n mn nf nj seed w) σ') : MMi_ (zm_ u) mX10_eveningsOf [.ref (uq_ u 0), .int seed, .int w] σ P := by
  have h8 := hV.1.1
  have h10 := hV.2.1.1
  have f8 := hV.2.2.1.1
  refine eX10_eveningsOf u σ _ _ (m_runsTold u a σ hV hW hR (fun σ1 k1 r1 g1 t1 => ?_))
  have told : ∀ t : Nat, t < 10 → σ1 31 t = ct_ a n mn nf nj (iI_ t) := fun t ht => by rw [t1.2.1 t ht, cR_ca hV _ _ _ ht]; rfl
  unfold q_even at H
  rw [if_pos hw] at H
  -- comparing
  have cmp : ∀ (d k : Nat) (τ : St_), k + d = 10 → Mk_ σ τ → (∀ t : Nat, t < 10 → τ 31 t = cR_ a n mn (do_ seed) (fun t => ps_ a nf (iI_ t) (iI_ (-1))) (fun t => jh_ a (iI_ t) nj) t) → (∀ t : Nat, t < 10 → τ 37 t = ct_ a n mn nf nj (iI_ t)) → GG_ (zm_ u) mX10_eveningsOf (Pi_ P) 87 [(0, .ref (uq_ u 0)), (2, .int w), (4, .int (iI_ (ev_ a n mn nf nj seed k))), (5, .int (iI_ k))] [] τ := by
    intro d
    induction d with
    | zero =>
      intro k τ hk mk c31 c37
      have : k = 10 := by omega
      subst this
      have H := H τ mk
      have e10 := ev_mn hV seed (10 - mn) (by omega)
      rw [show mn + (10 - mn) = 10 by omega] at e10
      refine bX10_eveningsOf_87 u τ _ _ _ (cs_ (fun _ => ⟨fun c => ?_, fun c => ?_⟩) (fun c => absurd (by decide) c))
      · have ew : w = iI_ 1 := by
          obtain ⟨x, hx, rfl⟩ := inr_nat hw (by decide)
          rw [iI_eq (by omega) (by omega)] at c
          congr 1; omega
        rw [if_pos ew] at H
        refine m_houseNow u τ (t := 9) c31 (by omega) ?_
        rw [hN_ca hV (do_ seed) (iI_ (-1)) _ (by omega) (J := jh_ a (lp_ mn (iI_ 9)) nj)]
        · exact H
        · intro hm
          show _ = jh_ a (iI_ (if mn - 1 < 9 then mn - 1 else 9 : Nat)) nj
          congr 1
          unfold lp_
          rw [iI_toInt (by omega)]
          by_cases q : mn - 1 < 9
          · rw [if_pos (by omega), if_pos q]; congr 1; omega
          · rw [if_neg (by omega), if_neg q]; rfl
      · rw [if_neg (by rw [c]; decide), ← e10] at H; exact H
    | succ d ih =>
      intro k τ hk mk c31 c37
      have hin : vp_in (iI_ k) 10 := (iI_in (by omega)).mpr (by omega)
      have nx := ih (k + 1) τ (by omega) mk c31 c37
      unfold ev_ at nx
      refine bX10_eveningsOf_87 u τ _ _ _ (cs_ (fun c => absurd c (by rw [iI_le (by omega) (by omega)]; omega)) (fun _ => ⟨hin, hin, ?_⟩))
      rw [iI_ix (by omega), c31 k (by omega), c37 k (by omega), cR_ca hV _ _ _ (by omega), iI_succ, iI_add, iI_succ]
      refine ⟨fun c => ?_, fun c => ?_⟩
      · rw [if_pos c] at nx; exact nx
      · rw [if_neg c] at nx; exact nx
  -- taking the orders
  have take : ∀ (d k : Nat) (τ : St_), k + d = n → Ke_ [5, 37] σ1 τ → Ro_ a τ n mn (fun i => if i < k then do_ seed i else a 7 i) → (∀ t : Nat, t < 10 → τ 37 t = ct_ a n mn nf nj (iI_ t)) → GG_ (zm_ u) mX10_eveningsOf (Pi_ P) 42 [(0, .ref (uq_ u 0)), (2, .int w), (3, .int (dr_ seed k)), (4, .int (iI_ 0)), (5, .int (iI_ k))] [] τ := by
    intro d
    induction d with
    | zero =>
      intro k τ hk ke ro c37
      have : k = n := by omega
      subst this
      have mk : Mk_ σ τ := k1.tr (Mk_.ke ke (by decide))
      have ro2 : Ro_ a τ k mn (do_ seed) := by
        obtain ⟨q1, q2, q3, q4⟩ := ro
        refine ⟨q1, q2, fun j hj => ?_, q4⟩
        obtain ⟨s1, s2, s3⟩ := q3 j hj
        refine ⟨s1, s2, fun i hi => ?_⟩
        have := s3 i hi
        simp only [if_pos hj] at this
        exact this
      refine bX10_eveningsOf_42 u τ _ _ _ _ (cs_ (fun _ => m_runs u a τ hV (hR.mk mk) (do_6 seed k) ro2 (g1.ke (fun i hi => ke i (by simp; omega))) (fun σ2 k2 n2 => ?_)) (fun c => absurd (by rw [ro.1]; exact Int32.le_refl _) c))
      have n2 := n2.pos (pos' := fun t => ps_ a nf (iI_ t) (iI_ (-1))) (fun t ht => by
        funext q
        exact lR_ps hV.2.2.1.2.2 (fun i hi => by rw [decide_eq_false]; rw [iI_eq (by omega) (by omega)]; omega) t ht (fun t' ht' => by rw [iI_eq (by omega) (by omega)]; omega))
      exact cmp 10 0 σ2 (by omega) (mk.tr (Mk_.ke k2 (by decide))) n2.2.1 (fun t ht => by rw [k2 37 (by decide)]; exact c37 t ht)
    | succ d ih =>
      intro k τ hk ke ro c37
      obtain ⟨o, ho, eo⟩ := do_nat seed k
      refine bX10_eveningsOf_42 u τ _ _ _ _ (cs_ (fun c => absurd c (by rw [ro.1, iI_le (by omega) (by omega)]; omega)) (fun _ => ?_))
      show MMv_ (zm_ u) mX10_takesOrder [.ref (uq_ u 0), .int (iI_ k), .int (do_ seed k)] τ _
      rw [eo]
      refine m_takesOrder u τ (by omega) ho (fun σ3 k3 hl => ?_)
      rw [iI_succ]
      refine ih (k + 1) σ3 (by omega) (ke.tr (k3.up (by decide))) (ro.take k3 hl ho (fun i hi => ?_)) (fun t ht => by rw [k3 37 (by decide)]; exact c37 t ht)
      by_cases q : i = k
      · rw [if_pos q, if_pos (by omega), q, eo]
      · rw [if_neg q]
        by_cases q2 : i < k
        · rw [if_pos q2, if_pos (by omega)]
        · rw [if_neg q2, if_neg (by omega)]
  have copy : ∀ (d k : Nat) (τ : St_), k + d = 10 → Ke_ [5, 37] σ1 τ → τ 5 = σ1 5 → (∀ t : Nat, t < k → τ 37 t = ct_ a n mn nf nj (iI_ t)) → GG_ (zm_ u) mX10_eveningsOf (Pi_ P) 12 [(0, .ref (uq_ u 0)), (2, .int w), (3, .int seed), (4, .int (iI_ 0)), (5, .int (iI_ k))] [] τ := by
    intro d
    induction d with
    | zero =>
      intro k τ hk ke e5 c37
      have : k = 10 := by omega
      subst this
      refine bX10_eveningsOf_12 u τ _ _ _ _ (cs_ (fun _ => take n 0 τ (by omega) ke (r1.ro.ke (fun i hi => ?_)) c37) (fun c => absurd (by decide) c))
      by_cases q : i = 5
      · rw [q, e5]
      · exact ke i (by simp; omega)
    | succ d ih =>
      intro k τ hk ke e5 c37
      have hin : vp_in (iI_ k) 10 := (iI_in (by omega)).mpr (by omega)
      refine bX10_eveningsOf_12 u τ _ _ _ _ (cs_ (fun c => absurd c (by rw [iI_le (by omega) (by omega)]; omega)) (fun _ => ⟨hin, hin, fun σ3 e3 => ?_⟩))
      rw [iI_ix (by omega), ke 31 (by decide), told k (by omega)] at e3
      rw [iI_succ]
      refine ih (k + 1) σ3 (by omega) (by rw [e3]; exact ke.su (by decide)) (by rw [e3, su_i _ _ _ (by decide)]; exact e5) (fun t ht => ?_)
      by_cases q : t = k
      · rw [e3, q, su_same]
      · rw [e3, su_j _ _ _ q]; exact c37 t (by omega)
  exact copy 10 0 σ1 (by omega) Ke_.rf rfl (fun t ht => by omega)
theorem m_evenings (u : Ux_) {P : Int32 → St_ → Prop} (a σ : St_) {n mn nf nj : Nat} (hV : Vx_ a n mn nf nj) (hW : Wt_ a) (hR : Rm_ a σ) (seed w : Int32) (H : ∀ σ', Mk_ σ σ' → P (q_even a n mn nf nj seed w) σ') : MMi_ (zm_ u) mX10_evenings [.ref (uq_ u 0), .int seed, .int w] σ P := by
  refine eX10_evenings u σ _ _ (m_in u σ _ _ _ ?_)
  rw [ini_inr w 1 (by decide)]
  simp only [show (1 : Int) + 1 = 2 from rfl]
  refine nxb (fun h => ?_) (fun h => m_eveningsOf u a σ hV hW hR seed w h H)
  have := H σ Mk_.rf
  rw [q_even, if_neg (by simp [h])] at this; exact this
/-! write -/
theorem m_write (u : Ux_) {P : Int32 → St_ → Prop} (a σ : St_) {n mn nf nj : Nat} (hV : Vx_ a n mn nf nj) (hW : Wt_ a) (hs : Ws_ a) (hR : Rm_ a σ) (s : Int32) (H : ∀ σ', Rm_ (c_write a n mn nf nj s).2 σ' → P (c_write a n mn nf nj s).1 σ') : MMi_ (zm_ u) mX10_write [.ref (uq_ u 0), .int s] σ P := by
  refine eX10_write u σ s (m_isSheet u σ _ (nxn (fun h => ?_) (fun h => ?_)))
  · rw [c_write, if_neg (by simp [h])] at H; exact H σ hR
  · rw [c_write, if_pos h] at H
    obtain ⟨t, ht, rfl⟩ := inr_nat h (by decide)
    have ht4 : t < 4 := by omega
    have hin : vp_in (iI_ t) 4 := (iI_in (by omega)).mpr (by omega)
    have hz := (hs t ht4).2
    rw [iI_ix (by omega)] at H ⊢
    rw [hR.isT ht4]
    refine ⟨hin, thr_ (fun c => ?_) (fun c => ?_)⟩
    · rw [if_neg c] at H
      dsimp only at H
      refine m_runsTold u a σ hV hW hR (fun σ1 k1 r1 _ t1 => ?_)
      have told : ∀ t : Nat, t < 10 → σ1 31 t = ct_ a n mn nf nj (iI_ t) := fun t ht => by rw [t1.2.1 t ht, cR_ca hV _ _ _ ht]; rfl
      have em : mi_ (a 40 t) ≤ 10 ∧ ((mi_ (a 40 t) : Int) ≤ (a 40 t).toInt) ∧ (mi_ (a 40 t) = 10 ∨ (mi_ (a 40 t) : Int) = (a 40 t).toInt) := by
        unfold mi_; split <;> omega
      have key : ∀ (d k : Nat) (τ : St_), k + d = mi_ (a 40 t) → Ke_ [41] σ1 τ → Rm_ (wrt_ a n mn nf nj t k) τ → GG_ (zm_ u) mX10_write (Pi_ P) 31 [(0, .ref (uq_ u 0)), (1, .int (iI_ t)), (2, .int (iI_ k))] [] τ := by
        intro d
        induction d with
        | zero =>
          intro k τ hk ke hRk
          have : k = mi_ (a 40 t) := by omega
          subst this
          have e40 : τ 40 t = a 40 t := by rw [ke 40 (by decide)]; exact ((hR.mk k1).sh ht4 c).2.1
          refine bX10_write_31 u τ _ _ ⟨hin, ?_⟩
          rw [iI_ix (by omega), e40, iI_leI, iI_toInt (by omega), iI_le (by omega) (by omega)]
          refine cs_ (fun _ => H τ hRk) (fun c2 => cs_ (fun _ => H τ hRk) (fun c3 => by omega))
        | succ d ih =>
          intro k τ hk ke hRk
          have e40 : τ 40 t = a 40 t := by rw [ke 40 (by decide)]; exact ((hR.mk k1).sh ht4 c).2.1
          refine bX10_write_31 u τ _ _ ⟨hin, ?_⟩
          rw [iI_ix (by omega), e40, iI_leI, iI_toInt (by omega), iI_le (by omega) (by omega), iI_ix (by omega), ke 31 (by decide), told k (by omega), iI_succ]
          refine cs_ (fun c2 => by omega) (fun c2 => cs_ (fun c3 => by omega) (fun c3 => ⟨(iI_in (by omega)).mpr (by omega), ?_⟩))
          have w39 : wrt_ a n mn nf nj t k 39 = a 39 := wrt_i a n mn nf nj t k (by omega)
          refine m_keep u (wrt_ a n mn nf nj t k) τ hRk ht4 (by rw [w39]; exact c) (by omega) _ (fun σ5 hR5 k5 => ?_)
          rw [w39] at hR5
          exact ih (k + 1) σ5 (by omega) (ke.tr k5) hR5
      exact key (mi_ (a 40 t)) 0 σ1 (by omega) Ke_.rf (hR.mk k1)
    · rw [if_pos c] at H
      exact m_meets u a σ hR _ H
/-! fractions -/
theorem m_lowest (u : Ux_) {P : Int64 → St_ → Prop} (σ : St_) (t b : Nat) (w : Int32) (ht : t < 4611686018427387904) (hb : 0 < b) (hb2 : b < 4611686018427387904) (H : P (lw_ t b w) σ) : MMl_ (zm_ u) mX10_lowest [.long (iL_ t), .long (iL_ b), .int w] σ P := by
  refine eX10_lowest u σ _ _ _ ?_
  have hg : 0 < Nat.gcd t b := Nat.gcd_pos_of_pos_right t hb
  have gle : Nat.gcd t b ≤ b := Nat.gcd_le_right t hb
  have key : ∀ q p : Nat, q < 4611686018427387904 → p < 4611686018427387904 → Nat.gcd p q = Nat.gcd t b → GG_ (zm_ u) mX10_lowest (Pl_ P) 6 [(0, .long (iL_ t)), (2, .long (iL_ b)), (4, .int w), (5, .long (iL_ p)), (7, .long (iL_ q))] [] σ := by
    intro q
    induction q using Nat.strongRecOn with
    | ind q ih =>
      intro p hq hp hgc
      refine bX10_lowest_6 u σ _ _ _ _ _ ?_
      rw [cmp_0]
      refine ⟨fun c => ?_, fun c => ?_⟩
      · rw [iL_eq (by omega) (by omega)] at c
        have q0 : q = 0 := by omega
        subst q0
        rw [Nat.gcd_zero_right] at hgc
        have hne0 : ¬ iL_ p = 0 := by rw [← iL_00, iL_eq (by omega) (by omega)]; omega
        refine ⟨fun c => ⟨hne0, ?_⟩, fun c => ⟨hne0, ?_⟩⟩
        · rw [show iL_ (b : Int) = lN b from rfl, show iL_ (p : Int) = lN p from rfl, pk_lDiv (by omega) (by omega) (by omega)]
          rw [lw_, if_neg c, ← hgc] at H; exact H
        · rw [show iL_ (t : Int) = lN t from rfl, show iL_ (p : Int) = lN p from rfl, pk_lDiv (by omega) (by omega) (by omega)]
          rw [lw_, if_pos c, ← hgc] at H; exact H
      · rw [iL_eq (by omega) (by omega)] at c
        have hlt : p % q < q := Nat.mod_lt _ (by omega)
        refine ⟨by rw [← iL_00, iL_eq (by omega) (by omega)]; omega, ?_⟩
        rw [show iL_ (p : Int) = lN p from rfl, show iL_ (q : Int) = lN q from rfl, pk_lRem (by omega) (by omega) (by omega)]
        exact ih (p % q) hlt q (by omega) hq (by rw [← hgc, Nat.gcd_comm p q, Nat.gcd_rec q p, Nat.gcd_comm])
  exact key b t hb2 ht rfl
theorem fac_s : ∀ k, k < 8 → fac_ (k + 1) = fac_ k * (k + 1) := by decide
theorem m_orders (u : Ux_) {P : Int64 → St_ → Prop} (σ : St_) {n : Nat} (hn : n ≤ 8) (H : P (iL_ (fac_ n)) σ) : MMl_ (zm_ u) mX10_orders [.int (iI_ n)] σ P := by
  refine eX10_orders u σ _ ?_
  by_cases h2 : n < 2
  · have e : fac_ n = 1 := by
      rcases (show n = 0 ∨ n = 1 by omega) with rfl | rfl <;> rfl
    rw [e] at H
    exact bX10_orders_4 u σ _ _ _ (cs_ (fun _ => H) (fun c => absurd (by rw [iI_lt (by omega) (by omega)]; omega) c))
  · have key : ∀ d k : Nat, k + d = n + 1 → 2 ≤ k → GG_ (zm_ u) mX10_orders (Pl_ P) 4 [(0, .int (iI_ n)), (1, .long (iL_ (fac_ (k - 1)))), (3, .int (iI_ k))] [] σ := by
      intro d
      induction d with
      | zero =>
        intro k hk h2
        have : k = n + 1 := by omega
        subst this
        exact bX10_orders_4 u σ _ _ _ (cs_ (fun _ => H) (fun c => absurd (by rw [iI_lt (by omega) (by omega)]; omega) c))
      | succ d ih =>
        intro k hk h2
        refine bX10_orders_4 u σ _ _ _ (cs_ (fun c => absurd c (by rw [iI_lt (by omega) (by omega)]; omega)) (fun _ => ?_))
        have nx := ih (k + 1) (by omega) (by omega)
        have e := fac_s (k - 1) (by omega)
        rw [show k - 1 + 1 = k by omega] at e
        rw [iI_L (by omega), iL_mul, iI_succ, show ((fac_ (k - 1) : Nat) : Int) * (k : Nat) = ((fac_ (k - 1) * k : Nat) : Int) by omega, ← e]
        exact nx
    exact key (n - 1) 2 (by omega) (by omega)
/-! power -/
theorem m_powerOf (u : Ux_) {P : Int64 → St_ → Prop} (a σ : St_) {n mn nf nj : Nat} (hV : Vx_ a n mn nf nj) (hR : Rm_ a σ) (hd : Rd_ a σ n mn) {m : Nat} (hm : m < n) (w : Int32) (H : P (lw_ (tu_ a n m (2 ^ n)) (fac_ n) w) σ) : MMl_ (zm_ u) mX10_powerOf [.ref (uq_ u 0), .int (iI_ m), .int w] σ P := by
  have h8 := hV.1.1
  have hp : (2 : Nat) ^ n ≤ 2 ^ 8 := Nat.pow_le_pow_right (by decide) h8
  have hp0 : 0 < (2 : Nat) ^ n := Nat.two_pow_pos n
  have fb := fac_bd n (by omega)
  have ab := wA_bd hV n (by omega)
  have ep : iI_ 1 <<< (σ 2 0 &&& 31) = iI_ (2 ^ n : Nat) := by rw [hd.1]; exact pow_n n (by omega)
  have wb := wg_bd hV hm
  refine eX10_powerOf u σ _ _ (m_weightAll u a σ hV hR hd (by rw [hd.1]) ?_)
  have key : ∀ d S : Nat, S + d = 2 ^ n → GG_ (zm_ u) mX10_powerOf (Pl_ P) 19 [(0, .ref (uq_ u 0)), (1, .int (iI_ m)), (2, .int w), (3, .int (iI_ (wA_ a n))), (4, .long (iL_ (tu_ a n m S))), (6, .int (iI_ S))] [] σ := by
    intro d
    induction d with
    | zero =>
      intro S hS
      have : S = 2 ^ n := by omega
      subst this
      have tb := tu_bd (a := a) hm h8 (2 ^ n)
      refine bX10_powerOf_19 u σ _ _ _ _ _ (cs_ (fun _ => ?_) (fun c => absurd (by rw [ep]; exact Int32.le_refl _) c))
      rw [hd.1]
      exact m_orders u σ h8 (m_lowest u σ _ _ w (by omega) (by omega) (by omega) H)
    | succ d ih =>
      intro S hS
      have nx := ih (S + 1) (by omega)
      unfold tu_ at nx
      have sb := wS_bd hV S n (by omega)
      have tb := tu_bd (a := a) hm h8 S
      refine bX10_powerOf_19 u σ _ _ _ _ _ (cs_ (fun c => absurd c (by rw [ep, iI_le (by omega) (by omega)]; omega)) (fun _ => m_weightOf u a σ hV hR hd S (m_isIn u σ _ (by omega) ?_)))
      rw [bt_nat, decide_eq_true (show m < 32 by omega), Bool.true_and]
      -- counting the set's members
      have count : ∀ b : Bool, b = tc_ a n m S → ∀ e i : Nat, i + e = n → GG_ (zm_ u) mX10_powerOf (Pl_ P) 88 [(0, .ref (uq_ u 0)), (1, .int (iI_ m)), (2, .int w), (3, .int (iI_ (wA_ a n))), (4, .long (iL_ (tu_ a n m S))), (6, .int (iI_ S)), (8, .int (bi_ b)), (9, .int (iI_ (pcn_ S i))), (10, .int (iI_ i))] [] σ := by
        intro b hb e
        induction e with
        | zero =>
          intro i hi
          have : i = n := by omega
          subst this
          refine bX10_powerOf_88 u σ _ _ _ _ _ _ _ _ (cs_ (fun _ => ?_) (fun c => absurd (by rw [hd.1]; exact Int32.le_refl _) c))
          rw [iI_succ]
          refine nxb (fun h => ?_) (fun h => ?_)
          · rw [if_neg (by rw [← hb, h]; decide)] at nx
            rw [iL_add]; exact nx
          · rw [if_pos (by rw [← hb, h])] at nx
            have htc : tc_ a i m S = true := by rw [← hb, h]
            simp only [tc_, decide_eq_true_eq] at htc
            have pl := pcn_lt htc.1 i hm
            refine m_orders u σ (by omega) ?_
            have ea : σ 2 0 - iI_ 1 - iI_ (pcn_ S i : Nat) = iI_ (i - 1 - pcn_ S i : Nat) := by
              rw [hd.1, iI_sub, iI_sub]; congr 1; omega
            rw [ea]
            refine m_orders u σ (by omega) ?_
            rw [iL_mul, iL_add]
            have ec : ((tu_ a i m S : Nat) : Int) + ((fac_ (pcn_ S i) : Nat) : Int) * ((fac_ (i - 1 - pcn_ S i) : Nat) : Int) = ((tu_ a i m S + fac_ (pcn_ S i) * fac_ (i - 1 - pcn_ S i) : Nat) : Int) := by
              rw [Int.natCast_add, Int.natCast_mul]
            rw [ec]; exact nx
        | succ e ih2 =>
          intro i hi
          have nx2 := ih2 (i + 1) (by omega)
          unfold pcn_ at nx2
          refine bX10_powerOf_88 u σ _ _ _ _ _ _ _ _ (cs_ (fun c => absurd c (by rw [hd.1, iI_le (by omega) (by omega)]; omega)) (fun _ => ?_))
          rw [iI_succ]
          cases hb2 : S.testBit i
          · have e0 := (bt_is0 (iI_ S) (k := i) (by omega)).mpr (by rw [bt_nat, hb2, Bool.and_false])
            rw [if_neg (by rw [hb2]; decide)] at nx2
            rw [e0, iI_add]; exact nx2
          · have e1 := (bt_is (iI_ S) (k := i) (by omega)).mpr (by rw [bt_nat, hb2, decide_eq_true (show i < 32 by omega)]; rfl)
            rw [if_pos hb2] at nx2
            rw [e1, iI_succ]; exact nx2
      have w10 : σ 10 (σ 3 m).toNatClampNeg = wg_ a m := by
        rw [(hd.2.2.1 m hm).1]
        have r5 := (hV.1.2.2 m hm).1
        exact hR.2.2.1 _ (by rw [clampI]; omega)
      have ew : wg_ a m = iI_ (wg_ a m).toInt := (iI_of _).symm
      refine nxn (fun h => ?_) (fun h => count false (by rw [tc_, decide_eq_false]; rintro ⟨q, -⟩; rw [h] at q; cases q) n 0 (by omega))
      rw [iI_mul, iI_lt (by omega) (by omega), iI_ix (by omega), w10, ew, iI_add, iI_mul, iI_le (by omega) (by omega)]
      refine cs_ (fun c => count false (by rw [tc_, decide_eq_false]; rintro ⟨-, q, -⟩; omega) n 0 (by omega)) (fun c => ⟨(iI_in (by omega)).mpr (by omega), ?_, cs_ (fun c2 => count false (by rw [tc_, decide_eq_false]; rintro ⟨-, -, q⟩; omega) n 0 (by omega)) (fun c2 => count true (by rw [tc_, decide_eq_true ⟨h, by omega, by omega⟩]) n 0 (by omega))⟩)
      rw [(hd.2.2.1 m hm).1]
      have r5 := (hV.1.2.2 m hm).1
      exact vp_in_iff.mpr (by omega)
  exact key (2 ^ n) 0 (by omega)
theorem m_power (u : Ux_) {P : Int64 → St_ → Prop} (a σ : St_) {n mn nf nj : Nat} (hV : Vx_ a n mn nf nj) (hW : Wt_ a) (hR : Rm_ a σ) (m w : Int32) (H : ∀ σ', Mk_ σ σ' → P (q_power a n m w) σ') : MMl_ (zm_ u) mX10_power [.ref (uq_ u 0), .int m, .int w] σ P := by
  have h8 := hV.1.1
  refine eX10_power u σ _ _ (m_isMember u a σ hV hW hR m (fun σ1 k1 r1 => nxb (fun h => m_no u σ1 ?_) (fun h => m_in u σ1 _ _ _ ?_)))
  · have := H σ1 (Mk_.ke k1 (by decide))
    rw [q_power, if_neg (by simp [h])] at this; exact this
  · rw [ini_inr w 1 (by decide)]
    simp only [show (1 : Int) + 1 = 2 from rfl]
    have H := H σ1 (Mk_.ke k1 (by decide))
    refine nxb (fun h2 => m_no u σ1 ?_) (fun h2 => ?_)
    · rw [q_power, if_neg (by simp [h2])] at H; exact H
    · rw [q_power, if_pos ⟨h, h2⟩] at H
      rw [hV.1.2.1] at h
      obtain ⟨y, hy, rfl⟩ := inr_nat h (by omega)
      rw [iI_ix (by omega)] at H
      exact m_powerOf u a σ1 hV (hR.mk (Mk_.ke k1 (by decide))) r1 (by omega) w H
