/-! ===== the reference: lift, agenda, ring, sham, never ===== -/
theorem spk_cg {pos pos' : Nat → Int32} {n : Nat} (h : ∀ m, m < n → pos m = pos' m) : ∀ k, k ≤ n → spk_ pos k = spk_ pos' k := by
  intro k
  induction k with
  | zero => intro _; rfl
  | succ k ih =>
    intro hk
    have b := spk_bd pos' k
    have e := ih (by omega)
    unfold spk_
    rw [e]
    by_cases q : spk_ pos' k = -1
    · rw [if_pos q, if_pos q]
    · rw [if_neg q, if_neg q, h k (by omega), h (spk_ pos' k).toNat (by omega)]
theorem shl_cg {or pos pos' : Nat → Int32} {fs ot p : Int32} {n : Nat} (h : ∀ m, m < n → pos m = pos' m) : ∀ k, k ≤ n → shl_ or pos fs ot p k = shl_ or pos' fs ot p k := by
  intro k
  induction k with
  | zero => intro _; rfl
  | succ k ih => intro hk; unfold shl_; rw [ih (by omega), h k (by omega)]
theorem v1_cg {or pos pos' : Nat → Int32} {j : Bool} {fs ot : Int32} {n : Nat} (h : ∀ m, m < n → pos m = pos' m) {m : Nat} (hm : m < n) : v1_ n or pos j fs ot m = v1_ n or pos' j fs ot m := by
  unfold v1_
  rw [h m hm, shl_cg h n (by omega)]
theorem ld_cg {v v' : Nat → Bool} {w w' : Nat → Int} {n : Nat} (h : ∀ m, m < n → v m = v' m) (hw : ∀ m, m < n → w m = w' m) : ∀ k, k ≤ n → ld_ v w k = ld_ v' w' k := by
  intro k
  induction k with
  | zero => intro _; rfl
  | succ k ih => intro hk; unfold ld_; rw [ih (by omega), h k (by omega), hw k (by omega)]
theorem cr_cg {v v' : Nat → Bool} {w w' : Nat → Int} {pos pos' : Nat → Int32} {fs ot : Int32} {n : Nat} (hn : 0 < n) (hv : ∀ m, m < n → v m = v' m) (hw : ∀ m, m < n → w m = w' m) (hp : ∀ m, m < n → pos m = pos' m) : cr_ n v w pos fs ot = cr_ n v' w' pos' fs ot := by
  have b := spk_bd pos' n
  have b2 := spk_nn pos' (n - 1)
  rw [show n - 1 + 1 = n by omega] at b2
  unfold cr_
  rw [ld_cg hv hw n (by omega), spk_cg hp n (by omega), hv (spk_ pos' n).toNat (by omega)]
theorem lR_T {a : St_} {nf : Nat} {nb lb : Nat → Bool} {T T' : Int32} {k : Nat} : ∀ t : Nat, (∀ i : Nat, i < t → ¬ T = iI_ i ∧ ¬ T' = iI_ i) → lR_ a nf nb T lb k t = lR_ a nf nb T' lb k t := by
  intro t
  induction t with
  | zero => intro _; rfl
  | succ t ih =>
    intro h
    unfold lR_
    rw [if_neg (fun z => (h t (by omega)).1 z.1), if_neg (fun z => (h t (by omega)).2 z.1), ih (fun i hi => h i (by omega))]
theorem lR_lift {a : St_} {nf : Nat} (h8 : nf ≤ 8) (hF : ∀ i, i < nf → isF_ (a 15 i) (a 16 i) (a 17 i) = true) {lb : Nat → Bool} {k t : Nat} (ht : t < 10) : lR_ a nf (fun _ => false) (iI_ t) lb k (t + 1) = if lb k = true then iI_ 0 else ps_ a nf (iI_ t) (iI_ (-1)) k := by
  have h := lR_ps hF (wo := iI_ (-1)) (T := iI_ (-1)) (m := k) (nb := fun _ => false) (lb := lb) (fun i hi => by rw [decide_eq_false]; rw [iI_eq (by omega) (by omega)]; omega) t ht (fun t' ht' => by rw [iI_eq (by omega) (by omega)]; omega)
  have hT := lR_T (a := a) (nf := nf) (nb := fun _ => false) (lb := lb) (T := iI_ t) (T' := iI_ (-1)) (k := k) t (fun i hi => ⟨by rw [iI_eq (by omega) (by omega)]; omega, by rw [iI_eq (by omega) (by omega)]; omega⟩)
  rw [lR_, if_neg (fun z => by have := z.1; rw [iI_eq (by omega) (by omega)] at this; omega), ← hT] at h
  rw [lR_, h]
  by_cases q : lb k = true
  · rw [if_pos ⟨rfl, q⟩, if_pos q]
  · rw [if_neg (fun z => q z.2), if_neg q]
theorem m_isTurned (u : Ux_) {P : Int32 → St_ → Prop} (a σ : St_) {n mn nf nj : Nat} (hV : Vx_ a n mn nf nj) (hR : Rm_ a σ) (hd : Rd_ a σ n mn) (g22 : ∀ i, i < nf → bt (σ 22 0) i = false) (g23 : ∀ t : Nat, t < 10 → bt (σ 23 0) t = jh_ a (iI_ t) nj) {t : Nat} (ht : t < mn) (hn : 0 < n) {bits : Int32} {x y : Int32} (hb : ∀ k : Nat, k < n → bt bits k = decide (iI_ k = x ∨ iI_ k = y)) (was : Int32) (H : ∀ σ', Ke_ [17, 18, 19, 20, 21, 24, 25, 26, 27, 28, 29, 30, 31] σ σ' → P (bi_ (!decide (cl_ a n nf nj t x y = was))) σ') : MMi_ (zm_ u) mX10_isTurned [.ref (uq_ u 0), .int (iI_ t), .int bits, .int was] σ P := by
  have h10 := hV.2.1.1
  refine eX10_isTurned u σ _ _ _ (fun σ1 e1 σ2 e2 => ?_)
  have k2 : Ke_ [24, 25] σ σ2 := by rw [e2, e1]; exact (Ke_.rf.su (by decide)).su (by decide)
  have hg : Sg_ σ2 n nf (fun _ => false) (fun t => jh_ a (iI_ t) nj) (iI_ t) (fun k => decide (iI_ k = x ∨ iI_ k = y)) := by
    refine ⟨fun i hi => by rw [k2 22 (by decide)]; exact g22 i hi, fun i hi => by rw [k2 23 (by decide)]; exact g23 i hi, by rw [e2, su_i _ _ _ (by decide), e1, su_same], fun k hk => by rw [e2, su_same]; exact hb k hk⟩
  refine m_runs u a σ2 hV (hR.mk (Mk_.ke k2 (by decide))) hV.o6 (hd.ro.ke (fun i hi => k2 i (by simp; omega))) hg (fun σ3 k3 n3 => ⟨(iI_in (by omega)).mpr (by omega), ?_⟩)
  have H := H σ3 ((k2.up (by decide)).tr (k3.up (by decide)))
  have ec : σ3 31 t = cl_ a n nf nj t x y := by
    rw [n3.2.1 t (by omega), cR_, if_pos ⟨hn, ht⟩]
    have ep : (fun k => lR_ a nf (fun _ => false) (iI_ t) (fun k => decide (iI_ k = x ∨ iI_ k = y)) k (t + 1)) = rp_ (ps_ a nf (iI_ t) (iI_ (-1))) x y := by
      funext k
      rw [lR_lift hV.2.2.1.1 hV.2.2.1.2.2 (by omega), rp_]
      by_cases q : iI_ k = x ∨ iI_ k = y
      · rw [if_pos q, if_pos (decide_eq_true q)]
      · rw [if_neg q, if_neg (by rw [decide_eq_false q]; decide)]
    unfold cl_
    rw [← ep]
  rw [iI_ix (by omega), ec]
  refine ⟨fun c => ?_, fun c => ?_⟩
  · rw [decide_eq_true c] at H; exact H
  · rw [decide_eq_false c] at H; exact H
theorem lq_sh {a : St_} {n mn nf nj : Nat} {t : Int32} : ((lq_ a n mn nf nj t).1 = -1 ∧ (lq_ a n mn nf nj t).2.1 = -1 ∧ (lq_ a n mn nf nj t).2.2 = -1) ∨ ((lq_ a n mn nf nj t).1 = 1 ∧ (lq_ a n mn nf nj t).2.2 = -1) ∨ (lq_ a n mn nf nj t).1 = 2 := by
  unfold lq_
  split
  · unfold lf_
    split
    · exact Or.inr (Or.inl ⟨rfl, rfl⟩)
    · split
      · exact Or.inr (Or.inr rfl)
      · exact Or.inl ⟨rfl, rfl, rfl⟩
  · exact Or.inl ⟨rfl, rfl, rfl⟩
theorem m_liftBy (u : Ux_) {P : Int32 → St_ → Prop} (a σ : St_) {n mn nf nj : Nat} (hV : Vx_ a n mn nf nj) (hW : Wt_ a) (hR : Rm_ a σ) (t : Int32) (ht : inr_ t (iI_ 10) = true) (H : ∀ σ', Mk_ σ σ' → Rd_ a σ' n mn → (0 < (lq_ a n mn nf nj t).1 → σ' 32 0 = iI_ (lq_ a n mn nf nj t).2.1) → (1 < (lq_ a n mn nf nj t).1 → σ' 32 1 = iI_ (lq_ a n mn nf nj t).2.2) → P (iI_ (lq_ a n mn nf nj t).1) σ') : MMi_ (zm_ u) mX10_liftBy [.ref (uq_ u 0), .int t] σ P := by
  have h8 := hV.1.1
  have h10 := hV.2.1.1
  obtain ⟨x, hx, rfl⟩ := inr_nat ht (by decide)
  refine eX10_liftBy u σ _ (m_runsTold u a σ hV hW hR (fun σ1 k1 r1 g1 t1 => ⟨(iI_in (by omega)).mpr (by omega), ?_⟩))
  have v31 := t1.2.1 x (by omega)
  rw [cR_ca hV _ _ _ (by omega)] at v31
  rw [iI_ix (by omega), v31]
  have hi := inr_n (t := x) (mn := mn) (by omega) (by omega)
  by_cases hp : 0 < n ∧ x < mn
  · have elq : lq_ a n mn nf nj (iI_ x) = lf_ a n nf nj x := by rw [lq_, if_pos ⟨hp.1, hi.mpr hp.2⟩, iI_ix (by omega)]
    have ew : ca_ a n mn nf (a 7) (jh_ a (iI_ x) nj) (iI_ (-1)) (iI_ x) = cl_ a n nf nj x (iI_ (-1)) (iI_ (-1)) := by
      rw [ca_, if_pos ⟨hp.1, hi.mpr hp.2⟩, iI_ix (by omega)]
      have hpp : ∀ m, m < n → ps_ a nf (iI_ x) (iI_ (-1)) m = rp_ (ps_ a nf (iI_ x) (iI_ (-1))) (iI_ (-1)) (iI_ (-1)) m := fun m hm => by
        rw [rp_, if_neg]
        rw [iI_eq (by omega) (by omega)]; omega
      exact cr_cg hp.1 (fun m hm => v1_cg hpp hm) (fun _ _ => rfl) hpp
    rw [elq] at H
    show (¬ ca_ a n mn nf (a 7) (jh_ a (iI_ x) nj) (iI_ (-1)) (iI_ x) = _ → GG_ (zm_ u) mX10_liftBy (Pi_ P) 20 [(0, .ref (uq_ u 0)), (1, .int (iI_ x)), (2, .int (ca_ a n mn nf (a 7) (jh_ a (iI_ x) nj) (iI_ (-1)) (iI_ x))), (3, .int (iI_ 0))] [] σ1) ∧ _
    rw [ew]
    refine ⟨fun _ => ?_, fun c => absurd c (cl_ne hV hp.2 _ _)⟩
    generalize hW0 : cl_ a n nf nj x (iI_ (-1)) (iI_ (-1)) = W
    unfold lf_ at H
    rw [hW0] at H
    have keep : ∀ {τ : St_}, Ke_ [17, 18, 19, 20, 21, 24, 25, 26, 27, 28, 29, 30, 31, 32] σ1 τ → Mk_ σ τ ∧ Rd_ a τ n mn ∧ (∀ i, i < nf → bt (τ 22 0) i = false) ∧ (∀ t : Nat, t < 10 → bt (τ 23 0) t = jh_ a (iI_ t) nj) := fun {τ} ke => ⟨k1.tr (Mk_.ke ke (by decide)), (r1.ro.ke (fun i hi => ke i (by simp; omega))).rd, fun i hi => by rw [ke 22 (by decide)]; exact g1.1 i hi, fun i hi => by rw [ke 23 (by decide)]; exact g1.2.1 i hi⟩
    have bit1 : ∀ q : Nat, q < n → ∀ k : Nat, k < n → bt (iI_ 1 <<< (iI_ q &&& 31)) k = decide (iI_ k = iI_ q ∨ iI_ k = iI_ q) := fun q hq k hk => by
      rw [bt_pow (by omega), decide_eq_decide, iI_eq (by omega) (by omega)]; omega
    have bit2 : ∀ q r : Nat, q < n → r < n → ∀ k : Nat, k < n → bt ((iI_ 1 <<< (iI_ q &&& 31)) ||| (iI_ 1 <<< (iI_ r &&& 31))) k = decide (iI_ k = iI_ q ∨ iI_ k = iI_ r) := fun q r hq hr k hk => by
      rw [b_or, bt_pow (by omega), bt_pow (by omega), ← Bool.decide_or, decide_eq_decide, iI_eq (by omega) (by omega), iI_eq (by omega) (by omega)]; omega
    -- two
    have two : fd1_ (fun q => !decide (cl_ a n nf nj x (iI_ q) (iI_ q) = W)) n 0 = none → ∀ (d k : Nat) (τ : St_), k + d = n → Ke_ [17, 18, 19, 20, 21, 24, 25, 26, 27, 28, 29, 30, 31, 32] σ1 τ → fd2_ (fun q r => !decide (cl_ a n nf nj x (iI_ q) (iI_ r) = W)) n n 0 = fd2_ (fun q r => !decide (cl_ a n nf nj x (iI_ q) (iI_ r) = W)) n d k → GG_ (zm_ u) mX10_liftBy (Pi_ P) 57 [(0, .ref (uq_ u 0)), (1, .int (iI_ x)), (2, .int W), (3, .int (iI_ k))] [] τ := by
      intro hno d
      rw [hno] at H
      induction d with
      | zero =>
        intro k τ hk ke hf
        have : k = n := by omega
        subst this
        obtain ⟨m1, m2, -⟩ := keep ke
        refine bX10_liftBy_57 u τ _ _ _ (cs_ (fun _ => ?_) (fun c => absurd (by rw [m2.1]; exact Int32.le_refl _) c))
        rw [hf] at H
        exact H τ m1 m2 (fun q => absurd (show (0 : Int) < -1 from q) (by decide)) (fun q => absurd (show (1 : Int) < -1 from q) (by decide))
      | succ d ih =>
        intro k τ hk ke hf
        obtain ⟨m1, m2, -⟩ := keep ke
        refine bX10_liftBy_57 u τ _ _ _ (cs_ (fun c => absurd c (by rw [m2.1, iI_le (by omega) (by omega)]; omega)) (fun _ => ?_))
        have inner : ∀ (e l : Nat) (τ : St_), l + e = n → Ke_ [17, 18, 19, 20, 21, 24, 25, 26, 27, 28, 29, 30, 31, 32] σ1 τ → fd1_ (fun r => !decide (cl_ a n nf nj x (iI_ k) (iI_ r) = W)) (n - (k + 1)) (k + 1) = fd1_ (fun r => !decide (cl_ a n nf nj x (iI_ k) (iI_ r) = W)) e l → GG_ (zm_ u) mX10_liftBy (Pi_ P) 70 [(0, .ref (uq_ u 0)), (1, .int (iI_ x)), (2, .int W), (3, .int (iI_ k)), (4, .int (iI_ l))] [] τ := by
          intro e
          induction e with
          | zero =>
            intro l τ hl ke hfd
            have : l = n := by omega
            subst this
            obtain ⟨m1, m2, -⟩ := keep ke
            refine bX10_liftBy_70 u τ _ _ _ _ (cs_ (fun _ => ?_) (fun c => absurd (by rw [m2.1]; exact Int32.le_refl _) c))
            rw [iI_succ]
            refine ih (k + 1) τ (by omega) ke ?_
            rw [hf]
            exact fd2_n _ _ _ _ hfd
          | succ e ih2 =>
            intro l τ hl ke hfd
            obtain ⟨m1, m2, m3, m4⟩ := keep ke
            refine bX10_liftBy_70 u τ _ _ _ _ (cs_ (fun c => absurd c (by rw [m2.1, iI_le (by omega) (by omega)]; omega)) (fun _ => fun σ2 e2 σ3 e3 => ?_))
            have ke3 : Ke_ [17, 18, 19, 20, 21, 24, 25, 26, 27, 28, 29, 30, 31, 32] σ1 σ3 := by rw [e3, e2]; exact (ke.su (by decide)).su (by decide)
            obtain ⟨p1, p2, p3, p4⟩ := keep ke3
            refine m_isTurned u a σ3 hV (hR.mk p1) p2 p3 p4 hp.2 hp.1 (bit2 k l (by omega) (by omega)) W (fun σ4 k4 => ?_)
            have ke4 : Ke_ [17, 18, 19, 20, 21, 24, 25, 26, 27, 28, 29, 30, 31, 32] σ1 σ4 := ke3.tr (k4.up (by decide))
            obtain ⟨s1, s2, -⟩ := keep ke4
            rw [fd1_s] at hfd
            refine nxb (fun h => ?_) (fun h => ?_)
            · rw [if_neg (by simp only [h]; decide)] at hfd
              rw [iI_succ]
              exact ih2 (l + 1) σ4 (by omega) ke4 hfd
            · rw [if_pos h] at hfd
              rw [hf, fd2_y _ _ _ _ _ hfd] at H
              refine H σ4 s1 s2 (fun _ => ?_) (fun _ => ?_)
              · rw [k4 32 (by decide), e3, show (iI_ 1).toNatClampNeg = 1 from rfl, su_j _ _ _ (by decide), e2, show (iI_ 0).toNatClampNeg = 0 from rfl, su_same]
              · rw [k4 32 (by decide), e3, show (iI_ 1).toNatClampNeg = 1 from rfl, su_same]
        rw [iI_succ]
        exact inner (n - (k + 1)) (k + 1) τ (by omega) ke rfl
    have one : ∀ (d k : Nat) (τ : St_), k + d = n → Ke_ [17, 18, 19, 20, 21, 24, 25, 26, 27, 28, 29, 30, 31, 32] σ1 τ → fd1_ (fun q => !decide (cl_ a n nf nj x (iI_ q) (iI_ q) = W)) n 0 = fd1_ (fun q => !decide (cl_ a n nf nj x (iI_ q) (iI_ q) = W)) d k → GG_ (zm_ u) mX10_liftBy (Pi_ P) 20 [(0, .ref (uq_ u 0)), (1, .int (iI_ x)), (2, .int W), (3, .int (iI_ k))] [] τ := by
      intro d
      induction d with
      | zero =>
        intro k τ hk ke hf
        have : k = n := by omega
        subst this
        obtain ⟨m1, m2, -⟩ := keep ke
        exact bX10_liftBy_20 u τ _ _ _ (cs_ (fun _ => two hf k 0 τ (by omega) ke rfl) (fun c => absurd (by rw [m2.1]; exact Int32.le_refl _) c))
      | succ d ih =>
        intro k τ hk ke hf
        obtain ⟨m1, m2, -⟩ := keep ke
        refine bX10_liftBy_20 u τ _ _ _ (cs_ (fun c => absurd c (by rw [m2.1, iI_le (by omega) (by omega)]; omega)) (fun _ => fun σ2 e2 => ?_))
        have ke2 : Ke_ [17, 18, 19, 20, 21, 24, 25, 26, 27, 28, 29, 30, 31, 32] σ1 σ2 := by rw [e2]; exact ke.su (by decide)
        obtain ⟨p1, p2, p3, p4⟩ := keep ke2
        refine m_isTurned u a σ2 hV (hR.mk p1) p2 p3 p4 hp.2 hp.1 (bit1 k (by omega)) W (fun σ4 k4 => ?_)
        have ke4 : Ke_ [17, 18, 19, 20, 21, 24, 25, 26, 27, 28, 29, 30, 31, 32] σ1 σ4 := ke2.tr (k4.up (by decide))
        obtain ⟨s1, s2, -⟩ := keep ke4
        rw [fd1_s] at hf
        refine nxb (fun h => ?_) (fun h => ?_)
        · rw [if_neg (by simp only [h]; decide)] at hf
          rw [iI_succ]
          exact ih (k + 1) σ4 (by omega) ke4 hf
        · rw [if_pos h] at hf
          rw [hf] at H
          refine H σ4 s1 s2 (fun _ => ?_) (fun q => absurd (show (1 : Int) < 1 from q) (by decide))
          rw [k4 32 (by decide), e2, show (iI_ 0).toNatClampNeg = 0 from rfl, su_same]
    exact one n 0 σ1 (by omega) Ke_.rf rfl
  · have en : ca_ a n mn nf (a 7) (jh_ a (iI_ x) nj) (iI_ (-1)) (iI_ x) = iI_ (-1) := by rw [ca_, if_neg (fun z => hp ⟨z.1, hi.mp z.2⟩)]
    have elq : lq_ a n mn nf nj (iI_ x) = (-1, -1, -1) := by rw [lq_, if_neg (fun z => hp ⟨z.1, hi.mp z.2⟩)]
    rw [elq] at H
    exact ⟨fun c => absurd en c, fun _ => H σ1 k1 r1 (fun q => absurd q (by decide)) (fun q => absurd q (by decide))⟩
theorem m_ofRow (u : Ux_) {P : Int32 → St_ → Prop} (a σ : St_) {n mn nf nj : Nat} (t i : Int32) (ht : inr_ t (iI_ 10) = true) (hi : -1 ≤ i.toInt ∧ i.toInt ≤ 1) (h0 : 0 < (lq_ a n mn nf nj t).1 → σ 32 0 = iI_ (lq_ a n mn nf nj t).2.1) (h1 : 1 < (lq_ a n mn nf nj t).1 → σ 32 1 = iI_ (lq_ a n mn nf nj t).2.2) (H : P (q_lift a n mn nf nj t i) σ) : MMi_ (zm_ u) mX10_ofRow [.ref (uq_ u 0), .int (iI_ (lq_ a n mn nf nj t).1), .int i] σ P := by
  rw [q_lift, if_pos ⟨ht, hi⟩] at H
  have sh := lq_sh (a := a) (n := n) (mn := mn) (nf := nf) (nj := nj) (t := t)
  have hb : -1 ≤ (lq_ a n mn nf nj t).1 ∧ (lq_ a n mn nf nj t).1 ≤ 2 := by omega
  refine eX10_ofRow u σ _ _ ⟨fun c => ?_, fun c => ?_⟩
  · rw [if_neg c] at H
    have hi2 : i = iI_ 0 ∨ i = iI_ 1 := by
      have : ¬ i.toInt = -1 := fun e => c (Int32.toInt_inj.mp (by rw [e]; decide))
      rcases (show i.toInt = 0 ∨ i.toInt = 1 by omega) with e | e
      · exact Or.inl (Int32.toInt_inj.mp (by rw [e]; decide))
      · exact Or.inr (Int32.toInt_inj.mp (by rw [e]; decide))
    rcases hi2 with rfl | rfl
    · rw [if_pos rfl] at H
      rw [iI_le (by omega) (by omega)]
      refine cs_ (fun c2 => ?_) (fun c2 => ⟨vp_in_iff.mpr (by decide), ?_⟩)
      · rw [show (lq_ a n mn nf nj t).2.1 = -1 by omega] at H; exact H
      · rw [show (iI_ 0).toNatClampNeg = 0 from rfl, h0 (by omega)]; exact H
    · rw [if_neg (by decide)] at H
      rw [iI_le (by omega) (by omega)]
      refine cs_ (fun c2 => ?_) (fun c2 => ⟨vp_in_iff.mpr (by decide), ?_⟩)
      · rw [show (lq_ a n mn nf nj t).2.2 = -1 by omega] at H; exact H
      · rw [show (iI_ 1).toNatClampNeg = 1 from rfl, h1 (by omega)]; exact H
  · rw [if_pos c] at H; exact H
theorem m_lift (u : Ux_) {P : Int32 → St_ → Prop} (a σ : St_) {n mn nf nj : Nat} (hV : Vx_ a n mn nf nj) (hW : Wt_ a) (hR : Rm_ a σ) (t i : Int32) (H : ∀ σ', Mk_ σ σ' → P (q_lift a n mn nf nj t i) σ') : MMi_ (zm_ u) mX10_lift [.ref (uq_ u 0), .int t, .int i] σ P := by
  refine eX10_lift u σ t i (m_isNight u σ _ (nxb (fun h => ?_) (fun h => m_in u σ _ _ _ (nxb (fun h2 => ?_) (fun h2 => ?_)))))
  · have := H σ Mk_.rf
    rw [q_lift, if_neg (by simp [h])] at this; exact this
  · rw [ini_f, t_1, show (iI_ (-1)).toInt = -1 by decide] at h2
    have := H σ Mk_.rf
    rw [q_lift, if_neg (fun q => h2 q.2)] at this; exact this
  · rw [ini_t, t_1, show (iI_ (-1)).toInt = -1 by decide] at h2
    exact m_liftBy u a σ hV hW hR t h (fun σ1 k1 _ p0 p1 => m_ofRow u a σ1 t i h h2 p0 p1 (H σ1 k1))
/-! agenda -/
theorem af_in {a : St_} {n : Nat} (hn : 0 < n) (x y : Int32) : af_ a n x y = x ∨ af_ a n x y = y := by
  rw [af_, if_neg (by omega)]; exact cr_in _ _ _ _ _ _
theorem m_puts (u : Ux_) {P : Int32 → St_ → Prop} (a σ : St_) {n mn nf nj : Nat} (hV : Vx_ a n mn nf nj) (hR : Rm_ a σ) (hd : Rd_ a σ n mn) (hL : Ly_ σ n (a 6) false) (hn : 0 < n) {x y : Int32} (hx : one3_ x) (hy : one3_ y) (hxy : ¬ x = y) (H : ∀ σ', Ke_ [19, 20, 21] σ σ' → P (af_ a n x y) σ') : MMi_ (zm_ u) mX10_puts [.ref (uq_ u 0), .int x, .int y] σ P := by
  have h8 := hV.1.1
  refine eX10_puts u σ _ _ (m_leans u a σ h8 hd.ro hV.o6 hL hx hy hxy (fun σ1 k1 e19 e21 => ?_))
  have b := spk_bd (a 6) n
  have b2 := spk_nn (a 6) (n - 1)
  rw [show n - 1 + 1 = n by omega] at b2
  refine m_carries u a σ1 hV (hR.mk (Mk_.ke k1 (by decide))) (hd.ro.ke (fun i hi => k1 i (by simp; omega))) (v := v1_ n (a 7) (a 6) false x y) (w := fun _ => 1) (sp := (spk_ (a 6) n).toNat) (fun i hi => ?_) (fun i hi => by rw [if_pos rfl]) (fun _ => ⟨by omega, by rw [e21]; congr 1; omega⟩) (fun σ2 k2 _ => ?_)
  · rw [e19, b_xor, show bt (iI_ 0) i = false from b_0 i, bs_bt _ n (by omega), decide_eq_true hi]; simp
  · have := H σ2 ((k1.up (by decide)).tr (k2.up (by decide)))
    rw [af_, if_neg (by omega), ← cr2_cr hn] at this
    exact this
theorem o3_0 : one3_ (iI_ 0) := by unfold one3_; decide
theorem o3_1 : one3_ (iI_ 1) := by unfold one3_; decide
theorem o3_2 : one3_ (iI_ 2) := by unfold one3_; decide
theorem m_agendaOf (u : Ux_) {P : Int32 → St_ → Prop} (a σ : St_) {n mn nf nj : Nat} (hV : Vx_ a n mn nf nj) (hW : Wt_ a) (hR : Rm_ a σ) (o : Int32) (ho : inr_ o (iI_ 3) = true) (H : ∀ σ', Mk_ σ σ' → Rd_ a σ' n mn → P (q_agenda a n o) σ') : MMi_ (zm_ u) mX10_agendaOf [.ref (uq_ u 0), .int o] σ P := by
  have h8 := hV.1.1
  refine eX10_agendaOf u σ _ (m_reads u a σ hV hW hR (fun σ1 k1 r1 => ?_))
  unfold q_agenda at H
  rw [if_pos ho] at H
  have pairs : ∀ (d p : Nat) (τ : St_), p + d = 3 → Ke_ [17, 18, 19, 20, 21] σ1 τ → Ly_ τ n (a 6) false → (0 < n → fd1_ (fun p => decide (lb_ a n p = o)) 3 0 = fd1_ (fun p => decide (lb_ a n p = o)) d p) → GG_ (zm_ u) mX10_agendaOf (Pi_ P) 48 [(0, .ref (uq_ u 0)), (1, .int o), (2, .int (iI_ p))] [] τ := by
    intro d
    induction d with
    | zero =>
      intro p τ hp ke hL hf
      have mk : Mk_ σ τ := (Mk_.ke k1 (by decide)).tr (Mk_.ke ke (by decide))
      have rd : Rd_ a τ n mn := (r1.ro.ke (fun i hi => ke i (by simp; omega))).rd
      have : p = 3 := by omega
      subst this
      refine bX10_agendaOf_48 u τ _ _ (cs_ (fun _ => ?_) (fun c => absurd (by decide) c))
      by_cases hn : 0 < n
      · rw [hf hn] at H; exact H τ mk rd
      · have : fd1_ (fun p => decide (lb_ a n p = o)) 3 0 = none := by
          have e : ∀ p, lb_ a n p = iI_ (-1) := fun p => by
            unfold lb_ af_; simp [show n = 0 by omega]
          have e2 : ¬ iI_ (-1) = o := fun z => by rw [← z] at ho; exact absurd ho (by decide)
          simp [fd1_, e, e2]
        rw [this] at H; exact H τ mk rd
    | succ d ih =>
      intro p τ hp ke hL hf
      have mk : Mk_ σ τ := (Mk_.ke k1 (by decide)).tr (Mk_.ke ke (by decide))
      have rd : Rd_ a τ n mn := (r1.ro.ke (fun i hi => ke i (by simp; omega))).rd
      refine bX10_agendaOf_48 u τ _ _ (cs_ (fun c => absurd c (by rw [iI_le (by omega) (by omega)]; omega)) (fun _ => ?_))
      rw [rd.1, iI_le (by omega) (by omega)]
      refine cs_ (fun c => ?_) (fun c => ?_)
      · have : fd1_ (fun p => decide (lb_ a n p = o)) 3 0 = none := by
          have e : ∀ p, lb_ a n p = iI_ (-1) := fun p => by
            unfold lb_ af_; simp [show n = 0 by omega]
          have e2 : ¬ iI_ (-1) = o := fun z => by rw [← z] at ho; exact absurd ho (by decide)
          simp [fd1_, e, e2]
        rw [this] at H; exact H τ mk rd
      · have hn : 0 < n := by omega
        have hf := hf hn
        rw [fd1_s _ d p] at hf
        -- two questions in a row
        have duo : ∀ {x y z : Int32}, one3_ x → one3_ y → one3_ z → ¬ x = y → ¬ x = z → ¬ y = z → lb_ a n p = af_ a n (af_ a n x y) z → MMi_ (zm_ u) mX10_puts [.ref (uq_ u 0), .int x, .int y] τ (fun r3 σ2 => MMi_ (zm_ u) mX10_puts [.ref (uq_ u 0), .int r3, .int z] σ2 (fun r5 σ4 => ((¬ r5 = o → GG_ (zm_ u) mX10_agendaOf (Pi_ P) 48 [(0, .ref (uq_ u 0)), (1, .int o), (2, .int (iI_ p + iI_ 1))] [] σ4) ∧ (r5 = o → P (iI_ p) σ4)))) := by
          intro x y z hx hy hz hxy hxz hyz hlb
          refine m_puts u a τ hV (hR.mk mk) rd hL hn hx hy hxy (fun σ2 k2 => ?_)
          have in2 := af_in (a := a) hn x y
          have ke2 : Ke_ [17, 18, 19, 20, 21] σ1 σ2 := ke.tr (k2.up (by decide))
          have mk2 : Mk_ σ σ2 := (Mk_.ke k1 (by decide)).tr (Mk_.ke ke2 (by decide))
          have rd2 : Rd_ a σ2 n mn := (r1.ro.ke (fun i hi => ke2 i (by simp; omega))).rd
          have hL2 : Ly_ σ2 n (a 6) false := fun k hk => by rw [k2 17 (by decide), k2 18 (by decide)]; exact hL k hk
          refine m_puts u a σ2 hV (hR.mk mk2) rd2 hL2 hn (by rcases in2 with e | e <;> rw [e] <;> assumption) hz (by rcases in2 with e | e <;> rw [e] <;> assumption) (fun σ4 k4 => ?_)
          have ke4 : Ke_ [17, 18, 19, 20, 21] σ1 σ4 := ke2.tr (k4.up (by decide))
          have mk4 : Mk_ σ σ4 := (Mk_.ke k1 (by decide)).tr (Mk_.ke ke4 (by decide))
          have rd4 : Rd_ a σ4 n mn := (r1.ro.ke (fun i hi => ke4 i (by simp; omega))).rd
          have hL4 : Ly_ σ4 n (a 6) false := fun k hk => by rw [k4 17 (by decide), k4 18 (by decide)]; exact hL2 k hk
          rw [← hlb]
          refine ⟨fun c => ?_, fun c => ?_⟩
          · rw [if_neg (by simp [c])] at hf
            rw [iI_succ]
            exact ih (p + 1) σ4 (by omega) ke4 hL4 (fun _ => hf)
          · rw [if_pos (by simp [c])] at hf
            rw [hf] at H; exact H σ4 mk4 rd4
        rcases (show p = 0 ∨ p = 1 ∨ p = 2 by omega) with rfl | rfl | rfl
        · refine ⟨fun _ => bX10_agendaOf_70 u τ _ _ _ ⟨fun c => absurd (by decide) c, fun _ => ?_⟩, fun c => absurd c (by decide)⟩
          rw [show iI_ 3 - iI_ 0 - iI_ 1 = iI_ 2 by decide]
          exact duo o3_0 o3_1 o3_2 (by decide) (by decide) (by decide) (by rw [lb_, if_pos rfl])
        · refine ⟨fun _ => bX10_agendaOf_70 u τ _ _ _ ⟨fun _ => ?_, fun c => absurd c (by decide)⟩, fun c => absurd c (by decide)⟩
          rw [show iI_ 3 - iI_ 0 - iI_ 2 = iI_ 1 by decide]
          exact duo o3_0 o3_2 o3_1 (by decide) (by decide) (by decide) (by rw [lb_, if_neg (by decide), if_pos rfl])
        · refine ⟨fun c => absurd (by decide) c, fun _ => bX10_agendaOf_70 u τ _ _ _ ⟨fun _ => ?_, fun c => absurd c (by decide)⟩⟩
          rw [show iI_ 3 - iI_ 1 - iI_ 2 = iI_ 0 by decide]
          exact duo o3_1 o3_2 o3_0 (by decide) (by decide) (by decide) (by rw [lb_, if_neg (by decide), if_neg (by decide)])
  have start : ∀ (d k : Nat) (τ : St_), k + d = n → Ke_ [17, 18, 19, 20, 21] σ1 τ → Ly_ τ k (a 6) false → GG_ (zm_ u) mX10_agendaOf (Pi_ P) 6 [(0, .ref (uq_ u 0)), (1, .int o), (2, .int (iI_ k))] [] τ := by
    intro d
    induction d with
    | zero =>
      intro k τ hk ke hL
      have : k = n := by omega
      subst this
      exact bX10_agendaOf_6 u τ _ _ (cs_ (fun _ => pairs 3 0 τ (by omega) ke hL (fun _ => rfl)) (fun c => absurd (by rw [ke 2 (by decide), r1.1]; exact Int32.le_refl _) c))
    | succ d ih =>
      intro k τ hk ke hL
      have hin : vp_in (iI_ k) 8 := (iI_in (by omega)).mpr (by omega)
      have hin9 : vp_in (iI_ k) 9 := (iI_in (by omega)).mpr (by omega)
      have pb := (hV.1.2.2 k (by omega)).2.1
      refine bX10_agendaOf_6 u τ _ _ (cs_ (fun c => absurd c (by rw [ke 2 (by decide), r1.1, iI_le (by omega) (by omega)]; omega)) (fun _ => ⟨hin9, hin, fun σ3 e3 => ⟨hin9, hin, fun σ6 e6 => ?_⟩⟩))
      rw [iI_ix (by omega), ke 4 (by decide), (r1.2.2.1 k (by omega)).2.1] at e3
      rw [iI_ix (by omega), e3, su_i (k := 4) _ _ _ (by decide), ke 4 (by decide), (r1.2.2.1 k (by omega)).2.1] at e6
      rw [iI_succ]
      refine ih (k + 1) σ6 (by omega) (by rw [e6]; exact (ke.su (by decide)).su (by decide)) (fun i hi => ?_)
      rw [e6, su_i (k := 17) _ _ _ (by decide), su_at, su_at, su_i (k := 18) _ _ _ (by decide)]
      by_cases z : i = k
      · subst z
        simp only [and_self, if_true]
        refine ⟨trivial, ?_, pb⟩
        rw [← iI_of (a 6 i), iI_sub, iI_toInt (by omega)]
        unfold wm_
        simp only [Bool.false_eq_true, if_false]
        rw [if_pos (by omega)]; congr 1; omega
      · rw [if_neg (fun q => z q.2), if_neg (fun q => z q.2)]; exact hL i (by omega)
  exact start n 0 σ1 (by omega) Ke_.rf (fun i hi => by omega)
theorem m_agenda (u : Ux_) {P : Int32 → St_ → Prop} (a σ : St_) {n mn nf nj : Nat} (hV : Vx_ a n mn nf nj) (hW : Wt_ a) (hR : Rm_ a σ) (o : Int32) (H : ∀ σ', Mk_ σ σ' → P (q_agenda a n o) σ') : MMi_ (zm_ u) mX10_agenda [.ref (uq_ u 0), .int o] σ P := by
  refine eX10_agenda u σ o (m_in u σ _ _ _ ?_)
  rw [ini_inr o 2 (by decide)]
  simp only [show (2 : Int) + 1 = 3 from rfl]
  refine nxb (fun h => ?_) (fun h => m_agendaOf u a σ hV hW hR o h (fun σ1 k1 _ => H σ1 k1))
  have := H σ Mk_.rf
  unfold q_agenda at this
  rw [if_neg (by simp [h])] at this; exact this
