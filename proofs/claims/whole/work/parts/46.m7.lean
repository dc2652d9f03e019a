/-! ===== the reference: nights one by one ===== -/
/-- the folds of one night, for one member who lay at p -/
def fl1_ (a : St_) (nb : Nat → Bool) (t : Int32) (k : Nat) (p : Int32) : Nat → Int32
  | 0 => p
  | f + 1 => if a 15 f = t ∧ a 16 f = iI_ k ∧ nb f = false then a 17 f else fl1_ a nb t k p f
/-- where member k lies after t nights -/
def lR_ (a : St_) (nf : Nat) (nb : Nat → Bool) (T : Int32) (lb : Nat → Bool) (k : Nat) : Nat → Int32
  | 0 => a 6 k
  | t + 1 => if T = iI_ t ∧ lb k = true then iI_ 0 else fl1_ a nb (iI_ t) k (lR_ a nf nb T lb k t) nf
/-- what is told to the nights -/
def Sg_ (σ : St_) (n nf : Nat) (nb jb : Nat → Bool) (T : Int32) (lb : Nat → Bool) : Prop := (∀ i, i < nf → bt (σ 22 0) i = nb i) ∧ (∀ t, t < 10 → bt (σ 23 0) t = jb t) ∧ σ 24 0 = T ∧ ∀ k, k < n → bt (σ 25 0) k = lb k
theorem Sg_.ke {σ σ' : St_} {n nf : Nat} {nb jb lb : Nat → Bool} {T : Int32} (h : Sg_ σ n nf nb jb T lb) (e : ∀ k, 22 ≤ k ∧ k < 26 → σ' k = σ k) : Sg_ σ' n nf nb jb T lb := by
  unfold Sg_ at *
  rw [e 22 (by omega), e 23 (by omega), e 24 (by omega), e 25 (by omega)]; exact h
theorem fl1_bd {a : St_} {nb : Nat → Bool} {t : Int32} {k nf : Nat} (hF : ∀ i, i < nf → isF_ (a 15 i) (a 16 i) (a 17 i) = true) {p : Int32} (hp : 0 ≤ p.toInt ∧ p.toInt < 6) : ∀ f, f ≤ nf → 0 ≤ (fl1_ a nb t k p f).toInt ∧ (fl1_ a nb t k p f).toInt < 6 := by
  intro f
  induction f with
  | zero => intro _; exact hp
  | succ f ih =>
    intro hf
    unfold fl1_
    split
    · have := hF f (by omega)
      simp only [isF_, Bool.and_eq_true, inr_t, t_6] at this
      exact this.2.2
    · exact ih (by omega)
theorem lR_bd {a : St_} {n mn nf nj : Nat} (hV : Vx_ a n mn nf nj) (nb : Nat → Bool) (T : Int32) (lb : Nat → Bool) {k : Nat} (hk : k < n) : ∀ t, 0 ≤ (lR_ a nf nb T lb k t).toInt ∧ (lR_ a nf nb T lb k t).toInt < 6 := by
  intro t
  induction t with
  | zero => exact (hV.1.2.2 k hk).2.1
  | succ t ih =>
    unfold lR_
    split
    · decide
    · exact fl1_bd hV.2.2.1.2.2 ih nf (by omega)
theorem m_laysOut (u : Ux_) {P : St_ → Prop} (a σ : St_) {n mn nf nj : Nat} (hV : Vx_ a n mn nf nj) (hR : Rm_ a σ) (h2 : σ 2 0 = iI_ n) {nb jb : Nat → Bool} {T : Int32} {lb : Nat → Bool} (hg : Sg_ σ n nf nb jb T lb) {t : Nat} (ht : t < 10) {p : Nat → Int32} (hp : ∀ k, k < n → σ 17 k = p k ∧ 0 ≤ (p k).toInt ∧ (p k).toInt < 6)
    (H : ∀ σ', Ke_ [17, 18] σ σ' → Ly_ σ' n (fun k => if T = iI_ t ∧ lb k = true then iI_ 0 else fl1_ a nb (iI_ t) k (p k) nf) (jb t) → P σ') : MMv_ (zm_ u) mX10_laysOut [.ref (uq_ u 0), .int (iI_ t)] σ P := by
  have h8 := hV.1.1
  obtain ⟨hf8, ef, hF⟩ := hV.2.2.1
  refine eX10_laysOut u σ _ ?_
  let q : Nat → Int32 := fun k => if T = iI_ t ∧ lb k = true then iI_ 0 else fl1_ a nb (iI_ t) k (p k) nf
  have key : ∀ (d k : Nat) (τ : St_), k + d = n → Ke_ [17, 18] σ τ → (∀ i, i < n → τ 17 i = if i < k then q i else p i) → (∀ i, i < k → τ 18 i = iI_ (wm_ (q i).toInt (jb t))) → GG_ (zm_ u) mX10_laysOut (Pv_ P) 2 [(0, .ref (uq_ u 0)), (1, .int (iI_ t)), (2, .int (iI_ k))] [] τ := by
    intro d
    induction d with
    | zero =>
      intro k τ hk ke h17 h18
      have : k = n := by omega
      subst this
      refine bX10_laysOut_2 u τ _ _ (cs_ (fun _ => H τ ke (fun i hi => ⟨?_, h18 i hi, ?_⟩)) (fun c => absurd (by rw [ke 2 (by decide), h2]; exact Int32.le_refl _) c))
      · rw [h17 i hi, if_pos hi]
      · show 0 ≤ (q i).toInt ∧ (q i).toInt < 6
        show 0 ≤ (if T = iI_ t ∧ lb i = true then iI_ 0 else fl1_ a nb (iI_ t) i (p i) nf).toInt ∧ (if T = iI_ t ∧ lb i = true then iI_ 0 else fl1_ a nb (iI_ t) i (p i) nf).toInt < 6
        split
        · decide
        · exact fl1_bd hF (hp i hi).2 nf (by omega)
    | succ d ih =>
      intro k τ hk ke h17 h18
      have hin : vp_in (iI_ k) 8 := (iI_in (by omega)).mpr (by omega)
      -- after the folds: the lift, the warmth
      have last : ∀ (y0 : Int32) (τ : St_), Ke_ [17, 18] σ τ → (∀ i, i < n → i ≠ k → τ 17 i = if i < k then q i else p i) → (∀ i, i < k → τ 18 i = iI_ (wm_ (q i).toInt (jb t))) → y0 = q k → 0 ≤ y0.toInt ∧ y0.toInt < 6 → GG_ (zm_ u) mX10_laysOut (Pv_ P) 103 [(0, .ref (uq_ u 0)), (1, .int (iI_ t)), (2, .int (iI_ k))] [.int y0, .int (iI_ k), .ref (uq_ u 14)] τ := by
        intro y0 τ ke h17 h18 hy hb
        refine bX10_laysOut_103 u τ _ _ _ _ ⟨hin, fun σ1 e1 => ⟨hin, ?_⟩⟩
        rw [iI_ix (by omega)] at e1
        have ke1 : Ke_ [17, 18] σ σ1 := by rw [e1]; exact ke.su (by decide)
        have ey : σ1 17 k = iI_ y0.toInt := by rw [e1, su_same, iI_of]
        rw [iI_ix (by omega), ey, iI_sub, iI_sub, iI_sub, iI_le (by omega) (by omega), iI_le (by omega) (by omega)]
        refine m_isIn u σ1 _ (by omega) ?_
        have ej : bt (σ1 23 0) t = jb t := by rw [ke1 23 (by decide)]; exact hg.2.1 t ht
        rw [ej]
        have nxt : ∀ (w : Int) (τ' : St_), τ' = su_ σ1 18 k (iI_ w) → w = wm_ y0.toInt (jb t) → GG_ (zm_ u) mX10_laysOut (Pv_ P) 2 [(0, .ref (uq_ u 0)), (1, .int (iI_ t)), (2, .int (iI_ k + iI_ 1))] [] τ' := by
          intro w τ' e hw
          rw [iI_succ]
          refine ih (k + 1) τ' (by omega) (by rw [e]; exact ke1.su (by decide)) (fun i hi => ?_) (fun i hi => ?_)
          · rw [e, su_i _ _ _ (by decide), e1]
            by_cases z : i = k
            · rw [z, su_same, if_pos (by omega), hy]
            · rw [su_j _ _ _ z, h17 i hi z]
              by_cases z2 : i < k
              · rw [if_pos z2, if_pos (by omega)]
              · rw [if_neg z2, if_neg (by omega)]
          · by_cases z : i = k
            · rw [e, z, su_same, hw, hy]
            · rw [e, su_j _ _ _ z, e1, su_i _ _ _ (by decide)]; exact h18 i (by omega)
        refine nxb (fun h => ?_) (fun h => ?_)
        · rw [h] at nxt
          refine cs_ (fun c => ⟨hin, fun τ' e => nxt 0 τ' e ?_⟩) (fun c => ⟨hin, fun τ' e => nxt _ τ' e ?_⟩)
          · unfold wm_; simp only [Bool.false_eq_true, if_false]; split <;> omega
          · unfold wm_; simp only [Bool.false_eq_true, if_false]; rw [if_pos (by omega)]
        · rw [h] at nxt
          refine cs_ (fun c => ⟨hin, fun τ' e => nxt 0 τ' e ?_⟩) (fun c => ⟨hin, fun τ' e => nxt _ τ' e ?_⟩)
          · unfold wm_; simp only [if_true]; split <;> omega
          · unfold wm_; simp only [if_true]; rw [if_pos (by omega)]
      have folds : ∀ (e f : Nat) (τ : St_), f + e = nf → Ke_ [17, 18] σ τ → (∀ i, i < n → i ≠ k → τ 17 i = if i < k then q i else p i) → τ 17 k = fl1_ a nb (iI_ t) k (p k) f → (∀ i, i < k → τ 18 i = iI_ (wm_ (q i).toInt (jb t))) → GG_ (zm_ u) mX10_laysOut (Pv_ P) 12 [(0, .ref (uq_ u 0)), (1, .int (iI_ t)), (2, .int (iI_ k)), (3, .int (iI_ f))] [] τ := by
        intro e
        induction e with
        | zero =>
          intro f τ hf ke h17 hk17 h18
          have : f = nf := by omega
          subst this
          have hRt : τ 11 0 = iI_ f := by rw [ke 11 (by decide), hR.2.2.2.1, ef]
          have hgt := hg.ke (σ' := τ) (fun i hi => ke i (by simp; omega))
          have fb := fl1_bd (nb := nb) (t := iI_ t) (k := k) hF (hp k (by omega)).2 f (by omega)
          refine bX10_laysOut_12 u τ _ _ _ (cs_ (fun _ => ?_) (fun c => absurd (by rw [hRt]; exact Int32.le_refl _) c))
          rw [hgt.2.2.1, iI_ix (by omega), hk17]
          refine ⟨fun c => ⟨hin, last _ τ ke h17 h18 ?_ fb⟩, fun c => m_isIn u τ _ (by omega) ?_⟩
          · show _ = if T = iI_ t ∧ lb k = true then iI_ 0 else fl1_ a nb (iI_ t) k (p k) f
            rw [if_neg (fun z => c z.1)]
          · rw [hgt.2.2.2 k (by omega)]
            refine nxb (fun h => ⟨hin, ?_⟩) (fun h => ?_)
            · rw [hk17]
              refine last _ τ ke h17 h18 ?_ fb
              show _ = if T = iI_ t ∧ lb k = true then iI_ 0 else fl1_ a nb (iI_ t) k (p k) f
              rw [if_neg (by simp [h])]
            · refine last _ τ ke h17 h18 ?_ (by decide)
              show _ = if T = iI_ t ∧ lb k = true then iI_ 0 else fl1_ a nb (iI_ t) k (p k) f
              rw [if_pos ⟨c, h⟩]
        | succ e ih2 =>
          intro f τ hf ke h17 hk17 h18
          have hRt : τ 11 0 = iI_ nf := by rw [ke 11 (by decide), hR.2.2.2.1, ef]
          have hgt := hg.ke (σ' := τ) (fun i hi => ke i (by simp; omega))
          have hinf : vp_in (iI_ f) 8 := (iI_in (by omega)).mpr (by omega)
          obtain ⟨r12, r13, r14⟩ := hR.2.2.2.2.1 f (by omega)
          have e12 : τ 12 f = a 15 f := by rw [ke 12 (by decide)]; exact r12
          have e13 : τ 13 f = a 16 f := by rw [ke 13 (by decide)]; exact r13
          have e14 : τ 14 f = a 17 f := by rw [ke 14 (by decide)]; exact r14
          have skip : ¬ (a 15 f = iI_ t ∧ a 16 f = iI_ k ∧ nb f = false) → GG_ (zm_ u) mX10_laysOut (Pv_ P) 12 [(0, .ref (uq_ u 0)), (1, .int (iI_ t)), (2, .int (iI_ k)), (3, .int (iI_ f + iI_ 1))] [] τ := by
            intro z
            rw [iI_succ]
            exact ih2 (f + 1) τ (by omega) ke h17 (by rw [fl1_, if_neg z]; exact hk17) h18
          refine bX10_laysOut_12 u τ _ _ _ (cs_ (fun c => absurd c (by rw [hRt, iI_le (by omega) (by omega)]; omega)) (fun _ => ⟨hinf, ?_⟩))
          rw [iI_ix (show f < 2147483648 by omega), e12, e13]
          refine ⟨fun c => skip (fun z => c z.1), fun c => ⟨hinf, fun c2 => skip (fun z => c2 z.2.1), fun c2 => m_isIn u τ _ (by omega) ?_⟩⟩
          rw [hgt.1 f (by omega)]
          refine nxn (fun h => ⟨hinf, hin, fun σ16 e16 => ?_⟩) (fun h => skip (by simp [h]))
          rw [iI_ix (by omega), e14] at e16
          rw [iI_succ]
          refine ih2 (f + 1) σ16 (by omega) (by rw [e16]; exact ke.su (by decide)) (fun i hi z => by rw [e16, su_j _ _ _ z]; exact h17 i hi z) (by rw [e16, su_same, fl1_, if_pos ⟨c, c2, h⟩]) (fun i hi => by rw [e16, su_i _ _ _ (by decide)]; exact h18 i hi)
      refine bX10_laysOut_2 u τ _ _ (cs_ (fun c => absurd c (by rw [ke 2 (by decide), h2, iI_le (by omega) (by omega)]; omega)) (fun _ => folds nf 0 τ (by omega) ke (fun i hi _ => h17 i hi) ?_ h18))
      rw [h17 k (by omega), if_neg (by omega)]; rfl
  exact key n 0 σ (by omega) Ke_.rf (fun i hi => by rw [if_neg (by omega)]; exact (hp i hi).1) (fun i hi => by omega)
/-! all nights -/
def cR_ (a : St_) (n mn : Nat) (or : Nat → Int32) (pos : Nat → Nat → Int32) (jb : Nat → Bool) (t : Nat) : Int32 := if 0 < n ∧ t < mn then cr_ n (v1_ n or (pos t) (jb t) (a 11 t) (a 12 t)) (ww_ a t) (pos t) (a 11 t) (a 12 t) else iI_ (-1)
def Rn_ (a σ : St_) (n mn : Nat) (or : Nat → Int32) (pos : Nat → Nat → Int32) (jb : Nat → Bool) (N : Nat) : Prop :=
  (∀ t, t < N → ∀ k, k < n → σ 26 (8 * t + k) = pos t k ∧ σ 27 (8 * t + k) = iI_ (wm_ (pos t k).toInt (jb t))) ∧ (∀ t, t < N → σ 31 t = cR_ a n mn or pos jb t) ∧
  ∀ t, t < N → t < mn → σ 28 t = bs_ (fun k => !v1_ n or (pos t) (jb t) (a 11 t) (a 12 t) k) n ∧ σ 29 t = iI_ ((ld_ (v1_ n or (pos t) (jb t) (a 11 t) (a 12 t)) (ww_ a t) n).natAbs) ∧ σ 30 t = iI_ (spk_ (pos t) n)
theorem Rn_.ke {a σ σ' : St_} {n mn N : Nat} {or : Nat → Int32} {pos : Nat → Nat → Int32} {jb : Nat → Bool} (h : Rn_ a σ n mn or pos jb N) (e : ∀ k, 26 ≤ k ∧ k < 32 → σ' k = σ k) : Rn_ a σ' n mn or pos jb N := by
  unfold Rn_ at *
  rw [e 26 (by omega), e 27 (by omega), e 28 (by omega), e 29 (by omega), e 30 (by omega), e 31 (by omega)]; exact h
theorem cr2_cr {n : Nat} (hn : 0 < n) (v : Nat → Bool) (w : Nat → Int) (pos : Nat → Int32) (fs ot : Int32) : cr2_ n v w (spk_ pos n).toNat fs ot = cr_ n v w pos fs ot := by
  unfold cr2_ cr_
  rw [if_neg (by omega)]
theorem m_runs (u : Ux_) {P : St_ → Prop} (a σ : St_) {n mn nf nj : Nat} {or : Nat → Int32} (hV : Vx_ a n mn nf nj) (hR : Rm_ a σ) (ho : or6_ n or) (hd : Ro_ a σ n mn or) {nb jb : Nat → Bool} {T : Int32} {lb : Nat → Bool} (hg : Sg_ σ n nf nb jb T lb)
    (H : ∀ σ', Ke_ [17, 18, 19, 20, 21, 26, 27, 28, 29, 30, 31] σ σ' → Rn_ a σ' n mn or (fun t k => lR_ a nf nb T lb k (t + 1)) jb 10 → P σ') : MMv_ (zm_ u) mX10_runs [.ref (uq_ u 0)] σ P := by
  have h8 := hV.1.1
  have h10 := hV.2.1.1
  refine eX10_runs u σ ?_
  have nights : ∀ (d t : Nat) (τ : St_), t + d = 10 → Ke_ [17, 18, 19, 20, 21, 26, 27, 28, 29, 30, 31] σ τ → (∀ k, k < n → τ 17 k = lR_ a nf nb T lb k t) → Rn_ a τ n mn or (fun t k => lR_ a nf nb T lb k (t + 1)) jb t → GG_ (zm_ u) mX10_runs (Pv_ P) 30 [(0, .ref (uq_ u 0)), (1, .int (iI_ t))] [] τ := by
    intro d
    induction d with
    | zero =>
      intro t τ ht ke h17 hn
      have : t = 10 := by omega
      subst this
      exact bX10_runs_30 u τ _ (cs_ (fun _ => H τ ke hn) (fun c => absurd (by decide) c))
    | succ d ih =>
      intro t τ ht ke h17 hn
      have hRt : Rm_ a τ := hR.mk (Mk_.ke ke (by decide))
      have hdt : Ro_ a τ n mn or := hd.ke (fun i hi => ke i (by simp; omega))
      have hgt := hg.ke (σ' := τ) (fun i hi => ke i (by simp; omega))
      refine bX10_runs_30 u τ _ (cs_ (fun c => absurd c (by rw [iI_le (by omega) (by omega)]; omega)) (fun _ => m_laysOut u a τ hV hRt hdt.1 hgt (by omega) (p := fun k => lR_ a nf nb T lb k t) (fun k hk => ⟨h17 k hk, lR_bd hV nb T lb hk t⟩) (fun σ2 k2 hL => ?_)))
      have hL : Ly_ σ2 n (fun k => lR_ a nf nb T lb k (t + 1)) (jb t) := hL
      have ke2 : Ke_ [17, 18, 19, 20, 21, 26, 27, 28, 29, 30, 31] σ σ2 := ke.tr (k2.up (by decide))
      have hn2 : Rn_ a σ2 n mn or (fun t k => lR_ a nf nb T lb k (t + 1)) jb t := hn.ke (fun i hi => k2 i (by simp; omega))
      have store : ∀ (e k : Nat) (τ : St_), k + e = n → Ke_ [26, 27] σ2 τ → Rn_ a τ n mn or (fun t k => lR_ a nf nb T lb k (t + 1)) jb t → (∀ i, i < k → τ 26 (8 * t + i) = lR_ a nf nb T lb i (t + 1) ∧ τ 27 (8 * t + i) = iI_ (wm_ (lR_ a nf nb T lb i (t + 1)).toInt (jb t))) → GG_ (zm_ u) mX10_runs (Pv_ P) 43 [(0, .ref (uq_ u 0)), (1, .int (iI_ t)), (2, .int (iI_ k))] [] τ := by
        intro e
        induction e with
        | zero =>
          intro k τ hk k3 hn3 hs
          have : k = n := by omega
          subst this
          have ke3 : Ke_ [17, 18, 19, 20, 21, 26, 27, 28, 29, 30, 31] σ τ := ke2.tr (k3.up (by decide))
          have hd3 : Ro_ a τ k mn or := hd.ke (fun i hi => ke3 i (by simp; omega))
          have hin10 : vp_in (iI_ t) 10 := (iI_in (by omega)).mpr (by omega)
          have hin11 : vp_in (iI_ t) 11 := (iI_in (by omega)).mpr (by omega)
          refine bX10_runs_43 u τ _ _ (cs_ (fun _ => ⟨hin10, fun σ4 e4 => ?_⟩) (fun c => absurd (by rw [hd3.1]; exact Int32.le_refl _) c))
          rw [iI_ix (by omega)] at e4
          have k4 : Ke_ [26, 27, 31] σ2 σ4 := by rw [e4]; exact (k3.up (by decide)).su (by decide)
          have ke4 : Ke_ [17, 18, 19, 20, 21, 26, 27, 28, 29, 30, 31] σ σ4 := ke2.tr (k4.up (by decide))
          have hd4 : Ro_ a σ4 k mn or := hd.ke (fun i hi => ke4 i (by simp; omega))
          have hR4 : Rm_ a σ4 := hR.mk (Mk_.ke ke4 (by decide))
          have hL4 : Ly_ σ4 k (fun k => lR_ a nf nb T lb k (t + 1)) (jb t) := fun i hi => by
            rw [k4 17 (by decide), k4 18 (by decide)]; exact hL i hi
          rw [hd4.2.1, iI_le (by omega) (by omega)]
          refine cs_ (fun c => ?_) (fun c => ⟨hin11, hin11, ?_⟩)
          · rw [iI_succ]
            refine ih (t + 1) σ4 (by omega) ke4 (fun i hi => (hL4 i hi).1) ⟨fun t' ht' i hi => ?_, fun t' ht' => ?_, fun t' ht' hm => ?_⟩
            · rw [e4, su_i _ _ _ (by decide), su_i _ _ _ (by decide)]
              by_cases z : t' = t
              · subst z; exact hs i hi
              · exact hn3.1 t' (by omega) i hi
            · by_cases z : t' = t
              · subst z
                rw [e4, su_same, cR_, if_neg (by omega)]
              · rw [e4, su_j _ _ _ z]; exact hn3.2.1 t' (by omega)
            · rw [e4, su_i _ _ _ (by decide), su_i _ _ _ (by decide), su_i _ _ _ (by decide)]
              exact hn3.2.2 t' (by omega) hm
          · obtain ⟨d7, d8, d9⟩ := hd4.2.2.2 t (by omega)
            obtain ⟨m1, m2, m3, m4⟩ := hV.2.1.2.2 t (by omega)
            rw [iI_ix (by omega), d7, d8]
            refine m_leans u a σ4 h8 hd4 ho hL4 m1 m2 m3 (fun σ7 k7 e19 e21 => ⟨hin11, hin11, hin11, ?_⟩)
            have ke7 : Ke_ [17, 18, 19, 20, 21, 26, 27, 28, 29, 30, 31] σ σ7 := ke4.tr (k7.up (by decide))
            have hd7 : Ro_ a σ7 k mn or := hd.ke (fun i hi => ke7 i (by simp; omega))
            have hR7 : Rm_ a σ7 := hR.mk (Mk_.ke ke7 (by decide))
            rw [k7 7 (by decide), k7 8 (by decide), k7 9 (by decide), d7, d8, d9]
            have sb := spk_bd (fun k => lR_ a nf nb T lb k (t + 1)) k
            refine m_carries u a σ7 hV hR7 hd7 (v := v1_ k or (fun k => lR_ a nf nb T lb k (t + 1)) (jb t) (a 11 t) (a 12 t)) (w := ww_ a t) (sp := (spk_ (fun k => lR_ a nf nb T lb k (t + 1)) k).toNat) (fun i hi => ?_) (fun i hi => ?_) (fun hpos => ?_) (fun σ11 k11 e20 => ⟨hin10, fun σ13 e13 => ⟨hin10, fun σ15 e15 => ⟨hin10, fun σ17 e17 => ⟨hin10, fun σ19 e19' => ?_⟩⟩⟩⟩)
            · rw [e19, b_xor, show bt (iI_ 0) i = false from b_0 i, bs_bt _ k (by omega), decide_eq_true hi]; simp
            · unfold ww_
              rcases m4 with z | z
              · rw [z, if_neg (by decide), if_pos rfl]
              · rw [z, if_pos rfl, if_neg (by decide)]
            · have := spk_nn (fun k => lR_ a nf nb T lb k (t + 1)) (k - 1)
              rw [show k - 1 + 1 = k by omega] at this
              refine ⟨by omega, ?_⟩
              rw [e21]; congr 1; omega
            · have kk : Ke_ [19, 20, 21, 28, 29, 30, 31] σ4 σ19 := by
                have z1 : Ke_ [19, 20, 21, 28, 29, 30, 31] σ4 σ11 := (k7.up (by decide)).tr (k11.up (by decide))
                rw [e19', e17, e15, e13]
                exact (((z1.su (by decide)).su (by decide)).su (by decide)).su (by decide)
              have v28 : ∀ l, σ19 28 l = if l = t then σ11 19 0 else σ4 28 l := fun l => by
                rw [e19', su_i _ _ _ (by decide), e17, su_i _ _ _ (by decide), e15, su_at, e13, su_i _ _ _ (by decide), su_i _ _ _ (by decide), k11 28 (by decide), k7 28 (by decide)]; simp
              have v29 : ∀ l, σ19 29 l = if l = t then σ11 20 0 else σ4 29 l := fun l => by
                rw [e19', su_i _ _ _ (by decide), e17, su_at, e15, su_i _ _ _ (by decide), su_i _ _ _ (by decide), e13, su_i _ _ _ (by decide), su_i _ _ _ (by decide), k11 29 (by decide), k7 29 (by decide)]; simp
              have v30 : ∀ l, σ19 30 l = if l = t then σ11 21 0 else σ4 30 l := fun l => by
                rw [e19', su_at, e17, su_i _ _ _ (by decide), su_i _ _ _ (by decide), e15, su_i _ _ _ (by decide), su_i _ _ _ (by decide), e13, su_i _ _ _ (by decide), su_i _ _ _ (by decide), k11 30 (by decide), k7 30 (by decide)]; simp
              have v31 : ∀ l, σ19 31 l = if l = t then cr2_ k (v1_ k or (fun k => lR_ a nf nb T lb k (t + 1)) (jb t) (a 11 t) (a 12 t)) (ww_ a t) (spk_ (fun k => lR_ a nf nb T lb k (t + 1)) k).toNat (a 11 t) (a 12 t) else σ4 31 l := fun l => by
                rw [e19', su_i _ _ _ (by decide), e17, su_i _ _ _ (by decide), e15, su_i _ _ _ (by decide), e13, su_at, k11 31 (by decide), k7 31 (by decide)]; simp
              rw [iI_succ]
              refine ih (t + 1) σ19 (by omega) (ke4.tr (kk.up (by decide))) (fun i hi => by rw [kk 17 (by decide)]; exact (hL4 i hi).1) ⟨fun t' ht' i hi => ?_, fun t' ht' => ?_, fun t' ht' hm => ?_⟩
              · rw [kk 26 (by decide), kk 27 (by decide), e4, su_i _ _ _ (by decide), su_i _ _ _ (by decide)]
                by_cases z : t' = t
                · subst z; exact hs i hi
                · exact hn3.1 t' (by omega) i hi
              · rw [v31]
                by_cases z : t' = t
                · subst z
                  rw [if_pos rfl, cR_]
                  by_cases hpos : 0 < k
                  · rw [if_pos ⟨hpos, by omega⟩, ← cr2_cr hpos]
                  · rw [if_neg (fun z => hpos z.1), cr2_, if_pos (by omega)]
                · rw [if_neg z, e4, su_j _ _ _ z]; exact hn3.2.1 t' (by omega)
              · rw [v28, v29, v30]
                by_cases z : t' = t
                · subst z
                  rw [if_pos rfl, if_pos rfl, if_pos rfl, k11 19 (by decide), k11 21 (by decide)]
                  exact ⟨e19, e20, e21⟩
                · rw [if_neg z, if_neg z, if_neg z, e4, su_i _ _ _ (by decide), su_i _ _ _ (by decide), su_i _ _ _ (by decide)]
                  exact hn3.2.2 t' (by omega) hm
        | succ e ih2 =>
          intro k τ hk k3 hn3 hs
          have x0 : iI_ 8 * iI_ t + iI_ k = iI_ (8 * t + k : Nat) := by rw [iI_mul, iI_add]; congr 1
          have hin : vp_in (iI_ k) 8 := (iI_in (by omega)).mpr (by omega)
          have hin2 : vp_in (iI_ (8 * t + k : Nat)) 80 := (iI_in (by omega)).mpr (by omega)
          obtain ⟨l17, l18, -⟩ := hL k (by omega)
          refine bX10_runs_43 u τ _ _ (cs_ (fun c => absurd c (by rw [k3 2 (by decide), k2 2 (by decide), hdt.1, iI_le (by omega) (by omega)]; omega)) (fun _ => ?_))
          rw [x0, iI_ix (by omega), iI_ix (by omega), iI_succ]
          refine ⟨hin, hin2, fun σ22 e22 => ⟨hin, hin2, fun σ25 e25 => ?_⟩⟩
          rw [k3 17 (by decide), l17] at e22
          rw [e22, su_i (k := 18) _ _ _ (by decide), k3 18 (by decide), l18] at e25
          have v26 : ∀ l, σ25 26 l = if l = 8 * t + k then lR_ a nf nb T lb k (t + 1) else τ 26 l := fun l => by
            rw [e25, su_i _ _ _ (by decide), su_at]; simp
          have v27 : ∀ l, σ25 27 l = if l = 8 * t + k then iI_ (wm_ (lR_ a nf nb T lb k (t + 1)).toInt (jb t)) else τ 27 l := fun l => by
            rw [e25, su_at, su_i _ _ _ (by decide)]; simp
          refine ih2 (k + 1) σ25 (by omega) (by rw [e25]; exact (k3.su (by decide)).su (by decide)) ⟨fun t' ht' i hi => ?_, fun t' ht' => ?_, fun t' ht' hm => ?_⟩ (fun i hi => ?_)
          · rw [v26, v27, if_neg (by omega), if_neg (by omega)]; exact hn3.1 t' ht' i hi
          · rw [e25, su_i _ _ _ (by decide), su_i _ _ _ (by decide)]; exact hn3.2.1 t' ht'
          · rw [e25, su_i _ _ _ (by decide), su_i _ _ _ (by decide), su_i _ _ _ (by decide), su_i _ _ _ (by decide), su_i _ _ _ (by decide), su_i _ _ _ (by decide)]; exact hn3.2.2 t' ht' hm
          · rw [v26, v27]
            by_cases z : i = k
            · subst z; rw [if_pos rfl, if_pos rfl]; exact ⟨rfl, rfl⟩
            · rw [if_neg (by omega), if_neg (by omega)]; exact hs i (by omega)
      exact store n 0 σ2 (by omega) Ke_.rf hn2 (fun i hi => by omega)
  have start : ∀ (d k : Nat) (τ : St_), k + d = n → Ke_ [17, 18, 19, 20, 21, 26, 27, 28, 29, 30, 31] σ τ → (∀ i, i < k → τ 17 i = a 6 i) → GG_ (zm_ u) mX10_runs (Pv_ P) 2 [(0, .ref (uq_ u 0)), (1, .int (iI_ k))] [] τ := by
    intro d
    induction d with
    | zero =>
      intro k τ hk ke h17
      have : k = n := by omega
      subst this
      exact bX10_runs_2 u τ _ (cs_ (fun _ => nights 10 0 τ (by omega) ke h17 ⟨fun t ht => by omega, fun t ht => by omega, fun t ht => by omega⟩) (fun c => absurd (by rw [ke 2 (by decide), hd.1]; exact Int32.le_refl _) c))
    | succ d ih =>
      intro k τ hk ke h17
      have hin : vp_in (iI_ k) 8 := (iI_in (by omega)).mpr (by omega)
      refine bX10_runs_2 u τ _ (cs_ (fun c => absurd c (by rw [ke 2 (by decide), hd.1, iI_le (by omega) (by omega)]; omega)) (fun _ => ⟨(iI_in (by omega)).mpr (by omega), hin, fun σ3 e3 => ?_⟩))
      rw [iI_ix (by omega), ke 4 (by decide), (hd.2.2.1 k (by omega)).2.1] at e3
      rw [iI_succ]
      refine ih (k + 1) σ3 (by omega) (by rw [e3]; exact ke.su (by decide)) (fun i hi => ?_)
      by_cases z : i = k
      · rw [e3, z, su_same]
      · rw [e3, su_j _ _ _ z]; exact h17 i (by omega)
  exact start n 0 σ (by omega) Ke_.rf (fun i hi => by omega)
/-! nights one by one are the folds at one go -/
theorem isF_n {n m s : Int32} (h : isF_ n m s = true) : 0 ≤ n.toInt ∧ n.toInt < 10 := by
  simp only [isF_, Bool.and_eq_true, inr_t, t_10] at h
  exact h.1
theorem ly_2 {a : St_} {nf : Nat} (hF : ∀ i, i < nf → isF_ (a 15 i) (a 16 i) (a 17 i) = true) {t wo : Int32} {m : Nat} (ht : 0 ≤ t.toInt) : ∀ f, f ≤ nf → 0 ≤ (ly_ a t wo m f).2.toInt ∧ (ly_ a t wo m f).2.toInt ≤ t.toInt := by
  intro f
  induction f with
  | zero => intro _; unfold ly_; rw [t_0]; omega
  | succ f ih =>
    intro hf
    have d := isF_n (hF f (by omega))
    unfold ly_
    split
    · rename_i c
      have c3 := c.2.2.1
      rw [iI_ltI] at c3
      show 0 ≤ (a 15 f).toInt ∧ (a 15 f).toInt ≤ t.toInt
      omega
    · exact ih (by omega)
theorem ly_fl {a : St_} {nf : Nat} (hF : ∀ i, i < nf → isF_ (a 15 i) (a 16 i) (a 17 i) = true) {t wo : Int32} {m : Nat} (ht : 0 ≤ t.toInt) {nb : Nat → Bool} (hb : ∀ i, i < nf → nb i = decide (iI_ i = wo)) {G : Nat → Int32 × Int32} (g0 : G 0 = (a 6 m, iI_ 0)) (gs : ∀ f, f < nf → G (f + 1) = if ¬ iI_ f = wo ∧ a 16 f = iI_ m ∧ (a 15 f).toInt < t.toInt ∧ ¬ a 15 f < (G f).2 then (a 17 f, a 15 f) else G f) :
    ∀ f, f ≤ nf → ((∀ p, fl1_ a nb t m p f = (ly_ a t wo m f).1) ∧ (ly_ a t wo m f).2 = t) ∨ ((∀ p, fl1_ a nb t m p f = p) ∧ ly_ a t wo m f = G f) := by
  intro f
  induction f with
  | zero => intro _; exact Or.inr ⟨fun p => rfl, by rw [g0]; rfl⟩
  | succ f ih =>
    intro hf
    have d := isF_n (hF f (by omega))
    have l2 := ly_2 hF (wo := wo) (m := m) ht f (by omega)
    have bf := hb f (by omega)
    have sf := gs f (by omega)
    have efl : ∀ p, fl1_ a nb t m p (f + 1) = if a 15 f = t ∧ a 16 f = iI_ m ∧ nb f = false then a 17 f else fl1_ a nb t m p f := fun p => rfl
    have ely : ly_ a t wo m (f + 1) = if ¬ iI_ f = wo ∧ a 16 f = iI_ m ∧ ¬ t < a 15 f ∧ ¬ a 15 f < (ly_ a t wo m f).2 then (a 17 f, a 15 f) else ly_ a t wo m f := rfl
    by_cases h1 : ¬ iI_ f = wo ∧ a 16 f = iI_ m
    · have nbf : nb f = false := by rw [bf, decide_eq_false h1.1]
      by_cases h2 : a 15 f = t
      · refine Or.inl ⟨fun p => ?_, ?_⟩
        · rw [efl, ely, if_pos ⟨h2, h1.2, nbf⟩, if_pos ⟨h1.1, h1.2, by rw [iI_ltI, h2]; omega, by rw [iI_ltI, h2]; omega⟩]
        · rw [ely, if_pos ⟨h1.1, h1.2, by rw [iI_ltI, h2]; omega, by rw [iI_ltI, h2]; omega⟩]; exact h2
      · have h3 : ¬ (a 15 f).toInt = t.toInt := fun e => h2 (Int32.toInt_inj.mp e)
        have e1 : ∀ p, fl1_ a nb t m p (f + 1) = fl1_ a nb t m p f := fun p => by rw [efl, if_neg (fun z => h2 z.1)]
        rcases ih (by omega) with ⟨i1, i2⟩ | ⟨i1, i2⟩
        · have e2 : ly_ a t wo m (f + 1) = ly_ a t wo m f := by
            rw [ely, if_neg]
            rintro ⟨-, -, z1, z2⟩
            rw [iI_ltI] at z1 z2
            rw [i2] at z2; omega
          exact Or.inl ⟨fun p => by rw [e1, e2]; exact i1 p, by rw [e2]; exact i2⟩
        · refine Or.inr ⟨fun p => by rw [e1]; exact i1 p, ?_⟩
          rw [ely, sf, i2]
          by_cases h4 : ¬ a 15 f < (G f).2
          · by_cases h5 : (a 15 f).toInt < t.toInt
            · rw [if_pos ⟨h1.1, h1.2, by rw [iI_ltI]; omega, h4⟩, if_pos ⟨h1.1, h1.2, h5, h4⟩]
            · rw [if_neg (fun z => by have := z.2.2.1; rw [iI_ltI] at this; omega), if_neg (fun z => h5 z.2.2.1)]
          · rw [if_neg (fun z => h4 z.2.2.2), if_neg (fun z => h4 z.2.2.2)]
    · have e1 : ∀ p, fl1_ a nb t m p (f + 1) = fl1_ a nb t m p f := fun p => by
        rw [efl, if_neg]
        rintro ⟨-, z1, z2⟩
        rw [bf] at z2
        exact h1 ⟨by simpa using z2, z1⟩
      have e2 : ly_ a t wo m (f + 1) = ly_ a t wo m f := by rw [ely, if_neg (fun z => h1 ⟨z.1, z.2.1⟩)]
      have e3 : G (f + 1) = G f := by rw [sf, if_neg (fun z => h1 ⟨z.1, z.2.1⟩)]
      rcases ih (by omega) with ⟨i1, i2⟩ | ⟨i1, i2⟩
      · exact Or.inl ⟨fun p => by rw [e1, e2]; exact i1 p, by rw [e2]; exact i2⟩
      · exact Or.inr ⟨fun p => by rw [e1]; exact i1 p, by rw [e2, e3]; exact i2⟩
theorem lR_ps {a : St_} {nf : Nat} (hF : ∀ i, i < nf → isF_ (a 15 i) (a 16 i) (a 17 i) = true) {wo T : Int32} {m : Nat} {nb lb : Nat → Bool} (hb : ∀ i, i < nf → nb i = decide (iI_ i = wo)) : ∀ t : Nat, t < 10 → (∀ t' : Nat, t' ≤ t → ¬ T = iI_ t') → lR_ a nf nb T lb m (t + 1) = ps_ a nf (iI_ t) wo m := by
  intro t
  induction t with
  | zero =>
    intro _ hT
    unfold lR_
    rw [if_neg (fun z => hT 0 (by omega) z.1)]
    have := ly_fl hF (t := iI_ (0 : Nat)) (wo := wo) (m := m) (by decide) hb (G := fun _ => (a 6 m, iI_ 0)) rfl (fun f hf => by
      have d := isF_n (hF f hf)
      rw [if_neg]
      rintro ⟨-, -, z, -⟩
      have : (iI_ (0 : Nat)).toInt = 0 := by decide
      omega) nf (by omega)
    rcases this with ⟨i1, i2⟩ | ⟨i1, i2⟩
    · rw [i1]; rfl
    · rw [i1]; unfold ps_; rw [i2]; rfl
  | succ t ih =>
    intro ht hT
    have := ih (by omega) (fun t' ht' => hT t' (by omega))
    rw [lR_, if_neg (fun z => hT (t + 1) (by omega) z.1), this]
    have := ly_fl hF (t := iI_ (t + 1 : Nat)) (wo := wo) (m := m) (by rw [iI_toInt (by omega)]; omega) hb (G := fun f => ly_ a (iI_ t) wo m f) rfl (fun f hf => by
      have d := isF_n (hF f hf)
      show ly_ a (iI_ t) wo m (f + 1) = _
      conv => lhs; unfold ly_
      have e : (¬ iI_ (t : Nat) < a 15 f) ↔ (a 15 f).toInt < (iI_ (t + 1 : Nat)).toInt := by
        rw [iI_ltI, iI_toInt (by omega), iI_toInt (by omega)]; omega
      by_cases z : ¬ iI_ f = wo ∧ a 16 f = iI_ m ∧ ¬ iI_ (t : Nat) < a 15 f ∧ ¬ a 15 f < (ly_ a (iI_ t) wo m f).2
      · rw [if_pos z, if_pos ⟨z.1, z.2.1, e.mp z.2.2.1, z.2.2.2⟩]
      · rw [if_neg z, if_neg (fun y => z ⟨y.1, y.2.1, e.mpr y.2.2.1, y.2.2.2⟩)]) nf (by omega)
    rcases this with ⟨i1, i2⟩ | ⟨i1, i2⟩
    · rw [i1]; rfl
    · rw [i1]; unfold ps_; rw [i2]
/-! as told -/
theorem m_asTold (u : Ux_) {P : St_ → Prop} (a σ : St_) {n mn nf nj : Nat} (hV : Vx_ a n mn nf nj) (hW : Wt_ a) (hR : Rm_ a σ) (H : ∀ σ', Ke_ [2, 3, 4, 5, 6, 7, 8, 9, 22, 23, 24, 25] σ σ' → Rd_ a σ' n mn → Sg_ σ' n nf (fun _ => false) (fun t => jh_ a (iI_ t) nj) (iI_ (-1)) (fun _ => false) → P σ') : MMv_ (zm_ u) mX10_asTold [.ref (uq_ u 0)] σ P := by
  obtain ⟨hj6, ej, hJ⟩ := hV.2.2.2.1
  refine eX10_asTold u σ (m_reads u a σ hV hW hR (fun σ1 k1 r1 => fun σ2 e2 σ3 e3 σ4 e4 σ5 e5 => ?_))
  have k5 : Ke_ [2, 3, 4, 5, 6, 7, 8, 9, 22, 23, 24, 25] σ σ5 := by
    rw [e5, e4, e3, e2]
    exact ((((k1.up (by decide)).su (by decide)).su (by decide)).su (by decide)).su (by decide)
  have q5 : Ke_ [22, 23, 24, 25] σ1 σ5 := by
    rw [e5, e4, e3, e2]
    exact (((Ke_.rf.su (by decide)).su (by decide)).su (by decide)).su (by decide)
  have v22 : σ5 22 0 = iI_ 0 := by rw [e5, su_i _ _ _ (by decide), e4, su_i _ _ _ (by decide), e3, su_i _ _ _ (by decide), e2, su_same]
  have v24 : σ5 24 0 = iI_ (-1) := by rw [e5, su_i _ _ _ (by decide), e4, su_i _ _ _ (by decide), e3, su_same]
  have v25 : σ5 25 0 = iI_ 0 := by rw [e5, su_i _ _ _ (by decide), e4, su_same]
  have v23 : σ5 23 0 = iI_ 0 := by rw [e5, su_same]
  have key : ∀ (d k : Nat) (τ : St_), k + d = nj → Ke_ [23] σ5 τ → (∀ t, t < 10 → bt (τ 23 0) t = jh_ a (iI_ t) k) → GG_ (zm_ u) mX10_asTold (Pv_ P) 26 [(0, .ref (uq_ u 0)), (1, .int (iI_ k))] [] τ := by
    intro d
    induction d with
    | zero =>
      intro k τ hk ke hb
      have : k = nj := by omega
      subst this
      have e15 : τ 15 0 = iI_ k := by rw [ke 15 (by decide), k5 15 (by decide), hR.2.2.2.2.2.1, ej]
      refine bX10_asTold_26 u τ _ (cs_ (fun _ => H τ (k5.tr (ke.up (by decide))) ?_ ⟨fun i _ => ?_, hb, ?_, fun i _ => ?_⟩) (fun c => absurd (by rw [e15]; exact Int32.le_refl _) c))
      · exact (r1.ro.ke (fun i hi => by rw [ke i (by simp; omega), q5 i (by simp; omega)])).rd
      · rw [ke 22 (by decide), v22]; exact b_0 i
      · rw [ke 24 (by decide), v24]
      · rw [ke 25 (by decide), v25]; exact b_0 i
    | succ d ih =>
      intro k τ hk ke hb
      have e15 : τ 15 0 = iI_ nj := by rw [ke 15 (by decide), k5 15 (by decide), hR.2.2.2.2.2.1, ej]
      have e16 : τ 16 k = a 19 k := by rw [ke 16 (by decide), k5 16 (by decide)]; exact hR.2.2.2.2.2.2.1 k (by omega)
      obtain ⟨x, hx, ex⟩ := inr_nat (hJ k (by omega)) (by decide)
      refine bX10_asTold_26 u τ _ (cs_ (fun c => absurd c (by rw [e15, iI_le (by omega) (by omega)]; omega)) (fun _ => ⟨(iI_in (by omega)).mpr (by omega), fun σ3 e3 => ?_⟩))
      rw [iI_ix (by omega), e16, ex] at e3
      rw [iI_succ]
      refine ih (k + 1) σ3 (by omega) (by rw [e3]; exact ke.su (by decide)) (fun t ht => ?_)
      rw [e3, su_same, b_or, hb t ht, bt_pow (by omega)]
      show _ = (jh_ a (iI_ t) k || decide (a 19 k = iI_ t))
      congr 1
      rw [ex, decide_eq_decide, iI_eq (by omega) (by omega)]
      omega
  exact key nj 0 σ5 (by omega) Ke_.rf (fun t _ => by rw [v23]; exact b_0 t)
/-- the nights as told -/
def Tl_ (a σ : St_) (n mn nf nj : Nat) : Prop := Rn_ a σ n mn (a 7) (fun t => ps_ a nf (iI_ t) (iI_ (-1))) (fun t => jh_ a (iI_ t) nj) 10
theorem Rn_.pos {a σ : St_} {n mn N : Nat} {or : Nat → Int32} {pos pos' : Nat → Nat → Int32} {jb : Nat → Bool} (h : Rn_ a σ n mn or pos jb N) (e : ∀ t, t < N → pos t = pos' t) : Rn_ a σ n mn or pos' jb N := by
  obtain ⟨h1, h2, h3⟩ := h
  refine ⟨fun t ht => by rw [← e t ht]; exact h1 t ht, fun t ht => ?_, fun t ht hm => ?_⟩
  · have := h2 t ht
    unfold cR_ at this ⊢
    rw [e t ht] at this; exact this
  · rw [← e t ht]; exact h3 t ht hm
theorem m_runsTold (u : Ux_) {P : St_ → Prop} (a σ : St_) {n mn nf nj : Nat} (hV : Vx_ a n mn nf nj) (hW : Wt_ a) (hR : Rm_ a σ) (H : ∀ σ', Mk_ σ σ' → Rd_ a σ' n mn → Sg_ σ' n nf (fun _ => false) (fun t => jh_ a (iI_ t) nj) (iI_ (-1)) (fun _ => false) → Tl_ a σ' n mn nf nj → P σ') : MMv_ (zm_ u) mX10_runsTold [.ref (uq_ u 0)] σ P := by
  refine eX10_runsTold u σ (m_asTold u a σ hV hW hR (fun σ1 k1 r1 g1 => m_runs u a σ1 hV (hR.mk (Mk_.ke k1 (by decide))) hV.o6 r1.ro g1 (fun σ2 k2 n2 => H σ2 ((Mk_.ke k1 (by decide)).tr (Mk_.ke k2 (by decide))) (r1.ro.ke (fun i hi => k2 i (by simp; omega))).rd (g1.ke (fun i hi => k2 i (by simp; omega))) (n2.pos (fun t ht => ?_)))))
  funext k
  refine lR_ps hV.2.2.1.2.2 (fun i hi => ?_) t ht (fun t' ht' => ?_)
  · have := hV.2.2.1.1
    rw [decide_eq_false]
    rw [iI_eq (by omega) (by omega)]; omega
  · rw [iI_eq (by omega) (by omega)]; omega
