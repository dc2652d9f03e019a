/-! ===== one vote: leaning, counting ===== -/
theorem not_bi (b : Bool) : (if b = true then iI_ 0 else iI_ 1) = bi_ (!b) := by cases b <;> rfl
theorem x_lean (u : Ux_) {P : St_ → Prop} (po ko : Nat) (hp : Ap_ u po ko) (hko : ko < 28 ∨ 30 < ko) (σ : St_) (j : Bool) {n : Nat} (hr : Wr_ σ n) (or pos : Nat → Int32) (fs ot : Int32) (hor : ∀ m, m < n → σ ko m = or m) (hpos : ∀ m, m < n → σ 26 m = pos m ∧ 0 ≤ (pos m).toInt ∧ (pos m).toInt < 6) (e23 : σ 23 0 = fs) (e24 : σ 24 0 = ot)
    (H : ∀ σ', Ke_ [28, 29, 30] σ σ' → (∀ m, m < n → σ' 29 m = bi_ (!v1_ n or pos j fs ot m)) → σ' 30 0 = iI_ (spk_ pos n) → P σ') : MMv_ (zx_ u) mX0_lean [.ref (uq_ u 20), .ref (uq_ u po), .int (bi_ j)] σ P := by
  have h8 := hr.1
  refine eX0_lean u po ko hp σ (bi_ j) ?_
  -- the third loop
  have key3 : ∀ (d m : Nat) (τ : St_), m + d = n → Ke_ [28, 29, 30] σ τ → (∀ p : Nat, p < 6 → τ 28 p = iI_ (shl_ or pos fs ot (iI_ p) n)) → τ 30 0 = iI_ (spk_ pos n) → (∀ i, i < n → τ 29 i = if i < m then bi_ (!v1_ n or pos j fs ot i) else bi_ (!rat_ (or i) fs ot)) → GG_ (zx_ u) mX0_lean (Pv_ P) 144 [(0, .ref (uq_ u 20)), (2, .int (bi_ j)), (3, .int (iI_ m))] [] τ := by
    intro d
    induction d with
    | zero =>
      intro m τ hm hk hL hS hA
      have : m = n := by omega
      subst this
      exact bX0_lean_144 u po ko hp τ _ _ (cs_ (fun _ => H τ hk (fun i hi => by rw [hA i hi, if_pos hi]) hS) (fun c => absurd (by rw [hk 3 (by decide), hr.2.1]; exact Int32.le_refl _) c))
    | succ d ih =>
      intro m τ hm hk hL hS hA
      have hin : vp_in (iI_ m) 8 := (iI_in (by omega)).mpr (by omega)
      obtain ⟨ep, hp0, hp6⟩ := hpos m (by omega)
      obtain ⟨p, epp, hpb⟩ := iI_nat hp0
      rw [epp, iI_toInt (by omega)] at hp6
      have e26 : τ 26 m = iI_ p := by rw [hk 26 (by decide), ep, epp]
      have hin2 : vp_in (iI_ p) 6 := (iI_in (by omega)).mpr (by omega)
      have hsb := shl_bd or pos fs ot (iI_ p) n
      refine bX0_lean_144 u po ko hp τ _ _ (cs_ (fun c => absurd c (by rw [hk 3 (by decide), hr.2.1, iI_le (by omega) (by omega)]; omega)) (fun _ => ⟨hin, ?_⟩))
      rw [iI_ix (by omega), iI_succ]
      have h6 : inr_ (τ 26 m) (iI_ 6) = true := by rw [e26, inr_t, t_6, iI_toInt (by omega)]; omega
      refine s_within u τ _ _ (nxb (fun h => absurd h (by rw [h6]; decide)) (fun _ => ⟨hin, ?_⟩))
      rw [e26, iI_ix (by omega), hL p (by omega)]
      have same : v1_ n or pos j fs ot m = rat_ (or m) fs ot → GG_ (zx_ u) mX0_lean (Pv_ P) 144 [(0, .ref (uq_ u 20)), (2, .int (bi_ j)), (3, .int (iI_ (m + 1 : Nat)))] [] τ := by
        intro hs
        refine ih (m + 1) τ (by omega) hk hL hS (fun i hi => ?_)
        by_cases q : i = m
        · subst q
          rw [hA i hi, if_neg (by omega), if_pos (by omega), hs]
        · rw [hA i hi]
          by_cases q2 : i < m
          · rw [if_pos q2, if_pos (by omega)]
          · rw [if_neg q2, if_neg (by omega)]
      have diff : ∀ b : Bool, v1_ n or pos j fs ot m = b → ∀ σ10, σ10 = su_ τ 29 m (bi_ (!b)) → GG_ (zx_ u) mX0_lean (Pv_ P) 144 [(0, .ref (uq_ u 20)), (2, .int (bi_ j)), (3, .int (iI_ (m + 1 : Nat)))] [] σ10 := by
        intro b hs σ10 e10
        refine ih (m + 1) σ10 (by omega) (by rw [e10]; exact hk.su (by decide)) (fun p hp => by rw [e10, su_i _ _ _ (by decide)]; exact hL p hp) (by rw [e10, su_i _ _ _ (by decide)]; exact hS) (fun i hi => ?_)
        by_cases q : i = m
        · subst q
          rw [e10, su_same, if_pos (by omega), hs]
        · rw [e10, su_j _ _ _ q, hA i hi]
          by_cases q2 : i < m
          · rw [if_pos q2, if_pos (by omega)]
          · rw [if_neg q2, if_neg (by omega)]
      refine ⟨hin2, hin, s_warmth u τ _ j (by rw [iI_toInt (by omega)]; omega) ?_⟩
      have hv : v1_ n or pos j fs ot m = if wm_ p j < 2 ∧ ¬ shl_ or pos fs ot (iI_ p) n = 0 then decide (0 < shl_ or pos fs ot (iI_ p) n) else rat_ (or m) fs ot := by
        unfold v1_; rw [epp, iI_toInt (by omega)]
      have hwb : 0 ≤ wm_ p j ∧ wm_ p j < 6 := by unfold wm_; split <;> split <;> omega
      rw [iI_toInt (by omega)]
      refine cs_ (fun c => ?_) (fun c => cs_ (fun c2 => ?_) (fun c2 => cs_ (fun c3 => ⟨hin, ?_⟩) (fun c3 => ⟨hin, ?_⟩))) <;> rw [iI_le (by omega) (by omega)] at c
      · exact same (by rw [hv, if_neg (by omega)])
      · rw [iI_eq (by omega) (by omega)] at c2
        exact same (by rw [hv, if_neg (by omega)])
      · rw [iI_eq (by omega) (by omega)] at c2
        rw [iI_le (by omega) (by omega)] at c3
        exact diff false (by rw [hv, if_pos (by omega), decide_eq_false (by omega)])
      · rw [iI_eq (by omega) (by omega)] at c2
        rw [iI_le (by omega) (by omega)] at c3
        exact diff true (by rw [hv, if_pos (by omega), decide_eq_true (by omega)])
  -- the second loop
  have key2 : ∀ (d m : Nat) (τ : St_), m + d = n → Ke_ [28, 29, 30] σ τ → (∀ p : Nat, p < 6 → τ 28 p = iI_ (shl_ or pos fs ot (iI_ p) m)) → τ 30 0 = iI_ (spk_ pos m) → (∀ i, i < m → τ 29 i = bi_ (!rat_ (or i) fs ot)) → GG_ (zx_ u) mX0_lean (Pv_ P) 28 [(0, .ref (uq_ u 20)), (1, .ref (uq_ u po)), (2, .int (bi_ j)), (3, .int (iI_ m))] [] τ := by
    intro d
    induction d with
    | zero =>
      intro m τ hm hk hL hS hA
      have : m = n := by omega
      subst this
      exact bX0_lean_28 u po ko hp τ _ _ (cs_ (fun _ => key3 m 0 τ (by omega) hk hL hS (fun i hi => by rw [hA i hi, if_neg (by omega)])) (fun c => absurd (by rw [hk 3 (by decide), hr.2.1]; exact Int32.le_refl _) c))
    | succ d ih =>
      intro m τ hm hk hL hS hA
      have hin : vp_in (iI_ m) 8 := (iI_in (by omega)).mpr (by omega)
      obtain ⟨ep, hp0, hp6⟩ := hpos m (by omega)
      obtain ⟨p, epp, hpb⟩ := iI_nat hp0
      rw [epp, iI_toInt (by omega)] at hp6
      have hin2 : vp_in (iI_ p) 6 := (iI_in (by omega)).mpr (by omega)
      have hspk := spk_bd pos m
      have step : ∀ b : Bool, rat_ (or m) fs ot = b → GG_ (zx_ u) mX0_lean (Pv_ P) 66 [(0, .ref (uq_ u 20)), (1, .ref (uq_ u po)), (2, .int (bi_ j)), (3, .int (iI_ m))] [.int (bi_ (!b)), .int (iI_ m), .ref (uq_ u 24)] τ := by
        intro b hb
        refine bX0_lean_66 u po ko hp τ _ _ _ _ ⟨hin, ?_⟩
        rw [iI_ix (by omega)]
        rintro σ1 e1
        have a1 : ∀ k, k ≠ 29 → σ1 k = τ k := fun k hk => by rw [e1, su_i _ _ _ hk]
        have e26 : σ1 26 m = iI_ p := by rw [a1 26 (by decide), hk 26 (by decide), ep, epp]
        have h6 : inr_ (σ1 26 m) (iI_ 6) = true := by rw [e26, inr_t, t_6, iI_toInt (by omega)]; omega
        refine ⟨hin, s_within u σ1 _ _ (nxb (fun h => absurd h (by rw [h6]; decide)) (fun _ => ?_))⟩
        rw [e26, iI_ix (by omega)]
        refine ⟨hin, hin2, hin, hin2, ?_⟩
        rintro σ6 e6
        have a6 : ∀ k, k ≠ 29 → k ≠ 28 → σ6 k = τ k := fun k hk hk2 => by rw [e6, su_i _ _ _ hk2, a1 k hk]
        have e29 : σ1 29 m = bi_ (!b) := by rw [e1, su_same]
        have hsb := shl_bd or pos fs ot (iI_ p) m
        have v6 : σ6 28 p = iI_ (shl_ or pos fs ot (iI_ p) (m + 1)) := by
          rw [e6, su_same, a1 28 (by decide), hL p (by omega), e29]
          have : iI_ 1 - iI_ 2 * bi_ (!b) = iI_ (if b = true then 1 else -1) := by cases b <;> decide
          rw [this, iI_add, shl_, if_pos epp, hb]
        have hL6 : ∀ q : Nat, q < 6 → σ6 28 q = iI_ (shl_ or pos fs ot (iI_ q) (m + 1)) := by
          intro q hq
          by_cases hqp : q = p
          · rw [hqp]; exact v6
          · rw [e6, su_j _ _ _ hqp, a1 28 (by decide), hL q hq, shl_, if_neg (fun z => by
              rw [epp, iI_eq (by omega) (by omega)] at z; omega)]
            simp
        have hA6 : ∀ i, i < m + 1 → σ6 29 i = bi_ (!rat_ (or i) fs ot) := by
          intro i hi
          rw [e6, su_i _ _ _ (by decide)]
          by_cases q : i = m
          · rw [q, e29, hb]
          · rw [e1, su_j _ _ _ q]; exact hA i (by omega)
        have hk6 : Ke_ [28, 29, 30] σ σ6 := by rw [e6, e1]; exact (hk.su (by decide)).su (by decide)
        have e30 : σ6 30 0 = iI_ (spk_ pos m) := by rw [a6 30 (by decide) (by decide)]; exact hS
        rw [iI_succ, e30]
        have pos26 : ∀ i, i < n → σ6 26 i = pos i := fun i hi => by rw [a6 26 (by decide) (by decide), hk 26 (by decide)]; exact (hpos i hi).1
        refine cs_ (fun c => ?_) (fun c => ⟨hin, ?_⟩) <;> rw [iI_eq (by omega) (by omega)] at c
        · rintro σ9 e9
          refine ih (m + 1) σ9 (by omega) (by rw [e9]; exact hk6.su (by decide)) (fun q hq => by rw [e9, su_i _ _ _ (by decide)]; exact hL6 q hq) (by rw [e9, su_same, spk_, if_pos c]) (fun i hi => by rw [e9, su_i _ _ _ (by decide)]; exact hA6 i hi)
        · have hsn : (iI_ (spk_ pos m)).toNatClampNeg = (spk_ pos m).toNat := iI_clamp (by omega)
          refine ⟨(iI_in (by omega)).mpr (by omega), ?_⟩
          rw [hsn, pos26 m (by omega), pos26 (spk_ pos m).toNat (by omega)]
          refine cs_ (fun c2 => ?_) (fun c2 => ?_) <;> rw [iI_leI] at c2
          · exact ih (m + 1) σ6 (by omega) hk6 hL6 (by rw [e30, spk_, if_neg c, if_neg (by omega)]) hA6
          · rintro σ13 e13
            refine ih (m + 1) σ13 (by omega) (by rw [e13]; exact hk6.su (by decide)) (fun q hq => by rw [e13, su_i _ _ _ (by decide)]; exact hL6 q hq) (by rw [e13, su_same, spk_, if_neg c, if_pos (by omega)]) (fun i hi => by rw [e13, su_i _ _ _ (by decide)]; exact hA6 i hi)
      refine bX0_lean_28 u po ko hp τ _ _ (cs_ (fun c => absurd c (by rw [hk 3 (by decide), hr.2.1, iI_le (by omega) (by omega)]; omega)) (fun _ => ⟨hin, ?_⟩))
      rw [iI_ix (by omega), hk ko (by simp; omega), hor m (by omega), hk 23 (by decide), hk 24 (by decide), e23, e24]
      refine s_rather u τ _ _ _ (nxb (fun h => ?_) (fun h => ?_))
      · exact step false h
      · exact step true h
  -- the first loop
  have key1 : ∀ (d k : Nat) (τ : St_), k + d = 6 → Ke_ [28, 29, 30] σ τ → (∀ p : Nat, p < k → τ 28 p = iI_ 0) → GG_ (zx_ u) mX0_lean (Pv_ P) 2 [(0, .ref (uq_ u 20)), (1, .ref (uq_ u po)), (2, .int (bi_ j)), (3, .int (iI_ k))] [] τ := by
    intro d
    induction d with
    | zero =>
      intro k τ hk6 hk hA
      have : k = 6 := by omega
      subst this
      refine bX0_lean_2 u po ko hp τ _ _ (cs_ (fun _ => ?_) (fun c => absurd (by decide) c))
      rintro σ2 e2
      exact key2 n 0 σ2 (by omega) (by rw [e2]; exact hk.su (by decide)) (fun p hp => by rw [e2, su_i _ _ _ (by decide), hA p hp]; rfl) (by rw [e2, su_same]; rfl) (fun i hi => by omega)
    | succ d ih =>
      intro k τ hk6 hk hA
      refine bX0_lean_2 u po ko hp τ _ _ (cs_ (fun c => absurd c (by rw [iI_le (by omega) (by omega)]; omega)) (fun _ => ⟨(iI_in (by omega)).mpr (by omega), ?_⟩))
      rintro σ3 e3
      rw [iI_ix (by omega)] at e3
      rw [iI_succ]
      refine ih (k + 1) σ3 (by omega) (by rw [e3]; exact hk.su (by decide)) (fun p hp => ?_)
      by_cases q : p = k
      · rw [e3, q, su_same]
      · rw [e3, su_j _ _ _ q]; exact hA p (by omega)
  exact key1 6 0 σ (by omega) Ke_.rf (fun p hp => by omega)
theorem x_votesFor (u : Ux_) {P : Int32 → St_ → Prop} (σ : St_) {n m : Nat} (h8 : n ≤ 8) (e3 : σ 3 0 = iI_ n) (hm : m < n) (v : Bool) (hv : σ 29 m = bi_ (!v)) (H : P (if v = true then σ 23 0 else σ 24 0) σ) : MMi_ (zx_ u) mX0_votesFor [.ref (uq_ u 20), .int (iI_ m)] σ P := by
  refine eX0_votesFor u σ _ (cs_ (fun c => ?_) (fun _ => cs_ (fun c => ?_) (fun _ => ⟨(iI_in (by omega)).mpr (by omega), ?_⟩)))
  · rw [iI_lt (by omega) (by omega)] at c; omega
  · rw [e3, iI_le (by omega) (by omega)] at c; omega
  · rw [iI_ix (by omega), hv]
    refine nxn (fun h => ?_) (fun h => ?_)
    · cases v
      · exact absurd h (by decide)
      · exact H
    · cases v
      · exact H
      · exact absurd h (by decide)
theorem x_tally (u : Ux_) {P : Int32 → St_ → Prop} (σ : St_) {n : Nat} (hr : Wr_ σ n) (h0 : 0 < n) (hw : Ww_ σ) (by_ : Bool) (e25 : σ 25 0 = bi_ by_) (v : Nat → Bool) (w : Nat → Int) (pos : Nat → Int32) (hv : ∀ m, m < n → σ 29 m = bi_ (!v m)) (hw1 : ∀ m, m < n → w m = if by_ = true then (wg_ σ m).toInt else 1) (e30 : σ 30 0 = iI_ (spk_ pos n))
    (H : ∀ σ', Ke_ [31, 32] σ σ' → σ' 31 0 = iI_ (fc_ v n) → σ' 32 0 = iI_ (ld_ v w n) → P (cr_ n v w pos (σ 23 0) (σ 24 0)) σ') : MMi_ (zx_ u) mX0_tally [.ref (uq_ u 20)] σ P := by
  have h8 := hr.1
  have hwb : ∀ i, i < n → 0 ≤ w i ∧ w i ≤ 9 := by
    intro i hi
    rw [hw1 i hi]
    split
    · have q := ((hr.2.2 i hi).1)
      have := hw (σ 5 i).toNatClampNeg (by rw [clampI]; omega)
      exact this
    · omega
  refine eX0_tally u σ ?_
  rintro σ1 e1 σ2 e2
  have key : ∀ (d m : Nat) (τ : St_), m + d = n → Ke_ [31, 32] σ τ → τ 31 0 = iI_ (fc_ v m) → τ 32 0 = iI_ (ld_ v w m) → GG_ (zx_ u) mX0_tally (Pi_ P) 12 [(0, .ref (uq_ u 20)), (1, .int (iI_ m))] [] τ := by
    intro d
    induction d with
    | zero =>
      intro m τ hm hk hf hl
      have : m = n := by omega
      subst this
      have hb := ld_bd v w m hwb
      have HH := H τ hk hf hl
      have hsp := spk_bd pos m
      have hsn : 0 ≤ spk_ pos m := by
        obtain ⟨k, rfl⟩ : ∃ k, m = k + 1 := ⟨m - 1, by omega⟩
        exact spk_nn pos k
      refine bX0_tally_12 u τ _ (cs_ (fun _ => ?_) (fun c => absurd (by rw [hk 3 (by decide), hr.2.1]; exact Int32.le_refl _) c))
      rw [hl, hk 24 (by decide), hk 23 (by decide), hk 30 (by decide), e30]
      rw [cr_] at HH
      refine ⟨fun c => cs_ (fun c2 => ?_) (fun c2 => ?_), fun c => cs_ (fun c2 => ?_) (fun c2 => ?_)⟩ <;> rw [iI_eq (by omega) (by omega)] at c
      · rw [iI_le (by omega) (by omega)] at c2
        rw [if_neg c, if_neg (by omega)] at HH; exact HH
      · rw [iI_le (by omega) (by omega)] at c2
        rw [if_neg c, if_pos (by omega)] at HH; exact HH
      · rw [iI_lt (by omega) (by omega)] at c2; omega
      · rw [if_pos c] at HH
        have hsl : (spk_ pos m).toNat < m := by omega
        have es : iI_ (spk_ pos m) = iI_ ((spk_ pos m).toNat : Nat) := by congr 1; omega
        rw [es]
        refine x_votesFor u τ h8 (by rw [hk 3 (by decide)]; exact hr.2.1) hsl (v (spk_ pos m).toNat) (by rw [hk 29 (by decide)]; exact hv _ hsl) ?_
        rw [hk 24 (by decide), hk 23 (by decide)]
        exact HH
    | succ d ih =>
      intro m τ hm hk hf hl
      have hin : vp_in (iI_ m) 8 := (iI_in (by omega)).mpr (by omega)
      have hb := ld_bd v w m (fun i hi => hwb i (by omega))
      have hfb := fc_bd v m
      have hwm := hwb m (by omega)
      have e29 : ∀ (τ' : St_), (∀ k, k ≠ 31 → τ' k = τ k) → τ' 29 m = bi_ (!v m) := fun τ' h => by rw [h 29 (by decide), hk 29 (by decide)]; exact hv m (by omega)
      have step : GG_ (zx_ u) mX0_tally (Pi_ P) 42 [(0, .ref (uq_ u 20)), (1, .int (iI_ m))] [.int (iI_ (w m))] τ := by
        refine bX0_tally_42 u τ _ _ ⟨hin, ?_⟩
        rw [iI_ix (by omega), e29 τ (fun _ _ => rfl), hf]
        rintro σ2 e2
        have a2 : ∀ k, k ≠ 31 → σ2 k = τ k := fun k hk => by rw [e2, su_i _ _ _ hk]
        have f2 : σ2 31 0 = iI_ (fc_ v (m + 1)) := by
          rw [e2, su_same, fc_]
          cases v m <;> simp [bi_, iI_sub, iI_add]
        refine ⟨hin, ?_⟩
        rw [e29 σ2 a2, a2 32 (by decide), hl, iI_succ, iI_sub, iI_add, iI_add]
        refine nxn (fun h => ?_) (fun h => ?_)
        · rintro σ6 e6
          have hvm : v m = true := by simpa using h
          exact ih (m + 1) σ6 (by omega) (by rw [e6, e2]; exact (hk.su (by decide)).su (by decide)) (by rw [e6, su_i _ _ _ (by decide)]; exact f2) (by rw [e6, su_same, ld_, hvm, if_pos rfl])
        · rintro σ5 e5
          have hvm : v m = false := by simpa using h
          refine ih (m + 1) σ5 (by omega) (by rw [e5, e2]; exact (hk.su (by decide)).su (by decide)) (by rw [e5, su_i _ _ _ (by decide)]; exact f2) (by rw [e5, su_same, ld_, hvm]; congr 1; simp)
      refine bX0_tally_12 u τ _ (cs_ (fun c => absurd c (by rw [hk 3 (by decide), hr.2.1, iI_le (by omega) (by omega)]; omega)) (fun _ => ?_))
      rw [hk 25 (by decide), e25]
      have hrt : Wr_ τ n := ⟨h8, by rw [hk 3 (by decide)]; exact hr.2.1, fun j hj => by rw [hk 5 (by decide), hk 6 (by decide), hk 7 (by decide)]; exact hr.2.2 j hj⟩
      have hwt : wg_ τ m = wg_ σ m := by rw [wg_, wg_, hk 8 (by decide), hk 5 (by decide)]
      refine nxb (fun h => ?_) (fun h => x_weightOf u τ hrt (by omega) ?_)
      · have : w m = 1 := by rw [hw1 m (by omega), h]; rfl
        rw [this] at step; exact step
      · have : w m = (wg_ σ m).toInt := by rw [hw1 m (by omega), h]; rfl
        rw [this, iI_of] at step; rw [hwt]; exact step
  exact key n 0 σ2 (by omega) (by rw [e2, e1]; exact (Ke_.rf.su (by decide)).su (by decide)) (by rw [e2, su_i _ _ _ (by decide), e1, su_same]; rfl) (by rw [e2, su_same]; rfl)
