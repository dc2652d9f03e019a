/-! ===== the class: lift, agenda, ring, sham ===== -/
def rp_ (pos : Nat → Int32) (x y : Int32) (m : Nat) : Int32 := if iI_ m = x ∨ iI_ m = y then iI_ 0 else pos m
def cl_ (a : St_) (n nf nj t : Nat) (x y : Int32) : Int32 := cr_ n (v1_ n (a 7) (rp_ (ps_ a nf (iI_ t) (iI_ (-1))) x y) (jh_ a (iI_ t) nj) (a 11 t) (a 12 t)) (ww_ a t) (rp_ (ps_ a nf (iI_ t) (iI_ (-1))) x y) (a 11 t) (a 12 t)
theorem x_raise (u : Ux_) {P : St_ → Prop} (σ : St_) {n : Nat} (hr : Wr_ σ n) (x : Int32) (H : ∀ σ', Ke_ [26] σ σ' → (∀ m, m < n → σ' 26 m = if iI_ m = x then iI_ 0 else σ 26 m) → P σ') : MMv_ (zx_ u) mX0_raise [.ref (uq_ u 20), .int x] σ P := by
  have h8 := hr.1
  refine eX0_raise u σ x (cs_ (fun c => ?_) (fun c => cs_ (fun c2 => ?_) (fun c2 => ?_)))
  · rw [iI_ltI, t_0] at c
    refine H σ Ke_.rf (fun m hm => ?_)
    rw [if_neg (fun e => by rw [← e, iI_toInt (by omega)] at c; omega)]
  · rw [hr.2.1, iI_leI, iI_toInt (by omega)] at c2
    refine H σ Ke_.rf (fun m hm => ?_)
    rw [if_neg (fun e => by rw [← e, iI_toInt (by omega)] at c2; omega)]
  · rw [iI_ltI, t_0] at c
    rw [hr.2.1, iI_leI, iI_toInt (by omega)] at c2
    obtain ⟨k, rfl, hk⟩ := iI_nat (x := x) (by omega)
    rw [iI_toInt (by omega)] at c2
    refine ⟨(iI_in (by omega)).mpr (by omega), ?_⟩
    rintro σ3 rfl
    rw [iI_ix (by omega)]
    refine H _ (Ke_.rf.su (by decide)) (fun m hm => ?_)
    by_cases q : m = k
    · rw [q, su_same, if_pos rfl]
    · rw [su_j _ _ _ q, if_neg (fun e => by rw [iI_eq (by omega) (by omega)] at e; omega)]
theorem x_raising (u : Ux_) {P : Int32 → St_ → Prop} (a σ : St_) {n mn nf nj : Nat} (hV : Vx_ a n mn nf nj) (hS : Sc_ a σ) (t x y : Int32) (H : ∀ σ', Ke_ CH σ σ' → P (if 0 < n ∧ inr_ t (iI_ mn) = true then cl_ a n nf nj t.toNatClampNeg x y else iI_ (-1)) σ') : MMi_ (zx_ u) mX9_carriedRaising [.ref (uq_ u 0), .int t, .int x, .int y] σ P := by
  have hVs := hV.sc hS
  have h10 := hV.2.1.1
  have e9 : σ 9 0 = iI_ mn := hVs.2.1.2.1
  refine eX9_carriedRaising u σ t x y (x_isPut u σ t hVs.1 (nxn (fun h => ?_) (fun h => ?_)))
  · rw [e9] at h
    have := H σ Ke_.rf
    rw [if_neg] at this
    · exact this
    · rintro ⟨h1, h2⟩
      rw [h2, decide_eq_true h1] at h
      exact absurd h (by decide)
  · rw [e9] at h
    simp only [Bool.and_eq_true, decide_eq_true_eq] at h
    rw [if_pos h] at H
    obtain ⟨h0, ht⟩ := h
    obtain ⟨k, hk, rfl⟩ := inr_nat ht (by omega)
    have hk' : k < mn := by omega
    rw [iI_ix (by omega)] at H
    refine x_open u σ hVs.2.1 hk' (fun σ4 k4 e23 e24 e25 => ?_)
    have s4 : Sc_ a σ4 := hS.ke k4 (by decide)
    have v4 := hV.sc s4
    refine x_lay u σ4 (iI_ k) (iI_ (-1)) v4.1 v4.2.2.1.1 v4.2.2.1.2.1 v4.2.2.1.2.2 (fun σ5 k5 p5 => ?_)
    have s5 : Sc_ a σ5 := s4.ke k5 (by decide)
    have v5 := hV.sc s5
    have p5' : ∀ m, m < n → σ5 26 m = ps_ a nf (iI_ k) (iI_ (-1)) m := fun m hm => by rw [p5 m hm, ly_sc s4]; rfl
    refine x_raise u σ5 v5.1 x (fun σ6 k6 p6 => ?_)
    have s6 : Sc_ a σ6 := s5.ke k6 (by decide)
    have v6 := hV.sc s6
    refine x_raise u σ6 v6.1 y (fun σ7 k7 p7 => ?_)
    have s7 : Sc_ a σ7 := s6.ke k7 (by decide)
    have v7 := hV.sc s7
    have p7' : ∀ m, m < n → σ7 26 m = rp_ (ps_ a nf (iI_ k) (iI_ (-1))) x y m := by
      intro m hm
      rw [p7 m hm, p6 m hm, p5' m hm, rp_]
      by_cases q : iI_ m = y
      · rw [if_pos q, if_pos (Or.inr q)]
      · by_cases q2 : iI_ m = x
        · rw [if_neg q, if_pos q2, if_pos (Or.inl q2)]
        · rw [if_neg q, if_neg q2, if_neg (by simp [q, q2])]
    refine x_has u σ7 (iI_ k) v7.2.2.2.1.1 v7.2.2.2.1.2.1 ?_
    rw [jh_sc s7]
    have e23' : σ7 23 0 = a 11 k := by rw [k7 23 (by decide), k6 23 (by decide), k5 23 (by decide), e23, hS 11 (by omega)]
    have e24' : σ7 24 0 = a 12 k := by rw [k7 24 (by decide), k6 24 (by decide), k5 24 (by decide), e24, hS 12 (by omega)]
    have e25' : σ7 25 0 = bi_ (decide (a 13 k = iI_ 2)) := by rw [k7 25 (by decide), k6 25 (by decide), k5 25 (by decide), e25, hS 13 (by omega)]
    refine x_lean u 5 7 (ap_order u) (by omega) σ7 _ v7.1 (a 7) (rp_ (ps_ a nf (iI_ k) (iI_ (-1))) x y) (a 11 k) (a 12 k) (fun m hm => by rw [s7 7 (by omega)]) (fun m hm => ⟨p7' m hm, ?_⟩) e23' e24' (fun σ8 k8 hv8 e30 => ?_)
    · have := ps_in hV (iI_ k) (iI_ (-1)) hm
      unfold rp_
      split
      · decide
      · exact this
    · have s8 : Sc_ a σ8 := s7.ke k8 (by decide)
      have v8 := hV.sc s8
      refine x_tally u σ8 v8.1 h0 v8.2.2.2.2 (decide (a 13 k = iI_ 2)) (by rw [k8 25 (by decide)]; exact e25') _ (ww_ a k) _ hv8 (fun m hm => ?_) e30 (fun σ9 k9 e31 e32 => ?_)
      · rw [wg_sc s8, ww_]; simp
      · have e23'' : σ8 23 0 = a 11 k := by rw [k8 23 (by decide)]; exact e23'
        have e24'' : σ8 24 0 = a 12 k := by rw [k8 24 (by decide)]; exact e24'
        rw [e23'', e24'']
        have up4 : Ke_ CH σ σ4 := k4.up (by decide)
        have up5 : Ke_ CH σ4 σ5 := k5.up (by decide)
        have up6 : Ke_ CH σ5 σ6 := k6.up (by decide)
        have up7 : Ke_ CH σ6 σ7 := k7.up (by decide)
        have up8 : Ke_ CH σ7 σ8 := k8.up (by decide)
        have up9 : Ke_ CH σ8 σ9 := k9.up (by decide)
        exact H σ9 (((((up4.tr up5).tr up6).tr up7).tr up8).tr up9)
/-- the first of d from k on -/
def fd1_ (f : Nat → Bool) : Nat → Nat → Option Nat
  | 0, _ => none
  | d + 1, k => if f k = true then some k else fd1_ f d (k + 1)
def fd2_ (g : Nat → Nat → Bool) (n : Nat) : Nat → Nat → Option (Nat × Nat)
  | 0, _ => none
  | d + 1, k => match fd1_ (g k) (n - (k + 1)) (k + 1) with
    | some b => some (k, b)
    | none => fd2_ g n d (k + 1)
theorem fd1_s (f : Nat → Bool) (d k : Nat) : fd1_ f (d + 1) k = if f k = true then some k else fd1_ f d (k + 1) := rfl
theorem fd2_n (g : Nat → Nat → Bool) (n d k : Nat) (h : fd1_ (g k) (n - (k + 1)) (k + 1) = none) : fd2_ g n (d + 1) k = fd2_ g n d (k + 1) := by
  conv => lhs; unfold fd2_
  rw [h]
theorem fd2_y (g : Nat → Nat → Bool) (n d k b : Nat) (h : fd1_ (g k) (n - (k + 1)) (k + 1) = some b) : fd2_ g n (d + 1) k = some (k, b) := by
  conv => lhs; unfold fd2_
  rw [h]
theorem fd1_bd {f : Nat → Bool} : ∀ {d k b : Nat}, fd1_ f d k = some b → k ≤ b ∧ b < k + d := by
  intro d
  induction d with
  | zero => intro k b h; simp [fd1_] at h
  | succ d ih =>
    intro k b h
    unfold fd1_ at h
    split at h
    · cases h; omega
    · have := ih h; omega
/-- how many are to be lifted, and which -/
def lf_ (a : St_) (n nf nj t : Nat) : Int × Int × Int := match fd1_ (fun x => !decide (cl_ a n nf nj t (iI_ x) (iI_ x) = cl_ a n nf nj t (iI_ (-1)) (iI_ (-1)))) n 0 with
  | some x => (1, x, -1)
  | none => match fd2_ (fun x y => !decide (cl_ a n nf nj t (iI_ x) (iI_ y) = cl_ a n nf nj t (iI_ (-1)) (iI_ (-1)))) n n 0 with
    | some q => (2, q.1, q.2)
    | none => (-1, -1, -1)
def lq_ (a : St_) (n mn nf nj : Nat) (t : Int32) : Int × Int × Int := if 0 < n ∧ inr_ t (iI_ mn) = true then lf_ a n nf nj t.toNatClampNeg else (-1, -1, -1)
theorem cl_ne {a : St_} {n mn nf nj : Nat} (h : Vx_ a n mn nf nj) {t : Nat} (ht : t < mn) (x y : Int32) : ¬ cl_ a n nf nj t x y = iI_ (-1) := by
  have q := h.2.1.2.2 t ht
  intro e
  unfold cl_ at e
  rcases cr_in n (v1_ n (a 7) (rp_ (ps_ a nf (iI_ t) (iI_ (-1))) x y) (jh_ a (iI_ t) nj) (a 11 t) (a 12 t)) (ww_ a t) (rp_ (ps_ a nf (iI_ t) (iI_ (-1))) x y) (a 11 t) (a 12 t) with e2 | e2
  · rw [e2] at e; rw [e] at q; exact absurd q.1 (by decide)
  · rw [e2] at e; rw [e] at q; exact absurd q.2.1 (by decide)
theorem x_findLift (u : Ux_) {P : Int32 → St_ → Prop} (a σ : St_) {n mn nf nj : Nat} (hV : Vx_ a n mn nf nj) (hS : Sc_ a σ) (t : Int32) (H : ∀ σ', Sc_ a σ' → σ' 36 0 = iI_ (lq_ a n mn nf nj t).2.1 → σ' 36 1 = iI_ (lq_ a n mn nf nj t).2.2 → P (iI_ (lq_ a n mn nf nj t).1) σ') : MMi_ (zx_ u) mX9_findLift [.ref (uq_ u 0), .int t] σ P := by
  have h8 := hV.1.1
  have h10 := hV.2.1.1
  refine eX9_findLift u σ t ?_
  rintro σ1 e1 σ2 e2
  have s2 : Sc_ a σ2 := by rw [e2, e1]; exact (hS.su (by decide)).su (by decide)
  have r0 : σ2 36 0 = iI_ (-1) := by rw [e2, show (iI_ 1).toNatClampNeg = 1 from rfl, su_j _ _ _ (by decide), e1, show (iI_ 0).toNatClampNeg = 0 from rfl, su_same]
  have r1 : σ2 36 1 = iI_ (-1) := by rw [e2, show (iI_ 1).toNatClampNeg = 1 from rfl, su_same]
  refine x_raising u a σ2 hV s2 t _ _ (fun σ3 k3 => ?_)
  have s3 : Sc_ a σ3 := CH_sc s2 k3
  have r03 : σ3 36 0 = iI_ (-1) := by rw [k3 36 (by decide)]; exact r0
  have r13 : σ3 36 1 = iI_ (-1) := by rw [k3 36 (by decide)]; exact r1
  by_cases hp : 0 < n ∧ inr_ t (iI_ mn) = true
  · simp only [lq_, if_pos hp] at H
    rw [if_pos hp]
    obtain ⟨h0, ht⟩ := id hp
    obtain ⟨k, hk, rfl⟩ := inr_nat ht (by omega)
    have hk' : k < mn := by omega
    rw [iI_ix (by omega)] at H ⊢
    refine ⟨fun _ => ?_, fun c => absurd c (cl_ne hV hk' _ _)⟩
    generalize hC : cl_ a n nf nj k (iI_ (-1)) (iI_ (-1)) = C at H ⊢
    have e3 : ∀ τ, Sc_ a τ → τ 3 0 = iI_ n := fun τ h => by rw [h 3 (by omega)]; exact hV.1.2.1
    have key2 : fd1_ (fun x => !decide (cl_ a n nf nj k (iI_ x) (iI_ x) = C)) n 0 = none → ∀ (d x : Nat) (τ : St_), x + d = n → Sc_ a τ → τ 36 0 = iI_ (-1) → τ 36 1 = iI_ (-1) → fd2_ (fun x y => !decide (cl_ a n nf nj k (iI_ x) (iI_ y) = C)) n n 0 = fd2_ (fun x y => !decide (cl_ a n nf nj k (iI_ x) (iI_ y) = C)) n d x → GG_ (zx_ u) mX9_findLift (Pi_ P) 70 [(0, .ref (uq_ u 0)), (1, .int (iI_ k)), (2, .int C), (3, .int (iI_ x))] [] τ := by
      intro hn1 d
      induction d with
      | zero =>
        intro x τ hx hs q0 q1 he
        have : x = n := by omega
        subst this
        refine bX9_findLift_70 u τ _ _ _ (cs_ (fun _ => ?_) (fun c => absurd (by rw [e3 τ hs]; exact Int32.le_refl _) c))
        have hl : lf_ a x nf nj k = (-1, -1, -1) := by rw [lf_, hC, hn1, he]; rfl
        rw [hl] at H
        exact H τ hs q0 q1
      | succ d ih =>
        intro x τ hx hs q0 q1 he
        refine bX9_findLift_70 u τ _ _ _ (cs_ (fun c => absurd c (by rw [e3 τ hs, iI_le (by omega) (by omega)]; omega)) (fun _ => ?_))
        have key3 : ∀ (d2 y : Nat) (τ : St_), y + d2 = n → Sc_ a τ → τ 36 0 = iI_ (-1) → τ 36 1 = iI_ (-1) → fd1_ (fun y => !decide (cl_ a n nf nj k (iI_ x) (iI_ y) = C)) (n - (x + 1)) (x + 1) = fd1_ (fun y => !decide (cl_ a n nf nj k (iI_ x) (iI_ y) = C)) d2 y → GG_ (zx_ u) mX9_findLift (Pi_ P) 86 [(0, .ref (uq_ u 0)), (1, .int (iI_ k)), (2, .int C), (3, .int (iI_ x)), (4, .int (iI_ y))] [] τ := by
          intro d2
          induction d2 with
          | zero =>
            intro y τ hy hs q0 q1 he2
            refine bX9_findLift_86 u τ _ _ _ _ (cs_ (fun _ => ?_) (fun c => absurd (by rw [e3 τ hs, iI_le (by omega) (by omega)]; omega) c))
            rw [iI_succ]
            refine ih (x + 1) τ (by omega) hs q0 q1 ?_
            rw [he, fd2_n]
            rw [he2]; rfl
          | succ d2 ih2 =>
            intro y τ hy hs q0 q1 he2
            refine bX9_findLift_86 u τ _ _ _ _ (cs_ (fun c => absurd c (by rw [e3 τ hs, iI_le (by omega) (by omega)]; omega)) (fun _ => x_raising u a τ hV hs _ _ _ (fun σ4 k4 => ?_)))
            rw [if_pos hp, iI_ix (by omega)]
            have s4 := CH_sc hs k4
            refine cs_ (fun c => ?_) (fun c => ?_)
            · rw [iI_succ]
              exact ih2 (y + 1) σ4 (by omega) s4 (by rw [k4 36 (by decide)]; exact q0) (by rw [k4 36 (by decide)]; exact q1) (by rw [he2, fd1_s, if_neg (by simp [c])])
            · rintro σ5 e5 σ6 e6
              have hf : fd2_ (fun x y => !decide (cl_ a n nf nj k (iI_ x) (iI_ y) = C)) n n 0 = some (x, y) := by
                rw [he]
                exact fd2_y _ _ _ _ _ (by rw [he2, fd1_s, if_pos (by simp [c])])
              have hl : lf_ a n nf nj k = ((2 : Int), ((x : Nat) : Int), ((y : Nat) : Int)) := by rw [lf_, hC, hn1, hf]
              rw [hl] at H
              refine H σ6 (by rw [e6, e5]; exact (s4.su (by decide)).su (by decide)) ?_ ?_
              · rw [e6, show (iI_ 1).toNatClampNeg = 1 from rfl, su_j _ _ _ (by decide), e5, show (iI_ 0).toNatClampNeg = 0 from rfl, su_same]
              · rw [e6, show (iI_ 1).toNatClampNeg = 1 from rfl, su_same]
        rw [iI_succ]
        exact key3 (n - (x + 1)) (x + 1) τ (by omega) hs q0 q1 rfl
    have key1 : ∀ (d x : Nat) (τ : St_), x + d = n → Sc_ a τ → τ 36 0 = iI_ (-1) → τ 36 1 = iI_ (-1) → fd1_ (fun x => !decide (cl_ a n nf nj k (iI_ x) (iI_ x) = C)) n 0 = fd1_ (fun x => !decide (cl_ a n nf nj k (iI_ x) (iI_ x) = C)) d x → GG_ (zx_ u) mX9_findLift (Pi_ P) 31 [(0, .ref (uq_ u 0)), (1, .int (iI_ k)), (2, .int C), (3, .int (iI_ x))] [] τ := by
      intro d
      induction d with
      | zero =>
        intro x τ hx hs q0 q1 he
        have : x = n := by omega
        subst this
        exact bX9_findLift_31 u τ _ _ _ (cs_ (fun _ => key2 he x 0 τ (by omega) hs q0 q1 rfl) (fun c => absurd (by rw [e3 τ hs]; exact Int32.le_refl _) c))
      | succ d ih =>
        intro x τ hx hs q0 q1 he
        refine bX9_findLift_31 u τ _ _ _ (cs_ (fun c => absurd c (by rw [e3 τ hs, iI_le (by omega) (by omega)]; omega)) (fun _ => x_raising u a τ hV hs _ _ _ (fun σ4 k4 => ?_)))
        rw [if_pos hp, iI_ix (by omega)]
        have s4 := CH_sc hs k4
        refine cs_ (fun c => ?_) (fun c => ?_)
        · rw [iI_succ]
          exact ih (x + 1) σ4 (by omega) s4 (by rw [k4 36 (by decide)]; exact q0) (by rw [k4 36 (by decide)]; exact q1) (by rw [he, fd1_s, if_neg (by simp [c])])
        · rintro σ5 e5
          have hf : fd1_ (fun x => !decide (cl_ a n nf nj k (iI_ x) (iI_ x) = C)) n 0 = some x := by
            rw [he, fd1_s, if_pos (by simp [c])]
          have hl : lf_ a n nf nj k = ((1 : Int), ((x : Nat) : Int), (-1 : Int)) := by rw [lf_, hC, hf]
          rw [hl] at H
          refine H σ5 (by rw [e5]; exact s4.su (by decide)) ?_ ?_
          · rw [e5, show (iI_ 0).toNatClampNeg = 0 from rfl, su_same]
          · rw [e5, show (iI_ 0).toNatClampNeg = 0 from rfl, su_j _ _ _ (by decide), k4 36 (by decide)]; exact q1
    exact key1 n 0 σ3 (by omega) s3 r03 r13 rfl
  · simp only [lq_, if_neg hp] at H
    rw [if_neg hp]
    exact ⟨fun c => absurd rfl c, fun _ => H σ3 s3 r03 r13⟩
def q_lift (a : St_) (n mn nf nj : Nat) (t i : Int32) : Int32 := if inr_ t (iI_ 10) = true ∧ -1 ≤ i.toInt ∧ i.toInt ≤ 1 then (if i = iI_ (-1) then iI_ (lq_ a n mn nf nj t).1 else if i = iI_ 0 then iI_ (lq_ a n mn nf nj t).2.1 else iI_ (lq_ a n mn nf nj t).2.2) else iI_ (-2)
theorem x_lift (u : Ux_) {P : Int32 → St_ → Prop} (a σ : St_) {n mn nf nj : Nat} (hV : Vx_ a n mn nf nj) (hS : Sc_ a σ) (t i : Int32) (H : ∀ σ', Sc_ a σ' → P (q_lift a n mn nf nj t i) σ') : MMi_ (zx_ u) mX9_lift [.ref (uq_ u 0), .int t, .int i] σ P := by
  refine eX9_lift u σ t i (s_isNight u σ _ (nxb (fun h => ?_) (fun h => cs_ (fun c => ?_) (fun c => cs_ (fun c2 => x_findLift u a σ hV hS t (fun σ1 s1 r0 r1 => ⟨fun c3 => ?_, fun c3 => ?_⟩)) (fun c2 => ?_)))))
  · have := H σ hS; simp [q_lift, h] at this; exact this
  · rw [iI_ltI, show (iI_ (-1)).toInt = -1 by decide] at c
    have := H σ hS; rw [q_lift, if_neg (by omega)] at this; exact this
  · rw [iI_ltI, show (iI_ (-1)).toInt = -1 by decide] at c
    rw [iI_leI, t_1] at c2
    have HH := H σ1 s1
    rw [q_lift, if_pos (by exact ⟨h, by omega, by omega⟩), if_neg c3] at HH
    have hi : i = iI_ 0 ∨ i = iI_ 1 := by
      have : i.toInt ≠ -1 := fun e => c3 (Int32.toInt_inj.mp (by rw [e]; decide))
      rcases (show i.toInt = 0 ∨ i.toInt = 1 by omega) with e | e
      · exact Or.inl (Int32.toInt_inj.mp (by rw [e]; decide))
      · exact Or.inr (Int32.toInt_inj.mp (by rw [e]; decide))
    rcases hi with rfl | rfl
    · rw [if_pos rfl] at HH
      exact ⟨(iI_in (by decide)).mpr (by decide), by rw [show (iI_ 0).toNatClampNeg = 0 from rfl, r0]; exact HH⟩
    · rw [if_neg (by decide)] at HH
      exact ⟨(iI_in (by decide)).mpr (by decide), by rw [show (iI_ 1).toNatClampNeg = 1 from rfl, r1]; exact HH⟩
  · have HH := H σ1 s1
    rw [q_lift, if_pos (by rw [c3]; exact ⟨h, by decide, by decide⟩), if_pos c3] at HH
    exact HH
  · rw [iI_leI, t_1] at c2
    have := H σ hS; rw [q_lift, if_neg (by omega)] at this; exact this
/-! agenda -/
def af_ (a : St_) (n : Nat) (x y : Int32) : Int32 := if n = 0 then iI_ (-1) else cr_ n (v1_ n (a 7) (a 6) false x y) (fun _ => 1) (a 6) x y
theorem x_atFirst (u : Ux_) {P : Int32 → St_ → Prop} (a σ : St_) {n mn nf nj : Nat} (hV : Vx_ a n mn nf nj) (hS : Sc_ a σ) (x y : Int32) (H : ∀ σ', Sc_ a σ' → P (af_ a n x y) σ') : MMi_ (zx_ u) mX9_carriedAtFirst [.ref (uq_ u 0), .int x, .int y] σ P := by
  have h8 := hV.1.1
  refine eX9_carriedAtFirst u σ x y ⟨fun c => ?_, fun c => ?_⟩
  · rw [hS 3 (by omega), hV.1.2.1, iI_eq (by omega) (by omega)] at c
    refine eX0_openPair u σ x y ?_
    rintro σ1 e1 σ2 e2 σ3 e3
    have s3 : Sc_ a σ3 := by rw [e3, e2, e1]; exact ((hS.su (by decide)).su (by decide)).su (by decide)
    have e23 : σ3 23 0 = x := by rw [e3, su_i _ _ _ (by decide), e2, su_i _ _ _ (by decide), e1, su_same]
    have e24 : σ3 24 0 = y := by rw [e3, su_i _ _ _ (by decide), e2, su_same]
    have e25 : σ3 25 0 = bi_ false := by rw [e3, su_same]; rfl
    have v3 := hV.sc s3
    refine x_layAtFirst u σ3 v3.1 (fun σ4 k4 p4 => ?_)
    have s4 : Sc_ a σ4 := s3.ke k4 (by decide)
    have v4 := hV.sc s4
    refine x_lean u 5 7 (ap_order u) (by omega) σ4 false v4.1 (a 7) (a 6) x y (fun m hm => by rw [s4 7 (by omega)]) (fun m hm => ⟨by rw [(p4 m hm).1, s3 6 (by omega)], (hV.1.2.2 m hm).2.1⟩) (by rw [k4 23 (by decide)]; exact e23) (by rw [k4 24 (by decide)]; exact e24) (fun σ5 k5 hv5 e30 => ?_)
    have s5 : Sc_ a σ5 := s4.ke k5 (by decide)
    have v5 := hV.sc s5
    refine x_tally u σ5 v5.1 (by omega) v5.2.2.2.2 false (by rw [k5 25 (by decide), k4 25 (by decide)]; exact e25) _ (fun _ => 1) _ hv5 (fun m hm => rfl) e30 (fun σ6 k6 _ _ => ?_)
    have := H σ6 (s5.ke k6 (by decide))
    rw [af_, if_neg (by omega)] at this
    rw [k5 23 (by decide), k4 23 (by decide), e23, k5 24 (by decide), k4 24 (by decide), e24]
    exact this
  · rw [hS 3 (by omega), hV.1.2.1, iI_eq (by omega) (by omega)] at c
    have := H σ hS
    rw [af_, if_pos (by omega)] at this
    exact this
def lb_ (a : St_) (n p : Nat) : Int32 := if p = 0 then af_ a n (af_ a n (iI_ 0) (iI_ 1)) (iI_ 2) else if p = 1 then af_ a n (af_ a n (iI_ 0) (iI_ 2)) (iI_ 1) else af_ a n (af_ a n (iI_ 1) (iI_ 2)) (iI_ 0)
theorem x_leftBy (u : Ux_) {P : Int32 → St_ → Prop} (a σ : St_) {n mn nf nj : Nat} (hV : Vx_ a n mn nf nj) (hS : Sc_ a σ) {p : Nat} (hp : p < 3) (H : ∀ σ', Sc_ a σ' → P (lb_ a n p) σ') : MMi_ (zx_ u) mX9_leftBy [.ref (uq_ u 0), .int (iI_ p)] σ P := by
  have e1 : iI_ 3 - iI_ 0 - iI_ 1 = iI_ 2 := by decide
  have e2 : iI_ 3 - iI_ 0 - iI_ 2 = iI_ 1 := by decide
  have e3 : iI_ 3 - iI_ 1 - iI_ 2 = iI_ 0 := by decide
  rcases (show p = 0 ∨ p = 1 ∨ p = 2 by omega) with rfl | rfl | rfl
  · refine eX9_leftBy u σ _ ⟨fun _ => bX9_leftBy_10 u σ _ _ ⟨fun c => absurd rfl c, fun _ => ?_⟩, fun c => absurd c (by decide)⟩
    rw [e1]
    exact x_atFirst u a σ hV hS _ _ (fun σ1 s1 => x_atFirst u a σ1 hV s1 _ _ H)
  · refine eX9_leftBy u σ _ ⟨fun _ => bX9_leftBy_10 u σ _ _ ⟨fun _ => ?_, fun c => absurd c (by decide)⟩, fun c => absurd c (by decide)⟩
    rw [e2]
    exact x_atFirst u a σ hV hS _ _ (fun σ1 s1 => x_atFirst u a σ1 hV s1 _ _ H)
  · refine eX9_leftBy u σ _ ⟨fun c => absurd rfl c, fun _ => bX9_leftBy_10 u σ _ _ ⟨fun _ => ?_, fun c => absurd c (by decide)⟩⟩
    rw [e3]
    exact x_atFirst u a σ hV hS _ _ (fun σ1 s1 => x_atFirst u a σ1 hV s1 _ _ H)
def q_agenda (a : St_) (n : Nat) (o : Int32) : Int32 := if inr_ o (iI_ 3) = true then (match fd1_ (fun p => decide (lb_ a n p = o)) 3 0 with
  | some p => iI_ p
  | none => iI_ (-1)) else iI_ (-2)
theorem x_agenda (u : Ux_) {P : Int32 → St_ → Prop} (a σ : St_) {n mn nf nj : Nat} (hV : Vx_ a n mn nf nj) (hS : Sc_ a σ) (o : Int32) (H : ∀ σ', Sc_ a σ' → P (q_agenda a n o) σ') : MMi_ (zx_ u) mX9_agenda [.ref (uq_ u 0), .int o] σ P := by
  refine eX9_agenda u σ o (s_within u σ _ _ (nxn (fun h => ?_) (fun h => ?_)))
  · have := H σ hS; simp [q_agenda, h] at this; exact this
  · simp only [q_agenda, h, if_true] at H
    have key : ∀ (d p : Nat) (τ : St_), p + d = 3 → Sc_ a τ → fd1_ (fun p => decide (lb_ a n p = o)) 3 0 = fd1_ (fun p => decide (lb_ a n p = o)) d p → GG_ (zx_ u) mX9_agenda (Pi_ P) 13 [(0, .ref (uq_ u 0)), (1, .int o), (2, .int (iI_ p))] [] τ := by
      intro d
      induction d with
      | zero =>
        intro p τ hp hs he
        have : p = 3 := by omega
        subst this
        rw [he] at H
        exact bX9_agenda_13 u τ _ _ (cs_ (fun _ => H τ hs) (fun c => absurd (by decide) c))
      | succ d ih =>
        intro p τ hp hs he
        refine bX9_agenda_13 u τ _ _ (cs_ (fun c => absurd c (by rw [iI_le (by omega) (by omega)]; omega)) (fun _ => x_leftBy u a τ hV hs (by omega) (fun σ1 s1 => ⟨fun c => ?_, fun c => ?_⟩)))
        · rw [iI_succ]
          exact ih (p + 1) σ1 (by omega) s1 (by rw [he, fd1_s, if_neg (by simp [c])])
        · have hf : fd1_ (fun p => decide (lb_ a n p = o)) 3 0 = some p := by
            rw [he, fd1_s, if_pos (by simp [c])]
          rw [hf] at H
          exact H σ1 s1
    exact key 3 0 σ (by omega) hS rfl
/-! ring -/
def rl_ (a : St_) (x y : Int32) : Nat → Int
  | 0 => 0
  | k + 1 => rl_ a x y k + (if rat_ (a 7 k) x y = true then 1 else -1)
theorem rl_bd (a : St_) (x y : Int32) (k : Nat) : -(k : Int) ≤ rl_ a x y k ∧ rl_ a x y k ≤ k := by
  induction k with
  | zero => simp [rl_]
  | succ k ih => unfold rl_; split <;> omega
theorem x_lead (u : Ux_) {P : Int32 → St_ → Prop} (σ : St_) {n : Nat} (hr : Wr_ σ n) (x y : Int32) (H : P (iI_ (rl_ σ x y n)) σ) : MMi_ (zx_ u) mX4_lead [.ref (uq_ u 2), .int x, .int y] σ P := by
  have h8 := hr.1
  refine eX4_lead u σ x y ?_
  have key : ∀ d m : Nat, m + d = n → GG_ (zx_ u) mX4_lead (Pi_ P) 5 [(0, .ref (uq_ u 2)), (1, .int x), (2, .int y), (3, .int (iI_ (rl_ σ x y m))), (4, .int (iI_ m))] [] σ := by
    intro d
    induction d with
    | zero =>
      intro m hm
      have : m = n := by omega
      subst this
      exact bX4_lead_5 u σ _ _ _ _ (cs_ (fun _ => H) (fun c => absurd (by rw [hr.2.1]; exact Int32.le_refl _) c))
    | succ d ih =>
      intro m hm
      refine bX4_lead_5 u σ _ _ _ _ (cs_ (fun c => absurd c (by rw [hr.2.1, iI_le (by omega) (by omega)]; omega)) (fun _ => ⟨(iI_in (by omega)).mpr (by omega), s_rather u σ _ _ _ ?_⟩))
      rw [iI_ix (by omega), iI_succ, iI_add, iI_add]
      refine nxb (fun h => ?_) (fun h => ?_)
      · have := ih (m + 1) (by omega)
        rw [rl_, h] at this; exact this
      · have := ih (m + 1) (by omega)
        rw [rl_, h] at this; exact this
  exact key n 0 (by omega)
def q_ring (a : St_) (n : Nat) : Int32 := if 0 < rl_ a (iI_ 0) (iI_ 1) n ∧ 0 < rl_ a (iI_ 1) (iI_ 2) n ∧ 0 < rl_ a (iI_ 2) (iI_ 0) n then iI_ 1 else if rl_ a (iI_ 0) (iI_ 1) n < 0 ∧ rl_ a (iI_ 1) (iI_ 2) n < 0 ∧ rl_ a (iI_ 2) (iI_ 0) n < 0 then iI_ 2 else iI_ 0
theorem x_ring (u : Ux_) {P : Int32 → St_ → Prop} (σ : St_) {n : Nat} (hr : Wr_ σ n) (H : P (q_ring σ n) σ) : MMi_ (zx_ u) mX9_ring [.ref (uq_ u 0)] σ P := by
  have h8 := hr.1
  have b1 := rl_bd σ (iI_ 0) (iI_ 1) n
  have b2 := rl_bd σ (iI_ 1) (iI_ 2) n
  have b3 := rl_bd σ (iI_ 2) (iI_ 0) n
  refine eX9_ring u σ (x_lead u σ hr _ _ (x_lead u σ hr _ _ (x_lead u σ hr _ _ ?_)))
  unfold q_ring at H
  generalize rl_ σ (iI_ 0) (iI_ 1) n = x at *
  generalize rl_ σ (iI_ 1) (iI_ 2) n = y at *
  generalize rl_ σ (iI_ 2) (iI_ 0) n = w at *
  have lx : ∀ {z : Int}, -(n : Int) ≤ z ∧ z ≤ n → (iI_ z ≤ iI_ 0 ↔ z ≤ 0) := fun h => iI_le (by omega) (by omega)
  have gx : ∀ {z : Int}, -(n : Int) ≤ z ∧ z ≤ n → (iI_ 0 ≤ iI_ z ↔ 0 ≤ z) := fun h => iI_le (by omega) (by omega)
  rw [lx b1, lx b2, lx b3, gx b1, gx b2, gx b3]
  have neg : (x ≤ 0 ∨ y ≤ 0 ∨ w ≤ 0) → ((0 ≤ x → P (iI_ 0) σ) ∧ (¬ 0 ≤ x → ((0 ≤ y → P (iI_ 0) σ) ∧ (¬ 0 ≤ y → ((0 ≤ w → P (iI_ 0) σ) ∧ (¬ 0 ≤ w → P (iI_ 2) σ)))))) := by
    intro hq
    rw [if_neg (by omega)] at H
    refine ⟨fun d => ?_, fun d => ⟨fun d2 => ?_, fun d2 => ⟨fun d3 => ?_, fun d3 => ?_⟩⟩⟩
    · rw [if_neg (by omega)] at H; exact H
    · rw [if_neg (by omega)] at H; exact H
    · rw [if_neg (by omega)] at H; exact H
    · rw [if_pos (by omega)] at H; exact H
  refine ⟨fun c => neg (Or.inl c), fun c => ⟨fun c2 => neg (Or.inr (Or.inl c2)), fun c2 => ⟨fun c3 => neg (Or.inr (Or.inr c3)), fun c3 => ?_⟩⟩⟩
  rw [if_pos (by omega)] at H; exact H
/-! sham -/
def fl_ (v : Nat → Bool) (m i : Nat) : Bool := if i = m then !v i else v i
def shm_ (a : St_) (n nf nj t m : Nat) : Int32 := if cx_ a n nf (a 7) (jh_ a (iI_ t) nj) (iI_ (-1)) t = (if rat_ (a 7 m) (a 11 t) (a 12 t) = true then a 11 t else a 12 t) then iI_ 0 else if cr_ n (fl_ (vt_ a n nf nj t) m) (ww_ a t) (ps_ a nf (iI_ t) (iI_ (-1))) (a 11 t) (a 12 t) = (if rat_ (a 7 m) (a 11 t) (a 12 t) = true then a 11 t else a 12 t) then iI_ 1 else iI_ 0
def q_sham (a : St_) (n mn nf nj : Nat) (t m : Int32) : Int32 := if inr_ t (iI_ 10) = true ∧ inr_ m (a 3 0) = true then (if inr_ t (iI_ mn) = true then shm_ a n nf nj t.toNatClampNeg m.toNatClampNeg else iI_ (-1)) else iI_ (-2)
theorem x_sham (u : Ux_) {P : Int32 → St_ → Prop} (a σ : St_) {n mn nf nj : Nat} (hV : Vx_ a n mn nf nj) (hS : Sc_ a σ) (t m : Int32) (H : ∀ σ', Sc_ a σ' → P (q_sham a n mn nf nj t m) σ') : MMi_ (zx_ u) mX9_sham [.ref (uq_ u 0), .int t, .int m] σ P := by
  have h8 := hV.1.1
  have h10 := hV.2.1.1
  have e3 : σ 3 0 = a 3 0 := by rw [hS 3 (by omega)]
  refine eX9_sham u σ t m (s_isNight u σ _ (nxb (fun h => ?_) (fun h => s_isMember u σ _ (nxn (fun h2 => ?_) (fun h2 => ?_)))))
  · have := H σ hS; simp [q_sham, h] at this; exact this
  · rw [e3] at h2; have := H σ hS; simp [q_sham, h2] at this; exact this
  · rw [e3] at h2
    simp only [q_sham, h, h2, and_self, if_true] at H
    obtain ⟨mm, hm, rfl⟩ := inr_nat (k := n) (by rw [hV.1.2.1] at h2; exact h2) (by omega)
    have hm : mm < n := by omega
    have hin : vp_in (iI_ mm) 8 := (iI_in (by omega)).mpr (by omega)
    rw [iI_ix (by omega)] at H ⊢
    refine x_asTold u a σ hV hS t (fun σ1 k1 hD => ⟨fun c2 => ⟨hin, ?_⟩, fun c2 => ?_⟩)
    · rw [ct_ne hV] at c2
      have c3 : 0 < n ∧ inr_ t (iI_ mn) = true := Classical.not_not.mp c2
      rw [if_pos c3.2] at H
      obtain ⟨k, hk, rfl⟩ := inr_nat c3.2 (by omega)
      have D := hD c3.1 c3.2
      rw [ct_put c3.1 c3.2]
      rw [iI_ix (by omega)] at H D ⊢
      have s1 := CH_sc hS k1
      have v1 := hV.sc s1
      obtain ⟨d23, d24, d25, d26, d29, d30, -, -⟩ := D
      rw [s1 7 (by omega), d23, d24]
      -- the turned vote
      have turn : ∀ (W : Int32), (∀ σ', Sc_ a σ' → P (if cr_ n (fl_ (vt_ a n nf nj k) mm) (ww_ a k) (ps_ a nf (iI_ k) (iI_ (-1))) (a 11 k) (a 12 k) = W then iI_ 1 else iI_ 0) σ') → ∀ σ16, σ16 = su_ σ1 29 mm (iI_ 1 - σ1 29 mm) → MMi_ (zx_ u) mX0_tally [.ref (uq_ u 20)] σ16 (fun r19 σ18 => (¬ r19 = W → P (iI_ 0) σ18) ∧ (r19 = W → P (iI_ 1) σ18)) := by
        intro W HW σ16 e16
        have s16 : Sc_ a σ16 := by rw [e16]; exact s1.su (by decide)
        have v16 := hV.sc s16
        refine x_tally u σ16 v16.1 c3.1 v16.2.2.2.2 (decide (a 13 k = iI_ 2)) (by rw [e16, su_i _ _ _ (by decide)]; exact d25) (fl_ (vt_ a n nf nj k) mm) (ww_ a k) (ps_ a nf (iI_ k) (iI_ (-1))) (fun i hi => ?_) (fun i hi => ?_) (by rw [e16, su_i _ _ _ (by decide)]; exact d30) (fun σ18 k18 _ _ => ?_)
        · rw [e16]
          by_cases q : i = mm
          · subst q
            rw [su_same, d29 i hi, fl_, if_pos rfl]
            show iI_ 1 - bi_ (!vt_ a n nf nj k i) = _
            cases vt_ a n nf nj k i <;> decide
          · rw [su_j _ _ _ q, d29 i hi, fl_, if_neg q]; rfl
        · rw [wg_sc s16, ww_]; simp
        · have e23 : σ16 23 0 = a 11 k := by rw [e16, su_i _ _ _ (by decide)]; exact d23
          have e24 : σ16 24 0 = a 12 k := by rw [e16, su_i _ _ _ (by decide)]; exact d24
          rw [e23, e24]
          have := HW σ18 (s16.ke k18 (by decide))
          refine ⟨fun c => ?_, fun c => ?_⟩
          · rw [if_neg c] at this; exact this
          · rw [if_pos c] at this; exact this
      refine s_rather u σ1 _ _ _ (nxb (fun hr => ?_) (fun hr => ?_))
      · rw [d24]
        refine ⟨fun c => ⟨hin, hin, turn (a 12 k) (fun σ' s' => ?_)⟩, fun c => ?_⟩
        · have := H σ' s'
          rw [shm_, hr] at this
          simp only [Bool.false_eq_true, if_false, if_neg c] at this
          exact this
        · have := H σ1 s1
          rw [shm_, hr] at this
          simp only [Bool.false_eq_true, if_false, if_pos c] at this
          exact this
      · rw [d23]
        refine ⟨fun c => ⟨hin, hin, turn (a 11 k) (fun σ' s' => ?_)⟩, fun c => ?_⟩
        · have := H σ' s'
          rw [shm_, hr] at this
          simp only [if_true, if_neg c] at this
          exact this
        · have := H σ1 s1
          rw [shm_, hr] at this
          simp only [if_true, if_pos c] at this
          exact this
    · rw [ct_ne hV] at c2
      have := H σ1 (CH_sc hS k1)
      rw [if_neg (fun q => c2 ⟨by omega, q⟩)] at this
      exact this
