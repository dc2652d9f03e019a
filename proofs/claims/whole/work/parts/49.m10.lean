/-! ===== the reference: ring, sham, never, would, ask ===== -/
theorem rat_sw0 : ∀ (o : Fin 6) (x y : Fin 3), x ≠ y → rat_ (iI_ (o.val : Nat)) (iI_ (y.val : Nat)) (iI_ (x.val : Nat)) = !rat_ (iI_ (o.val : Nat)) (iI_ (x.val : Nat)) (iI_ (y.val : Nat)) := by decide +kernel
theorem rat_sw {o x y : Int32} (ho : 0 ≤ o.toInt ∧ o.toInt < 6) (hx : one3_ x) (hy : one3_ y) (hxy : ¬ x = y) : rat_ o y x = !rat_ o x y := by
  obtain ⟨on, rfl, hon⟩ := iI_nat ho.1
  obtain ⟨xn, rfl, hxn⟩ := iI_nat hx.1
  obtain ⟨yn, rfl, hyn⟩ := iI_nat hy.1
  unfold one3_ at hx hy
  rw [iI_toInt (by omega)] at ho hx hy
  exact rat_sw0 ⟨on, by omega⟩ ⟨xn, by omega⟩ ⟨yn, by omega⟩ (fun e => hxy (by rw [Fin.mk.inj e]))
theorem rl_sw {a : St_} {n : Nat} (ho : or6_ n (a 7)) {x y : Int32} (hx : one3_ x) (hy : one3_ y) (hxy : ¬ x = y) : ∀ k, k ≤ n → rl_ a y x k = - rl_ a x y k := by
  intro k
  induction k with
  | zero => intro _; rfl
  | succ k ih =>
    intro hk
    unfold rl_
    rw [ih (by omega), rat_sw (ho k (by omega)) hx hy hxy]
    cases rat_ (a 7 k) x y
    · simp only [Bool.not_false, if_true, Bool.false_eq_true, if_false]; omega
    · simp only [Bool.not_true, if_true, Bool.false_eq_true, if_false]; omega
theorem m_beats (u : Ux_) {P : Int32 → St_ → Prop} (a σ : St_) {n mn nf nj : Nat} (hV : Vx_ a n mn nf nj) (hd : Rd_ a σ n mn) {x y : Int32} (hx : one3_ x) (hy : one3_ y) (hxy : ¬ x = y) (H : P (bi_ (decide (0 < rl_ a x y n))) σ) : MMi_ (zm_ u) mX10_beats [.ref (uq_ u 0), .int x, .int y] σ P := by
  have h8 := hV.1.1
  refine eX10_beats u σ _ _ ?_
  have key : ∀ d k : Nat, k + d = n → GG_ (zm_ u) mX10_beats (Pi_ P) 5 [(0, .ref (uq_ u 0)), (1, .int x), (2, .int y), (3, .int (iI_ (rl_ a x y k))), (4, .int (iI_ k))] [] σ := by
    intro d
    induction d with
    | zero =>
      intro k hk
      have : k = n := by omega
      subst this
      have b := rl_bd a x y k
      refine bX10_beats_5 u σ _ _ _ _ (cs_ (fun _ => ?_) (fun c => absurd (by rw [hd.1]; exact Int32.le_refl _) c))
      rw [iI_le (by omega) (by omega)]
      refine cs_ (fun c => ?_) (fun c => ?_)
      · rw [decide_eq_false (by omega)] at H; exact H
      · rw [decide_eq_true (by omega)] at H; exact H
    | succ d ih =>
      intro k hk
      have := ih (k + 1) (by omega)
      unfold rl_ at this
      refine bX10_beats_5 u σ _ _ _ _ (cs_ (fun c => absurd c (by rw [hd.1, iI_le (by omega) (by omega)]; omega)) (fun _ => m_isOther u a σ h8 hd.ro hV.o6 (by omega) hx hy hxy ?_))
      rw [iI_succ, iI_add, iI_add]
      refine nxb (fun h => ?_) (fun h => ?_)
      · rw [if_pos (by simpa using h)] at this; exact this
      · rw [if_neg (by simpa using h)] at this; exact this
  exact key n 0 (by omega)
theorem nxd {A B c : Prop} [Decidable c] (hf : ¬ c → A) (ht : c → B) : (bi_ (decide c) = iI_ 0 → A) ∧ (¬ bi_ (decide c) = iI_ 0 → B) := nxb (fun h => hf (of_decide_eq_false h)) (fun h => ht (of_decide_eq_true h))
theorem m_ringNow (u : Ux_) {P : Int32 → St_ → Prop} (a σ : St_) {n mn nf nj : Nat} (hV : Vx_ a n mn nf nj) (hW : Wt_ a) (hR : Rm_ a σ) (H : ∀ σ', Mk_ σ σ' → Rd_ a σ' n mn → P (q_ring a n) σ') : MMi_ (zm_ u) mX10_ringNow [.ref (uq_ u 0)] σ P := by
  refine eX10_ringNow u σ (m_reads u a σ hV hW hR (fun σ1 k1 r1 => ?_))
  have H := H σ1 (Mk_.ke k1 (by decide)) r1
  unfold q_ring at H
  have s1 := rl_sw hV.o6 o3_0 o3_1 (by decide) n (by omega)
  have s2 := rl_sw hV.o6 o3_1 o3_2 (by decide) n (by omega)
  have s3 := rl_sw hV.o6 o3_2 o3_0 (by decide) n (by omega)
  -- the second ring
  have second : ¬ (0 < rl_ a (iI_ 0) (iI_ 1) n ∧ 0 < rl_ a (iI_ 1) (iI_ 2) n ∧ 0 < rl_ a (iI_ 2) (iI_ 0) n) → MMi_ (zm_ u) mX10_beats [.ref (uq_ u 0), .int (iI_ 1), .int (iI_ 0)] σ1 (fun r6 σ5 => ((r6 = iI_ 0 → P (iI_ 0) σ5) ∧ (¬ r6 = iI_ 0 → MMi_ (zm_ u) mX10_beats [.ref (uq_ u 0), .int (iI_ 2), .int (iI_ 1)] σ5 (fun r9 σ8 => ((r9 = iI_ 0 → P (iI_ 0) σ8) ∧ (¬ r9 = iI_ 0 → MMi_ (zm_ u) mX10_beats [.ref (uq_ u 0), .int (iI_ 0), .int (iI_ 2)] σ8 (fun r12 σ11 => ((r12 = iI_ 0 → P (iI_ 0) σ11) ∧ (¬ r12 = iI_ 0 → P (iI_ 2) σ11))))))))) := by
    intro h
    rw [if_neg h] at H
    refine m_beats u a σ1 hV r1 o3_1 o3_0 (by decide) (nxd (fun c => ?_) (fun c => m_beats u a σ1 hV r1 o3_2 o3_1 (by decide) (nxd (fun c2 => ?_) (fun c2 => m_beats u a σ1 hV r1 o3_0 o3_2 (by decide) (nxd (fun c3 => ?_) (fun c3 => ?_))))))
    · rw [if_neg (by omega)] at H; exact H
    · rw [if_neg (by omega)] at H; exact H
    · rw [if_neg (by omega)] at H; exact H
    · rw [if_pos (by omega)] at H; exact H
  refine m_beats u a σ1 hV r1 o3_0 o3_1 (by decide) (nxd (fun c => second (by omega)) (fun c => m_beats u a σ1 hV r1 o3_1 o3_2 (by decide) (nxd (fun c2 => second (by omega)) (fun c2 => m_beats u a σ1 hV r1 o3_2 o3_0 (by decide) (nxd (fun c3 => second (by omega)) (fun c3 => ?_))))))
  rw [if_pos (by omega)] at H; exact H
theorem m_ring (u : Ux_) {P : Int32 → St_ → Prop} (a σ : St_) {n mn nf nj : Nat} (hV : Vx_ a n mn nf nj) (hW : Wt_ a) (hR : Rm_ a σ) (H : ∀ σ', Mk_ σ σ' → P (q_ring a n) σ') : MMi_ (zm_ u) mX10_ring [.ref (uq_ u 0)] σ P :=
  eX10_ring u σ (m_ringNow u a σ hV hW hR (fun σ1 k1 _ => H σ1 k1))
/-! sham -/
theorem m_shamOf (u : Ux_) {P : Int32 → St_ → Prop} (a σ : St_) {n mn nf nj : Nat} (hV : Vx_ a n mn nf nj) (hW : Wt_ a) (hR : Rm_ a σ) (t m : Int32) (ht : inr_ t (iI_ 10) = true) (hm : inr_ m (a 3 0) = true) (H : ∀ σ', Mk_ σ σ' → Rd_ a σ' n mn → P (q_sham a n mn nf nj t m) σ') : MMi_ (zm_ u) mX10_shamOf [.ref (uq_ u 0), .int t, .int m] σ P := by
  have h8 := hV.1.1
  have h10 := hV.2.1.1
  refine eX10_shamOf u σ t m (m_runsTold u a σ hV hW hR (fun σ1 k1 r1 _ t1 => ?_))
  unfold q_sham at H
  rw [if_pos ⟨ht, hm⟩] at H
  rw [hV.1.2.1] at hm
  obtain ⟨x, hx, rfl⟩ := inr_nat ht (by decide)
  obtain ⟨y, hy, rfl⟩ := inr_nat hm (by omega)
  have hy2 : y < n := by omega
  rw [iI_ix (by omega), iI_ix (by omega)] at H
  have hi := inr_n (t := x) (mn := mn) (by omega) (by omega)
  rw [r1.2.1, iI_lt (by omega) (by omega)]
  refine ⟨fun c => ?_, fun c => ?_⟩
  · have hx2 : x < mn := by omega
    rw [if_pos (hi.mpr hx2)] at H
    have hin : vp_in (iI_ x) 10 := (iI_in (by omega)).mpr (by omega)
    have hin11 : vp_in (iI_ x) 11 := (iI_in (by omega)).mpr (by omega)
    obtain ⟨v28, v29, v30⟩ := t1.2.2 x (by omega) hx2
    have v30 : σ1 30 x = iI_ (spk_ (ps_ a nf (iI_ x) (iI_ (-1))) n) := v30
    have v31 := t1.2.1 x (by omega)
    rw [cR_ca hV _ _ _ (by omega), ca_, if_pos ⟨by omega, hi.mpr hx2⟩, iI_ix (by omega)] at v31
    obtain ⟨m1, m2, m3, m4⟩ := hV.2.1.2.2 x hx2
    refine ⟨hin, fun σ4 e4 => ⟨hin, fun σ6 e6 => ⟨hin, hin11, hin11, hin11, ?_⟩⟩⟩
    rw [iI_ix (by omega), v28] at e4
    rw [iI_ix (by omega), e4, su_i (k := 30) _ _ _ (by decide), v30] at e6
    have k6 : Ke_ [19, 21] σ1 σ6 := by rw [e6]; exact (Ke_.rf.su (by decide)).su (by decide)
    obtain ⟨d7, d8, d9⟩ := r1.2.2.2 x hx2
    have mk6 : Mk_ σ σ6 := k1.tr (Mk_.ke k6 (by decide))
    have rd6 : Rd_ a σ6 n mn := (r1.ro.ke (fun i hi => k6 i (by simp; omega))).rd
    have b := spk_bd (ps_ a nf (iI_ x) (iI_ (-1))) n
    have b2 := spk_nn (ps_ a nf (iI_ x) (iI_ (-1))) (n - 1)
    rw [show n - 1 + 1 = n by omega] at b2
    rw [iI_ix (by omega), k6 7 (by decide), k6 8 (by decide), k6 9 (by decide), k6 31 (by decide), d7, d8, d9, v31]
    refine m_carries u a σ6 hV (hR.mk mk6) rd6.ro (v := fl_ (vt_ a n nf nj x) y) (w := ww_ a x) (sp := (spk_ (ps_ a nf (iI_ x) (iI_ (-1))) n).toNat) (fun i hi => ?_) (fun i hi => ?_) (fun _ => ⟨by omega, ?_⟩) (fun σ11 k11 _ => ?_)
    · have e19 : σ6 19 0 = bs_ (fun k => !v1_ n (a 7) (ps_ a nf (iI_ x) (iI_ (-1))) (jh_ a (iI_ x) nj) (a 11 x) (a 12 x) k) n := by rw [e6, su_i _ _ _ (by decide), su_same]
      have ev : vt_ a n nf nj x i = v1_ n (a 7) (ps_ a nf (iI_ x) (iI_ (-1))) (jh_ a (iI_ x) nj) (a 11 x) (a 12 x) i := rfl
      rw [e19, b_xor, bs_bt _ n (by omega), decide_eq_true hi, bt_pow (by omega), fl_, ev]
      by_cases q : i = y
      · rw [if_pos q, decide_eq_true q]; simp
      · rw [if_neg q, decide_eq_false q]; simp
    · unfold ww_
      rcases m4 with z | z
      · rw [z, if_neg (by decide), if_pos rfl]
      · rw [z, if_pos rfl, if_neg (by decide)]
    · rw [e6, su_same]; congr 1; omega
    · have mk11 : Mk_ σ σ11 := mk6.tr (Mk_.ke k11 (by decide))
      have rd11 : Rd_ a σ11 n mn := (rd6.ro.ke (fun i hi => k11 i (by simp; omega))).rd
      have H := H σ11 mk11 rd11
      rw [cr2_cr (by omega)]
      have w1 : cx_ a n nf (a 7) (jh_ a (iI_ x) nj) (iI_ (-1)) x = a 11 x ∨ cx_ a n nf (a 7) (jh_ a (iI_ x) nj) (iI_ (-1)) x = a 12 x := cr_in _ _ _ _ _ _
      have w2 := cr_in n (fl_ (vt_ a n nf nj x) y) (ww_ a x) (ps_ a nf (iI_ x) (iI_ (-1))) (a 11 x) (a 12 x)
      unfold shm_ at H
      have sw := rat_sw (hV.o6 y hy2) m1 m2 m3
      show (cr_ n (fl_ (vt_ a n nf nj x) y) (ww_ a x) (ps_ a nf (iI_ x) (iI_ (-1))) (a 11 x) (a 12 x) = cx_ a n nf (a 7) (jh_ a (iI_ x) nj) (iI_ (-1)) x → _) ∧ (¬ cr_ n (fl_ (vt_ a n nf nj x) y) (ww_ a x) (ps_ a nf (iI_ x) (iI_ (-1))) (a 11 x) (a 12 x) = cx_ a n nf (a 7) (jh_ a (iI_ x) nj) (iI_ (-1)) x → MMi_ (zm_ u) mX10_isOther [.ref (uq_ u 0), .int (iI_ y), .int (cx_ a n nf (a 7) (jh_ a (iI_ x) nj) (iI_ (-1)) x), .int (cr_ n (fl_ (vt_ a n nf nj x) y) (ww_ a x) (ps_ a nf (iI_ x) (iI_ (-1))) (a 11 x) (a 12 x))] σ11 _)
      generalize cx_ a n nf (a 7) (jh_ a (iI_ x) nj) (iI_ (-1)) x = C at H w1 ⊢
      generalize cr_ n (fl_ (vt_ a n nf nj x) y) (ww_ a x) (ps_ a nf (iI_ x) (iI_ (-1))) (a 11 x) (a 12 x) = D at H w2 ⊢
      have hC : one3_ C := by rcases w1 with e | e <;> rw [e] <;> assumption
      have hD : one3_ D := by rcases w2 with e | e <;> rw [e] <;> assumption
      refine ⟨fun e => ?_, fun e => m_isOther u a σ11 h8 rd11.ro hV.o6 hy2 hC hD (fun z => e z.symm) ?_⟩
      · rw [e] at H
        by_cases q : C = (if rat_ (a 7 y) (a 11 x) (a 12 x) = true then a 11 x else a 12 x)
        · rw [if_pos q] at H; exact H
        · rw [if_neg q, if_neg q] at H; exact H
      · have goal : (if C = (if rat_ (a 7 y) (a 11 x) (a 12 x) = true then a 11 x else a 12 x) then iI_ 0 else if D = (if rat_ (a 7 y) (a 11 x) (a 12 x) = true then a 11 x else a 12 x) then iI_ 1 else iI_ 0) = bi_ (!rat_ (a 7 y) C D) := by
          rcases w1 with rfl | rfl
          · have hD2 : D = a 12 x := by
              rcases w2 with q | q
              · exact absurd q e
              · exact q
            subst hD2
            cases hr : rat_ (a 7 y) (a 11 x) (a 12 x)
            · rw [show (if false = true then a 11 x else a 12 x) = a 12 x from rfl, if_neg m3, if_pos rfl]; rfl
            · rw [show (if true = true then a 11 x else a 12 x) = a 11 x from rfl, if_pos rfl]; rfl
          · have hD2 : D = a 11 x := by
              rcases w2 with q | q
              · exact q
              · exact absurd q e
            subst hD2
            rw [sw]
            cases hr : rat_ (a 7 y) (a 11 x) (a 12 x)
            · rw [show (if false = true then a 11 x else a 12 x) = a 12 x from rfl, if_pos rfl]; rfl
            · rw [show (if true = true then a 11 x else a 12 x) = a 11 x from rfl, if_neg (fun z => m3 z.symm), if_pos rfl]; rfl
        rw [goal] at H
        exact nxb (fun h => by rw [h] at H; exact H) (fun h => by rw [h] at H; exact H)
  · rw [if_neg (fun q => c (by have := hi.mp q; omega))] at H; exact H σ1 k1 r1
theorem m_sham (u : Ux_) {P : Int32 → St_ → Prop} (a σ : St_) {n mn nf nj : Nat} (hV : Vx_ a n mn nf nj) (hW : Wt_ a) (hR : Rm_ a σ) (t m : Int32) (H : ∀ σ', Mk_ σ σ' → P (q_sham a n mn nf nj t m) σ') : MMi_ (zm_ u) mX10_sham [.ref (uq_ u 0), .int t, .int m] σ P := by
  refine eX10_sham u σ t m (m_isNight u σ _ (nxb (fun h => ?_) (fun h => m_isMember u a σ hV hW hR m (fun σ1 k1 r1 => nxb (fun h2 => ?_) (fun h2 => m_shamOf u a σ1 hV hW (hR.mk (Mk_.ke k1 (by decide))) t m h h2 (fun σ2 k2 _ => H σ2 ((Mk_.ke k1 (by decide)).tr k2)))))))
  · have := H σ Mk_.rf
    rw [q_sham, if_neg (by simp [h])] at this; exact this
  · have := H σ1 (Mk_.ke k1 (by decide))
    rw [q_sham, if_neg (by simp [h2])] at this; exact this
/-! what is seen -/
theorem m_isSeen (u : Ux_) {P : Int32 → St_ → Prop} (a σ : St_) {n mn nf nj ns : Nat} {or : Nat → Int32} (hV : Vx_ a n mn nf nj) (hN : Vs_ a ns) (hR : Rm_ a σ) (ho : or6_ n or) (hd : Ro_ a σ n mn or) {wo : Int32} {nb : Nat → Bool} (hnb : ∀ i : Nat, i < nf → nb i = decide (iI_ i = wo)) (hg : Sg_ σ n nf nb (fun t => jh_ a (iI_ t) nj) (iI_ (-1)) (fun _ => false))
    (H : ∀ σ', Ke_ [17, 18, 19, 20, 21, 26, 27, 28, 29, 30, 31] σ σ' → (∀ t : Nat, t < 10 → σ' 31 t = ca_ a n mn nf or (jh_ a (iI_ t) nj) wo (iI_ t)) → P (bi_ (sk_ a n mn nf nj or wo ns)) σ') : MMi_ (zm_ u) mX10_isSeen [.ref (uq_ u 0)] σ P := by
  obtain ⟨n8, e20, hA⟩ := hN
  refine eX10_isSeen u σ (m_runs u a σ hV hR ho hd hg (fun σ1 k1 n1 => ?_))
  have c31 : ∀ t : Nat, t < 10 → σ1 31 t = ca_ a n mn nf or (jh_ a (iI_ t) nj) wo (iI_ t) := fun t ht => by
    have n1 := n1.pos (pos' := fun t => ps_ a nf (iI_ t) wo) (fun t ht => by
      funext k
      exact lR_ps hV.2.2.1.2.2 hnb t ht (fun t' ht' => by rw [iI_eq (by omega) (by omega)]; omega))
    rw [n1.2.1 t ht, cR_ca hV or wo _ ht]
  have H := H σ1 k1 c31
  have hR1 : Rm_ a σ1 := hR.mk (Mk_.ke k1 (by decide))
  have e33 : σ1 33 0 = iI_ ns := by rw [hR1.2.2.2.2.2.2.2.1]; exact e20
  have sk_f : ∀ d k, sk_ a n mn nf nj or wo k = false → sk_ a n mn nf nj or wo (k + d) = false := by
    intro d
    induction d with
    | zero => intro k h; exact h
    | succ d ih => intro k h; show (sk_ a n mn nf nj or wo (k + d) && _) = false; rw [ih k h]; rfl
  have key : ∀ d k : Nat, k + d = ns → GG_ (zm_ u) mX10_isSeen (Pi_ P) 8 [(0, .ref (uq_ u 0)), (1, .int (bi_ (sk_ a n mn nf nj or wo k))), (2, .int (iI_ k))] [] σ1 := by
    intro d
    induction d with
    | zero =>
      intro k hk
      have : k = ns := by omega
      subst this
      exact bX10_isSeen_8 u σ1 _ _ (cs_ (fun _ => ⟨bi_01 _, H⟩) (fun c => absurd (by rw [e33]; exact Int32.le_refl _) c))
    | succ d ih =>
      intro k hk
      have nxt := ih (k + 1) (by omega)
      refine bX10_isSeen_8 u σ1 _ _ (cs_ (fun c => absurd c (by rw [e33, iI_le (by omega) (by omega)]; omega)) (fun _ => nxb (fun h => ⟨bi_01 _, ?_⟩) (fun h => ?_)))
      · rw [← show k + (d + 1) = ns from hk, sk_f (d + 1) k h] at H
        rw [h]; exact H
      · have hin : vp_in (iI_ k) 8 := (iI_in (by omega)).mpr (by omega)
        obtain ⟨r34, r35⟩ := hR1.2.2.2.2.2.2.2.2.1 k (by omega)
        obtain ⟨a21, a22a, a22b⟩ := hA k (by omega)
        obtain ⟨x, hx, ex⟩ := inr_nat a21 (by decide)
        have cb := ca_in hV or (jh_ a (a 21 k) nj) wo (a 21 k)
        have e31 : σ1 31 x = ca_ a n mn nf or (jh_ a (a 21 k) nj) wo (a 21 k) := by rw [c31 x (by omega), ex]
        have esk : sk_ a n mn nf nj or wo (k + 1) = decide (ca_ a n mn nf or (jh_ a (a 21 k) nj) wo (a 21 k) = a 22 k) := by
          show (sk_ a n mn nf nj or wo k && _) = _
          rw [h, Bool.true_and]
        rw [esk] at nxt
        have ix : (σ1 34 k).toNatClampNeg = x := by rw [r34, ex, iI_ix (by omega)]
        rw [iI_ix (by omega), ix, e31, r35, iI_succ]
        generalize ca_ a n mn nf or (jh_ a (a 21 k) nj) wo (a 21 k) = C at *
        refine ⟨hin, by rw [r34, ex]; exact (iI_in (by omega)).mpr (by omega), fun c => ⟨hin, fun c2 => ?_, fun c2 => ?_⟩, fun c => ⟨hin, fun c2 => ?_, fun c2 => ?_⟩⟩
        · rw [decide_eq_false] at nxt
          · exact nxt
          · intro e
            rw [← e, if_neg c] at c2
            exact c2 rfl
        · by_cases q : a 22 k = iI_ (-1)
          · rw [if_pos q] at c2
            rw [c2] at cb
            exact absurd cb (by decide)
          · rw [if_neg q] at c2
            rw [decide_eq_true c2] at nxt; exact nxt
        · rw [decide_eq_false] at nxt
          · exact nxt
          · intro e
            rw [← e, if_pos c] at c2
            exact c2 rfl
        · by_cases q : a 22 k = iI_ (-1)
          · rw [decide_eq_true (by rw [c, q])] at nxt; exact nxt
          · rw [if_neg q] at c2
            rw [← c2] at a22b
            exact absurd a22b (by decide)
  exact key ns 0 (by omega)
theorem m_neverNow (u : Ux_) {P : Int32 → St_ → Prop} (a σ : St_) {n mn nf nj ns : Nat} (hV : Vx_ a n mn nf nj) (hN : Vs_ a ns) (hW : Wt_ a) (hR : Rm_ a σ) (H : ∀ σ', Mk_ σ σ' → Rd_ a σ' n mn → P (q_never a n mn nf nj ns) σ') : MMi_ (zm_ u) mX10_neverNow [.ref (uq_ u 0)] σ P := by
  obtain ⟨f8, ef, hF⟩ := hV.2.2.1
  refine eX10_neverNow u σ (m_asTold u a σ hV hW hR (fun σ1 k1 r1 g1 => ?_))
  have key : ∀ (d k : Nat) (τ : St_), k + d = nf → Ke_ [17, 18, 19, 20, 21, 22, 26, 27, 28, 29, 30, 31] σ1 τ → GG_ (zm_ u) mX10_neverNow (Pi_ P) 8 [(0, .ref (uq_ u 0)), (1, .int (bs_ (fun f => sk_ a n mn nf nj (a 7) (iI_ f) ns) k)), (2, .int (iI_ k))] [] τ := by
    intro d
    induction d with
    | zero =>
      intro k τ hk ke
      have : k = nf := by omega
      subst this
      have mk : Mk_ σ τ := (Mk_.ke k1 (by decide)).tr (Mk_.ke ke (by decide))
      exact bX10_neverNow_8 u τ _ _ (cs_ (fun _ => H τ mk (r1.ro.ke (fun i hi => ke i (by simp; omega))).rd) (fun c => absurd (by rw [(hR.mk mk).2.2.2.1, ef]; exact Int32.le_refl _) c))
    | succ d ih =>
      intro k τ hk ke
      have mk : Mk_ σ τ := (Mk_.ke k1 (by decide)).tr (Mk_.ke ke (by decide))
      refine bX10_neverNow_8 u τ _ _ (cs_ (fun c => absurd c (by rw [(hR.mk mk).2.2.2.1, ef, iI_le (by omega) (by omega)]; omega)) (fun _ => fun σ2 e2 => ?_))
      have ke2 : Ke_ [17, 18, 19, 20, 21, 22, 26, 27, 28, 29, 30, 31] σ1 σ2 := by rw [e2]; exact ke.su (by decide)
      have mk2 : Mk_ σ σ2 := (Mk_.ke k1 (by decide)).tr (Mk_.ke ke2 (by decide))
      have hg : Sg_ σ2 n nf (fun i => decide (iI_ i = iI_ k)) (fun t => jh_ a (iI_ t) nj) (iI_ (-1)) (fun _ => false) := by
        refine ⟨fun i hi => ?_, fun t ht => by rw [ke2 23 (by decide)]; exact g1.2.1 t ht, by rw [ke2 24 (by decide)]; exact g1.2.2.1, fun i hi => by rw [ke2 25 (by decide)]; exact g1.2.2.2 i hi⟩
        rw [e2, su_same, bt_pow (by omega), decide_eq_decide, iI_eq (by omega) (by omega)]; omega
      refine m_isSeen u a σ2 hV hN (hR.mk mk2) hV.o6 (r1.ro.ke (fun i hi => ke2 i (by simp; omega))) (wo := iI_ k) (fun i hi => rfl) hg (fun σ3 k3 _ => ?_)
      have nxt := ih (k + 1) σ3 (by omega) (ke2.tr (k3.up (by decide)))
      rw [iI_succ, or_0]
      refine nxb (fun h => ?_) (fun h => ?_)
      · rw [bs_, if_neg (by simp [h])] at nxt; exact nxt
      · rw [bs_, if_pos h] at nxt; exact nxt
  exact key nf 0 σ1 (by omega) Ke_.rf
theorem m_never (u : Ux_) {P : Int32 → St_ → Prop} (a σ : St_) {n mn nf nj ns : Nat} (hV : Vx_ a n mn nf nj) (hN : Vs_ a ns) (hW : Wt_ a) (hR : Rm_ a σ) (H : ∀ σ', Mk_ σ σ' → P (q_never a n mn nf nj ns) σ') : MMi_ (zm_ u) mX10_never [.ref (uq_ u 0)] σ P :=
  eX10_never u σ (m_neverNow u a σ hV hN hW hR (fun σ1 k1 _ => H σ1 k1))
