/-! ===== the class: digest ===== -/
def hh_ (h v : Int64) : Int64 := iL_ 31 * h + v
def dgl_ (f : Nat → Int32) (h : Int64) : Nat → Int64
  | 0 => h
  | k + 1 => hh_ (dgl_ f h k) (f k).toInt64
def dgn_ (a : St_) (n mn nf nj m : Nat) (h : Int64) (t : Nat) : Int64 := hh_ (dgl_ (fun w => q_lies a n mn nf nj (iI_ t) (iI_ m) (iI_ w)) h 3) (q_sham a n mn nf nj (iI_ t) (iI_ m)).toInt64
def dgm_ (a : St_) (n mn nf nj ns : Nat) (h : Int64) (m : Nat) : Int64 := hh_ (hh_ (hh_ (hh_ (dgn_ a n mn nf nj m (dgn_ a n mn nf nj m (dgn_ a n mn nf nj m (dgl_ (fun w => q_member a (iI_ m) (iI_ w)) h 5) 0) 4) 9) (q_power a n (iI_ m) (iI_ 0))) (q_power a n (iI_ m) (iI_ 1))) (bs_ (wd_ a n mn nf nj ns m) 6).toInt64) (aq_ a n mn nf nj ns m).toInt64
def dgt_ (a : St_) (n mn nf nj : Nat) (h : Int64) (t : Nat) : Int64 := hh_ (hh_ (hh_ (dgl_ (fun w => q_vote a n mn nf nj (iI_ t) (iI_ w)) (dgl_ (fun w => q_motion a (iI_ t) (iI_ w)) h 3) 4) (q_house a n mn nf nj (iI_ t)).toInt64) (q_lift a n mn nf nj (iI_ t) (iI_ (-1))).toInt64) (q_lift a n mn nf nj (iI_ t) (iI_ 0)).toInt64
def dgp_ (a : St_) (n mn nf nj ns : Nat) (h : Int64) : Int64 := hh_ (hh_ (hh_ (hh_ (hh_ (hh_ (dgl_ (fun o => q_agenda a n (iI_ o)) (hh_ (hh_ h (iI_ (tld_ a n nf nj mn)).toInt64) (iI_ (bst_ (fun m => pls_ a n nf nj m mn) n)).toInt64) 3) (q_ring a n).toInt64) (q_never a n mn nf nj ns).toInt64) (q_ajar a n mn nf (iI_ 5) (iI_ 5) (iI_ 1) (iI_ 7) (iI_ 0))) (q_ajar a n mn nf (iI_ 5) (iI_ 5) (iI_ 1) (iI_ 7) (iI_ 1))) (q_even a n mn nf nj (iI_ 7) (iI_ 0)).toInt64) (q_even a n mn nf nj (iI_ 7) (iI_ 1)).toInt64
def dgM_ (a : St_) (n mn nf nj ns : Nat) (h : Int64) : Nat → Int64
  | 0 => h
  | m + 1 => dgm_ a n mn nf nj ns (dgM_ a n mn nf nj ns h m) m
def dgT_ (a : St_) (n mn nf nj : Nat) (h : Int64) : Nat → Int64
  | 0 => h
  | t + 1 => dgt_ a n mn nf nj (dgT_ a n mn nf nj h t) t
def q_digest (a : St_) (n mn nf nj ns : Nat) : Int64 := dgp_ a n mn nf nj ns (dgT_ a n mn nf nj (dgM_ a n mn nf nj ns (dgl_ (fun t => q_fault a (iI_ t)) (dgl_ (fun w => q_count a n (iI_ w)) (iL_ 17) 8) 2) n) 10)
theorem q_count_sc {a b : St_} (e : Sc_ a b) (n : Nat) (w : Int32) : q_count b n w = q_count a n w := by
  have : ∀ k, wsm_ b k = wsm_ a k := by
    intro k
    induction k with
    | zero => rfl
    | succ k ih => unfold wsm_; rw [ih, wg_sc e]
  unfold q_count
  rw [this, e 3 (by omega), e 9 (by omega), e 0 (by omega), e 14 (by omega), e 18 (by omega), e 20 (by omega), e 38 (by omega)]
theorem q_fault_sc {a b : St_} (e : Sc_ a b) (t : Int32) : q_fault b t = q_fault a t := by
  unfold q_fault; rw [e 4 (by omega), e 10 (by omega)]
theorem q_member_sc {a b : St_} (e : Sc_ a b) (m w : Int32) : q_member b m w = q_member a m w := by
  unfold q_member; rw [e 3 (by omega), e 5 (by omega), e 6 (by omega), e 7 (by omega)]
theorem q_motion_sc {a b : St_} (e : Sc_ a b) (m w : Int32) : q_motion b m w = q_motion a m w := by
  unfold q_motion; rw [e 9 (by omega), e 11 (by omega), e 12 (by omega), e 13 (by omega)]
theorem q_ring_sc {a b : St_} (e : Sc_ a b) (n : Nat) : q_ring b n = q_ring a n := by
  have : ∀ x y k, rl_ b x y k = rl_ a x y k := by
    intro x y k
    induction k with
    | zero => rfl
    | succ k ih => unfold rl_; rw [ih, e 7 (by omega)]
  unfold q_ring
  rw [this, this, this]
theorem x_digestMember (u : Ux_) {P : Int64 → St_ → Prop} (a σ : St_) {n mn nf nj ns : Nat} (hV : Vx_ a n mn nf nj) (hN : Vs_ a ns) (hS : Sc_ a σ) (h : Int64) {m : Nat} (hm : m < n) (H : ∀ σ', Sc_ a σ' → P (dgm_ a n mn nf nj ns h m) σ') : MMl_ (zx_ u) mX9_digestMember [.ref (uq_ u 0), .long h, .int (iI_ m)] σ P := by
  have h8 := hV.1.1
  refine eX9_digestMember u σ h _ ?_
  -- the end
  have fin : ∀ (τ : St_), Sc_ a τ → GG_ (zx_ u) mX9_digestMember (Pl_ P) 48 [(0, .ref (uq_ u 0)), (3, .int (iI_ m)), (4, .long (dgn_ a n mn nf nj m (dgn_ a n mn nf nj m (dgn_ a n mn nf nj m (dgl_ (fun w => q_member a (iI_ m) (iI_ w)) h 5) 0) 4) 9)), (6, .ref (us_ u 2)), (7, .int (iI_ 3)), (8, .int (iI_ (3 : Nat)))] [] τ := by
    intro τ hs
    refine bX9_digestMember_48 u τ _ _ _ _ (cs_ (fun _ => x_power u a τ hV hs _ _ (fun σ1 s1 => x_power u a σ1 hV s1 _ _ (fun σ2 s2 => x_orders u a σ2 hV hN s2 hm (fun σ3 s3 => x_nightToAsk u a σ3 hV s3 hm (fun σ4 s4 => H σ4 s4))))) (fun c => absurd (Int32.le_refl _) c))
  -- one night of the three
  have night : ∀ (k t : Nat) (h0 : Int64) (τ : St_), k < 3 → t < 10 → tD_ k = iI_ t → Sc_ a τ → (∀ σ', Sc_ a σ' → GG_ (zx_ u) mX9_digestMember (Pl_ P) 48 [(0, .ref (uq_ u 0)), (3, .int (iI_ m)), (4, .long (dgn_ a n mn nf nj m h0 t)), (6, .ref (us_ u 2)), (7, .int (iI_ 3)), (8, .int (iI_ (k + 1 : Nat)))] [] σ') → GG_ (zx_ u) mX9_digestMember (Pl_ P) 48 [(0, .ref (uq_ u 0)), (3, .int (iI_ m)), (4, .long h0), (6, .ref (us_ u 2)), (7, .int (iI_ 3)), (8, .int (iI_ k))] [] τ := by
    intro k t h0 τ hk ht ed hs HH
    refine bX9_digestMember_48 u τ _ _ _ _ (cs_ (fun c => absurd c (by rw [iI_le (by omega) (by omega)]; omega)) (fun _ => ⟨(iI_in (by omega)).mpr (by omega), ?_⟩))
    rw [iI_ix (by omega), ed]
    have key : ∀ (d w : Nat) (τ : St_), w + d = 3 → Sc_ a τ → GG_ (zx_ u) mX9_digestMember (Pl_ P) 65 [(0, .ref (uq_ u 0)), (3, .int (iI_ m)), (4, .long (dgl_ (fun w => q_lies a n mn nf nj (iI_ t) (iI_ m) (iI_ w)) h0 w)), (6, .ref (us_ u 2)), (7, .int (iI_ 3)), (8, .int (iI_ k)), (9, .int (iI_ t)), (10, .int (iI_ w))] [] τ := by
      intro d
      induction d with
      | zero =>
        intro w τ hw hs
        have : w = 3 := by omega
        subst this
        refine bX9_digestMember_65 u τ _ _ _ _ _ _ (cs_ (fun _ => x_sham u a τ hV hs _ _ (fun σ1 s1 => ?_)) (fun c => absurd (by decide) c))
        rw [iI_succ]
        exact HH σ1 s1
      | succ d ih =>
        intro w τ hw hs
        refine bX9_digestMember_65 u τ _ _ _ _ _ _ (cs_ (fun c => absurd c (by rw [iI_lt (by omega) (by omega)]; omega)) (fun _ => x_lies u a τ hV hs _ _ _ (fun σ1 s1 => ?_)))
        rw [iI_succ]
        exact ih (w + 1) σ1 (by omega) s1
    exact key 3 0 τ (by omega) hs
  have key0 : ∀ (d w : Nat) (τ : St_), w + d = 5 → Sc_ a τ → GG_ (zx_ u) mX9_digestMember (Pl_ P) 6 [(0, .ref (uq_ u 0)), (3, .int (iI_ m)), (4, .long (dgl_ (fun w => q_member a (iI_ m) (iI_ w)) h w)), (6, .int (iI_ w))] [] τ := by
    intro d
    induction d with
    | zero =>
      intro w τ hw hs
      have : w = 5 := by omega
      subst this
      refine bX9_digestMember_6 u τ _ _ _ (cs_ (fun _ => ?_) (fun c => absurd (by decide) c))
      exact night 0 0 _ τ (by omega) (by omega) (by decide) hs (fun σ1 s1 => night 1 4 _ σ1 (by omega) (by omega) (by decide) s1 (fun σ2 s2 => night 2 9 _ σ2 (by omega) (by omega) (by decide) s2 (fun σ3 s3 => fin σ3 s3)))
    | succ d ih =>
      intro w τ hw hs
      refine bX9_digestMember_6 u τ _ _ _ (cs_ (fun c => absurd c (by rw [iI_lt (by omega) (by omega)]; omega)) (fun _ => x_member u τ (hV.sc hs).1 _ _ ?_))
      rw [iI_succ, q_member_sc hs]
      exact ih (w + 1) τ (by omega) hs
  exact key0 5 0 σ (by omega) hS
theorem x_digestNight (u : Ux_) {P : Int64 → St_ → Prop} (a σ : St_) {n mn nf nj : Nat} (hV : Vx_ a n mn nf nj) (hS : Sc_ a σ) (h : Int64) {t : Nat} (ht : t < 10) (H : ∀ σ', Sc_ a σ' → P (dgt_ a n mn nf nj h t) σ') : MMl_ (zx_ u) mX9_digestNight [.ref (uq_ u 0), .long h, .int (iI_ t)] σ P := by
  refine eX9_digestNight u σ h _ ?_
  have key2 : ∀ (d w : Nat) (τ : St_), w + d = 4 → Sc_ a τ → GG_ (zx_ u) mX9_digestNight (Pl_ P) 38 [(0, .ref (uq_ u 0)), (3, .int (iI_ t)), (4, .long (dgl_ (fun w => q_vote a n mn nf nj (iI_ t) (iI_ w)) (dgl_ (fun w => q_motion a (iI_ t) (iI_ w)) h 3) w)), (6, .int (iI_ w))] [] τ := by
    intro d
    induction d with
    | zero =>
      intro w τ hw hs
      have : w = 4 := by omega
      subst this
      exact bX9_digestNight_38 u τ _ _ _ (cs_ (fun _ => x_house u a τ hV hs _ (fun σ1 s1 => x_lift u a σ1 hV s1 _ _ (fun σ2 s2 => x_lift u a σ2 hV s2 _ _ (fun σ3 s3 => H σ3 s3)))) (fun c => absurd (by decide) c))
    | succ d ih =>
      intro w τ hw hs
      refine bX9_digestNight_38 u τ _ _ _ (cs_ (fun c => absurd c (by rw [iI_lt (by omega) (by omega)]; omega)) (fun _ => x_vote u a τ hV hs _ _ (fun σ1 s1 => ?_)))
      rw [iI_succ]
      exact ih (w + 1) σ1 (by omega) s1
  have key0 : ∀ (d w : Nat) (τ : St_), w + d = 3 → Sc_ a τ → GG_ (zx_ u) mX9_digestNight (Pl_ P) 6 [(0, .ref (uq_ u 0)), (3, .int (iI_ t)), (4, .long (dgl_ (fun w => q_motion a (iI_ t) (iI_ w)) h w)), (6, .int (iI_ w))] [] τ := by
    intro d
    induction d with
    | zero =>
      intro w τ hw hs
      have : w = 3 := by omega
      subst this
      exact bX9_digestNight_6 u τ _ _ _ (cs_ (fun _ => key2 4 0 τ (by omega) hs) (fun c => absurd (by decide) c))
    | succ d ih =>
      intro w τ hw hs
      refine bX9_digestNight_6 u τ _ _ _ (cs_ (fun c => absurd c (by rw [iI_lt (by omega) (by omega)]; omega)) (fun _ => x_motion u τ _ _ ?_))
      rw [iI_succ, q_motion_sc hs]
      exact ih (w + 1) τ (by omega) hs
  exact key0 3 0 σ (by omega) hS
theorem x_digestPlans (u : Ux_) {P : Int64 → St_ → Prop} (a σ : St_) {n mn nf nj ns : Nat} (hV : Vx_ a n mn nf nj) (hN : Vs_ a ns) (hS : Sc_ a σ) (h : Int64) (H : ∀ σ', Sc_ a σ' → P (dgp_ a n mn nf nj ns h) σ') : MMl_ (zx_ u) mX9_digestPlans [.ref (uq_ u 0), .long h] σ P := by
  refine eX9_digestPlans u σ h (x_told u a σ hV hS (fun σ1 s1 => x_pleased u a σ1 hV s1 (fun σ2 s2 => ?_)))
  have key : ∀ (d w : Nat) (τ : St_), w + d = 3 → Sc_ a τ → GG_ (zx_ u) mX9_digestPlans (Pl_ P) 27 [(0, .ref (uq_ u 0)), (3, .long (dgl_ (fun o => q_agenda a n (iI_ o)) (hh_ (hh_ h (iI_ (tld_ a n nf nj mn)).toInt64) (iI_ (bst_ (fun m => pls_ a n nf nj m mn) n)).toInt64) w)), (5, .int (iI_ w))] [] τ := by
    intro d
    induction d with
    | zero =>
      intro w τ hw hs
      have : w = 3 := by omega
      subst this
      refine bX9_digestPlans_27 u τ _ _ (cs_ (fun _ => x_ring u τ (hV.sc hs).1 (x_never u a τ hV hN hs (fun σ3 s3 => x_ajar u a σ3 hV s3 _ _ _ _ _ (fun σ4 s4 => x_ajar u a σ4 hV s4 _ _ _ _ _ (fun σ5 s5 => x_evenings u a σ5 hV s5 _ _ (fun σ6 s6 => x_evenings u a σ6 hV s6 _ _ (fun σ7 s7 => ?_))))))) (fun c => absurd (by decide) c))
      rw [q_ring_sc hs]
      exact H σ7 s7
    | succ d ih =>
      intro w τ hw hs
      refine bX9_digestPlans_27 u τ _ _ (cs_ (fun c => absurd c (by rw [iI_le (by omega) (by omega)]; omega)) (fun _ => x_agenda u a τ hV hs _ (fun σ3 s3 => ?_)))
      rw [iI_succ]
      exact ih (w + 1) σ3 (by omega) s3
  exact key 3 0 σ2 (by omega) s2
theorem x_digest (u : Ux_) {P : Int64 → St_ → Prop} (a σ : St_) {n mn nf nj ns : Nat} (hV : Vx_ a n mn nf nj) (hN : Vs_ a ns) (hS : Sc_ a σ) (H : ∀ σ', Sc_ a σ' → P (q_digest a n mn nf nj ns) σ') : MMl_ (zx_ u) mX9_digest [.ref (uq_ u 0)] σ P := by
  have h8 := hV.1.1
  refine eX9_digest u σ ?_
  have key4 : ∀ (d t : Nat) (τ : St_), t + d = 10 → Sc_ a τ → GG_ (zx_ u) mX9_digest (Pl_ P) 85 [(0, .ref (uq_ u 0)), (1, .long (dgT_ a n mn nf nj (dgM_ a n mn nf nj ns (dgl_ (fun t => q_fault a (iI_ t)) (dgl_ (fun w => q_count a n (iI_ w)) (iL_ 17) 8) 2) n) t)), (3, .int (iI_ t))] [] τ := by
    intro d
    induction d with
    | zero =>
      intro t τ ht hs
      have : t = 10 := by omega
      subst this
      exact bX9_digest_85 u τ _ _ (cs_ (fun _ => x_digestPlans u a τ hV hN hs _ (fun σ1 s1 => H σ1 s1)) (fun c => absurd (by decide) c))
    | succ d ih =>
      intro t τ ht hs
      refine bX9_digest_85 u τ _ _ (cs_ (fun c => absurd c (by rw [iI_le (by omega) (by omega)]; omega)) (fun _ => x_digestNight u a τ hV hs _ (by omega) (fun σ1 s1 => ?_)))
      rw [iI_succ]
      exact ih (t + 1) σ1 (by omega) s1
  have key3 : ∀ (d m : Nat) (τ : St_), m + d = n → Sc_ a τ → GG_ (zx_ u) mX9_digest (Pl_ P) 59 [(0, .ref (uq_ u 0)), (1, .long (dgM_ a n mn nf nj ns (dgl_ (fun t => q_fault a (iI_ t)) (dgl_ (fun w => q_count a n (iI_ w)) (iL_ 17) 8) 2) m)), (3, .int (iI_ m))] [] τ := by
    intro d
    induction d with
    | zero =>
      intro m τ hm hs
      have : m = n := by omega
      subst this
      exact bX9_digest_59 u τ _ _ (cs_ (fun _ => key4 10 0 τ (by omega) hs) (fun c => absurd (by rw [hs 3 (by omega), hV.1.2.1]; exact Int32.le_refl _) c))
    | succ d ih =>
      intro m τ hm hs
      refine bX9_digest_59 u τ _ _ (cs_ (fun c => absurd c (by rw [hs 3 (by omega), hV.1.2.1, iI_le (by omega) (by omega)]; omega)) (fun _ => x_digestMember u a τ hV hN hs _ (by omega) (fun σ1 s1 => ?_)))
      rw [iI_succ]
      exact ih (m + 1) σ1 (by omega) s1
  have key2 : ∀ (d t : Nat) (τ : St_), t + d = 2 → Sc_ a τ → GG_ (zx_ u) mX9_digest (Pl_ P) 33 [(0, .ref (uq_ u 0)), (1, .long (dgl_ (fun t => q_fault a (iI_ t)) (dgl_ (fun w => q_count a n (iI_ w)) (iL_ 17) 8) t)), (3, .int (iI_ t))] [] τ := by
    intro d
    induction d with
    | zero =>
      intro t τ ht hs
      have : t = 2 := by omega
      subst this
      exact bX9_digest_33 u τ _ _ (cs_ (fun _ => key3 n 0 τ (by omega) hs) (fun c => absurd (by decide) c))
    | succ d ih =>
      intro t τ ht hs
      refine bX9_digest_33 u τ _ _ (cs_ (fun c => absurd c (by rw [iI_le (by omega) (by omega)]; omega)) (fun _ => x_fault u τ _ ?_))
      rw [iI_succ, q_fault_sc hs]
      exact ih (t + 1) τ (by omega) hs
  have key1 : ∀ (d w : Nat) (τ : St_), w + d = 8 → Sc_ a τ → GG_ (zx_ u) mX9_digest (Pl_ P) 6 [(0, .ref (uq_ u 0)), (1, .long (dgl_ (fun w => q_count a n (iI_ w)) (iL_ 17) w)), (3, .int (iI_ w))] [] τ := by
    intro d
    induction d with
    | zero =>
      intro w τ hw hs
      have : w = 8 := by omega
      subst this
      exact bX9_digest_6 u τ _ _ (cs_ (fun _ => key2 2 0 τ (by omega) hs) (fun c => absurd (by decide) c))
    | succ d ih =>
      intro w τ hw hs
      refine bX9_digest_6 u τ _ _ (cs_ (fun c => absurd c (by rw [iI_lt (by omega) (by omega)]; omega)) (fun _ => x_count u τ (hV.sc hs).1 _ ?_))
      rw [iI_succ, q_count_sc hs]
      exact ih (w + 1) τ (by omega) hs
  exact key1 8 0 σ (by omega) hS
