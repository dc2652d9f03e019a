/-! ===== class and reference side by side: every operation ===== -/
def Co_ (b σ : St_) : Prop := ∀ k, gX_ k < 7 → σ k = b k
theorem gX_7 {k : Nat} (h : gX_ k < 7) : k < 3 ∨ k = 8 ∨ (14 ≤ k ∧ k < 23) ∨ 38 ≤ k := by
  unfold gX_ at h
  split at h
  · omega
  · split at h
    · omega
    · split at h
      · omega
      · split at h
        · omega
        · split at h
          · omega
          · split at h
            · omega
            · split at h <;> omega
theorem Co_.rf {a : St_} : Co_ a a := fun _ _ => rfl
theorem Sc_.co {a b : St_} (h : Sc_ a b) : Co_ a b := fun k hk => h k (by have := gX_7 hk; omega)
theorem Tk_.co {a b : St_} (h : Tk_ a b) : Co_ a b := fun k hk => h.1 k (by have := gX_7 hk; omega)
theorem Rm_.co {a b σ : St_} (h : Rm_ a σ) (e : Co_ a b) : Rm_ b σ :=
  h.upd 6 (fun k h1 _ => e k h1) (fun _ _ _ => rfl) (by
    show σ 43 0 = b 38 0
    rw [e 38 (by decide)]; exact h.2.2.2.2.2.2.2.2.2.2.2) (by decide)
def Op_ (yx ym : MI_) (as : List Value) : Prop := ∀ (u u' : Ux_) (a σ : St_), Wf_ a → Rm_ a σ → ∃ (r : Value) (b : St_), MM_ (zx_ u) yx (.ref (uq_ u 0) :: as) a (fun v σ' => v = some r ∧ Wf_ σ' ∧ Co_ b σ') ∧ MM_ (zm_ u') ym (.ref (uq_ u' 0) :: as) σ (fun v σ' => v = some r ∧ Rm_ b σ')
def Oi_ (yx ym : MI_) (as : List Value) : Prop := ∀ (u u' : Ux_) (a σ : St_), Wf_ a → Rm_ a σ → ∃ (r : Int32) (b : St_), MM_ (zx_ u) yx (.ref (uq_ u 0) :: as) a (fun v σ' => v = some (.int r) ∧ Wf_ σ' ∧ Co_ b σ') ∧ MM_ (zm_ u') ym (.ref (uq_ u' 0) :: as) σ (fun v σ' => v = some (.int r) ∧ Rm_ b σ')
def Ol_ (yx ym : MI_) (as : List Value) : Prop := ∀ (u u' : Ux_) (a σ : St_), Wf_ a → Rm_ a σ → ∃ (r : Int64) (b : St_), MM_ (zx_ u) yx (.ref (uq_ u 0) :: as) a (fun v σ' => v = some (.long r) ∧ Wf_ σ' ∧ Co_ b σ') ∧ MM_ (zm_ u') ym (.ref (uq_ u' 0) :: as) σ (fun v σ' => v = some (.long r) ∧ Rm_ b σ')
theorem Oi_.ci {yx ym : MI_} {as : List Value} (h : ∀ a, Wf_ a → ∃ (r : Int32) (b : St_), (∀ (u : Ux_) (P : Int32 → St_ → Prop), (∀ σ', Wf_ σ' → Co_ b σ' → P r σ') → MMi_ (zx_ u) yx (.ref (uq_ u 0) :: as) a P) ∧ ∀ (u : Ux_) (σ : St_) (P : Int32 → St_ → Prop), Rm_ a σ → (∀ σ', Rm_ b σ' → P r σ') → MMi_ (zm_ u) ym (.ref (uq_ u 0) :: as) σ P) : Oi_ yx ym as := by
  intro u u' a σ hW hR
  obtain ⟨r, b, h1, h2⟩ := h a hW
  refine ⟨r, b, MM_.mono (h1 u (fun q σ' => q = r ∧ Wf_ σ' ∧ Co_ b σ') (fun σ' q1 q2 => ⟨rfl, q1, q2⟩)) ?_, MM_.mono (h2 u' σ (fun q σ' => q = r ∧ Rm_ b σ') hR (fun σ' q1 => ⟨rfl, q1⟩)) ?_⟩
  · rintro v σ' ⟨q, rfl, rfl, q1, q2⟩
    exact ⟨rfl, q1, q2⟩
  · rintro v σ' ⟨q, rfl, rfl, q1⟩
    exact ⟨rfl, q1⟩
theorem Oi_.qi {yx ym : MI_} {as : List Value} (h : ∀ a, Wf_ a → ∃ r : Int32, (∀ (u : Ux_) (P : Int32 → St_ → Prop), (∀ σ', Sc_ a σ' → P r σ') → MMi_ (zx_ u) yx (.ref (uq_ u 0) :: as) a P) ∧ ∀ (u : Ux_) (σ : St_) (P : Int32 → St_ → Prop), Rm_ a σ → (∀ σ', Mk_ σ σ' → P r σ') → MMi_ (zm_ u) ym (.ref (uq_ u 0) :: as) σ P) : Oi_ yx ym as :=
  Oi_.ci (fun a hW => by
    obtain ⟨r, h1, h2⟩ := h a hW
    exact ⟨r, a, fun u P H => h1 u P (fun σ' q => H σ' (hW.sc q) q.co), fun u σ P hR H => h2 u σ P hR (fun σ' q => H σ' (hR.mk q))⟩)
theorem Ol_.ql {yx ym : MI_} {as : List Value} (h : ∀ a, Wf_ a → ∃ r : Int64, (∀ (u : Ux_) (P : Int64 → St_ → Prop), (∀ σ', Sc_ a σ' → P r σ') → MMl_ (zx_ u) yx (.ref (uq_ u 0) :: as) a P) ∧ ∀ (u : Ux_) (σ : St_) (P : Int64 → St_ → Prop), Rm_ a σ → (∀ σ', Mk_ σ σ' → P r σ') → MMl_ (zm_ u) ym (.ref (uq_ u 0) :: as) σ P) : Ol_ yx ym as := by
  intro u u' a σ hW hR
  obtain ⟨r, h1, h2⟩ := h a hW
  refine ⟨r, a, MM_.mono (h1 u (fun q σ' => q = r ∧ Wf_ σ' ∧ Co_ a σ') (fun σ' q1 => ⟨rfl, hW.sc q1, q1.co⟩)) ?_, MM_.mono (h2 u' σ (fun q σ' => q = r ∧ Rm_ a σ') hR (fun σ' q1 => ⟨rfl, hR.mk q1⟩)) ?_⟩
  · rintro v σ' ⟨q, rfl, rfl, q1, q2⟩
    exact ⟨rfl, q1, q2⟩
  · rintro v σ' ⟨q, rfl, rfl, q1⟩
    exact ⟨rfl, q1⟩
theorem Wf_.vs {a : St_} (h : Wf_ a) : ∃ ns, Vs_ a ns := by
  obtain ⟨-, -, -, ⟨k, h1, h2, h3⟩, -⟩ := h
  exact ⟨k, h1, h2, h3⟩
theorem sc_rf {a : St_} : Sc_ a a := fun _ _ => rfl
/-! reads -/
theorem op_fault (t : Int32) : Oi_ mX9_fault mX10_fault [.int t] := Oi_.qi (fun a hW => by
  obtain ⟨n, mn, nf, nj, hV⟩ := hW.vx
  exact ⟨_, fun u P H => x_fault u a t (H a sc_rf), fun u σ P hR H => m_fault u a σ hV hW.1 hR t H⟩)
theorem op_member (m w : Int32) : Oi_ mX9_member mX10_member [.int m, .int w] := Oi_.qi (fun a hW => by
  obtain ⟨n, mn, nf, nj, hV⟩ := hW.vx
  exact ⟨_, fun u P H => x_member u a hV.1 m w (H a sc_rf), fun u σ P hR H => m_member u a σ hV hW.1 hR m w H⟩)
theorem op_motion (t w : Int32) : Oi_ mX9_motion mX10_motion [.int t, .int w] := Oi_.qi (fun a hW => by
  obtain ⟨n, mn, nf, nj, hV⟩ := hW.vx
  exact ⟨_, fun u P H => x_motion u a t w (H a sc_rf), fun u σ P hR H => m_motion u a σ hV hW.1 hR t w H⟩)
theorem op_lies (t m w : Int32) : Oi_ mX9_lies mX10_lies [.int t, .int m, .int w] := Oi_.qi (fun a hW => by
  obtain ⟨n, mn, nf, nj, hV⟩ := hW.vx
  exact ⟨_, fun u P H => x_lies u a a hV sc_rf t m w H, fun u σ P hR H => m_lies u a σ hV hW.1 hR t m w H⟩)
theorem op_vote (t w : Int32) : Oi_ mX9_vote mX10_vote [.int t, .int w] := Oi_.qi (fun a hW => by
  obtain ⟨n, mn, nf, nj, hV⟩ := hW.vx
  exact ⟨_, fun u P H => x_vote u a a hV sc_rf t w H, fun u σ P hR H => m_vote u a σ hV hW.1 hR t w H⟩)
theorem op_house (t : Int32) : Oi_ mX9_house mX10_house [.int t] := Oi_.qi (fun a hW => by
  obtain ⟨n, mn, nf, nj, hV⟩ := hW.vx
  exact ⟨_, fun u P H => x_house u a a hV sc_rf t H, fun u σ P hR H => m_house u a σ hV hW.1 hR t H⟩)
theorem op_told : Oi_ mX9_told mX10_told [] := Oi_.qi (fun a hW => by
  obtain ⟨n, mn, nf, nj, hV⟩ := hW.vx
  exact ⟨_, fun u P H => x_told u a a hV sc_rf H, fun u σ P hR H => m_told u a σ hV hW.1 hR H⟩)
theorem op_pleased : Oi_ mX9_pleased mX10_pleased [] := Oi_.qi (fun a hW => by
  obtain ⟨n, mn, nf, nj, hV⟩ := hW.vx
  exact ⟨_, fun u P H => x_pleased u a a hV sc_rf H, fun u σ P hR H => m_pleased u a σ hV hW.1 hR H⟩)
theorem op_lift (t i : Int32) : Oi_ mX9_lift mX10_lift [.int t, .int i] := Oi_.qi (fun a hW => by
  obtain ⟨n, mn, nf, nj, hV⟩ := hW.vx
  exact ⟨_, fun u P H => x_lift u a a hV sc_rf t i H, fun u σ P hR H => m_lift u a σ hV hW.1 hR t i H⟩)
theorem op_agenda (o : Int32) : Oi_ mX9_agenda mX10_agenda [.int o] := Oi_.qi (fun a hW => by
  obtain ⟨n, mn, nf, nj, hV⟩ := hW.vx
  exact ⟨_, fun u P H => x_agenda u a a hV sc_rf o H, fun u σ P hR H => m_agenda u a σ hV hW.1 hR o H⟩)
theorem op_power (m w : Int32) : Ol_ mX9_power mX10_power [.int m, .int w] := Ol_.ql (fun a hW => by
  obtain ⟨n, mn, nf, nj, hV⟩ := hW.vx
  exact ⟨_, fun u P H => x_power u a a hV sc_rf m w H, fun u σ P hR H => m_power u a σ hV hW.1 hR m w H⟩)
theorem op_ring : Oi_ mX9_ring mX10_ring [] := Oi_.qi (fun a hW => by
  obtain ⟨n, mn, nf, nj, hV⟩ := hW.vx
  exact ⟨_, fun u P H => x_ring u a hV.1 (H a sc_rf), fun u σ P hR H => m_ring u a σ hV hW.1 hR H⟩)
theorem op_sham (t m : Int32) : Oi_ mX9_sham mX10_sham [.int t, .int m] := Oi_.qi (fun a hW => by
  obtain ⟨n, mn, nf, nj, hV⟩ := hW.vx
  exact ⟨_, fun u P H => x_sham u a a hV sc_rf t m H, fun u σ P hR H => m_sham u a σ hV hW.1 hR t m H⟩)
theorem op_never : Oi_ mX9_never mX10_never [] := Oi_.qi (fun a hW => by
  obtain ⟨n, mn, nf, nj, hV⟩ := hW.vx
  obtain ⟨ns, hN⟩ := hW.vs
  exact ⟨_, fun u P H => x_never u a a hV hN sc_rf H, fun u σ P hR H => m_never u a σ hV hN hW.1 hR H⟩)
theorem op_would (m : Int32) : Oi_ mX9_would mX10_would [.int m] := Oi_.qi (fun a hW => by
  obtain ⟨n, mn, nf, nj, hV⟩ := hW.vx
  obtain ⟨ns, hN⟩ := hW.vs
  exact ⟨_, fun u P H => x_would u a a hV hN sc_rf m H, fun u σ P hR H => m_would u a σ hV hN hW.1 hR m H⟩)
theorem op_ask (m : Int32) : Oi_ mX9_ask mX10_ask [.int m] := Oi_.qi (fun a hW => by
  obtain ⟨n, mn, nf, nj, hV⟩ := hW.vx
  obtain ⟨ns, hN⟩ := hW.vs
  exact ⟨_, fun u P H => x_ask u a a hV hN sc_rf m H, fun u σ P hR H => m_ask u a σ hV hN hW.1 hR m H⟩)
theorem op_ajar (c l o t w : Int32) : Ol_ mX9_ajar mX10_ajar [.int c, .int l, .int o, .int t, .int w] := Ol_.ql (fun a hW => by
  obtain ⟨n, mn, nf, nj, hV⟩ := hW.vx
  exact ⟨_, fun u P H => x_ajar u a a hV sc_rf c l o t w H, fun u σ P hR H => m_ajar u a σ hV hW.1 hR c l o t w H⟩)
theorem op_evenings (s w : Int32) : Oi_ mX9_evenings mX10_evenings [.int s, .int w] := Oi_.qi (fun a hW => by
  obtain ⟨n, mn, nf, nj, hV⟩ := hW.vx
  exact ⟨_, fun u P H => x_evenings u a a hV sc_rf s w H, fun u σ P hR H => m_evenings u a σ hV hW.1 hR s w H⟩)
theorem op_count (w : Int32) : Oi_ mX9_count mX10_count [.int w] := Oi_.qi (fun a hW => by
  obtain ⟨n, mn, nf, nj, hV⟩ := hW.vx
  exact ⟨_, fun u P H => x_count u a hV.1 w (H a sc_rf), fun u σ P hR H => m_count u a σ hV hW.1 hR w H⟩)
theorem op_digest : Ol_ mX9_digest mX10_digest [] := Ol_.ql (fun a hW => by
  obtain ⟨n, mn, nf, nj, hV⟩ := hW.vx
  obtain ⟨ns, hN⟩ := hW.vs
  exact ⟨_, fun u P H => x_digest u a a hV hN sc_rf H, fun u σ P hR H => m_digest u a σ hV hN hW.1 hR H⟩)
/-! changes: what they keep to -/
theorem wf_tk {a b σ : St_} (hW : Wf_ a) (e : ∀ k, k = 8 ∨ 14 ≤ k → b k = a k) (h : Tk_ b σ) : Wf_ σ := by
  have e2 : ∀ k, k = 8 ∨ 14 ≤ k → σ k = a k := fun k hk => by rw [h.1 k (by omega), e k hk]
  exact ⟨h.2, hW.2.1.of (fun k hk => e2 k (by omega)), hW.2.2.1.of (fun k hk => e2 k (by omega)), hW.2.2.2.1.of (fun k hk => e2 k (by omega)), hW.2.2.2.2.1.of (e2 8 (by omega)), hW.2.2.2.2.2.of (fun k hk => e2 k (by omega))⟩
theorem op_type (t b : Int32) : Oi_ mX9_type mX10_type [.int t, .int b] := Oi_.ci (fun a hW => ⟨_, (c_type a t b).2, fun u P H => x_type u a t b hW.1 (fun σ' q => H σ' (wf_tk hW (fun k hk => by
    unfold c_type
    split
    · rename_i h
      obtain ⟨x, hx, ex⟩ := inr_nat h.1 (by decide)
      split
      · show tadd_ a t.toNatClampNeg b k = a k
        rw [ex, iI_ix (by omega), tadd_, su_i _ _ _ (by omega), su_i _ _ _ (by omega)]
      · rfl
    · rfl) q) q.co), fun u σ P hR H => m_type u a σ hR hW.1 t b H⟩)
theorem op_wipe (t : Int32) : Oi_ mX9_wipe mX10_wipe [.int t] := Oi_.ci (fun a hW => ⟨_, (c_wipe a t).2, fun u P H => x_wipe u a t hW.1 (fun σ' q => H σ' (wf_tk hW (fun k hk => by
    unfold c_wipe
    split
    · exact su_i _ _ _ (by omega)
    · rfl) q) q.co), fun u σ P hR H => m_wipe u a σ hR hW.1 t H⟩)
theorem op_undo (t : Int32) : Oi_ mX9_undo mX10_undo [.int t] := Oi_.ci (fun a hW => ⟨_, (c_undo a t).2, fun u P H => x_undo u a t hW.1 (fun σ' q => H σ' (wf_tk hW (fun k hk => by
    unfold c_undo
    split
    · split
      · rfl
      · exact su_i _ _ _ (by omega)
    · rfl) q) q.co), fun u σ P hR H => m_undo u a σ hR hW.1 t H⟩)
theorem op_weight (s v : Int32) : Oi_ mX9_weight mX10_weight [.int s, .int v] := Oi_.ci (fun a hW => ⟨_, (c_weight a s v).2, fun u P H => x_weight u a s v (H _ (by
    unfold c_weight
    split
    · rename_i h
      have hv := inr_t.mp h.2
      rw [t_10] at hv
      refine ⟨hW.1.of (fun k hk => su_i _ _ _ (by omega)), hW.2.1.of (fun k hk => su_i _ _ _ (by omega)), hW.2.2.1.of (fun k hk => su_i _ _ _ (by omega)), hW.2.2.2.1.of (fun k hk => su_i _ _ _ (by omega)), fun i hi => ?_, hW.2.2.2.2.2.of (fun k hk => su_i _ _ _ (by omega))⟩
      show 0 ≤ (su_ a 8 s.toNatClampNeg v 8 i).toInt ∧ (su_ a 8 s.toNatClampNeg v 8 i).toInt ≤ 9
      rw [su_at]
      split
      · omega
      · exact hW.2.2.2.2.1 i hi
    · exact hW) Co_.rf), fun u σ P hR H => m_weight u a σ hR s v H⟩)
theorem addF_o (a : St_) (n m s : Int32) {k : Nat} (h : k < 14 ∨ 18 ≤ k) : addF_ a n m s k = a k := by
  rw [addF_, su_i _ _ _ (by omega), su_i _ _ _ (by omega), su_i _ _ _ (by omega), su_i _ _ _ (by omega)]
theorem addF_wf {a : St_} (hW : Wf_ a) {n m s : Int32} (h : isF_ n m s = true) (h2 : (a 14 0).toInt < 8) : Wf_ (addF_ a n m s) :=
  ⟨hW.1.of (fun k hk => addF_o a n m s (by omega)), addF_wl hW.2.1 h h2, hW.2.2.1.of (fun k hk => addF_o a n m s (by omega)), hW.2.2.2.1.of (fun k hk => addF_o a n m s (by omega)), hW.2.2.2.2.1.of (addF_o a n m s (by omega)), hW.2.2.2.2.2.of (fun k hk => addF_o a n m s (by omega))⟩
theorem op_fold (n m s : Int32) : Oi_ mX9_fold mX10_fold [.int n, .int m, .int s] := Oi_.ci (fun a hW => ⟨_, (c_fold a n m s).2, fun u P H => x_fold u a n m s hW.2.1 (H _ (by
    unfold c_fold
    split
    · rename_i h
      split
      · rename_i h2
        exact addF_wf hW h h2
      · exact hW
    · exact hW) Co_.rf), fun u σ P hR H => m_fold u a σ hR hW.2.1 n m s (fun σ' q _ => H σ' q)⟩)
theorem op_jar (n : Int32) : Oi_ mX9_jar mX10_jar [.int n] := Oi_.ci (fun a hW => ⟨_, (c_jar a n).2, fun u P H => x_jar u a n hW.2.2.1 (H _ (by
    unfold c_jar
    split
    · rename_i h
      split
      · rename_i h2
        have o : ∀ k, k < 18 ∨ 20 ≤ k → su_ (su_ a 18 0 (a 18 0 + iI_ 1)) 19 (a 18 0).toNatClampNeg n k = a k := fun k hk => by rw [su_i _ _ _ (by omega), su_i _ _ _ (by omega)]
        refine ⟨hW.1.of (fun k hk => o k (by omega)), hW.2.1.of (fun k hk => o k (by omega)), ?_, hW.2.2.2.1.of (fun k hk => o k (by omega)), hW.2.2.2.2.1.of (o 8 (by omega)), hW.2.2.2.2.2.of (fun k hk => o k (by omega))⟩
        obtain ⟨k, hk, ek, hA⟩ := hW.2.2.1
        rw [ek, iI_toInt (by omega)] at h2
        refine ⟨k + 1, by omega, ?_, fun i hi => ?_⟩
        · show su_ (su_ a 18 0 (a 18 0 + iI_ 1)) 19 (a 18 0).toNatClampNeg n 18 0 = _
          rw [su_i _ _ _ (by decide), su_same, ek, iI_succ]
        · show inr_ (su_ (su_ a 18 0 (a 18 0 + iI_ 1)) 19 (a 18 0).toNatClampNeg n 19 i) _ = true
          rw [ek, iI_ix (by omega), su_at]
          split
          · exact h
          · rw [su_i _ _ _ (by decide)]; exact hA i (by omega)
      · exact hW
    · exact hW) Co_.rf), fun u σ P hR H => m_jar u a σ hR hW.2.2.1 n H⟩)
theorem op_back (w : Int32) : Oi_ mX9_back mX10_back [.int w] := Oi_.ci (fun a hW => ⟨_, (c_back a w).2, fun u P H => x_back u a w hW.2.1 hW.2.2.1 (H _ (by
    unfold c_back
    split
    · split
      · split
        · rename_i h2
          have o : ∀ k, k ≠ 14 → su_ a 14 0 (a 14 0 - iI_ 1) k = a k := fun k hk => su_i _ _ _ hk
          refine ⟨hW.1.of (fun k hk => o k (by omega)), ?_, hW.2.2.1.of (fun k hk => o k (by omega)), hW.2.2.2.1.of (fun k hk => o k (by omega)), hW.2.2.2.2.1.of (o 8 (by omega)), hW.2.2.2.2.2.of (fun k hk => o k (by omega))⟩
          obtain ⟨k, hk, ek, hA⟩ := hW.2.1
          rw [ek, iI_toInt (by omega)] at h2
          refine ⟨k - 1, by omega, ?_, fun i hi => ?_⟩
          · show su_ a 14 0 (a 14 0 - iI_ 1) 14 0 = _
            rw [su_same, ek, iI_sub]; congr 1; omega
          · show isF_ (su_ a 14 0 (a 14 0 - iI_ 1) 15 i) (su_ a 14 0 (a 14 0 - iI_ 1) 16 i) (su_ a 14 0 (a 14 0 - iI_ 1) 17 i) = true
            rw [o 15 (by decide), o 16 (by decide), o 17 (by decide)]; exact hA i (by omega)
        · exact hW
      · split
        · rename_i h2
          have o : ∀ k, k ≠ 18 → su_ a 18 0 (a 18 0 - iI_ 1) k = a k := fun k hk => su_i _ _ _ hk
          refine ⟨hW.1.of (fun k hk => o k (by omega)), hW.2.1.of (fun k hk => o k (by omega)), ?_, hW.2.2.2.1.of (fun k hk => o k (by omega)), hW.2.2.2.2.1.of (o 8 (by omega)), hW.2.2.2.2.2.of (fun k hk => o k (by omega))⟩
          obtain ⟨k, hk, ek, hA⟩ := hW.2.2.1
          rw [ek, iI_toInt (by omega)] at h2
          refine ⟨k - 1, by omega, ?_, fun i hi => ?_⟩
          · show su_ a 18 0 (a 18 0 - iI_ 1) 18 0 = _
            rw [su_same, ek, iI_sub]; congr 1; omega
          · show inr_ (su_ a 18 0 (a 18 0 - iI_ 1) 19 i) _ = true
            rw [o 19 (by decide)]; exact hA i (by omega)
        · exact hW
    · exact hW) Co_.rf), fun u σ P hR H => m_back u a σ hR hW.2.1 hW.2.2.1 w H⟩)
theorem op_seen (n o : Int32) : Oi_ mX9_seen mX10_seen [.int n, .int o] := Oi_.ci (fun a hW => ⟨_, (c_seen a n o).2, fun u P H => x_seen u a n o hW.2.2.2.1 (H _ (by
    unfold c_seen
    split
    · rename_i h
      split
      · rename_i h2
        generalize hv : (if o = iI_ 3 then iI_ (-1) else o) = v
        have hb : -1 ≤ v.toInt ∧ v.toInt ≤ 2 := by
          have := inr_t.mp h.2
          rw [t_4] at this
          rw [← hv]
          split
          · decide
          · rename_i q
            have : ¬ o.toInt = 3 := fun e => q (Int32.toInt_inj.mp (by rw [e, t_3]))
            omega
        have o : ∀ k, k < 20 ∨ 23 ≤ k → su_ (su_ (su_ a 21 (a 20 0).toNatClampNeg n) 22 (a 20 0).toNatClampNeg v) 20 0 (a 20 0 + iI_ 1) k = a k := fun k hk => by rw [su_i _ _ _ (by omega), su_i _ _ _ (by omega), su_i _ _ _ (by omega)]
        refine ⟨hW.1.of (fun k hk => o k (by omega)), hW.2.1.of (fun k hk => o k (by omega)), hW.2.2.1.of (fun k hk => o k (by omega)), ?_, hW.2.2.2.2.1.of (o 8 (by omega)), hW.2.2.2.2.2.of (fun k hk => o k (by omega))⟩
        obtain ⟨k, hk, ek, hA⟩ := hW.2.2.2.1
        rw [ek, iI_toInt (by omega)] at h2
        refine ⟨k + 1, by omega, ?_, fun i hi => ?_⟩
        · show su_ (su_ (su_ a 21 (a 20 0).toNatClampNeg n) 22 (a 20 0).toNatClampNeg v) 20 0 (a 20 0 + iI_ 1) 20 0 = _
          rw [su_same, ek, iI_succ]
        · show inr_ (su_ (su_ (su_ a 21 (a 20 0).toNatClampNeg n) 22 (a 20 0).toNatClampNeg v) 20 0 (a 20 0 + iI_ 1) 21 i) _ = true ∧ -1 ≤ (su_ (su_ (su_ a 21 (a 20 0).toNatClampNeg n) 22 (a 20 0).toNatClampNeg v) 20 0 (a 20 0 + iI_ 1) 22 i).toInt ∧ (su_ (su_ (su_ a 21 (a 20 0).toNatClampNeg n) 22 (a 20 0).toNatClampNeg v) 20 0 (a 20 0 + iI_ 1) 22 i).toInt ≤ 2
          rw [ek, iI_ix (by omega), su_i (k := 21) _ _ _ (by decide), su_i (k := 21) _ _ _ (by decide), su_i (k := 22) _ _ _ (by decide), su_at, su_at, su_i (k := 22) _ _ _ (by decide)]
          by_cases q : i = k
          · rw [if_pos ⟨rfl, q⟩, if_pos ⟨rfl, q⟩]; exact ⟨h.1, hb⟩
          · rw [if_neg (fun z => q z.2), if_neg (fun z => q z.2)]; exact hA i (by omega)
      · exact hW
    · exact hW) Co_.rf), fun u σ P hR H => m_seen u a σ hR hW.2.2.2.1 n o H⟩)
theorem op_forget : Oi_ mX9_forget mX10_forget [] := Oi_.ci (fun a hW => ⟨_, su_ a 20 0 (iI_ 0), fun u P H => x_forget u a (H _ (by
    have o : ∀ k, k ≠ 20 → su_ a 20 0 (iI_ 0) k = a k := fun k hk => su_i _ _ _ hk
    refine ⟨hW.1.of (fun k hk => o k (by omega)), hW.2.1.of (fun k hk => o k (by omega)), hW.2.2.1.of (fun k hk => o k (by omega)), ⟨0, by omega, by rw [su_same]; rfl, fun i hi => by omega⟩, hW.2.2.2.2.1.of (o 8 (by omega)), hW.2.2.2.2.2.of (fun k hk => o k (by omega))⟩) Co_.rf), fun u σ P hR H => m_forget u a σ hR H⟩)
/-! sheets -/
theorem wf_fd {a : St_} (hW : Wf_ a) (x : Int32) : Wf_ (fd_ a x).2 := by
  have o : ∀ k, k ≠ 38 → (fd_ a x).2 k = a k := fun k hk => su_i _ _ _ hk
  exact ⟨hW.1.of (fun k hk => o k (by omega)), hW.2.1.of (fun k hk => o k (by omega)), hW.2.2.1.of (fun k hk => o k (by omega)), hW.2.2.2.1.of (fun k hk => o k (by omega)), hW.2.2.2.2.1.of (o 8 (by omega)), hW.2.2.2.2.2.of (fun k hk => o k (by omega))⟩
/-- what changes sheets alone -/
theorem wf_sh {a b : St_} (hW : Wf_ a) (o : ∀ k, k < 39 → b k = a k) (h : Ws_ b) : Wf_ b :=
  ⟨hW.1.of (fun k hk => o k (by omega)), hW.2.1.of (fun k hk => o k (by omega)), hW.2.2.1.of (fun k hk => o k (by omega)), hW.2.2.2.1.of (fun k hk => o k (by omega)), hW.2.2.2.2.1.of (o 8 (by omega)), h⟩
theorem rd_wf (s : Nat) : ∀ (d k : Nat) (a : St_), Wf_ a → Wf_ (rd_ s d k a).2 := by
  intro d
  induction d with
  | zero => intro k a h; exact h
  | succ d ih =>
    intro k a h
    unfold rd_
    split
    · rename_i c
      exact ih (k + 1) _ (addF_wf h c.2.1 c.2.2)
    · exact h
theorem op_read (s : Int32) : Oi_ mX9_read mX10_read [.int s] := Oi_.ci (fun a hW => ⟨_, (c_read a s).2, fun u P H => x_read u a s hW.2.1 hW.2.2.2.2.2 (H _ (by
    unfold c_read
    split
    · split
      · exact wf_fd hW _
      · exact rd_wf _ _ _ _ hW
    · exact hW) Co_.rf), fun u σ P hR H => m_read u a σ hW.2.1 hW.2.2.2.2.2 hR s H⟩)
theorem rn_wf {a : St_} (hW : Wf_ a) {t : Nat} {f n : Int32} (hf : -1 ≤ f.toInt ∧ f.toInt ≤ 2) (hn : 0 ≤ n.toInt ∧ n.toInt ≤ 60) : Wf_ (rn_ a t f n) := by
  refine wf_sh hW (fun k hk => ?_) (fun s hs => ?_)
  · unfold rn_
    rw [sf_i _ _ (by omega), su_i _ _ _ (by omega), su_i _ _ _ (by omega)]
  · rw [rn_39 a t s f n hs, rn_40 a t s f n hs]
    by_cases q : s = t
    · rw [if_pos q, if_pos q]; exact ⟨hf, hn⟩
    · rw [if_neg q, if_neg q]; exact hW.2.2.2.2.2 s hs
theorem op_sheet (s f n : Int32) : Oi_ mX9_sheet mX10_sheet [.int s, .int f, .int n] := Oi_.ci (fun a hW => ⟨_, (c_sheet a s f n).2, fun u P H => x_sheet u a s f n (H _ (by
    unfold c_sheet
    split
    · rename_i h
      have hf := inr_t.mp h.2.1
      rw [t_3] at hf
      split
      · rename_i h0
        exact rn_wf hW (by omega) (by omega)
      · exact wf_fd hW _
    · exact hW) Co_.rf), fun u σ P hR H => m_sheet u a σ hR s f n H⟩)
theorem op_lose (s : Int32) : Oi_ mX9_lose mX10_lose [.int s] := Oi_.ci (fun a hW => ⟨_, (c_lose a s).2, fun u P H => x_lose u a s (H _ (by
    unfold c_lose
    split
    · split
      · exact wf_fd hW _
      · exact rn_wf hW (by decide) (by decide)
    · exact hW) Co_.rf), fun u σ P hR H => m_lose u a σ hR s H⟩)
theorem ref_wf {a : St_} (hW : Wf_ a) (s f i : Int32) : Wf_ (ref_ a s f i).2 := by
  unfold ref_
  split
  · split
    · exact wf_fd hW _
    · split
      · split
        · exact hW
        · exact wf_fd hW _
      · exact wf_fd hW _
  · exact hW
theorem wf_item {a : St_} (hW : Wf_ a) (s i : Nat) (v : Int32) : Wf_ (su_ a (41 + s) i v) :=
  wf_sh hW (fun k hk => su_i _ _ _ (by omega)) (hW.2.2.2.2.2.of (fun k hk => su_i _ _ _ (by omega)))
theorem op_put (s f i v : Int32) : Oi_ mX9_put mX10_put [.int s, .int f, .int i, .int v] := Oi_.ci (fun a hW => ⟨_, (c_put a s f i v).2, fun u P H => x_put u a s f i v hW.2.2.2.2.2 (H _ (by
    unfold c_put
    split
    · exact wf_item hW _ _ _
    · exact ref_wf hW s f i) Co_.rf), fun u σ P hR H => m_put u a σ hW.2.2.2.2.2 hR s f i v H⟩)
theorem op_get (s f i : Int32) : Oi_ mX9_get mX10_get [.int s, .int f, .int i] := Oi_.ci (fun a hW => ⟨_, (c_get a s f i).2, fun u P H => x_get u a s f i hW.2.2.2.2.2 (H _ (by
    unfold c_get
    split
    · exact hW
    · exact ref_wf hW s f i) Co_.rf), fun u σ P hR H => m_get u a σ hW.2.2.2.2.2 hR s f i H⟩)
theorem op_copy (s i t j n : Int32) : Oi_ mX9_copy mX10_copy [.int s, .int i, .int t, .int j, .int n] := Oi_.ci (fun a hW => ⟨_, (c_copy a s i t j n).2, fun u P H => x_copy u a s i t j n hW.2.2.2.2.2 (H _ (by
    unfold c_copy
    split
    · split
      · exact wf_fd hW _
      · split
        · split
          · exact wf_sh hW (fun k hk => sf_i _ _ (by omega)) (hW.2.2.2.2.2.of (fun k hk => sf_i _ _ (by omega)))
          · exact wf_fd hW _
        · exact wf_fd hW _
    · exact hW) Co_.rf), fun u σ P hR H => m_copy u a σ hW.2.2.2.2.2 hR s i t j n H⟩)
theorem op_write (s : Int32) : Oi_ mX9_write mX10_write [.int s] := Oi_.ci (fun a hW => by
  obtain ⟨n, mn, nf, nj, hV⟩ := hW.vx
  have hw : Wf_ (c_write a n mn nf nj s).2 := by
    unfold c_write
    split
    · split
      · exact wf_fd hW _
      · exact wf_sh hW (fun k hk => wrt_i a n mn nf nj _ _ (by omega)) (hW.2.2.2.2.2.of (fun k hk => wrt_i a n mn nf nj _ _ (by omega)))
    · exact hW
  exact ⟨_, (c_write a n mn nf nj s).2, fun u P H => x_write u a hV hW.2.2.2.2.2 s (fun σ' q => H σ' (hw.sc q) q.co), fun u σ P hR H => m_write u a σ hV hW.1 hW.2.2.2.2.2 hR s H⟩)
