theorem z40 : (40 : Int32).toNatClampNeg = 40 := by decide
theorem zz0 : (0 : Int32).toNatClampNeg = 0 := by decide
theorem cpy40 (f g : Nat → Int32) {k : Nat} (hk : k < 40) : va_cpy f g (0 : Int32).toNatClampNeg (0 : Int32).toNatClampNeg (40 : Int32).toNatClampNeg k = f k := by
  rw [zz0, z40, pk_cpy_in (by omega) (by omega)]
  congr 1
  omega
/-- HOUSE: all cells 0 -/
theorem w_hclr (σ0 : St) (K : St → Prop) (hK : ∀ ρ : St, (∀ j, j ≠ 0 → ρ.1 j = σ0.1 j) → ρ.1 0 = 0 → (∀ j, j ≠ 0 → ρ.2.1 j = σ0.2.1 j) → (∀ k, k < 40 → ρ.2.1 0 k = 0) → K ρ) :
    ∀ d k, k + d = 40 → ∀ n, d < n → ∀ ρ : St, ρ.1 = σ0.1 → (∀ j, j ≠ 0 → ρ.2.1 j = σ0.2.1 j) → (∀ i, i < k → ρ.2.1 0 i = 0) → wl_X4_clear_1_2 K n (nI k) ρ := by
  intro d
  induction d with
  | zero =>
    intro k hk n hn ρ f1 f2 f3
    obtain ⟨n, rfl⟩ : ∃ z, n = z + 1 := ⟨n - 1, by omega⟩
    have hk : k = 40 := by omega
    subst hk
    refine ⟨fun _ => ?_, fun c => absurd (by decide) c⟩
    intro ρ1 e; subst e
    refine hK _ (fun j hj => ?_) rfl f2 f3
    rw [sI_1, if_neg hj, f1]
  | succ d ih =>
    intro k hk n hn ρ f1 f2 f3
    obtain ⟨n, rfl⟩ : ∃ z, n = z + 1 := ⟨n - 1, by omega⟩
    refine ⟨fun c => absurd c ?_, fun _ => ⟨vp_in_nI (by omega) (by omega), ?_⟩⟩
    · rw [show (40 : Int32) = nI 40 from rfl, nI_leI (by omega) (by omega)]; omega
    intro ρ1 e; subst e
    intro x e
    rw [nI_1] at e
    subst e
    refine ih (k + 1) (by omega) n (by omega) _ f1 (fun j hj => ?_) (fun i hi => ?_)
    · rw [sA_2, if_neg hj, f2 j hj]
    · show upd (ρ.2.1 0) (nI k).toNatClampNeg 0 i = 0
      rw [nI_clamp (by omega)]
      by_cases h : i = k
      · rw [h, upd_same]
      · rw [upd_ne h, f3 i (by omega)]
theorem w_gclr (σ0 : St) (K : St → Prop) (hK : ∀ ρ : St, (∀ j, j ≠ 3 → j ≠ 4 → ρ.1 j = σ0.1 j) → ρ.1 3 = 0 → ρ.1 4 = 0 → (∀ j, j ≠ 5 → ρ.2.1 j = σ0.2.1 j) → (∀ k, k < 32 → ρ.2.1 5 k = -1) → K ρ) :
    ∀ d k, k + d = 32 → ∀ n, d < n → ∀ ρ : St, ρ.1 = σ0.1 → (∀ j, j ≠ 5 → ρ.2.1 j = σ0.2.1 j) → (∀ i, i < k → ρ.2.1 5 i = -1) → wl_X3_clear_7_2 K n (nI k) ρ := by
  intro d
  induction d with
  | zero =>
    intro k hk n hn ρ f1 f2 f3
    obtain ⟨n, rfl⟩ : ∃ z, n = z + 1 := ⟨n - 1, by omega⟩
    have hk : k = 32 := by omega
    subst hk
    refine ⟨fun _ => ?_, fun c => absurd (by decide) c⟩
    intro ρ1 e; subst e
    intro ρ1 e; subst e
    refine hK _ (fun j hj hj2 => ?_) rfl rfl f2 f3
    rw [sI_1, if_neg hj2, sI_1, if_neg hj, f1]
  | succ d ih =>
    intro k hk n hn ρ f1 f2 f3
    obtain ⟨n, rfl⟩ : ∃ z, n = z + 1 := ⟨n - 1, by omega⟩
    refine ⟨fun c => absurd c ?_, fun _ => ⟨vp_in_nI (by omega) (by omega), ?_⟩⟩
    · rw [show (32 : Int32) = nI 32 from rfl, nI_leI (by omega) (by omega)]; omega
    intro ρ1 e; subst e
    intro x e
    rw [nI_1] at e
    subst e
    refine ih (k + 1) (by omega) n (by omega) _ f1 (fun j hj => ?_) (fun i hi => ?_)
    · rw [sA_2, if_neg hj, f2 j hj]
    · show upd (ρ.2.1 5) (nI k).toNatClampNeg (-1) i = -1
      rw [nI_clamp (by omega)]
      by_cases h : i = k
      · rw [h, upd_same]
      · rw [upd_ne h, f3 i (by omega)]
/-- what a class's state is at first -/
def BegC (σ : St) : Prop := (∀ k, k < 40 → σ.2.1 0 k = 0) ∧ (∀ k, k < 32 → σ.2.1 5 k = -1) ∧ σ.1 0 = 0 ∧ σ.1 3 = 0 ∧ σ.1 4 = 0 ∧ σ.1 5 = 0 ∧ σ.1 6 = 0 ∧ σ.1 7 = 0 ∧ σ.1 8 = 0 ∧ σ.1 9 = 0 ∧ σ.1 10 = 0 ∧ σ.1 11 = 0 ∧ σ.1 12 = 1 ∧ σ.1 13 = 0 ∧ σ.1 14 = 0 ∧ σ.2.2 = 0
theorem w_begC (σ : St) (K : St → Prop) (hK : ∀ ρ : St, BegC ρ → K ρ) : wp_X7_begin σ K := by
  unfold wp_X7_begin wp_X4_clear_1
  refine ⟨41, w_hclr σ _ ?_ 40 0 (by omega) 41 (by omega) σ rfl (fun _ _ => rfl) (fun i hi => absurd hi (by omega))⟩
  intro ρ f1 f2 f3 f4
  unfold wp_X3_clear_7
  refine ⟨33, w_gclr ρ _ ?_ 32 0 (by omega) 33 (by omega) ρ rfl (fun _ _ => rfl) (fun i hi => absurd hi (by omega))⟩
  intro ρ2 g1 g2 g3 g4 g5
  unfold wp_X2_clear_11 wp_X5_clear_15 wp_X1_clear_19
  intro s1 e; subst e
  intro s1 e; subst e
  intro s1 e; subst e
  intro s1 e; subst e
  intro s1 e; subst e
  intro s1 e; subst e
  intro s1 e; subst e
  intro s1 e; subst e
  intro s1 e; subst e
  intro s1 e; subst e
  intro s1 e; subst e
  refine hK _ ⟨fun k hk => ?_, g5, ?_, g2, g3, rfl, rfl, rfl, rfl, rfl, rfl, rfl, rfl, rfl, rfl, rfl⟩
  · show ρ2.2.1 0 k = 0
    rw [g4 0 (by decide), f4 k hk]
  · show ρ2.1 0 = 0
    rw [g1 0 (by decide) (by decide), f2]
/-- the reference's -/
def BegM (τ : St) : Prop := (∀ k, k < 40 → τ.2.1 0 k = 0 ∧ τ.2.1 1 k = 0 ∧ τ.2.1 2 k = 0) ∧ (∀ k, k < 32 → τ.2.1 3 k = 0 ∧ τ.2.1 4 k = -1) ∧ τ.1 0 = 0 ∧ τ.1 1 = 1 ∧ τ.1 2 = 0 ∧ τ.1 3 = 0 ∧ τ.1 4 = 0 ∧ τ.1 5 = 0 ∧ τ.1 6 = 0 ∧ τ.2.2 = 0 ∧ τ.2.1 19 0 = 0 ∧ τ.2.1 19 1 = 0
theorem w_begM2 (v1 : Int32) (K : Int32 → St → Prop) (hK : ∀ ρ : St, BegM ρ → K v1 ρ) :
    ∀ d k, k + d = 32 → ∀ n, d < n → ∀ ρ : St, (∀ i, i < 40 → ρ.2.1 0 i = 0 ∧ ρ.2.1 1 i = 0 ∧ ρ.2.1 2 i = 0) → (∀ i, i < k → ρ.2.1 3 i = 0 ∧ ρ.2.1 4 i = -1) → wl_X8_start_42 K n v1 (nI k) ρ := by
  intro d
  induction d with
  | zero =>
    intro k hk n hn ρ f2 f3
    obtain ⟨n, rfl⟩ : ∃ z, n = z + 1 := ⟨n - 1, by omega⟩
    have hk : k = 32 := by omega
    subst hk
    refine ⟨fun _ => ?_, fun c => absurd (by decide) c⟩
    intro s1 e; subst e
    intro s1 e; subst e
    intro s1 e; subst e
    intro s1 e; subst e
    intro s1 e; subst e
    intro s1 e; subst e
    intro s1 e; subst e
    intro s1 e; subst e
    refine ⟨vp_0 (by omega), ?_⟩
    intro s1 e
    rw [nar0, zz0] at e
    subst e
    refine ⟨by rw [show (1 : Int32) = nI 1 from rfl]; exact vp_in_nI (by omega) (by omega), ?_⟩
    intro s1 e
    rw [nar0, show (1 : Int32).toNatClampNeg = 1 by decide] at e
    subst e
    refine hK _ ⟨f2, f3, rfl, rfl, rfl, rfl, rfl, rfl, rfl, rfl, ?_, ?_⟩
    · show upd (upd (ρ.2.1 19) 0 0) 1 0 0 = 0
      rw [upd_ne (by decide), upd_same]
    · show upd (upd (ρ.2.1 19) 0 0) 1 0 1 = 0
      rw [upd_same]
  | succ d ih =>
    intro k hk n hn ρ f2 f3
    obtain ⟨n, rfl⟩ : ∃ z, n = z + 1 := ⟨n - 1, by omega⟩
    have vk : vp_in (nI k) 32 := vp_in_nI (by omega) (by omega)
    refine ⟨fun c => absurd c ?_, fun _ => ⟨vk, ?_⟩⟩
    · rw [show (32 : Int32) = nI 32 from rfl, nI_leI (by omega) (by omega)]; omega
    rw [nar0, nI_clamp (by omega)]
    intro s1 e; subst e
    refine ⟨vk, ?_⟩
    intro s1 e; subst e
    intro x e
    rw [nI_1] at e
    subst e
    refine ih (k + 1) (by omega) n (by omega) _ f2 (fun i hi => ?_)
    show upd (ρ.2.1 3) k 0 i = 0 ∧ upd (ρ.2.1 4) k (-1) i = -1
    by_cases h : i = k
    · rw [h, upd_same, upd_same]; exact ⟨rfl, rfl⟩
    · rw [upd_ne h, upd_ne h]; exact f3 i (by omega)
theorem w_begM1 (v1 : Int32) (K : Int32 → St → Prop) (hK : ∀ ρ : St, BegM ρ → K v1 ρ) :
    ∀ d k, k + d = 40 → ∀ n, d < n → ∀ ρ : St, (∀ i, i < k → ρ.2.1 0 i = 0 ∧ ρ.2.1 1 i = 0 ∧ ρ.2.1 2 i = 0) → wl_X8_start_7 K n v1 (nI k) ρ := by
  intro d
  induction d with
  | zero =>
    intro k hk n hn ρ f2
    obtain ⟨n, rfl⟩ : ∃ z, n = z + 1 := ⟨n - 1, by omega⟩
    have hk : k = 40 := by omega
    subst hk
    refine ⟨fun _ => ?_, fun c => absurd (by decide) c⟩
    exact ⟨33, w_begM2 v1 K hK 32 0 (by omega) 33 (by omega) ρ f2 (fun i hi => absurd hi (by omega))⟩
  | succ d ih =>
    intro k hk n hn ρ f2
    obtain ⟨n, rfl⟩ : ∃ z, n = z + 1 := ⟨n - 1, by omega⟩
    have vk : vp_in (nI k) 40 := vp_in_nI (by omega) (by omega)
    refine ⟨fun c => absurd c ?_, fun _ => ⟨vk, ?_⟩⟩
    · rw [show (40 : Int32) = nI 40 from rfl, nI_leI (by omega) (by omega)]; omega
    rw [nI_clamp (by omega)]
    intro s1 e; subst e
    refine ⟨vk, ?_⟩
    intro s1 e; subst e
    refine ⟨vk, ?_⟩
    intro s1 e; subst e
    intro x e
    rw [nI_1] at e
    subst e
    refine ih (k + 1) (by omega) n (by omega) _ (fun i hi => ?_)
    show upd (ρ.2.1 0) k 0 i = 0 ∧ upd (ρ.2.1 1) k 0 i = 0 ∧ upd (ρ.2.1 2) k 0 i = 0
    by_cases h : i = k
    · rw [h, upd_same, upd_same, upd_same]; exact ⟨rfl, rfl, rfl⟩
    · rw [upd_ne h, upd_ne h, upd_ne h]; exact f2 i (by omega)
theorem w_begM (τ : St) (K : Int32 → St → Prop) (hK : ∀ ρ : St, BegM ρ → K (τ.1 2) ρ) : wp_X8_start τ K := by
  unfold wp_X8_start
  intro x e; subst e
  exact ⟨41, w_begM1 _ K hK 40 0 (by omega) 41 (by omega) τ (fun i hi => absurd hi (by omega))⟩
theorem R_beg {σ τ : St} (hC : BegC σ) (hM : BegM τ) : RelM 0 σ τ := by
  obtain ⟨a1, a2, i0, i3, i4, i5, i6, i7, i8, i9, i10, i11, i12, i13, i14, im⟩ := hC
  obtain ⟨b1, b2, j0, j1, j2, j3, j4, j5, j6, jm, k0, k1⟩ := hM
  refine ⟨?_, ?_, ?_, ?_, ?_, ?_, ?_, ?_, ?_, ?_, ?_, ?_⟩
  · intro k hk
    obtain ⟨q1, q2, q3⟩ := b1 k hk
    rw [a1 k hk, q1, q2, q3]
    exact ⟨by decide, isB_0, isB_0, isF_0, fun _ => rfl⟩
  · intro o ho
    rw [i0, b_0]
    exact ⟨(b2 o ho).1, fun z => absurd z (by decide)⟩
  · refine ⟨0, by omega, i3, j0, fun k hk => absurd hk (by omega), fun k hk => absurd hk (by omega), fun k _ => by rw [i4, b_0], fun o ho => ?_⟩
    rw [a2 o ho, (b2 o ho).2]
    exact ⟨rfl, Or.inl rfl⟩
  · exact ⟨0, by omega, i5, j3, i6, fun k hk => absurd hk (by omega)⟩
  · exact ⟨0, 0, by omega, by omega, i7, j5, i8, fun k hk => absurd hk (by omega)⟩
  · exact ⟨0, 0, by omega, by omega, i9, j6, i10, fun k hk => absurd hk (by omega)⟩
  · refine ⟨by rw [i11, b_0, k0]; rfl, fun z => ?_⟩
    rw [i11, b_0] at z
    cases z
  · refine ⟨by rw [i11, b_0, k1]; rfl, fun z => ?_⟩
    rw [i11, b_0] at z
    cases z
  · exact ⟨by rw [i12, j1], 1, by omega, i12⟩
  · rw [i13, j2]
  · rw [i14, j4]
  · rw [im, jm]
theorem Rel_init : wp_X7_begin ((fun _ => 0, fun _ _ => 0, 0) : St) (fun σ => wp_X8_start ((fun _ => 0, fun _ _ => 0, 0) : St) (fun _ τ => Rel 0 σ τ)) :=
  w_begC _ _ (fun _ hC => w_begM _ _ (fun _ hM => R_beg hC hM))
theorem sim_start : Sim_start Rel := by
  intro n σ τ hn hR
  have h10 := hR.2.2.2.2.2.2.2.2.2.1
  unfold wp_X7_start
  intro x e; subst e
  refine w_begC _ _ (fun ρ hC => w_begM _ _ (fun ρ2 hM => ⟨h10, R_fin (by omega) (R_beg hC hM)⟩))
