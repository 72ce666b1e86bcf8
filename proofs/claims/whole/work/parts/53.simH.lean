/-- what goBack does to the reference -/
def GbF (τ ρ : St) : Prop := ρ.1 = τ.1 ∧ ρ.2.2 = τ.2.2 ∧ (∀ j, 4 ≤ j → ρ.2.1 j = τ.2.1 j)
def GbC (i k : Nat) (τ ρ : St) : Prop := ∀ z, z < k → ρ.2.1 0 z = τ.2.1 18 (152 * i + z) ∧ ρ.2.1 1 z = τ.2.1 18 (152 * i + 40 + z) ∧ ρ.2.1 2 z = τ.2.1 18 (152 * i + 80 + z)
def GbD (i k : Nat) (τ ρ : St) : Prop := ∀ z, z < k → ρ.2.1 3 z = if τ.2.1 18 (152 * i + 120 + z) = 1 then 1 else 0
theorem w_gb2 {i : Nat} (hi : i < 2) (τ : St) (K : Int32 → St → Prop) (hK : ∀ ρ : St, GbF τ ρ → GbC i 40 τ ρ → GbD i 32 τ ρ → K 1 (sI ρ 6 0)) :
    ∀ d k, k + d = 32 → ∀ n, d < n → ∀ ρ : St, GbF τ ρ → GbC i 40 τ ρ → GbD i k τ ρ → wl_X8_goBack_101 K n (nI i) (nI k) ρ := by
  intro d
  induction d with
  | zero =>
    intro k hk n hn ρ hF hC hD
    obtain ⟨n, rfl⟩ : ∃ z, n = z + 1 := ⟨n - 1, by omega⟩
    have hk : k = 32 := by omega
    subst hk
    refine ⟨fun _ => ?_, fun c => absurd (by decide) c⟩
    intro s1 e; subst e
    exact hK ρ hF hC hD
  | succ d ih =>
    intro k hk n hn ρ hF hC hD
    obtain ⟨n, rfl⟩ : ∃ z, n = z + 1 := ⟨n - 1, by omega⟩
    have vk : vp_in (nI k) 32 := vp_in_nI (by omega) (by omega)
    refine ⟨fun c => absurd c ?_, fun _ => ?_⟩
    · rw [show (32 : Int32) = nI 32 from rfl, nI_leI (by omega) (by omega)]; omega
    have ex : (((152 : Int32) * nI i) + (120 : Int32)) + nI k = nI (152 * i + 120 + k) := ixc 120 hi (by omega)
    have ey : (nI (152 * i + 120 + k)).toNatClampNeg = 152 * i + 120 + k := nI_clamp (by omega)
    have vx : vp_in (nI (152 * i + 120 + k)) 304 := vp_in_nI (by omega) (by omega)
    rw [ex, ey, nI_clamp (by omega), nI_1, nar0, nar1, hF.2.2 18 (by decide)]
    have step : ∀ v : Int32, (if τ.2.1 18 (152 * i + 120 + k) = 1 then 1 else 0) = v → wl_X8_goBack_101 K n (nI i) (nI (k + 1)) (sA ρ 3 (upd (ρ.2.1 3) k v)) := by
      intro v hv
      refine ih (k + 1) (by omega) n (by omega) _ ⟨hF.1, hF.2.1, fun j hj => ?_⟩ hC (fun z hz => ?_)
      · rw [sA_2, if_neg (by omega), hF.2.2 j hj]
      · show upd (ρ.2.1 3) k v z = _
        by_cases h : z = k
        · rw [h, upd_same, hv]
        · rw [upd_ne h]; exact hD z (by omega)
    refine ⟨vx, fun c => ⟨vk, ?_⟩, fun c => ⟨vk, ?_⟩⟩
    · intro s1 e; subst e
      intro x e; subst e
      exact step 0 (if_neg c)
    · intro s1 e; subst e
      intro x e; subst e
      exact step 1 (if_pos c)
theorem w_gb1 {i : Nat} (hi : i < 2) (τ : St) (K : Int32 → St → Prop) (hK : ∀ ρ : St, GbF τ ρ → GbC i 40 τ ρ → GbD i 32 τ ρ → K 1 (sI ρ 6 0)) :
    ∀ d k, k + d = 40 → ∀ n, d < n → ∀ ρ : St, GbF τ ρ → GbC i k τ ρ → wl_X8_goBack_27 K n (nI i) (nI k) ρ := by
  intro d
  induction d with
  | zero =>
    intro k hk n hn ρ hF hC
    obtain ⟨n, rfl⟩ : ∃ z, n = z + 1 := ⟨n - 1, by omega⟩
    have hk : k = 40 := by omega
    subst hk
    refine ⟨fun _ => ?_, fun c => absurd (by decide) c⟩
    exact ⟨33, w_gb2 hi τ K hK 32 0 (by omega) 33 (by omega) ρ hF hC (fun z hz => absurd hz (by omega))⟩
  | succ d ih =>
    intro k hk n hn ρ hF hC
    obtain ⟨n, rfl⟩ : ∃ z, n = z + 1 := ⟨n - 1, by omega⟩
    have vk : vp_in (nI k) 40 := vp_in_nI (by omega) (by omega)
    refine ⟨fun c => absurd c ?_, fun _ => ?_⟩
    · rw [show (40 : Int32) = nI 40 from rfl, nI_leI (by omega) (by omega)]; omega
    have e1 : ((152 : Int32) * nI i) + nI k = nI (152 * i + k) := ix0 hi (by omega)
    have e2 : (((152 : Int32) * nI i) + (40 : Int32)) + nI k = nI (152 * i + 40 + k) := ixc 40 hi (by omega)
    have e3 : (((152 : Int32) * nI i) + (80 : Int32)) + nI k = nI (152 * i + 80 + k) := ixc 80 hi (by omega)
    have y1 : (nI (152 * i + k)).toNatClampNeg = 152 * i + k := nI_clamp (by omega)
    have y2 : (nI (152 * i + 40 + k)).toNatClampNeg = 152 * i + 40 + k := nI_clamp (by omega)
    have y3 : (nI (152 * i + 80 + k)).toNatClampNeg = 152 * i + 80 + k := nI_clamp (by omega)
    rw [e1, e2, e3, y1, y2, y3, nI_clamp (by omega), nI_1]
    refine ⟨vp_in_nI (by omega) (by omega), vk, ?_⟩
    intro s1 e; subst e
    refine ⟨vp_in_nI (by omega) (by omega), vk, ?_⟩
    intro s1 e; subst e
    refine ⟨vp_in_nI (by omega) (by omega), vk, ?_⟩
    intro s1 e; subst e
    intro x e; subst e
    refine ih (k + 1) (by omega) n (by omega) _ ⟨hF.1, hF.2.1, fun j hj => ?_⟩ (fun z hz => ?_)
    · rw [sA_2, if_neg (by omega), sA_2, if_neg (by omega), sA_2, if_neg (by omega), hF.2.2 j hj]
    have g := hF.2.2 18 (by decide)
    show upd (ρ.2.1 0) k (ρ.2.1 18 (152 * i + k)) z = _ ∧ upd (ρ.2.1 1) k (ρ.2.1 18 (152 * i + 40 + k)) z = _ ∧ upd (ρ.2.1 2) k (ρ.2.1 18 (152 * i + 80 + k)) z = _
    rw [g]
    by_cases h : z = k
    · subst h
      rw [upd_same, upd_same, upd_same]
      exact ⟨rfl, rfl, rfl⟩
    · rw [upd_ne h, upd_ne h, upd_ne h]
      exact hC z (by omega)
theorem Rd_img {d : Int32} {lo z z2 : Nat → Int32} (h : Rd d lo z) (e : ∀ o, o < 32 → z2 o = if z o = 1 then 1 else 0) : Rd d lo z2 := by
  intro o ho
  refine ⟨?_, (h o ho).2⟩
  rw [e o ho, (h o ho).1]
  cases bt d o <;> rfl
theorem R_gb {m : Nat} {i : Nat} {σ τ ρ : St} {c2 : Nat → Int32} {d2 : Int32} (hR : RelM m σ τ) (hF : GbF τ ρ) (hC : Rc c2 (ρ.2.1 0) (ρ.2.1 1) (ρ.2.1 2)) (hD : Rd d2 (σ.2.1 5) (ρ.2.1 3)) : RelM m (sI (sI (sI (sA σ 0 c2) 0 d2) 9 0) 10 0) (sI ρ 6 0) := by
  obtain ⟨h1, h2, h3, h4, h5, h6, h7, h8, h9, h10, h11, h12⟩ := hR
  obtain ⟨a, b, g⟩ := hF
  refine ⟨hC, hD, ?_, ?_, ?_, Ru_0, ?_, ?_, ?_, ?_, ?_, ?_⟩
  · show Rg (σ.1 3) (σ.1 4) (σ.2.1 3) (σ.2.1 4) (σ.2.1 5) (ρ.1 0) (ρ.2.1 4) (ρ.2.1 5) (ρ.2.1 6) (ρ.2.1 7)
    rw [a, g 4 (by decide), g 5 (by decide), g 6 (by decide), g 7 (by decide)]; exact h3
  · show Ry m (σ.1 5) (σ.1 6) (σ.2.1 6) (σ.2.1 7) (σ.2.1 8) (ρ.1 3) (ρ.2.1 8) (ρ.2.1 9) (ρ.2.1 10)
    rw [a, g 8 (by decide), g 9 (by decide), g 10 (by decide)]; exact h4
  · show Rr (σ.1 7) (σ.1 8) (σ.2.1 9) (σ.2.1 10) (σ.2.1 11) (ρ.1 5) (ρ.2.1 11) (ρ.2.1 12) (ρ.2.1 13)
    rw [a, g 11 (by decide), g 12 (by decide), g 13 (by decide)]; exact h5
  · show Ri 0 (σ.1 11) (σ.1 1) (σ.2.1 1) (σ.2.1 5) (ρ.2.1 18) (ρ.2.1 19)
    rw [g 18 (by decide), g 19 (by decide)]; exact h7
  · show Ri 1 (σ.1 11) (σ.1 2) (σ.2.1 2) (σ.2.1 5) (ρ.2.1 18) (ρ.2.1 19)
    rw [g 18 (by decide), g 19 (by decide)]; exact h8
  · show Rs (σ.1 12) (ρ.1 1)
    rw [a]; exact h9
  · show σ.1 13 = ρ.1 2
    rw [a]; exact h10
  · show σ.1 14 = ρ.1 4
    rw [a]; exact h11
  · show σ.2.2 = ρ.2.2
    rw [b]; exact h12
theorem sim_goBack : Sim_goBack Rel := by
  intro n σ τ a1 hn hR
  have hR : RelM (64 * n) σ τ := hR
  have hF := Rel_mono _ _ _ hR
  obtain ⟨h1, h2, h3, h4, h5, h6, h7, h8, h9, h10, h11, h12⟩ := id hR
  have y1 : (1 : Int64).toInt + 1 = ((2 : Nat) : Int) := by decide
  unfold wp_X7_goBack
  by_cases c1 : inR 2 a1
  · refine imgC_t c1 ⟨fun _ => ?_, fun c => absurd c one_ne⟩
    obtain ⟨i, hi, rfl⟩ := inR_ex c1 (by omega)
    have vi : vp_in (nI i) 2 := vp_in_nI (by omega) (by omega)
    have ei : (nI i).toNatClampNeg = i := nI_clamp (by omega)
    have hk : τ.2.1 19 i = if bt (σ.1 11) i then 1 else 0 := by
      rcases (show i = 0 ∨ i = 1 by omega) with rfl | rfl
      · exact h7.1
      · exact h8.1
    have hz := if01 hk
    rw [tst_s _ (by omega)]
    refine ⟨fun c => ?_, fun c => ?_⟩
    · have cb : bt (σ.1 11) i = true := by cases h : bt (σ.1 11) i; exact absurd h c; rfl
      have runM : ∀ {σ1 : St}, (∀ ρ : St, GbF τ ρ → GbC i 40 τ ρ → GbD i 32 τ ρ → RelM (64 * n) σ1 (sI ρ 6 0)) → wp_X8_goBack τ (nI i) (fun y τ1 => (1 : Int32) = y ∧ Rel (n + 1) σ1 τ1) := by
        intro σ1 h
        unfold wp_X8_goBack
        refine inM_t c1 y1 ⟨fun _ => ⟨vi, ?_⟩, fun c => absurd c one_ne⟩
        rw [ei]
        refine ⟨fun _ => ?_, fun z => absurd (hz.mp z) c⟩
        exact ⟨41, w_gb1 hi τ _ (fun ρ a b c => ⟨rfl, R_fin (by omega) (h ρ a b c)⟩) 40 0 (by omega) 41 (by omega) τ ⟨rfl, rfl, fun _ _ => rfl⟩ (fun z hz => absurd hz (by omega))⟩
      refine ⟨fun q => ?_, fun q => ?_⟩
      · have hi0 : i = 0 := by
          rw [← nI_0, nI_eq (by omega) (by omega)] at q
          exact q
        subst hi0
        unfold wp_X4_becomeAs_1_3 wp_X1_clear_19
        intro s1 e; subst e
        intro s1 e; subst e
        intro s1 e; subst e
        intro s1 e; subst e
        obtain ⟨ic, id2⟩ := h7.2 cb
        refine runM (fun ρ a b c => R_gb (i := 0) hR a ?_ ?_)
        · intro k hk
          obtain ⟨q1, q2, q3⟩ := b k hk
          have e : (va_cpy (σ.2.1 1) (σ.2.1 0) (0 : Int32).toNatClampNeg (0 : Int32).toNatClampNeg (40 : Int32).toNatClampNeg) k = σ.2.1 1 k := cpy40 _ _ hk
          rw [e, q1, q2, q3]
          exact ic k hk
        · exact Rd_img id2 c
      · have hi1 : i = 1 := by
          rw [← nI_0, nI_eq (by omega) (by omega)] at q
          omega
        subst hi1
        unfold wp_X4_becomeAs_1_5 wp_X1_clear_19
        intro s1 e; subst e
        intro s1 e; subst e
        intro s1 e; subst e
        intro s1 e; subst e
        obtain ⟨ic, id2⟩ := h8.2 cb
        refine runM (fun ρ a b c => R_gb (i := 1) hR a ?_ ?_)
        · intro k hk
          obtain ⟨q1, q2, q3⟩ := b k hk
          have e : (va_cpy (σ.2.1 2) (σ.2.1 0) (0 : Int32).toNatClampNeg (0 : Int32).toNatClampNeg (40 : Int32).toNatClampNeg) k = σ.2.1 2 k := cpy40 _ _ hk
          rw [e, q1, q2, q3]
          exact ic k hk
        · exact Rd_img id2 c
    · unfold wp_X8_goBack
      refine inM_t c1 y1 ⟨fun _ => ⟨vi, ?_⟩, fun c => absurd c one_ne⟩
      rw [ei]
      exact ⟨fun z => absurd (hz.mpr c) z, fun _ => ⟨rfl, hF⟩⟩
  · refine imgC_f c1 ⟨fun c => absurd rfl c, fun _ => ?_⟩
    unfold wp_X8_goBack
    exact inM_f c1 y1 ⟨fun c => absurd rfl c, fun _ => ⟨rfl, hF⟩⟩
