theorem ix0 {i k : Nat} (hi : i < 2) (hk : k < 152) : ((152 : Int32) * nI i) + nI k = nI (152 * i + k) := by
  rw [show (152 : Int32) = nI 152 from rfl, pk_mul, nI_add]
theorem ixc {i k : Nat} (c : Nat) (hi : i < 2) (hk : k < 152) : (((152 : Int32) * nI i) + nI c) + nI k = nI (152 * i + c + k) := by
  rw [show (152 : Int32) = nI 152 from rfl, pk_mul, nI_add, nI_add]
/-- what keep does to the reference's image i -/
def KpF (i : Nat) (τ ρ : St) : Prop := ρ.1 = τ.1 ∧ ρ.2.2 = τ.2.2 ∧ (∀ j, j ≠ 18 → ρ.2.1 j = τ.2.1 j) ∧ (∀ x, (x < 152 * i ∨ 152 * i + 152 ≤ x) → ρ.2.1 18 x = τ.2.1 18 x)
def KpC (i k : Nat) (τ ρ : St) : Prop := ∀ z, z < k → ρ.2.1 18 (152 * i + z) = τ.2.1 0 z ∧ ρ.2.1 18 (152 * i + 40 + z) = τ.2.1 1 z ∧ ρ.2.1 18 (152 * i + 80 + z) = τ.2.1 2 z
def KpD (i k : Nat) (τ ρ : St) : Prop := ∀ z, z < k → ρ.2.1 18 (152 * i + 120 + z) = τ.2.1 3 z
theorem KpF_upd {i : Nat} {τ ρ : St} (h : KpF i τ ρ) {x : Nat} (h1 : 152 * i ≤ x) (h2 : x < 152 * i + 152) (v : Int32) : KpF i τ (sA ρ 18 (upd (ρ.2.1 18) x v)) := by
  obtain ⟨a, b, c, d⟩ := h
  refine ⟨a, b, fun j hj => ?_, fun y hy => ?_⟩
  · rw [sA_2, if_neg hj, c j hj]
  · show upd (ρ.2.1 18) x v y = _
    rw [upd_ne (by omega), d y hy]
theorem w_kp2 {i : Nat} (hi : i < 2) (τ : St) (hz : ∀ o, o < 32 → τ.2.1 3 o = 0 ∨ τ.2.1 3 o = 1) (K : Int32 → St → Prop) (hK : ∀ ρ : St, KpF i τ ρ → KpC i 40 τ ρ → KpD i 32 τ ρ → K 1 (sI (sA ρ 19 (upd (ρ.2.1 19) i 1)) 6 0)) :
    ∀ d k, k + d = 32 → ∀ n, d < n → ∀ ρ : St, KpF i τ ρ → KpC i 40 τ ρ → KpD i k τ ρ → wl_X8_keep_89 K n (nI i) (nI k) ρ := by
  intro d
  induction d with
  | zero =>
    intro k hk n hn ρ hF hC hD
    obtain ⟨n, rfl⟩ : ∃ z, n = z + 1 := ⟨n - 1, by omega⟩
    have hk : k = 32 := by omega
    subst hk
    refine ⟨fun _ => ⟨vp_in_nI (by omega) (by omega), ?_⟩, fun c => absurd (by decide) c⟩
    rw [nar1, nI_clamp (by omega)]
    intro s1 e; subst e
    intro s1 e; subst e
    exact hK ρ hF hC hD
  | succ d ih =>
    intro k hk n hn ρ hF hC hD
    obtain ⟨n, rfl⟩ : ∃ z, n = z + 1 := ⟨n - 1, by omega⟩
    have vk : vp_in (nI k) 32 := vp_in_nI (by omega) (by omega)
    refine ⟨fun c => absurd c ?_, fun _ => ⟨vk, ?_⟩⟩
    · rw [show (32 : Int32) = nI 32 from rfl, nI_leI (by omega) (by omega)]; omega
    have ex : (((152 : Int32) * nI i) + (120 : Int32)) + nI k = nI (152 * i + 120 + k) := ixc 120 hi (by omega)
    have ey : (nI (152 * i + 120 + k)).toNatClampNeg = 152 * i + 120 + k := nI_clamp (by omega)
    rw [ex, ey, nI_clamp (by omega), nI_1, hF.2.2.1 3 (by decide)]
    have vx : vp_in (nI (152 * i + 120 + k)) 304 := vp_in_nI (by omega) (by omega)
    have step : ∀ v : Int32, τ.2.1 3 k = v → wl_X8_keep_89 K n (nI i) (nI (k + 1)) (sA ρ 18 (upd (ρ.2.1 18) (152 * i + 120 + k) v)) := by
      intro v hv
      refine ih (k + 1) (by omega) n (by omega) _ (KpF_upd hF (by omega) (by omega) v) (fun z hz => ?_) (fun z hz => ?_)
      · show upd (ρ.2.1 18) (152 * i + 120 + k) v (152 * i + z) = _ ∧ upd (ρ.2.1 18) (152 * i + 120 + k) v (152 * i + 40 + z) = _ ∧ upd (ρ.2.1 18) (152 * i + 120 + k) v (152 * i + 80 + z) = _
        rw [upd_ne (by omega), upd_ne (by omega), upd_ne (by omega)]
        exact hC z hz
      · show upd (ρ.2.1 18) (152 * i + 120 + k) v (152 * i + 120 + z) = _
        by_cases h : z = k
        · rw [h, upd_same, hv]
        · rw [upd_ne (by omega)]; exact hD z (by omega)
    refine ⟨fun c => ⟨vx, ?_⟩, fun c => ⟨vx, ?_⟩⟩
    · intro s1 e; subst e
      intro x e; subst e
      exact step 0 c
    · intro s1 e; subst e
      intro x e; subst e
      exact step 1 ((hz k (by omega)).resolve_left c)
theorem w_kp1 {i : Nat} (hi : i < 2) (τ : St) (hz : ∀ o, o < 32 → τ.2.1 3 o = 0 ∨ τ.2.1 3 o = 1) (K : Int32 → St → Prop) (hK : ∀ ρ : St, KpF i τ ρ → KpC i 40 τ ρ → KpD i 32 τ ρ → K 1 (sI (sA ρ 19 (upd (ρ.2.1 19) i 1)) 6 0)) :
    ∀ d k, k + d = 40 → ∀ n, d < n → ∀ ρ : St, KpF i τ ρ → KpC i k τ ρ → wl_X8_keep_15 K n (nI i) (nI k) ρ := by
  intro d
  induction d with
  | zero =>
    intro k hk n hn ρ hF hC
    obtain ⟨n, rfl⟩ : ∃ z, n = z + 1 := ⟨n - 1, by omega⟩
    have hk : k = 40 := by omega
    subst hk
    refine ⟨fun _ => ?_, fun c => absurd (by decide) c⟩
    exact ⟨33, w_kp2 hi τ hz K hK 32 0 (by omega) 33 (by omega) ρ hF hC (fun z hz => absurd hz (by omega))⟩
  | succ d ih =>
    intro k hk n hn ρ hF hC
    obtain ⟨n, rfl⟩ : ∃ z, n = z + 1 := ⟨n - 1, by omega⟩
    have vk : vp_in (nI k) 40 := vp_in_nI (by omega) (by omega)
    refine ⟨fun c => absurd c ?_, fun _ => ⟨vk, ?_⟩⟩
    · rw [show (40 : Int32) = nI 40 from rfl, nI_leI (by omega) (by omega)]; omega
    have e1 : ((152 : Int32) * nI i) + nI k = nI (152 * i + k) := ix0 hi (by omega)
    have e2 : (((152 : Int32) * nI i) + (40 : Int32)) + nI k = nI (152 * i + 40 + k) := ixc 40 hi (by omega)
    have e3 : (((152 : Int32) * nI i) + (80 : Int32)) + nI k = nI (152 * i + 80 + k) := ixc 80 hi (by omega)
    have y1 : (nI (152 * i + k)).toNatClampNeg = 152 * i + k := nI_clamp (by omega)
    have y2 : (nI (152 * i + 40 + k)).toNatClampNeg = 152 * i + 40 + k := nI_clamp (by omega)
    have y3 : (nI (152 * i + 80 + k)).toNatClampNeg = 152 * i + 80 + k := nI_clamp (by omega)
    rw [e1, e2, e3, y1, y2, y3, nI_clamp (by omega), nI_1]
    refine ⟨vp_in_nI (by omega) (by omega), ?_⟩
    intro s1 e; subst e
    refine ⟨vk, vp_in_nI (by omega) (by omega), ?_⟩
    intro s1 e; subst e
    refine ⟨vk, vp_in_nI (by omega) (by omega), ?_⟩
    intro s1 e; subst e
    intro x e; subst e
    refine ih (k + 1) (by omega) n (by omega) _ (KpF_upd (KpF_upd (KpF_upd hF (by omega) (by omega) _) (by omega) (by omega) _) (by omega) (by omega) _) (fun z hz => ?_)
    have g0 : ρ.2.1 0 = τ.2.1 0 := hF.2.2.1 0 (by decide)
    have g1 : ρ.2.1 1 = τ.2.1 1 := hF.2.2.1 1 (by decide)
    have g2 : ρ.2.1 2 = τ.2.1 2 := hF.2.2.1 2 (by decide)
    show upd (upd (upd (ρ.2.1 18) (152 * i + k) (ρ.2.1 0 k)) (152 * i + 40 + k) (ρ.2.1 1 k)) (152 * i + 80 + k) (ρ.2.1 2 k) (152 * i + z) = _ ∧ upd (upd (upd (ρ.2.1 18) (152 * i + k) (ρ.2.1 0 k)) (152 * i + 40 + k) (ρ.2.1 1 k)) (152 * i + 80 + k) (ρ.2.1 2 k) (152 * i + 40 + z) = _ ∧ upd (upd (upd (ρ.2.1 18) (152 * i + k) (ρ.2.1 0 k)) (152 * i + 40 + k) (ρ.2.1 1 k)) (152 * i + 80 + k) (ρ.2.1 2 k) (152 * i + 80 + z) = _
    rw [g0, g1, g2]
    by_cases h : z = k
    · subst h
      rw [upd_ne (by omega), upd_ne (by omega), upd_same, upd_ne (by omega), upd_same, upd_same]
      exact ⟨rfl, rfl, rfl⟩
    · rw [upd_ne (by omega), upd_ne (by omega), upd_ne (by omega), upd_ne (by omega), upd_ne (by omega), upd_ne (by omega), upd_ne (by omega), upd_ne (by omega), upd_ne (by omega)]
      exact hC z (by omega)
theorem Rd_01 {d : Int32} {lo z : Nat → Int32} (h : Rd d lo z) : ∀ o, o < 32 → z o = 0 ∨ z o = 1 := by
  intro o ho
  rw [(h o ho).1]
  cases bt d o
  · exact Or.inl rfl
  · exact Or.inr rfl
theorem Ri_kept {i : Nat} (hi : i < 2) {kp d : Int32} {c lo im2 ik2 v s f z : Nat → Int32} (hik : ik2 i = 1) (hc : ∀ k, k < 40 → RC (c k) (v k) (s k) (f k)) (hd : Rd d lo z)
    (h1 : ∀ k, k < 40 → im2 (152 * i + k) = v k ∧ im2 (152 * i + 40 + k) = s k ∧ im2 (152 * i + 80 + k) = f k) (h2 : ∀ o, o < 32 → im2 (152 * i + 120 + o) = z o) : Ri i (kp ||| ((1 : Int32) <<< (nI i &&& 31))) d c lo im2 ik2 := by
  have hb : bt (kp ||| ((1 : Int32) <<< (nI i &&& 31))) i = true := by
    rw [b_or, b_one (by omega) (by omega)]; simp
  refine ⟨by rw [hb, hik]; rfl, fun _ => ⟨fun k hk => ?_, fun o ho => ?_⟩⟩
  · obtain ⟨q1, q2, q3⟩ := h1 k hk
    rw [q1, q2, q3]
    exact hc k hk
  · show im2 (152 * i + 120 + o) = _ ∧ _
    rw [h2 o ho]
    exact hd o ho
theorem Ri_other {i i2 : Nat} (hi : i < 2) (hi2 : i2 < 2) (hne : i2 ≠ i) {kp d : Int32} {c lo im ik im2 ik2 : Nat → Int32} (h : Ri i2 kp d c lo im ik) (hik : ik2 i2 = ik i2) (him : ∀ x, (x < 152 * i ∨ 152 * i + 152 ≤ x) → im2 x = im x) : Ri i2 (kp ||| ((1 : Int32) <<< (nI i &&& 31))) d c lo im2 ik2 := by
  have hb : bt (kp ||| ((1 : Int32) <<< (nI i &&& 31))) i2 = bt kp i2 := by
    rw [b_or, b_one (by omega) (by omega), decide_eq_false hne]; simp
  refine ⟨by rw [hb, hik]; exact h.1, fun hz => ?_⟩
  rw [hb] at hz
  obtain ⟨a, b⟩ := h.2 hz
  refine ⟨fun k hk => ?_, fun o ho => ?_⟩
  · rw [him _ (by omega), him _ (by omega), him _ (by omega)]
    exact a k hk
  · show im2 (152 * i2 + 120 + o) = _ ∧ _
    rw [him _ (by omega)]
    exact b o ho
theorem Ru_0 {pl be po pv ps pf : Nat → Int32} : Ru 0 0 pl be 0 po pv ps pf := ⟨0, 0, by omega, by omega, rfl, rfl, rfl, fun i hi => absurd hi (by omega)⟩
theorem sim_keep : Sim_keep Rel := by
  intro n σ τ a1 hn hR
  have hR : RelM (64 * n) σ τ := hR
  have hF := Rel_mono _ _ _ hR
  obtain ⟨h1, h2, h3, h4, h5, h6, h7, h8, h9, h10, h11, h12⟩ := id hR
  have y1 : (1 : Int64).toInt + 1 = ((2 : Nat) : Int) := by decide
  unfold wp_X7_keep
  by_cases c1 : inR 2 a1
  · refine imgC_t c1 ⟨fun _ => ?_, fun c => absurd c one_ne⟩
    obtain ⟨i, hi, rfl⟩ := inR_ex c1 (by omega)
    have runM : ∀ {σ1 : St}, (∀ ρ : St, KpF i τ ρ → KpC i 40 τ ρ → KpD i 32 τ ρ → RelM (64 * n) σ1 (sI (sA ρ 19 (upd (ρ.2.1 19) i 1)) 6 0)) → wp_X8_keep τ (nI i) (fun y τ1 => (1 : Int32) = y ∧ Rel (n + 1) σ1 τ1) := by
      intro σ1 h
      unfold wp_X8_keep
      refine inM_t c1 y1 ⟨fun _ => ?_, fun c => absurd c one_ne⟩
      refine ⟨41, w_kp1 hi τ (Rd_01 h2) _ (fun ρ a b c => ⟨rfl, R_fin (by omega) (h ρ a b c)⟩) 40 0 (by omega) 41 (by omega) τ ⟨rfl, rfl, fun _ _ => rfl, fun _ _ => rfl⟩ (fun z hz => absurd hz (by omega))⟩
    have fr : ∀ (ρ : St), KpF i τ ρ → (sI (sA ρ 19 (upd (ρ.2.1 19) i 1)) 6 0).2.1 19 = upd (τ.2.1 19) i 1 := by
      intro ρ h
      show upd (ρ.2.1 19) i 1 = _
      rw [h.2.2.1 19 (by decide)]
    refine ⟨fun q => ?_, fun q => ?_⟩
    · have hi0 : i = 0 := by
        rw [← nI_0, nI_eq (by omega) (by omega)] at q
        exact q
      subst hi0
      unfold wp_X4_becomeAs_3_1 wp_X1_clear_19
      intro s1 e; subst e
      intro s1 e; subst e
      intro s1 e; subst e
      intro s1 e; subst e
      intro s1 e; subst e
      refine runM (fun ρ a b c => ?_)
      have g := a.2.2.1
      refine ⟨?_, ?_, ?_, ?_, ?_, Ru_0, ?_, ?_, ?_, ?_, ?_, ?_⟩
      · show Rc (σ.2.1 0) (ρ.2.1 0) (ρ.2.1 1) (ρ.2.1 2)
        rw [g 0 (by decide), g 1 (by decide), g 2 (by decide)]; exact h1
      · show Rd (σ.1 0) (σ.2.1 5) (ρ.2.1 3)
        rw [g 3 (by decide)]; exact h2
      · show Rg (σ.1 3) (σ.1 4) (σ.2.1 3) (σ.2.1 4) (σ.2.1 5) (ρ.1 0) (ρ.2.1 4) (ρ.2.1 5) (ρ.2.1 6) (ρ.2.1 7)
        rw [a.1, g 4 (by decide), g 5 (by decide), g 6 (by decide), g 7 (by decide)]; exact h3
      · show Ry (64 * n) (σ.1 5) (σ.1 6) (σ.2.1 6) (σ.2.1 7) (σ.2.1 8) (ρ.1 3) (ρ.2.1 8) (ρ.2.1 9) (ρ.2.1 10)
        rw [a.1, g 8 (by decide), g 9 (by decide), g 10 (by decide)]; exact h4
      · show Rr (σ.1 7) (σ.1 8) (σ.2.1 9) (σ.2.1 10) (σ.2.1 11) (ρ.1 5) (ρ.2.1 11) (ρ.2.1 12) (ρ.2.1 13)
        rw [a.1, g 11 (by decide), g 12 (by decide), g 13 (by decide)]; exact h5
      · refine Ri_kept (z := τ.2.1 3) (v := τ.2.1 0) (s := τ.2.1 1) (f := τ.2.1 2) (by omega) ?_ ?_ h2 b c
        · rw [fr ρ a, upd_same]
        · intro k hk
          have e : (va_cpy (σ.2.1 0) (σ.2.1 1) (0 : Int32).toNatClampNeg (0 : Int32).toNatClampNeg (40 : Int32).toNatClampNeg) k = σ.2.1 0 k := cpy40 _ _ hk
          show RC ((va_cpy (σ.2.1 0) (σ.2.1 1) (0 : Int32).toNatClampNeg (0 : Int32).toNatClampNeg (40 : Int32).toNatClampNeg) k) _ _ _
          rw [e]
          exact h1 k hk
      · refine Ri_other (i := 0) (by omega) (by omega) (by decide) h8 ?_ a.2.2.2
        rw [fr ρ a, upd_ne (by decide)]
      · show Rs (σ.1 12) (ρ.1 1)
        rw [a.1]; exact h9
      · show σ.1 13 = ρ.1 2
        rw [a.1]; exact h10
      · show σ.1 14 = ρ.1 4
        rw [a.1]; exact h11
      · show σ.2.2 = ρ.2.2
        rw [a.2.1]; exact h12
    · have hi1 : i = 1 := by
        rw [← nI_0, nI_eq (by omega) (by omega)] at q
        omega
      subst hi1
      unfold wp_X4_becomeAs_5_1 wp_X1_clear_19
      intro s1 e; subst e
      intro s1 e; subst e
      intro s1 e; subst e
      intro s1 e; subst e
      intro s1 e; subst e
      refine runM (fun ρ a b c => ?_)
      have g := a.2.2.1
      refine ⟨?_, ?_, ?_, ?_, ?_, Ru_0, ?_, ?_, ?_, ?_, ?_, ?_⟩
      · show Rc (σ.2.1 0) (ρ.2.1 0) (ρ.2.1 1) (ρ.2.1 2)
        rw [g 0 (by decide), g 1 (by decide), g 2 (by decide)]; exact h1
      · show Rd (σ.1 0) (σ.2.1 5) (ρ.2.1 3)
        rw [g 3 (by decide)]; exact h2
      · show Rg (σ.1 3) (σ.1 4) (σ.2.1 3) (σ.2.1 4) (σ.2.1 5) (ρ.1 0) (ρ.2.1 4) (ρ.2.1 5) (ρ.2.1 6) (ρ.2.1 7)
        rw [a.1, g 4 (by decide), g 5 (by decide), g 6 (by decide), g 7 (by decide)]; exact h3
      · show Ry (64 * n) (σ.1 5) (σ.1 6) (σ.2.1 6) (σ.2.1 7) (σ.2.1 8) (ρ.1 3) (ρ.2.1 8) (ρ.2.1 9) (ρ.2.1 10)
        rw [a.1, g 8 (by decide), g 9 (by decide), g 10 (by decide)]; exact h4
      · show Rr (σ.1 7) (σ.1 8) (σ.2.1 9) (σ.2.1 10) (σ.2.1 11) (ρ.1 5) (ρ.2.1 11) (ρ.2.1 12) (ρ.2.1 13)
        rw [a.1, g 11 (by decide), g 12 (by decide), g 13 (by decide)]; exact h5
      · refine Ri_other (i := 1) (by omega) (by omega) (by decide) h7 ?_ a.2.2.2
        rw [fr ρ a, upd_ne (by decide)]
      · refine Ri_kept (z := τ.2.1 3) (v := τ.2.1 0) (s := τ.2.1 1) (f := τ.2.1 2) (by omega) ?_ ?_ h2 b c
        · rw [fr ρ a, upd_same]
        · intro k hk
          have e : (va_cpy (σ.2.1 0) (σ.2.1 2) (0 : Int32).toNatClampNeg (0 : Int32).toNatClampNeg (40 : Int32).toNatClampNeg) k = σ.2.1 0 k := cpy40 _ _ hk
          show RC ((va_cpy (σ.2.1 0) (σ.2.1 2) (0 : Int32).toNatClampNeg (0 : Int32).toNatClampNeg (40 : Int32).toNatClampNeg) k) _ _ _
          rw [e]
          exact h1 k hk
      · show Rs (σ.1 12) (ρ.1 1)
        rw [a.1]; exact h9
      · show σ.1 13 = ρ.1 2
        rw [a.1]; exact h10
      · show σ.1 14 = ρ.1 4
        rw [a.1]; exact h11
      · show σ.2.2 = ρ.2.2
        rw [a.2.1]; exact h12
  · refine imgC_f c1 ⟨fun c => absurd rfl c, fun _ => ?_⟩
    unfold wp_X8_keep
    exact inM_f c1 y1 ⟨fun c => absurd rfl c, fun _ => ⟨rfl, hF⟩⟩
