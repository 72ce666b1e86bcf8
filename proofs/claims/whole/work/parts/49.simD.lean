/-- sums over the CRIES that name a GROUND -/
def csum (f : Nat → Int32) (g : Int32) : Nat → Int32
  | 0 => 0
  | k + 1 => csum f g k + ((f k >>> (g &&& 31)) &&& (1 : Int32))
theorem csum_cong {f h : Nat → Int32} {g : Int32} : ∀ {k : Nat}, (∀ i, i < k → f i = h i) → csum f g k = csum h g k
  | 0, _ => rfl
  | k + 1, e => by
    show csum f g k + _ = csum h g k + _
    rw [csum_cong (fun i hi => e i (by omega)), e k (by omega)]
theorem w_cntC (K : Int32 → St → Prop) (g : Int32) (σ : St) {N : Nat} (hN : N ≤ 20) (h6 : σ.1 6 = nI N) (hK : K (csum (σ.2.1 8) g N) σ) : ∀ d k, k + d = N → ∀ n, d < n → wl_X2_countNaming_11_4 K n g (csum (σ.2.1 8) g k) (nI k) σ := by
  intro d
  induction d with
  | zero =>
    intro k hk n hn
    obtain ⟨n, rfl⟩ : ∃ z, n = z + 1 := ⟨n - 1, by omega⟩
    have hk : k = N := by omega
    subst hk
    refine ⟨fun _ => hK, fun c => absurd ?_ c⟩
    rw [h6, nI_leI (by omega) (by omega)]
    exact Nat.le_refl _
  | succ d ih =>
    intro k hk n hn
    obtain ⟨n, rfl⟩ : ∃ z, n = z + 1 := ⟨n - 1, by omega⟩
    refine ⟨fun c => absurd c ?_, fun _ => ⟨vp_in_nI (by omega) (by omega), ?_⟩⟩
    · rw [h6, nI_leI (by omega) (by omega)]; omega
    intro x1 e1
    rw [nI_clamp (by omega)] at e1
    intro x2 e2
    rw [nI_1] at e2
    subst e2
    have e1 : x1 = csum (σ.2.1 8) g (k + 1) := e1
    subst e1
    exact ih (k + 1) (by omega) n (by omega)
theorem w_cntM {m : Nat} {σ τ : St} (hR : RelM m σ τ) (hm : m < 100000) (K : Int32 → St → Prop) (g : Int32) {N : Nat} (hN : N ≤ 20) (h6 : σ.1 6 = nI N) (hK : K (csum (τ.2.1 10) g N) τ) : ∀ d k, k + d = N → ∀ n, d < n → wl_X8_criesOf_4 K n g (csum (τ.2.1 10) g k) (nI k) τ := by
  intro d
  induction d with
  | zero =>
    intro k hk n hn
    obtain ⟨n, rfl⟩ : ∃ z, n = z + 1 := ⟨n - 1, by omega⟩
    have hk : k = N := by omega
    subst hk
    refine w_kept hR hm ⟨fun _ => hK, fun c => absurd ?_ c⟩
    rw [h6, nI_leI (by omega) (by omega)]
    exact Nat.le_refl _
  | succ d ih =>
    intro k hk n hn
    obtain ⟨n, rfl⟩ : ∃ z, n = z + 1 := ⟨n - 1, by omega⟩
    refine w_kept hR hm ⟨fun c => absurd c ?_, fun _ => ⟨vp_in_nI (by omega) (by omega), ?_⟩⟩
    · rw [h6, nI_leI (by omega) (by omega)]; omega
    intro x1 e1
    rw [nI_clamp (by omega)] at e1
    intro x2 e2
    rw [nI_1] at e2
    subst e2
    have e1 : x1 = csum (τ.2.1 10) g (k + 1) := e1
    subst e1
    exact ih (k + 1) (by omega) n (by omega)
theorem sim_ground : Sim_ground Rel := by
  intro n σ τ a1 a2 hn hR
  have hR : RelM (64 * n) σ τ := hR
  have hF := Rel_mono _ _ _ hR
  obtain ⟨g, hg, e1, e2, e3, e4, e5, e6⟩ := hR.2.2.1
  obtain ⟨c, hc, u1, u2, u3, h4⟩ := hR.2.2.2.1
  unfold wp_X7_ground
  by_cases c1 : inR g a1
  · obtain ⟨j, hj, rfl⟩ := inR_ex c1 (by omega)
    have vj : vp_in (nI j) 12 := vp_in_nI (by omega) (by omega)
    have ej : (nI j).toNatClampNeg = j := nI_clamp (by omega)
    obtain ⟨q1, q2, -⟩ := e3 j hj
    have hz := if01 (e4 j hj)
    refine hasC_t e1 hg c1 ⟨fun _ => ?_, fun z => absurd z one_ne⟩
    rw [ej]
    unfold wp_X8_ground
    refine ⟨fun q => ⟨vj, ?_⟩, fun q => ⟨fun r => ⟨vj, ?_⟩, fun r => ⟨fun t => ?_, fun t => ⟨fun u => ?_, fun u => ?_⟩⟩⟩⟩
    · refine hasM_t e2 hg c1 ⟨fun _ => ⟨fun _ => ⟨vj, ?_, hF⟩, fun z => absurd q z⟩, fun z => absurd z one_ne⟩
      rw [ej, q1]
    · refine hasM_t e2 hg c1 ⟨fun _ => ⟨fun z => absurd z q, fun _ => ⟨fun _ => ⟨vj, ?_, hF⟩, fun z => absurd r z⟩⟩, fun z => absurd z one_ne⟩
      rw [ej, q2]
    · unfold wp_X3_isLet_7
      rw [tst_s _ (by omega)]
      refine ⟨fun c => ⟨fun _ => ?_, fun z => absurd rfl z⟩, fun c => ⟨fun z => absurd z one_ne, fun _ => ?_⟩⟩
      · refine hasM_t e2 hg c1 ⟨fun _ => ⟨fun z => absurd z q, fun _ => ⟨fun z => absurd z r, fun _ => ⟨fun _ => ⟨vj, ?_⟩, fun z => absurd t z⟩⟩⟩, fun z => absurd z one_ne⟩
        rw [ej]
        exact ⟨fun _ => ⟨rfl, hF⟩, fun z => absurd (hz.mpr c) z⟩
      · refine hasM_t e2 hg c1 ⟨fun _ => ⟨fun z => absurd z q, fun _ => ⟨fun z => absurd z r, fun _ => ⟨fun _ => ⟨vj, ?_⟩, fun z => absurd t z⟩⟩⟩, fun z => absurd z one_ne⟩
        rw [ej]
        exact ⟨fun z => absurd (hz.mp z) c, fun _ => ⟨rfl, hF⟩⟩
    · refine ⟨21, w_cntC _ _ σ (N := min c 20) (by omega) u3 ?_ (min c 20) 0 (by omega) 21 (by omega)⟩
      refine hasM_t e2 hg c1 ⟨fun _ => ⟨fun z => absurd z q, fun _ => ⟨fun z => absurd z r, fun _ => ⟨fun z => absurd z t, fun _ => ⟨fun _ => ?_, fun z => absurd u z⟩⟩⟩⟩, fun z => absurd z one_ne⟩
      refine ⟨21, w_cntM hR (by omega) _ _ (N := min c 20) (by omega) u3 ⟨?_, hF⟩ (min c 20) 0 (by omega) 21 (by omega)⟩
      exact csum_cong (fun i hi => (h4 i hi).2.2)
    · exact hasM_t e2 hg c1 ⟨fun _ => ⟨fun z => absurd z q, fun _ => ⟨fun z => absurd z r, fun _ => ⟨fun z => absurd z t, fun _ => ⟨fun z => absurd z u, fun _ => ⟨rfl, hF⟩⟩⟩⟩⟩, fun z => absurd z one_ne⟩
  · refine hasC_f e1 hg c1 ⟨fun z => absurd rfl z, fun _ => ?_⟩
    unfold wp_X8_ground
    exact hasM_f e2 hg c1 ⟨fun z => absurd rfl z, fun _ => ⟨rfl, hF⟩⟩
/-- the GROUNDS that are LET, one by one -/
theorem w_lets {τ : St} {ls : Int32} {g : Nat} (hg : g ≤ 12) (e0 : τ.1 0 = nI g) (e4 : ∀ k, k < g → τ.2.1 7 k = if bt ls k then 1 else 0) (e5 : ∀ k, g ≤ k → bt ls k = false) (K : Int32 → St → Prop) (hK : K ls τ) : ∀ d k, k + d = g → ∀ n, d < n → ∀ v : Int32, (∀ i, i < 32 → bt v i = (decide (i < k) && bt ls i)) → wl_X8_letOnes_4 K n v (nI k) τ := by
  intro d
  induction d with
  | zero =>
    intro k hk n hn v hv
    obtain ⟨n, rfl⟩ : ∃ z, n = z + 1 := ⟨n - 1, by omega⟩
    have hk : k = g := by omega
    subst hk
    refine ⟨fun _ => ?_, fun c => absurd ?_ c⟩
    · have e : v = ls := by
        apply b_ext
        intro i hi
        rw [hv i hi]
        rcases Nat.lt_or_ge i k with h | h
        · simp [h]
        · rw [e5 i h]; simp
      rw [e]; exact hK
    · rw [e0, nI_leI (by omega) (by omega)]
      exact Nat.le_refl _
  | succ d ih =>
    intro k hk n hn v hv
    obtain ⟨n, rfl⟩ : ∃ z, n = z + 1 := ⟨n - 1, by omega⟩
    have hz := if01 (e4 k (by omega))
    refine ⟨fun c => absurd c ?_, fun _ => ⟨vp_in_nI (by omega) (by omega), ?_⟩⟩
    · rw [e0, nI_leI (by omega) (by omega)]; omega
    rw [nI_clamp (by omega)]
    refine ⟨fun c => ?_, fun c => ?_⟩
    · intro x1 ex1
      intro x2 ex2
      rw [nI_1] at ex2
      subst ex2
      subst ex1
      refine ih (k + 1) (by omega) n (by omega) _ ?_
      intro i hi
      rw [b_or, b_0, Bool.or_false, hv i hi]
      by_cases h : i = k
      · subst h
        rw [hz.mp c]; simp
      · congr 1
        simp only [decide_eq_decide]
        omega
    · intro x1 ex1
      intro x2 ex2
      rw [nI_1] at ex2
      subst ex2
      subst ex1
      refine ih (k + 1) (by omega) n (by omega) _ ?_
      intro i hi
      have hb : bt ls k = true := by cases h : bt ls k; exact absurd (hz.mpr h) c; rfl
      rw [b_or, b_one (by omega) hi, hv i hi]
      by_cases h : i = k
      · subst h
        rw [hb]; simp
      · simp only [h, decide_false, Bool.or_false]
        congr 1
        simp only [decide_eq_decide]
        omega
theorem w_letOnes {m : Nat} {σ τ : St} (hR : RelM m σ τ) {K : Int32 → St → Prop} (hK : K (σ.1 4) τ) : wp_X8_letOnes τ K := by
  obtain ⟨g, hg, e1, e2, e3, e4, e5, e6⟩ := hR.2.2.1
  exact ⟨13, w_lets hg e2 e4 e5 K hK g 0 (by omega) 13 (by omega) 0 (fun i hi => by rw [b_0]; simp)⟩
theorem w_deadL {d : Int32} {τ : St} (hd : ∀ o, o < 32 → τ.2.1 3 o = if bt d o then 1 else 0) (K : Int32 → St → Prop) (hK : K (nI (pop d)) τ) : ∀ r k, k + r = 32 → ∀ n, r < n → wl_X8_deadMany_4 K n (nI (fb_ct (bt d) k)) (nI k) τ := by
  intro r
  induction r with
  | zero =>
    intro k hk n hn
    obtain ⟨n, rfl⟩ : ∃ z, n = z + 1 := ⟨n - 1, by omega⟩
    have hk : k = 32 := by omega
    subst hk
    exact ⟨fun _ => hK, fun c => absurd (by decide) c⟩
  | succ r ih =>
    intro k hk n hn
    obtain ⟨n, rfl⟩ : ∃ z, n = z + 1 := ⟨n - 1, by omega⟩
    have hz := if01 (hd k (by omega))
    have hs := fb_ct_succ (bt d) k
    refine ⟨fun c => absurd c ?_, fun _ => ⟨vp_in_nI (by omega) (by omega), ?_⟩⟩
    · rw [show (32 : Int32) = nI 32 from rfl, nI_leI (by omega) (by omega)]; omega
    rw [nI_clamp (by omega)]
    refine ⟨fun c => ?_, fun c => ?_⟩
    · intro x1 ex1
      intro x2 ex2
      rw [nI_1] at ex2
      subst ex2
      rw [hz.mp c] at hs
      have hs : fb_ct (bt d) (k + 1) = fb_ct (bt d) k := hs
      rw [add0, ← hs] at ex1
      subst ex1
      exact ih (k + 1) (by omega) n (by omega)
    · intro x1 ex1
      intro x2 ex2
      rw [nI_1] at ex2
      subst ex2
      have hb : bt d k = true := by cases h : bt d k; exact absurd (hz.mpr h) c; rfl
      rw [hb] at hs
      have hs : fb_ct (bt d) (k + 1) = fb_ct (bt d) k + 1 := hs
      rw [nI_add1, ← hs] at ex1
      subst ex1
      exact ih (k + 1) (by omega) n (by omega)
theorem w_dead {m : Nat} {σ τ : St} (hR : RelM m σ τ) {K : Int32 → St → Prop} (hK : K (nI (pop (σ.1 0))) τ) : wp_X8_deadMany τ K := ⟨33, w_deadL (fun o ho => (hR.2.1 o ho).1) K hK 32 0 (by omega) 33 (by omega)⟩
/-- unknown bits, from a on, k of them -/
def usum (s : Nat → Int32) (a : Nat) : Nat → Int32
  | 0 => 0
  | k + 1 => usum s a k + nI (pop (s (a + k)))
theorem w_unkC {m : Nat} {σ τ : St} (hR : RelM m σ τ) (K : Int32 → St → Prop) {a N : Nat} (hN : a + N ≤ 40) (hK : K (usum (τ.2.1 1) a N) σ) : ∀ d k, k + d = N → ∀ n, d < n → wl_X4_unknownBits_1_5 K n (nI a) (nI (a + N)) (usum (τ.2.1 1) a k) (nI (a + k)) σ := by
  intro d
  induction d with
  | zero =>
    intro k hk n hn
    obtain ⟨n, rfl⟩ : ∃ z, n = z + 1 := ⟨n - 1, by omega⟩
    have hk : k = N := by omega
    subst hk
    refine ⟨fun _ => hK, fun c => absurd ?_ c⟩
    rw [nI_leI (by omega) (by omega)]
    exact Nat.le_refl _
  | succ d ih =>
    intro k hk n hn
    obtain ⟨n, rfl⟩ : ∃ z, n = z + 1 := ⟨n - 1, by omega⟩
    refine ⟨fun c => absurd c ?_, fun _ => ⟨vp_in_nI (by omega) (by omega), ?_⟩⟩
    · rw [nI_leI (by omega) (by omega)]; omega
    rw [nI_clamp (by omega)]
    unfold wp_X0_shadowOf
    rw [RC_sh (hR.1 (a + k) (by omega))]
    refine w_pop ?_
    intro x1 e1
    intro x2 e2
    rw [nI_1, show a + k + 1 = a + (k + 1) by omega] at e2
    subst e2
    have e1 : x1 = usum (τ.2.1 1) a (k + 1) := e1
    subst e1
    exact ih (k + 1) (by omega) n (by omega)
theorem w_unkM {m : Nat} {σ τ : St} (hR : RelM m σ τ) (K : Int32 → St → Prop) {a N : Nat} (hN : a + N ≤ 40) (hK : K (usum (τ.2.1 1) a N) τ) : ∀ d k, k + d = N → ∀ n, d < n → wl_X8_unknownBits_5 K n (nI a) (nI N) (usum (τ.2.1 1) a k) (nI (a + k)) τ := by
  intro d
  induction d with
  | zero =>
    intro k hk n hn
    obtain ⟨n, rfl⟩ : ∃ z, n = z + 1 := ⟨n - 1, by omega⟩
    have hk : k = N := by omega
    subst hk
    refine ⟨fun _ => hK, fun c => absurd ?_ c⟩
    rw [nI_add, nI_leI (by omega) (by omega)]
    exact Nat.le_refl _
  | succ d ih =>
    intro k hk n hn
    obtain ⟨n, rfl⟩ : ∃ z, n = z + 1 := ⟨n - 1, by omega⟩
    refine ⟨fun c => absurd c ?_, fun _ => ⟨vp_in_nI (by omega) (by omega), ?_⟩⟩
    · rw [nI_add, nI_leI (by omega) (by omega)]; omega
    rw [nI_clamp (by omega)]
    refine w_bits ?_
    rw [pop_B (hR.1 (a + k) (by omega)).2.2.1]
    intro x1 e1
    intro x2 e2
    rw [nI_1, show a + k + 1 = a + (k + 1) by omega] at e2
    subst e2
    have e1 : x1 = usum (τ.2.1 1) a (k + 1) := e1
    subst e1
    exact ih (k + 1) (by omega) n (by omega)
theorem sim_told : Sim_told Rel := by
  intro n σ τ a1 hn hR
  have hR : RelM (64 * n) σ τ := hR
  have hF := Rel_mono _ _ _ hR
  obtain ⟨h1, h2, h3, h4, h5, h6, h7, h8, h9, h10, h11, h12⟩ := id hR
  obtain ⟨c, hc, u1, u2, u3, -⟩ := h4
  obtain ⟨rn, rp, -, -, r1, r2, -⟩ := h5
  obtain ⟨un, up, -, -, v1, v2, -⟩ := h6
  obtain ⟨g, hg, e1, e2, -⟩ := h3
  unfold wp_X7_told wp_X8_told
  refine ⟨fun q => ?_, fun q => ⟨fun q1 => ?_, fun q1 => ⟨fun q2 => ?_, fun q2 => ⟨fun q3 => ?_, fun q3 => ⟨fun q4 => ?_, fun q4 => ⟨fun q5 => ?_, fun q5 => ⟨fun q6 => ?_, fun q6 => ⟨fun q7 => ?_, fun q7 => ⟨fun q8 => ?_, fun q8 => ⟨fun q9 => ?_, fun q9 => ⟨fun q10 => ?_, fun q10 => ⟨fun q11 => ?_, fun q11 => ?_⟩⟩⟩⟩⟩⟩⟩⟩⟩⟩⟩⟩
  · exact ⟨fun _ => ⟨h10, hF⟩, fun z => absurd q z⟩
  · exact ⟨fun z => absurd z q, fun _ => ⟨fun _ => ⟨u1.trans u2.symm, hF⟩, fun z => absurd q1 z⟩⟩
  · exact ⟨fun z => absurd z q, fun _ => ⟨fun z => absurd z q1, fun _ => ⟨fun _ => w_kept hR (by omega) ⟨rfl, hF⟩, fun z => absurd q2 z⟩⟩⟩
  · exact ⟨fun z => absurd z q, fun _ => ⟨fun z => absurd z q1, fun _ => ⟨fun z => absurd z q2, fun _ => ⟨fun _ => ⟨h11, hF⟩, fun z => absurd q3 z⟩⟩⟩⟩
  · exact ⟨fun z => absurd z q, fun _ => ⟨fun z => absurd z q1, fun _ => ⟨fun z => absurd z q2, fun _ => ⟨fun z => absurd z q3, fun _ => ⟨fun _ => ⟨e1.trans e2.symm, hF⟩, fun z => absurd q4 z⟩⟩⟩⟩⟩
  · exact ⟨fun z => absurd z q, fun _ => ⟨fun z => absurd z q1, fun _ => ⟨fun z => absurd z q2, fun _ => ⟨fun z => absurd z q3, fun _ => ⟨fun z => absurd z q4, fun _ => ⟨fun _ => w_letOnes hR ⟨rfl, hF⟩, fun z => absurd q5 z⟩⟩⟩⟩⟩⟩
  · refine w_pop ?_
    exact ⟨fun z => absurd z q, fun _ => ⟨fun z => absurd z q1, fun _ => ⟨fun z => absurd z q2, fun _ => ⟨fun z => absurd z q3, fun _ => ⟨fun z => absurd z q4, fun _ => ⟨fun z => absurd z q5, fun _ => ⟨fun _ => w_dead hR ⟨rfl, hF⟩, fun z => absurd q6 z⟩⟩⟩⟩⟩⟩⟩
  · exact ⟨fun z => absurd z q, fun _ => ⟨fun z => absurd z q1, fun _ => ⟨fun z => absurd z q2, fun _ => ⟨fun z => absurd z q3, fun _ => ⟨fun z => absurd z q4, fun _ => ⟨fun z => absurd z q5, fun _ => ⟨fun z => absurd z q6, fun _ => ⟨fun _ => ⟨r1.trans r2.symm, hF⟩, fun z => absurd q7 z⟩⟩⟩⟩⟩⟩⟩⟩
  · refine ⟨9, w_unkC hR _ (a := 0) (N := 8) (by omega) ?_ 8 0 (by omega) 9 (by omega)⟩
    exact ⟨fun z => absurd z q, fun _ => ⟨fun z => absurd z q1, fun _ => ⟨fun z => absurd z q2, fun _ => ⟨fun z => absurd z q3, fun _ => ⟨fun z => absurd z q4, fun _ => ⟨fun z => absurd z q5, fun _ => ⟨fun z => absurd z q6, fun _ => ⟨fun z => absurd z q7, fun _ => ⟨fun _ => ⟨9, w_unkM hR _ (a := 0) (N := 8) (by omega) ⟨rfl, hF⟩ 8 0 (by omega) 9 (by omega)⟩, fun z => absurd q8 z⟩⟩⟩⟩⟩⟩⟩⟩⟩
  · refine ⟨33, w_unkC hR _ (a := 8) (N := 32) (by omega) ?_ 32 0 (by omega) 33 (by omega)⟩
    exact ⟨fun z => absurd z q, fun _ => ⟨fun z => absurd z q1, fun _ => ⟨fun z => absurd z q2, fun _ => ⟨fun z => absurd z q3, fun _ => ⟨fun z => absurd z q4, fun _ => ⟨fun z => absurd z q5, fun _ => ⟨fun z => absurd z q6, fun _ => ⟨fun z => absurd z q7, fun _ => ⟨fun z => absurd z q8, fun _ => ⟨fun _ => ⟨33, w_unkM hR _ (a := 8) (N := 32) (by omega) ⟨rfl, hF⟩ 32 0 (by omega) 33 (by omega)⟩, fun z => absurd q9 z⟩⟩⟩⟩⟩⟩⟩⟩⟩⟩
  · exact ⟨fun z => absurd z q, fun _ => ⟨fun z => absurd z q1, fun _ => ⟨fun z => absurd z q2, fun _ => ⟨fun z => absurd z q3, fun _ => ⟨fun z => absurd z q4, fun _ => ⟨fun z => absurd z q5, fun _ => ⟨fun z => absurd z q6, fun _ => ⟨fun z => absurd z q7, fun _ => ⟨fun z => absurd z q8, fun _ => ⟨fun z => absurd z q9, fun _ => ⟨fun _ => ⟨h9.1, hF⟩, fun z => absurd q10 z⟩⟩⟩⟩⟩⟩⟩⟩⟩⟩⟩
  · exact ⟨fun z => absurd z q, fun _ => ⟨fun z => absurd z q1, fun _ => ⟨fun z => absurd z q2, fun _ => ⟨fun z => absurd z q3, fun _ => ⟨fun z => absurd z q4, fun _ => ⟨fun z => absurd z q5, fun _ => ⟨fun z => absurd z q6, fun _ => ⟨fun z => absurd z q7, fun _ => ⟨fun z => absurd z q8, fun _ => ⟨fun z => absurd z q9, fun _ => ⟨fun z => absurd z q10, fun _ => ⟨fun _ => ⟨v1.trans v2.symm, hF⟩, fun z => absurd q11 z⟩⟩⟩⟩⟩⟩⟩⟩⟩⟩⟩⟩
  · exact ⟨fun z => absurd z q, fun _ => ⟨fun z => absurd z q1, fun _ => ⟨fun z => absurd z q2, fun _ => ⟨fun z => absurd z q3, fun _ => ⟨fun z => absurd z q4, fun _ => ⟨fun z => absurd z q5, fun _ => ⟨fun z => absurd z q6, fun _ => ⟨fun z => absurd z q7, fun _ => ⟨fun z => absurd z q8, fun _ => ⟨fun z => absurd z q9, fun _ => ⟨fun z => absurd z q10, fun _ => ⟨fun z => absurd z q11, fun _ => ⟨rfl, hF⟩⟩⟩⟩⟩⟩⟩⟩⟩⟩⟩⟩⟩
