def cTick (σ : St) (k a : Int32) : St := sI (sL (sI (sI (sA (sA (sA σ 9 (upd (σ.2.1 9) (σ.1 8).toNatClampNeg k)) 10 (upd (σ.2.1 10) (σ.1 8).toNatClampNeg (σ.1 13))) 11 (upd (σ.2.1 11) (σ.1 8).toNatClampNeg a)) 8 ((σ.1 8 + (1 : Int32)) &&& (15 : Int32))) 7 (if (16 : Int32) < σ.1 7 + (1 : Int32) then (16 : Int32) else σ.1 7 + (1 : Int32))) ((31 : Int64) * σ.2.2 + a.toInt64)) 13 (σ.1 13 + (1 : Int32))
theorem w_cTick {σ : St} {k a : Int32} {K : Int32 → St → Prop} (h : vp_in (σ.1 8) 16) (hK : K a (cTick σ k a)) : wp_X7_tick σ k a K := by
  unfold wp_X7_tick wp_X5_add_15
  refine ⟨h, ?_⟩
  intro σ1 e1; subst e1
  refine ⟨h, ?_⟩
  intro σ2 e2; subst e2
  refine ⟨h, ?_⟩
  intro σ3 e3; subst e3
  intro σ4 e4; subst e4
  intro σ5 e5; subst e5
  intro σ6 e6; subst e6
  intro σ7 e7; subst e7
  exact hK
def mSh : Nat → St → St
  | 0, τ => τ
  | k + 1, τ => mSh k (sA (sA (sA τ 11 (upd (τ.2.1 11) (k + 1) (τ.2.1 11 k))) 12 (upd (τ.2.1 12) (k + 1) (τ.2.1 12 k))) 13 (upd (τ.2.1 13) (k + 1) (τ.2.1 13 k)))
theorem mSh_1 : ∀ (k : Nat) (τ : St), (mSh k τ).1 = τ.1
  | 0, _ => rfl
  | k + 1, τ => mSh_1 k _
theorem mSh_3 : ∀ (k : Nat) (τ : St), (mSh k τ).2.2 = τ.2.2
  | 0, _ => rfl
  | k + 1, τ => mSh_3 k _
theorem mSh_2 : ∀ (k : Nat) (τ : St) (j : Nat), j ≠ 11 → j ≠ 12 → j ≠ 13 → (mSh k τ).2.1 j = τ.2.1 j
  | 0, _, _, _, _, _ => rfl
  | k + 1, τ, j, h1, h2, h3 => by
    show (mSh k _).2.1 j = _
    rw [mSh_2 k _ j h1 h2 h3, sA_2, if_neg h3, sA_2, if_neg h2, sA_2, if_neg h1]
theorem mSh_q {q : Nat} (hq : q = 11 ∨ q = 12 ∨ q = 13) : ∀ (k : Nat) (τ : St) (j : Nat), (mSh k τ).2.1 q j = if 1 ≤ j ∧ j ≤ k then τ.2.1 q (j - 1) else τ.2.1 q j
  | 0, τ, j => by rw [if_neg (by omega)]; rfl
  | k + 1, τ, j => by
    show (mSh k _).2.1 q j = _
    rw [mSh_q hq k _ j]
    have e : ∀ i, (sA (sA (sA τ 11 (upd (τ.2.1 11) (k + 1) (τ.2.1 11 k))) 12 (upd (τ.2.1 12) (k + 1) (τ.2.1 12 k))) 13 (upd (τ.2.1 13) (k + 1) (τ.2.1 13 k))).2.1 q i = upd (τ.2.1 q) (k + 1) (τ.2.1 q k) i := by
      intro i
      rcases hq with rfl | rfl | rfl <;> rfl
    rw [e, e]
    by_cases h1 : 1 ≤ j ∧ j ≤ k
    · rw [if_pos h1, if_pos (by omega), upd_ne (by omega)]
    · rw [if_neg h1]
      by_cases h2 : j = k + 1
      · subst h2
        rw [if_pos (by omega), upd_same]; rfl
      · rw [if_neg (by omega), upd_ne h2]
def mTE (τ : St) (k a : Int32) : St := sI (sL (sI (sA (sA (sA τ 11 (upd (τ.2.1 11) 0 k)) 12 (upd (τ.2.1 12) 0 (τ.1 2))) 13 (upd (τ.2.1 13) 0 a)) 5 (if (16 : Int32) ≤ τ.1 5 then τ.1 5 + (0 : Int32) else τ.1 5 + (1 : Int32))) ((31 : Int64) * τ.2.2 + a.toInt64)) 2 (τ.1 2 + (1 : Int32))
theorem nI_sub1 {k : Nat} (h : 0 < k) : nI k - (1 : Int32) = nI (k - 1) := by
  have e := nI_pred (k - 1)
  rwa [show k - 1 + 1 = k by omega] at e
theorem vp_0 {n : Nat} (h : 0 < n) : vp_in (0 : Int32) n := by
  intro c
  rcases c with c | c
  · exact absurd c (by decide)
  · have e : (0 : Int32).toNatClampNeg = 0 := by decide
    omega
theorem w_mTickL (K : Int32 → St → Prop) (v1 v2 : Int32) : ∀ k, k ≤ 15 → ∀ n, k < n → ∀ τ : St, K v2 (mTE (mSh k τ) v1 v2) → wl_X8_tick_3 K n v1 v2 (nI k) τ := by
  intro k
  induction k with
  | zero =>
    intro _ n hn τ hK
    obtain ⟨n, rfl⟩ : ∃ z, n = z + 1 := ⟨n - 1, by omega⟩
    have z0 : (0 : Int32).toNatClampNeg = 0 := by decide
    refine ⟨fun _ => ⟨vp_0 (by omega), ?_⟩, fun c => absurd (by decide) c⟩
    rw [z0]
    intro σ1 e1; subst e1
    refine ⟨vp_0 (by omega), ?_⟩
    intro σ2 e2; subst e2
    refine ⟨vp_0 (by omega), ?_⟩
    intro σ3 e3; subst e3
    unfold mTE at hK
    refine ⟨fun c => ?_, fun c => ?_⟩
    · have c : (16 : Int32) ≤ τ.1 5 := c
      have hK : K v2 _ := hK
      rw [show (mSh 0 τ) = τ from rfl, if_pos c] at hK
      intro σ4 e4; subst e4
      intro σ5 e5; subst e5
      intro σ6 e6; subst e6
      exact hK
    · have c : ¬ (16 : Int32) ≤ τ.1 5 := c
      rw [show (mSh 0 τ) = τ from rfl, if_neg c] at hK
      intro σ4 e4; subst e4
      intro σ5 e5; subst e5
      intro σ6 e6; subst e6
      exact hK
  | succ k ih =>
    intro hk n hn τ hK
    obtain ⟨n, rfl⟩ : ∃ z, n = z + 1 := ⟨n - 1, by omega⟩
    have e1 : nI (k + 1) - (1 : Int32) = nI k := nI_sub1 (by omega)
    have e2 : nI (k + 1) + (-1) = nI k := pk_m1 k
    have v1' : vp_in (nI k) 16 := vp_in_nI (by omega) (by omega)
    have v2' : vp_in (nI (k + 1)) 16 := vp_in_nI (by omega) (by omega)
    refine ⟨fun c => absurd c ?_, fun c => ?_⟩
    · rw [← nI_0, nI_leI (by omega) (by omega)]; omega
    rw [e1, e2]
    refine ⟨v1', v2', ?_⟩
    intro σ1 e1; subst e1
    refine ⟨v1', v2', ?_⟩
    intro σ2 e2; subst e2
    refine ⟨v1', v2', ?_⟩
    intro σ3 e3; subst e3
    intro x ex; subst ex
    apply ih (by omega) n (by omega)
    rw [nI_clamp (by omega), nI_clamp (by omega)]
    exact hK
theorem w_mTick {τ : St} {k a : Int32} {K : Int32 → St → Prop} (hK : K a (mTE (mSh 15 τ) k a)) : wp_X8_tick τ k a K := ⟨16, w_mTickL K k a 15 (by omega) 16 (by omega) τ hK⟩
theorem and_mask (n k : Nat) {m : Int32} (hm : m.toBitVec.toNat = 2 ^ k - 1) (h : n < 2 ^ 31) : nI n &&& m = nI (n % 2 ^ k) := pk_andN (by omega) k hm
theorem Rr_step {cn nx : Int32} {a b c : Nat → Int32} {rg : Int32} {a2 b2 c2 a3 b3 c3 : Nat → Int32} (h : Rr cn nx a b c rg a2 b2 c2) (x y z : Int32)
    (ha0 : a3 0 = x) (hb0 : b3 0 = y) (hc0 : c3 0 = z) (ha : ∀ i, i < 15 → a3 (i + 1) = a2 i) (hb : ∀ i, i < 15 → b3 (i + 1) = b2 i) (hc : ∀ i, i < 15 → c3 (i + 1) = c2 i) :
    Rr (if (16 : Int32) < cn + (1 : Int32) then (16 : Int32) else cn + (1 : Int32)) ((nx + (1 : Int32)) &&& (15 : Int32)) (upd a nx.toNatClampNeg x) (upd b nx.toNatClampNeg y) (upd c nx.toNatClampNeg z) (if (16 : Int32) ≤ rg then rg + (0 : Int32) else rg + (1 : Int32)) a3 b3 c3 := by
  obtain ⟨n, p, hn, hp, rfl, rfl, rfl, h⟩ := h
  have e16 : (16 : Int32) = nI 16 := rfl
  rw [nI_clamp (by omega), nI_add1, nI_add1, and_mask (p + 1) 4 (by decide) (by omega)]
  have ec : (if (16 : Int32) < nI (n + 1) then (16 : Int32) else nI (n + 1)) = nI (min (n + 1) 16) := by
    rw [e16]
    by_cases q : nI 16 < nI (n + 1)
    · rw [if_pos q]; rw [nI_ltI (by omega) (by omega)] at q; congr 1; omega
    · rw [if_neg q]; rw [nI_ltI (by omega) (by omega)] at q; congr 1; omega
  have er : (if (16 : Int32) ≤ nI n then nI n + (0 : Int32) else nI (n + 1)) = nI (min (n + 1) 16) := by
    rw [e16]
    by_cases q : nI 16 ≤ nI n
    · rw [if_pos q]; rw [nI_leI (by omega) (by omega)] at q
      rw [show (0 : Int32) = nI 0 from rfl, nI_add]; congr 1; omega
    · rw [if_neg q]; rw [nI_leI (by omega) (by omega)] at q; congr 1; omega
  rw [ec, er]
  refine ⟨min (n + 1) 16, (p + 1) % 16, by omega, by omega, rfl, rfl, rfl, ?_⟩
  intro i hi
  by_cases q : i = 0
  · subst q
    rw [show ((p + 1) % 16 + 15 - 0) % 16 = p by omega, upd_same, upd_same, upd_same]
    exact ⟨ha0.symm, hb0.symm, hc0.symm⟩
  · obtain ⟨i, rfl⟩ : ∃ z, i = z + 1 := ⟨i - 1, by omega⟩
    have e : ((p + 1) % 16 + 15 - (i + 1)) % 16 = (p + 15 - i) % 16 := by omega
    rw [e, upd_ne (by omega), upd_ne (by omega), upd_ne (by omega), ha i (by omega), hb i (by omega), hc i (by omega)]
    exact h i (by omega)
theorem R_tickA {m : Nat} {σ τ ρ : St} (hR : RelM m σ τ) (k a : Int32) (f1 : ρ.1 = τ.1) (f2 : ∀ j, j ≠ 11 → j ≠ 12 → j ≠ 13 → ρ.2.1 j = τ.2.1 j) (f3 : ρ.2.2 = τ.2.2) (fq : ∀ q, (q = 11 ∨ q = 12 ∨ q = 13) → ∀ j, ρ.2.1 q j = if 1 ≤ j ∧ j ≤ 15 then τ.2.1 q (j - 1) else τ.2.1 q j) : RelM m (cTick σ k a) (mTE ρ k a) := by
  obtain ⟨h1, h2, h3, h4, h5, h6, h7, h8, h9, h10, h11, h12⟩ := hR
  refine ⟨?_, ?_, ?_, ?_, ?_, ?_, ?_, ?_, ?_, ?_, ?_, ?_⟩
  · show Rc (σ.2.1 0) (ρ.2.1 0) (ρ.2.1 1) (ρ.2.1 2)
    rw [f2 0 (by decide) (by decide) (by decide), f2 1 (by decide) (by decide) (by decide), f2 2 (by decide) (by decide) (by decide)]; exact h1
  · show Rd (σ.1 0) (σ.2.1 5) (ρ.2.1 3)
    rw [f2 3 (by decide) (by decide) (by decide)]; exact h2
  · show Rg (σ.1 3) (σ.1 4) (σ.2.1 3) (σ.2.1 4) (σ.2.1 5) (ρ.1 0) (ρ.2.1 4) (ρ.2.1 5) (ρ.2.1 6) (ρ.2.1 7)
    rw [f1, f2 4 (by decide) (by decide) (by decide), f2 5 (by decide) (by decide) (by decide), f2 6 (by decide) (by decide) (by decide), f2 7 (by decide) (by decide) (by decide)]; exact h3
  · show Ry m (σ.1 5) (σ.1 6) (σ.2.1 6) (σ.2.1 7) (σ.2.1 8) (ρ.1 3) (ρ.2.1 8) (ρ.2.1 9) (ρ.2.1 10)
    rw [f1, f2 8 (by decide) (by decide) (by decide), f2 9 (by decide) (by decide) (by decide), f2 10 (by decide) (by decide) (by decide)]; exact h4
  · show Rr (if (16 : Int32) < σ.1 7 + (1 : Int32) then (16 : Int32) else σ.1 7 + (1 : Int32)) ((σ.1 8 + (1 : Int32)) &&& (15 : Int32)) (upd (σ.2.1 9) (σ.1 8).toNatClampNeg k) (upd (σ.2.1 10) (σ.1 8).toNatClampNeg (σ.1 13)) (upd (σ.2.1 11) (σ.1 8).toNatClampNeg a) (if (16 : Int32) ≤ ρ.1 5 then ρ.1 5 + (0 : Int32) else ρ.1 5 + (1 : Int32)) (upd (ρ.2.1 11) 0 k) (upd (ρ.2.1 12) 0 (ρ.1 2)) (upd (ρ.2.1 13) 0 a)
    rw [f1]
    refine Rr_step h5 k (σ.1 13) a upd_same (by rw [upd_same, h10]) upd_same ?_ ?_ ?_
    · intro i hi
      rw [upd_ne (by omega), fq 11 (by decide), if_pos (by omega)]; rfl
    · intro i hi
      rw [upd_ne (by omega), fq 12 (by decide), if_pos (by omega)]; rfl
    · intro i hi
      rw [upd_ne (by omega), fq 13 (by decide), if_pos (by omega)]; rfl
  · show Ru (σ.1 9) (σ.1 10) (σ.2.1 12) (σ.2.1 13) (ρ.1 6) (ρ.2.1 14) (ρ.2.1 15) (ρ.2.1 16) (ρ.2.1 17)
    rw [f1, f2 14 (by decide) (by decide) (by decide), f2 15 (by decide) (by decide) (by decide), f2 16 (by decide) (by decide) (by decide), f2 17 (by decide) (by decide) (by decide)]; exact h6
  · show Ri 0 (σ.1 11) (σ.1 1) (σ.2.1 1) (σ.2.1 5) (ρ.2.1 18) (ρ.2.1 19)
    rw [f2 18 (by decide) (by decide) (by decide), f2 19 (by decide) (by decide) (by decide)]; exact h7
  · show Ri 1 (σ.1 11) (σ.1 2) (σ.2.1 2) (σ.2.1 5) (ρ.2.1 18) (ρ.2.1 19)
    rw [f2 18 (by decide) (by decide) (by decide), f2 19 (by decide) (by decide) (by decide)]; exact h8
  · show Rs (σ.1 12) (ρ.1 1)
    rw [f1]; exact h9
  · show σ.1 13 + 1 = ρ.1 2 + 1
    rw [f1, h10]
  · show σ.1 14 = ρ.1 4
    rw [f1]; exact h11
  · show (31 : Int64) * σ.2.2 + a.toInt64 = (31 : Int64) * ρ.2.2 + a.toInt64
    rw [f3, h12]
theorem R_tick {m : Nat} {σ τ : St} (hR : RelM m σ τ) (k a : Int32) : RelM m (cTick σ k a) (mTE (mSh 15 τ) k a) := R_tickA hR k a (mSh_1 15 τ) (mSh_2 15 τ) (mSh_3 15 τ) (fun _ hq j => mSh_q hq 15 τ j)
theorem Rr_vp {m : Nat} {σ τ : St} (hR : RelM m σ τ) : vp_in (σ.1 8) 16 := by
  obtain ⟨h1, h2, h3, h4, ⟨n, p, hn, hp, e1, e2, e3, h⟩, -⟩ := hR
  rw [e3]; exact vp_in_nI (by omega) (by omega)
