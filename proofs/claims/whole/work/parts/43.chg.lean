def cAdd (σ : St) (p x : Int32) : St := sI (sI (sA (sA σ 12 (upd (σ.2.1 12) (σ.1 10).toNatClampNeg p)) 13 (upd (σ.2.1 13) (σ.1 10).toNatClampNeg x)) 10 ((σ.1 10 + (1 : Int32)) &&& (31 : Int32))) 9 (if (32 : Int32) < σ.1 9 + (1 : Int32) then (32 : Int32) else σ.1 9 + (1 : Int32))
def cChg (σ : St) (p x : Int32) : St := sA (cAdd σ p (σ.2.1 0 p.toNatClampNeg)) 0 (upd (σ.2.1 0) p.toNatClampNeg x)
theorem w_cAdd {σ : St} {p x : Int32} {K : St → Prop} (h : vp_in (σ.1 10) 32) (hK : K (cAdd σ p x)) : wp_X1_add_19 σ p x K := by
  unfold wp_X1_add_19
  refine ⟨h, ?_⟩
  intro σ1 e1; subst e1
  refine ⟨h, ?_⟩
  intro σ2 e2; subst e2
  intro σ3 e3; subst e3
  intro σ4 e4; subst e4
  exact hK
theorem w_cChg {σ : St} {p x : Int32} {K : St → Prop} (h : vp_in (σ.1 10) 32) (hp : vp_in p 40) (hK : K (cChg σ p x)) : wp_X7_changeRegister σ p x K := by
  unfold wp_X7_changeRegister
  refine ⟨hp, w_cAdd h ⟨hp, ?_⟩⟩
  intro σ1 e1; subst e1
  exact hK
/-- changeOctet: the cell, and the OCTET is no more DEAD -/
theorem w_cChgO {σ : St} {o x : Int32} {K : St → Prop} (h : vp_in (σ.1 10) 32) (hp : vp_in ((8 : Int32) + o) 40) (hK : K (sI (cChg σ ((8 : Int32) + o) x) 0 (σ.1 0 &&& (oset o 1 ^^^ (-1 : Int32))))) : wp_X7_changeOctet σ o x K := by
  unfold wp_X7_changeOctet
  refine ⟨hp, w_cAdd h ⟨hp, ?_⟩⟩
  intro σ1 e1; subst e1
  unfold wp_X7_octetSet
  intro σ2 e2; subst e2
  exact hK
def mPush (τ : St) (k : Int32) : St := sI (sA (sA (sA (sA τ 14 (upd (τ.2.1 14) (τ.1 6).toNatClampNeg k)) 15 (upd (τ.2.1 15) (τ.1 6).toNatClampNeg (τ.2.1 0 k.toNatClampNeg))) 16 (upd (τ.2.1 16) (τ.1 6).toNatClampNeg (τ.2.1 1 k.toNatClampNeg))) 17 (upd (τ.2.1 17) (τ.1 6).toNatClampNeg (τ.2.1 2 k.toNatClampNeg))) 6 (τ.1 6 + (1 : Int32))
def mDn : Nat → Nat → St → St
  | 0, _, τ => τ
  | k + 1, i, τ => mDn k (i + 1) (sA (sA (sA (sA τ 14 (upd (τ.2.1 14) (i - 1) (τ.2.1 14 i))) 15 (upd (τ.2.1 15) (i - 1) (τ.2.1 15 i))) 16 (upd (τ.2.1 16) (i - 1) (τ.2.1 16 i))) 17 (upd (τ.2.1 17) (i - 1) (τ.2.1 17 i)))
theorem mDn_1 : ∀ (k i : Nat) (τ : St), (mDn k i τ).1 = τ.1
  | 0, _, _ => rfl
  | k + 1, i, τ => mDn_1 k (i + 1) _
theorem mDn_3 : ∀ (k i : Nat) (τ : St), (mDn k i τ).2.2 = τ.2.2
  | 0, _, _ => rfl
  | k + 1, i, τ => mDn_3 k (i + 1) _
theorem mDn_2 : ∀ (k i : Nat) (τ : St) (j : Nat), j ≠ 14 → j ≠ 15 → j ≠ 16 → j ≠ 17 → (mDn k i τ).2.1 j = τ.2.1 j
  | 0, _, _, _, _, _, _, _ => rfl
  | k + 1, i, τ, j, h1, h2, h3, h4 => by
    show (mDn k (i + 1) _).2.1 j = _
    rw [mDn_2 k (i + 1) _ j h1 h2 h3 h4, sA_2, if_neg h4, sA_2, if_neg h3, sA_2, if_neg h2, sA_2, if_neg h1]
theorem mDn_q {q : Nat} (hq : q = 14 ∨ q = 15 ∨ q = 16 ∨ q = 17) : ∀ (k i : Nat) (τ : St) (j : Nat), 1 ≤ i → (mDn k i τ).2.1 q j = if i - 1 ≤ j ∧ j < i - 1 + k then τ.2.1 q (j + 1) else τ.2.1 q j
  | 0, i, τ, j, _ => by rw [if_neg (by omega)]; rfl
  | k + 1, i, τ, j, hi => by
    show (mDn k (i + 1) _).2.1 q j = _
    rw [mDn_q hq k (i + 1) _ j (by omega)]
    have e : ∀ z, (sA (sA (sA (sA τ 14 (upd (τ.2.1 14) (i - 1) (τ.2.1 14 i))) 15 (upd (τ.2.1 15) (i - 1) (τ.2.1 15 i))) 16 (upd (τ.2.1 16) (i - 1) (τ.2.1 16 i))) 17 (upd (τ.2.1 17) (i - 1) (τ.2.1 17 i))).2.1 q z = upd (τ.2.1 q) (i - 1) (τ.2.1 q i) z := by
      intro z
      rcases hq with rfl | rfl | rfl | rfl <;> rfl
    rw [e, e]
    by_cases h1 : i + 1 - 1 ≤ j ∧ j < i + 1 - 1 + k
    · rw [if_pos h1, if_pos (by omega), upd_ne (by omega)]
    · rw [if_neg h1]
      by_cases h2 : j = i - 1
      · subst h2
        rw [if_pos (by omega), upd_same, show i - 1 + 1 = i by omega]
      · rw [if_neg (by omega), upd_ne h2]
theorem w_mPush {τ : St} {k : Int32} {K : St → Prop} (h : vp_in (τ.1 6) 32) (hk : vp_in k 40) (hK : K (mPush τ k)) : vp_in (τ.1 6) 32 ∧ ∀ σ1 : St, σ1 = sA τ 14 (upd (τ.2.1 14) (τ.1 6).toNatClampNeg k) → vp_in k 40 ∧ vp_in (σ1.1 6) 32 ∧ ∀ σ2 : St, σ2 = sA σ1 15 (upd (σ1.2.1 15) (σ1.1 6).toNatClampNeg (σ1.2.1 0 k.toNatClampNeg)) → vp_in k 40 ∧ vp_in (σ2.1 6) 32 ∧ ∀ σ3 : St, σ3 = sA σ2 16 (upd (σ2.2.1 16) (σ2.1 6).toNatClampNeg (σ2.2.1 1 k.toNatClampNeg)) → vp_in k 40 ∧ vp_in (σ3.1 6) 32 ∧ ∀ σ4 : St, σ4 = sA σ3 17 (upd (σ3.2.1 17) (σ3.1 6).toNatClampNeg (σ3.2.1 2 k.toNatClampNeg)) → ∀ σ5 : St, σ5 = sI σ4 6 ((σ4.1 6) + (1 : Int32)) → K σ5 := by
  refine ⟨h, ?_⟩
  intro σ1 e1; subst e1
  refine ⟨hk, h, ?_⟩
  intro σ2 e2; subst e2
  refine ⟨hk, h, ?_⟩
  intro σ3 e3; subst e3
  refine ⟨hk, h, ?_⟩
  intro σ4 e4; subst e4
  intro σ5 e5; subst e5
  exact hK
theorem w_mRemL (K : St → Prop) (k : Int32) (hk : vp_in k 40) : ∀ d i, i + d = 32 → 1 ≤ i → ∀ n, d < n → ∀ τ : St, τ.1 6 = nI 32 → K (mPush (sI (mDn d i τ) 6 (nI 31)) k) → wl_X8_remember_11 K n k (nI i) τ := by
  intro d
  induction d with
  | zero =>
    intro i hi h1 n hn τ hu hK
    obtain ⟨n, rfl⟩ : ∃ z, n = z + 1 := ⟨n - 1, by omega⟩
    have hi : i = 32 := by omega
    subst hi
    refine ⟨fun _ => ?_, fun c => absurd (by decide) c⟩
    intro σ1 e1
    have e1 : σ1 = sI τ 6 (nI 31) := by rw [e1, hu]; rfl
    subst e1
    exact w_mPush (τ := sI τ 6 (nI 31)) (vp_in_nI (by omega) (by omega)) hk hK
  | succ d ih =>
    intro i hi h1 n hn τ hu hK
    obtain ⟨n, rfl⟩ : ∃ z, n = z + 1 := ⟨n - 1, by omega⟩
    have e1 : nI i - (1 : Int32) = nI (i - 1) := nI_sub1 (by omega)
    have a1 : vp_in (nI i) 32 := vp_in_nI (by omega) (by omega)
    have a2 : vp_in (nI (i - 1)) 32 := vp_in_nI (by omega) (by omega)
    refine ⟨fun c => absurd c ?_, fun c => ?_⟩
    · rw [show (32 : Int32) = nI 32 from rfl, nI_leI (by omega) (by omega)]; omega
    rw [e1, nI_1]
    refine ⟨a1, a2, ?_⟩
    intro σ1 e1; subst e1
    refine ⟨a1, a2, ?_⟩
    intro σ2 e2; subst e2
    refine ⟨a1, a2, ?_⟩
    intro σ3 e3; subst e3
    refine ⟨a1, a2, ?_⟩
    intro σ4 e4; subst e4
    intro x ex; subst ex
    rw [nI_clamp (by omega), nI_clamp (by omega)]
    exact ih (i + 1) (by omega) (by omega) n (by omega) _ hu hK
def mRem (τ : St) (k : Int32) : St := if τ.1 6 = (32 : Int32) then mPush (sI (mDn 31 1 τ) 6 (nI 31)) k else mPush τ k
theorem w_mRem {τ : St} {k : Int32} {K : St → Prop} (h : ¬ τ.1 6 = (32 : Int32) → vp_in (τ.1 6) 32) (hk : vp_in k 40) (hK : K (mRem τ k)) : wp_X8_remember τ k K := by
  unfold wp_X8_remember
  unfold mRem at hK
  refine ⟨fun c => ?_, fun c => ⟨32, ?_⟩⟩
  · rw [if_neg c] at hK
    exact w_mPush (h c) hk hK
  · rw [if_pos c] at hK
    exact w_mRemL K k hk 31 1 (by omega) (by omega) 32 (by omega) τ c hK
def mBec (τ : St) (k v s f : Int32) : St := sA (sA (sA (mRem τ k) 0 (upd ((mRem τ k).2.1 0) k.toNatClampNeg v)) 1 (upd ((mRem τ k).2.1 1) k.toNatClampNeg s)) 2 (upd ((mRem τ k).2.1 2) k.toNatClampNeg (if s = 0 then 0 else f))
theorem w_mBec {τ : St} {k v s f : Int32} {K : Int32 → St → Prop} (h : ¬ τ.1 6 = (32 : Int32) → vp_in (τ.1 6) 32) (hk : vp_in k 40) (hK : K s (mBec τ k v s f)) : wp_X8_become τ k v s f K := by
  unfold wp_X8_become
  unfold mBec at hK
  refine w_mRem h hk ⟨hk, ?_⟩
  generalize mRem τ k = ρ at hK ⊢
  intro σ1 e1; subst e1
  refine ⟨hk, ?_⟩
  intro σ2 e2; subst e2
  refine ⟨fun c => ⟨hk, ?_⟩, fun c => ⟨hk, ?_⟩⟩
  · intro σ3 e3; subst e3
    rw [if_neg c] at hK
    exact hK
  · intro σ3 e3; subst e3
    rw [if_pos c] at hK
    exact hK
/-- the undo rows, by one more -/
theorem Ru_step {cn nx : Int32} {pl be : Nat → Int32} {un : Int32} {po pv ps pf po2 pv2 ps2 pf2 : Nat → Int32} (h : Ru cn nx pl be un po pv ps pf) {k : Nat} (hk : k < 40) {x v s f un2 : Int32} (hx : RC x v s f)
    (hm : ∃ n, un = nI n ∧ n ≤ 32 ∧ un2 = nI (min (n + 1) 32) ∧ ((n < 32 ∧ po2 = upd po n (nI k) ∧ pv2 = upd pv n v ∧ ps2 = upd ps n s ∧ pf2 = upd pf n f) ∨ (n = 32 ∧ (po2 31 = nI k ∧ pv2 31 = v ∧ ps2 31 = s ∧ pf2 31 = f) ∧ ∀ j, j < 31 → po2 j = po (j + 1) ∧ pv2 j = pv (j + 1) ∧ ps2 j = ps (j + 1) ∧ pf2 j = pf (j + 1)))) :
    Ru (if (32 : Int32) < cn + (1 : Int32) then (32 : Int32) else cn + (1 : Int32)) ((nx + (1 : Int32)) &&& (31 : Int32)) (upd pl nx.toNatClampNeg (nI k)) (upd be nx.toNatClampNeg x) un2 po2 pv2 ps2 pf2 := by
  obtain ⟨n, p, hn, hp, rfl, rfl, rfl, h⟩ := h
  obtain ⟨n', e0, hn', rfl, hm⟩ := hm
  rw [nI_eq (by omega) (by omega)] at e0
  subst e0
  rw [nI_clamp (by omega), nI_add1, nI_add1, and_mask (p + 1) 5 (by decide) (by omega)]
  have ec : (if (32 : Int32) < nI (n + 1) then (32 : Int32) else nI (n + 1)) = nI (min (n + 1) 32) := by
    rw [show (32 : Int32) = nI 32 from rfl]
    by_cases q : nI 32 < nI (n + 1)
    · rw [if_pos q]; rw [nI_ltI (by omega) (by omega)] at q; congr 1; omega
    · rw [if_neg q]; rw [nI_ltI (by omega) (by omega)] at q; congr 1; omega
  rw [ec]
  refine ⟨min (n + 1) 32, (p + 1) % 32, by omega, by omega, rfl, rfl, rfl, ?_⟩
  intro i hi
  by_cases q : i = 0
  · subst q
    rw [show ((p + 1) % 32 + 31 - 0) % 32 = p by omega, upd_same, upd_same]
    rcases hm with ⟨hl, rfl, rfl, rfl, rfl⟩ | ⟨rfl, ⟨e1, e2, e3, e4⟩, -⟩
    · rw [show min (n + 1) 32 - 1 - 0 = n by omega, upd_same, upd_same, upd_same, upd_same]
      exact ⟨rfl, ⟨k, hk, rfl⟩, hx⟩
    · rw [show min (32 + 1) 32 - 1 - 0 = 31 from rfl, e1, e2, e3, e4]
      exact ⟨rfl, ⟨k, hk, rfl⟩, hx⟩
  · obtain ⟨i, rfl⟩ : ∃ z, i = z + 1 := ⟨i - 1, by omega⟩
    have e : ((p + 1) % 32 + 31 - (i + 1)) % 32 = (p + 31 - i) % 32 := by omega
    rw [e, upd_ne (by omega), upd_ne (by omega)]
    rcases hm with ⟨hl, rfl, rfl, rfl, rfl⟩ | ⟨rfl, -, e1⟩
    · rw [show min (n + 1) 32 - 1 - (i + 1) = n - 1 - i by omega, upd_ne (by omega), upd_ne (by omega), upd_ne (by omega), upd_ne (by omega)]
      exact h i (by omega)
    · obtain ⟨a1, a2, a3, a4⟩ := e1 (min (32 + 1) 32 - 1 - (i + 1)) (by omega)
      rw [a1, a2, a3, a4, show min (32 + 1) 32 - 1 - (i + 1) + 1 = 32 - 1 - i by omega]
      exact h i (by omega)
theorem Rc_upd {c v s f : Nat → Int32} (h : Rc c v s f) {k : Nat} {x a b d : Int32} (hx : RC x a b d) : Rc (upd c k x) (upd v k a) (upd s k b) (upd f k d) := by
  intro j hj
  by_cases e : j = k
  · subst e
    rw [upd_same, upd_same, upd_same, upd_same]
    exact hx
  · rw [upd_ne e, upd_ne e, upd_ne e, upd_ne e]
    exact h j hj
theorem R_chgA {m : Nat} {σ τ ρ : St} (hR : RelM m σ τ) {k : Nat} (hk : k < 40) {x v s f : Int32} (hx : RC x v s f)
    (f1 : ∀ j, j ≠ 6 → ρ.1 j = τ.1 j) (f2 : ∀ j, j ≠ 14 → j ≠ 15 → j ≠ 16 → j ≠ 17 → ρ.2.1 j = τ.2.1 j) (f3 : ρ.2.2 = τ.2.2)
    (hm : ∃ n, τ.1 6 = nI n ∧ n ≤ 32 ∧ ρ.1 6 = nI (min (n + 1) 32) ∧ ((n < 32 ∧ ρ.2.1 14 = upd (τ.2.1 14) n (nI k) ∧ ρ.2.1 15 = upd (τ.2.1 15) n (τ.2.1 0 k) ∧ ρ.2.1 16 = upd (τ.2.1 16) n (τ.2.1 1 k) ∧ ρ.2.1 17 = upd (τ.2.1 17) n (τ.2.1 2 k)) ∨ (n = 32 ∧ (ρ.2.1 14 31 = nI k ∧ ρ.2.1 15 31 = τ.2.1 0 k ∧ ρ.2.1 16 31 = τ.2.1 1 k ∧ ρ.2.1 17 31 = τ.2.1 2 k) ∧ ∀ j, j < 31 → ρ.2.1 14 j = τ.2.1 14 (j + 1) ∧ ρ.2.1 15 j = τ.2.1 15 (j + 1) ∧ ρ.2.1 16 j = τ.2.1 16 (j + 1) ∧ ρ.2.1 17 j = τ.2.1 17 (j + 1)))) :
    RelM m (cChg σ (nI k) x) (sA (sA (sA ρ 0 (upd (ρ.2.1 0) k v)) 1 (upd (ρ.2.1 1) k s)) 2 (upd (ρ.2.1 2) k f)) := by
  obtain ⟨h1, h2, h3, h4, h5, h6, h7, h8, h9, h10, h11, h12⟩ := hR
  have g : ∀ j, j ≠ 14 ∧ j ≠ 15 ∧ j ≠ 16 ∧ j ≠ 17 → ρ.2.1 j = τ.2.1 j := fun j h => f2 j h.1 h.2.1 h.2.2.1 h.2.2.2
  have ek : (nI k).toNatClampNeg = k := nI_clamp (by omega)
  refine ⟨?_, ?_, ?_, ?_, ?_, ?_, ?_, ?_, ?_, ?_, ?_, ?_⟩
  · show Rc (upd (σ.2.1 0) (nI k).toNatClampNeg x) (upd (ρ.2.1 0) k v) (upd (ρ.2.1 1) k s) (upd (ρ.2.1 2) k f)
    rw [ek, g 0 (by decide), g 1 (by decide), g 2 (by decide)]
    exact Rc_upd h1 hx
  · show Rd (σ.1 0) (σ.2.1 5) (ρ.2.1 3)
    rw [g 3 (by decide)]; exact h2
  · show Rg (σ.1 3) (σ.1 4) (σ.2.1 3) (σ.2.1 4) (σ.2.1 5) (ρ.1 0) (ρ.2.1 4) (ρ.2.1 5) (ρ.2.1 6) (ρ.2.1 7)
    rw [f1 0 (by decide), g 4 (by decide), g 5 (by decide), g 6 (by decide), g 7 (by decide)]; exact h3
  · show Ry m (σ.1 5) (σ.1 6) (σ.2.1 6) (σ.2.1 7) (σ.2.1 8) (ρ.1 3) (ρ.2.1 8) (ρ.2.1 9) (ρ.2.1 10)
    rw [f1 3 (by decide), g 8 (by decide), g 9 (by decide), g 10 (by decide)]; exact h4
  · show Rr (σ.1 7) (σ.1 8) (σ.2.1 9) (σ.2.1 10) (σ.2.1 11) (ρ.1 5) (ρ.2.1 11) (ρ.2.1 12) (ρ.2.1 13)
    rw [f1 5 (by decide), g 11 (by decide), g 12 (by decide), g 13 (by decide)]; exact h5
  · show Ru (if (32 : Int32) < σ.1 9 + (1 : Int32) then (32 : Int32) else σ.1 9 + (1 : Int32)) ((σ.1 10 + (1 : Int32)) &&& (31 : Int32)) (upd (σ.2.1 12) (σ.1 10).toNatClampNeg (nI k)) (upd (σ.2.1 13) (σ.1 10).toNatClampNeg (σ.2.1 0 (nI k).toNatClampNeg)) (ρ.1 6) (ρ.2.1 14) (ρ.2.1 15) (ρ.2.1 16) (ρ.2.1 17)
    rw [ek]
    exact Ru_step h6 hk (h1 k hk) hm
  · show Ri 0 (σ.1 11) (σ.1 1) (σ.2.1 1) (σ.2.1 5) (ρ.2.1 18) (ρ.2.1 19)
    rw [g 18 (by decide), g 19 (by decide)]; exact h7
  · show Ri 1 (σ.1 11) (σ.1 2) (σ.2.1 2) (σ.2.1 5) (ρ.2.1 18) (ρ.2.1 19)
    rw [g 18 (by decide), g 19 (by decide)]; exact h8
  · show Rs (σ.1 12) (ρ.1 1)
    rw [f1 1 (by decide)]; exact h9
  · show σ.1 13 = ρ.1 2
    rw [f1 2 (by decide), h10]
  · show σ.1 14 = ρ.1 4
    rw [f1 4 (by decide)]; exact h11
  · show σ.2.2 = ρ.2.2
    rw [f3, h12]
theorem Ru_vp {m : Nat} {σ τ : St} (hR : RelM m σ τ) : vp_in (σ.1 10) 32 ∧ (¬ τ.1 6 = (32 : Int32) → vp_in (τ.1 6) 32) := by
  obtain ⟨h1, h2, h3, h4, h5, ⟨n, p, hn, hp, e1, e2, e3, h⟩, -⟩ := hR
  rw [e3, e2, show (32 : Int32) = nI 32 from rfl]
  refine ⟨vp_in_nI (by omega) (by omega), fun c => vp_in_nI ?_ (by omega)⟩
  rw [nI_eq (by omega) (by omega)] at c
  omega
theorem mRem_lt {τ : St} {n : Nat} {k : Nat} (h : τ.1 6 = nI n) (hn : n < 32) : mRem τ (nI k) = mPush τ (nI k) := by
  unfold mRem
  rw [if_neg]
  rw [h, show (32 : Int32) = nI 32 from rfl, nI_eq (by omega) (by omega)]
  omega
theorem R_chgB {m : Nat} {σ τ ρ : St} (hR : RelM m σ τ) {k : Nat} (hk : k < 40) {x v s f : Int32} (hx : RC x v s f) (e2 : τ.1 6 = nI 32) (f1 : ρ.1 = τ.1) (f2 : ∀ j, j ≠ 14 → j ≠ 15 → j ≠ 16 → j ≠ 17 → ρ.2.1 j = τ.2.1 j) (f3 : ρ.2.2 = τ.2.2)
    (fq : ∀ q, (q = 14 ∨ q = 15 ∨ q = 16 ∨ q = 17) → ∀ j, ρ.2.1 q j = if 1 - 1 ≤ j ∧ j < 1 - 1 + 31 then τ.2.1 q (j + 1) else τ.2.1 q j) :
    RelM m (cChg σ (nI k) x) (sA (sA (sA (mPush (sI ρ 6 (nI 31)) (nI k)) 0 (upd ((mPush (sI ρ 6 (nI 31)) (nI k)).2.1 0) k v)) 1 (upd ((mPush (sI ρ 6 (nI 31)) (nI k)).2.1 1) k s)) 2 (upd ((mPush (sI ρ 6 (nI 31)) (nI k)).2.1 2) k f)) := by
  have ek : (nI k).toNatClampNeg = k := nI_clamp (by omega)
  have eu : (nI 31).toNatClampNeg = 31 := nI_clamp (by omega)
  refine R_chgA hR hk hx ?_ ?_ f3 ⟨32, e2, by omega, ?_, Or.inr ⟨rfl, ⟨?_, ?_, ?_, ?_⟩, ?_⟩⟩
  · intro j hj
    show (if j = 6 then _ else (if j = 6 then _ else ρ.1 j)) = τ.1 j
    rw [if_neg hj, if_neg hj, f1]
  · intro j a b c d
    show (if j = 17 then _ else if j = 16 then _ else if j = 15 then _ else if j = 14 then _ else ρ.2.1 j) = _
    rw [if_neg d, if_neg c, if_neg b, if_neg a]
    exact f2 j a b c d
  · show nI 31 + 1 = _
    rw [nI_add1]; rfl
  · show upd (ρ.2.1 14) (nI 31).toNatClampNeg (nI k) 31 = _
    rw [eu, upd_same]
  · show upd (ρ.2.1 15) (nI 31).toNatClampNeg (ρ.2.1 0 (nI k).toNatClampNeg) 31 = _
    rw [eu, ek, upd_same, f2 0 (by decide) (by decide) (by decide) (by decide)]
  · show upd (ρ.2.1 16) (nI 31).toNatClampNeg (ρ.2.1 1 (nI k).toNatClampNeg) 31 = _
    rw [eu, ek, upd_same, f2 1 (by decide) (by decide) (by decide) (by decide)]
  · show upd (ρ.2.1 17) (nI 31).toNatClampNeg (ρ.2.1 2 (nI k).toNatClampNeg) 31 = _
    rw [eu, ek, upd_same, f2 2 (by decide) (by decide) (by decide) (by decide)]
  · intro j hj
    show upd (ρ.2.1 14) (nI 31).toNatClampNeg _ j = _ ∧ upd (ρ.2.1 15) (nI 31).toNatClampNeg _ j = _ ∧ upd (ρ.2.1 16) (nI 31).toNatClampNeg _ j = _ ∧ upd (ρ.2.1 17) (nI 31).toNatClampNeg _ j = _
    rw [eu, upd_ne (by omega), upd_ne (by omega), upd_ne (by omega), upd_ne (by omega), fq 14 (by decide), fq 15 (by decide), fq 16 (by decide), fq 17 (by decide), if_pos (by omega), if_pos (by omega), if_pos (by omega), if_pos (by omega)]
    exact ⟨rfl, rfl, rfl, rfl⟩
theorem R_chg {m : Nat} {σ τ : St} (hR : RelM m σ τ) {k : Nat} (hk : k < 40) {x v s f : Int32} (hx : RC x v s (if s = 0 then 0 else f)) : RelM m (cChg σ (nI k) x) (mBec τ (nI k) v s f) := by
  have ek : (nI k).toNatClampNeg = k := nI_clamp (by omega)
  unfold mBec
  rw [ek]
  have h6 := hR.2.2.2.2.2.1
  obtain ⟨n, p, hn, hp, e1, e2, e3, -⟩ := h6
  rcases Nat.lt_or_ge n 32 with hl | hl
  · have er := mRem_lt (k := k) e2 hl
    have eu : (τ.1 6).toNatClampNeg = n := by rw [e2, nI_clamp (by omega)]
    have f1 : ∀ j, j ≠ 6 → (mPush τ (nI k)).1 j = τ.1 j := fun j hj => if_neg hj
    have f2 : ∀ j, j ≠ 14 → j ≠ 15 → j ≠ 16 → j ≠ 17 → (mPush τ (nI k)).2.1 j = τ.2.1 j := fun j a b c d => by
      show (if j = 17 then _ else if j = 16 then _ else if j = 15 then _ else if j = 14 then _ else τ.2.1 j) = _
      rw [if_neg d, if_neg c, if_neg b, if_neg a]
    have hm : ∃ n, τ.1 6 = nI n ∧ n ≤ 32 ∧ (mPush τ (nI k)).1 6 = nI (min (n + 1) 32) ∧ ((n < 32 ∧ (mPush τ (nI k)).2.1 14 = upd (τ.2.1 14) n (nI k) ∧ (mPush τ (nI k)).2.1 15 = upd (τ.2.1 15) n (τ.2.1 0 k) ∧ (mPush τ (nI k)).2.1 16 = upd (τ.2.1 16) n (τ.2.1 1 k) ∧ (mPush τ (nI k)).2.1 17 = upd (τ.2.1 17) n (τ.2.1 2 k)) ∨ (n = 32 ∧ ((mPush τ (nI k)).2.1 14 31 = nI k ∧ (mPush τ (nI k)).2.1 15 31 = τ.2.1 0 k ∧ (mPush τ (nI k)).2.1 16 31 = τ.2.1 1 k ∧ (mPush τ (nI k)).2.1 17 31 = τ.2.1 2 k) ∧ ∀ j, j < 31 → (mPush τ (nI k)).2.1 14 j = τ.2.1 14 (j + 1) ∧ (mPush τ (nI k)).2.1 15 j = τ.2.1 15 (j + 1) ∧ (mPush τ (nI k)).2.1 16 j = τ.2.1 16 (j + 1) ∧ (mPush τ (nI k)).2.1 17 j = τ.2.1 17 (j + 1))) := by
      refine ⟨n, e2, hn, ?_, Or.inl ⟨hl, ?_, ?_, ?_, ?_⟩⟩
      · show τ.1 6 + 1 = _
        rw [e2, nI_add1]; congr 1; omega
      · show upd (τ.2.1 14) (τ.1 6).toNatClampNeg (nI k) = _
        rw [eu]
      · show upd (τ.2.1 15) (τ.1 6).toNatClampNeg (τ.2.1 0 (nI k).toNatClampNeg) = _
        rw [eu, ek]
      · show upd (τ.2.1 16) (τ.1 6).toNatClampNeg (τ.2.1 1 (nI k).toNatClampNeg) = _
        rw [eu, ek]
      · show upd (τ.2.1 17) (τ.1 6).toNatClampNeg (τ.2.1 2 (nI k).toNatClampNeg) = _
        rw [eu, ek]
    rw [er]
    exact R_chgA hR hk hx f1 f2 rfl hm
  · have hn32 : n = 32 := by omega
    subst hn32
    have er : mRem τ (nI k) = mPush (sI (mDn 31 1 τ) 6 (nI 31)) (nI k) := by
      unfold mRem; exact if_pos (show τ.1 6 = (32 : Int32) from e2)
    rw [er]
    exact R_chgB hR hk hx e2 (mDn_1 31 1 τ) (mDn_2 31 1 τ) (mDn_3 31 1 τ) (fun q hq j => mDn_q hq 31 1 τ j (by omega))
