/-- THE LOT's next -/
def nx (x : Int32) : Int32 := (((x.toInt64) * (16807 : Int64)) - ((x.toInt64) * (16807 : Int64)) / (2147483647 : Int64) * (2147483647 : Int64)).toInt32
theorem nx_nI {z : Nat} (hz : z < 2147483647) : nx (nI z) = nI (z * 16807 % 2147483647) := by
  unfold nx
  rw [nI_l (by omega), show (16807 : Int64) = lN 16807 from rfl, lN_mul, show (2147483647 : Int64) = lN 2147483647 from rfl, pk_lRem (by omega) (by omega) (by omega), lN_i]
theorem rem_nI {z d : Nat} (hz : z < 2147483647) (hd : 0 < d) (hd2 : d < 1000) : nI z - nI z / nI d * nI d = nI (z % d) := pk_rem (by omega) hd (by omega)
def lotAt (x : Int32) : Nat → Int32
  | 0 => x
  | k + 1 => nx (lotAt x k)
theorem lotAt_ok {x : Int32} (hx : ∃ n, n < 2147483647 ∧ x = nI n) : ∀ k, ∃ n, n < 2147483647 ∧ lotAt x k = nI n
  | 0 => hx
  | k + 1 => by
    obtain ⟨z, hz, e⟩ := lotAt_ok hx k
    refine ⟨z * 16807 % 2147483647, Nat.mod_lt _ (by omega), ?_⟩
    show nx (lotAt x k) = _
    rw [e, nx_nI hz]
/-- the VALUE of the k-th OCTET of new ground -/
def lotV (x : Int32) (k : Nat) : Int32 := lotAt x (k + 1) - lotAt x (k + 1) / (256 : Int32) * (256 : Int32)
theorem lotV_B {x : Int32} (hx : ∃ n, n < 2147483647 ∧ x = nI n) (k : Nat) : isB (lotV x k) := by
  obtain ⟨z, hz, e⟩ := lotAt_ok hx (k + 1)
  unfold lotV
  rw [e, show (256 : Int32) = nI 256 from rfl, rem_nI hz (by omega) (by omega)]
  exact isB_nI (Nat.mod_lt _ (by omega))
theorem w_nx {σ : St} {K : Int32 → St → Prop} (hK : K (nx (σ.1 12)) (sI σ 12 (nx (σ.1 12)))) : wp_X7_nextLot σ K := by
  unfold wp_X7_nextLot
  intro s1 e; subst e
  exact hK
theorem w_nxM {τ : St} {d : Int32} {K : Int32 → St → Prop} (hd : ¬ d = 0) (hK : K (nx (τ.1 1) - nx (τ.1 1) / d * d) (sI τ 1 (nx (τ.1 1)))) : wp_X8_lotBy τ d K := by
  unfold wp_X8_lotBy
  intro s1 e; subst e
  exact ⟨hd, hK⟩
/-- the class's loop over new ground -/
theorem w_leC (σ : St) {a c g : Nat} (hac : a + c ≤ 32) (K : Int32 → St → Prop)
    (hK : ∀ ρ : St, (∀ q, q ≠ 12 → ρ.1 q = σ.1 q) → ρ.1 12 = lotAt (σ.1 12) c → ρ.2.2 = σ.2.2 → (∀ q, q ≠ 0 → ρ.2.1 q = σ.2.1 q) → (∀ p, ρ.2.1 0 p = if 8 + a ≤ p ∧ p < 8 + a + c then cellOf (lotV (σ.1 12) (p - 8 - a)) 255 ((1 : Int32) <<< (nI g &&& 31)) else σ.2.1 0 p) →
      wp_X7_octetSet (nI a) (nI c) (fun x6 => ∀ σ7 : St, σ7 = sI ρ 0 ((ρ.1 0) &&& (x6 ^^^ (-1 : Int32))) → wp_X7_tick σ7 (6 : Int32) (nI g) (fun x9 σ8 => K x9 σ8))) :
    ∀ d k, k + d = c → ∀ n, d < n → ∀ ρ : St, (∀ q, q ≠ 12 → ρ.1 q = σ.1 q) → ρ.1 12 = lotAt (σ.1 12) k → ρ.2.2 = σ.2.2 → (∀ q, q ≠ 0 → ρ.2.1 q = σ.2.1 q) → (∀ p, ρ.2.1 0 p = if 8 + a ≤ p ∧ p < 8 + a + k then cellOf (lotV (σ.1 12) (p - 8 - a)) 255 ((1 : Int32) <<< (nI g &&& 31)) else σ.2.1 0 p) → wl_X7_let_72 K n (nI a) (nI c) (nI g) (nI (a + k)) ρ := by
  intro d
  induction d with
  | zero =>
    intro k hk n hn ρ f1 f2 f3 f4 f5
    obtain ⟨n, rfl⟩ : ∃ z, n = z + 1 := ⟨n - 1, by omega⟩
    have hk : k = c := by omega
    subst hk
    refine ⟨fun _ => hK ρ f1 f2 f3 f4 f5, fun z => absurd ?_ z⟩
    rw [nI_add, nI_leI (by omega) (by omega)]; exact Nat.le_refl _
  | succ d ih =>
    intro k hk n hn ρ f1 f2 f3 f4 f5
    obtain ⟨n, rfl⟩ : ∃ z, n = z + 1 := ⟨n - 1, by omega⟩
    refine ⟨fun z => absurd z ?_, fun _ => ?_⟩
    · rw [nI_add, nI_leI (by omega) (by omega)]; omega
    refine w_nx (w_of ?_)
    rw [add8]
    refine ⟨vp_in_nI (by omega) (by omega), ?_⟩
    rw [nI_clamp (by omega), nI_1, f2, if_neg (by decide)]
    intro s1 e; subst e
    intro x e
    rw [show a + k + 1 = a + (k + 1) by omega] at e
    subst e
    refine ih (k + 1) (by omega) n (by omega) _ (fun q hq => ?_) rfl f3 (fun q hq => ?_) (fun p => ?_)
    · show (if q = 12 then _ else ρ.1 q) = _
      rw [if_neg hq, f1 q hq]
    · show (if q = 0 then _ else ρ.2.1 q) = _
      rw [if_neg hq, f4 q hq]
    · show upd (ρ.2.1 0) (8 + (a + k)) (cellOf (lotV (σ.1 12) k) 255 ((1 : Int32) <<< (nI g &&& 31))) p = _
      by_cases h : p = 8 + (a + k)
      · rw [h, upd_same, if_pos (by omega), show 8 + (a + k) - 8 - a = k by omega]
      · rw [upd_ne h, f5 p]
        by_cases h2 : 8 + a ≤ p ∧ p < 8 + a + k
        · rw [if_pos h2, if_pos (by omega)]
        · rw [if_neg h2, if_neg (by omega)]
/-- the reference's -/
theorem w_leM (τ : St) {a c g : Nat} (hac : a + c ≤ 32) (hg : g < 12) (eg : τ.1 0 = nI g) (K : Int32 → St → Prop)
    (hK : ∀ ρ : St, (∀ q, q ≠ 1 → ρ.1 q = τ.1 q) → ρ.1 1 = lotAt (τ.1 1) c → ρ.2.2 = τ.2.2 → (∀ q, 5 ≤ q → ρ.2.1 q = τ.2.1 q) → (∀ p, (ρ.2.1 0 p = if 8 + a ≤ p ∧ p < 8 + a + c then lotV (τ.1 1) (p - 8 - a) else τ.2.1 0 p) ∧ (ρ.2.1 1 p = if 8 + a ≤ p ∧ p < 8 + a + c then 255 else τ.2.1 1 p) ∧ (ρ.2.1 2 p = if 8 + a ≤ p ∧ p < 8 + a + c then (1 : Int32) <<< (nI g &&& 31) else τ.2.1 2 p)) → (∀ o, (ρ.2.1 3 o = if a ≤ o ∧ o < a + c then 0 else τ.2.1 3 o) ∧ (ρ.2.1 4 o = if a ≤ o ∧ o < a + c then nI g else τ.2.1 4 o)) →
      K (nI g) (mT (sI (sA (sA (sA ρ 5 (upd (ρ.2.1 5) g (nI a))) 6 (upd (ρ.2.1 6) g (nI c))) 7 (upd (ρ.2.1 7) g 1)) 0 (nI (g + 1))) 6 (nI g))) :
    ∀ d k, k + d = c → ∀ n, d < n → ∀ ρ : St, (∀ q, q ≠ 1 → ρ.1 q = τ.1 q) → ρ.1 1 = lotAt (τ.1 1) k → ρ.2.2 = τ.2.2 → (∀ q, 5 ≤ q → ρ.2.1 q = τ.2.1 q) → (∀ p, (ρ.2.1 0 p = if 8 + a ≤ p ∧ p < 8 + a + k then lotV (τ.1 1) (p - 8 - a) else τ.2.1 0 p) ∧ (ρ.2.1 1 p = if 8 + a ≤ p ∧ p < 8 + a + k then 255 else τ.2.1 1 p) ∧ (ρ.2.1 2 p = if 8 + a ≤ p ∧ p < 8 + a + k then (1 : Int32) <<< (nI g &&& 31) else τ.2.1 2 p)) → (∀ o, (ρ.2.1 3 o = if a ≤ o ∧ o < a + k then 0 else τ.2.1 3 o) ∧ (ρ.2.1 4 o = if a ≤ o ∧ o < a + k then nI g else τ.2.1 4 o)) → wl_X8_let_84 K n (nI a) (nI c) (nI (a + k)) ρ := by
  have vg : vp_in (nI g) 12 := vp_in_nI (by omega) (by omega)
  have ecg : (nI g).toNatClampNeg = g := nI_clamp (by omega)
  intro d
  induction d with
  | zero =>
    intro k hk n hn ρ f1 f2 f3 f4 f5 f6
    obtain ⟨n, rfl⟩ : ∃ z, n = z + 1 := ⟨n - 1, by omega⟩
    have hk : k = c := by omega
    subst hk
    have e0 : ρ.1 0 = nI g := by rw [f1 0 (by decide), eg]
    refine ⟨fun _ => ?_, fun z => absurd ?_ z⟩
    · rw [e0, ecg]
      refine ⟨vg, ?_⟩
      intro s1 e; subst e
      show vp_in (ρ.1 0) 12 ∧ _
      rw [e0]
      refine ⟨vg, ?_⟩
      intro s1 e
      have e : s1 = sA (sA ρ 5 (upd (ρ.2.1 5) g (nI a))) 6 (upd (ρ.2.1 6) g (nI k)) := by
        rw [e]
        show sA _ 6 (upd (ρ.2.1 6) (ρ.1 0).toNatClampNeg (nI k)) = _
        rw [e0, ecg]
      subst e
      show vp_in (ρ.1 0) 12 ∧ _
      rw [e0]
      refine ⟨vg, ?_⟩
      intro s1 e
      have e : s1 = sA (sA (sA ρ 5 (upd (ρ.2.1 5) g (nI a))) 6 (upd (ρ.2.1 6) g (nI k))) 7 (upd (ρ.2.1 7) g 1) := by
        rw [e]
        show sA _ 7 (upd (ρ.2.1 7) (ρ.1 0).toNatClampNeg (vp_nar .boolean 1)) = _
        rw [e0, ecg, nar1]
      subst e
      intro s1 e
      have e : s1 = sI (sA (sA (sA ρ 5 (upd (ρ.2.1 5) g (nI a))) 6 (upd (ρ.2.1 6) g (nI k))) 7 (upd (ρ.2.1 7) g 1)) 0 (nI (g + 1)) := by
        rw [e]
        show sI _ 0 (ρ.1 0 + (1 : Int32)) = _
        rw [e0, nI_add1]
      subst e
      show wp_X8_tick _ 6 (nI (g + 1) - (1 : Int32)) _
      rw [nI_sub1 (by omega), show g + 1 - 1 = g by omega]
      exact w_mT (hK ρ f1 f2 f3 f4 f5 f6)
    · rw [nI_add, nI_leI (by omega) (by omega)]; exact Nat.le_refl _
  | succ d ih =>
    intro k hk n hn ρ f1 f2 f3 f4 f5 f6
    obtain ⟨n, rfl⟩ : ∃ z, n = z + 1 := ⟨n - 1, by omega⟩
    have e0 : ρ.1 0 = nI g := by rw [f1 0 (by decide), eg]
    refine ⟨fun z => absurd z ?_, fun _ => ?_⟩
    · rw [nI_add, nI_leI (by omega) (by omega)]; omega
    refine w_nxM (by decide) ?_
    rw [add8]
    have v1 : vp_in (nI (8 + (a + k))) 40 := vp_in_nI (by omega) (by omega)
    have v2 : vp_in (nI (a + k)) 32 := vp_in_nI (by omega) (by omega)
    have c1 : (nI (8 + (a + k))).toNatClampNeg = 8 + (a + k) := nI_clamp (by omega)
    have c2 : (nI (a + k)).toNatClampNeg = a + k := nI_clamp (by omega)
    rw [c1, c2, nI_1, f2, nar0]
    refine ⟨v1, ?_⟩
    intro s1 e; subst e
    refine ⟨v1, ?_⟩
    intro s1 e; subst e
    refine ⟨v1, ?_⟩
    intro s1 e; subst e
    refine ⟨v2, ?_⟩
    intro s1 e; subst e
    refine ⟨v2, ?_⟩
    intro s1 e; subst e
    intro x e
    rw [show a + k + 1 = a + (k + 1) by omega] at e
    subst e
    refine ih (k + 1) (by omega) n (by omega) _ (fun q hq => ?_) rfl f3 (fun q hq => ?_) (fun p => ?_) (fun o => ?_)
    · show (if q = 1 then _ else ρ.1 q) = _
      rw [if_neg hq, f1 q hq]
    · show (if q = 4 then _ else if q = 3 then _ else if q = 2 then _ else if q = 1 then _ else if q = 0 then _ else ρ.2.1 q) = _
      rw [if_neg (by omega), if_neg (by omega), if_neg (by omega), if_neg (by omega), if_neg (by omega), f4 q hq]
    · show (upd (ρ.2.1 0) (8 + (a + k)) (lotV (τ.1 1) k) p = _) ∧ (upd (ρ.2.1 1) (8 + (a + k)) 255 p = _) ∧ (upd (ρ.2.1 2) (8 + (a + k)) ((1 : Int32) <<< (ρ.1 0 &&& 31)) p = _)
      rw [e0]
      obtain ⟨g1, g2, g3⟩ := f5 p
      by_cases h : p = 8 + (a + k)
      · rw [h, upd_same, upd_same, upd_same, if_pos (by omega), if_pos (by omega), if_pos (by omega), show 8 + (a + k) - 8 - a = k by omega]
        exact ⟨rfl, rfl, rfl⟩
      · rw [upd_ne h, upd_ne h, upd_ne h, g1, g2, g3]
        by_cases h2 : 8 + a ≤ p ∧ p < 8 + a + k
        · rw [if_pos h2, if_pos h2, if_pos h2, if_pos (by omega), if_pos (by omega), if_pos (by omega)]
          exact ⟨rfl, rfl, rfl⟩
        · rw [if_neg h2, if_neg h2, if_neg h2, if_neg (by omega), if_neg (by omega), if_neg (by omega)]
          exact ⟨rfl, rfl, rfl⟩
    · show (upd (ρ.2.1 3) (a + k) 0 o = _) ∧ (upd (ρ.2.1 4) (a + k) (ρ.1 0) o = _)
      rw [e0]
      obtain ⟨g1, g2⟩ := f6 o
      by_cases h : o = a + k
      · rw [h, upd_same, upd_same, if_pos (by omega), if_pos (by omega)]
        exact ⟨rfl, rfl⟩
      · rw [upd_ne h, upd_ne h, g1, g2]
        by_cases h2 : a ≤ o ∧ o < a + k
        · rw [if_pos h2, if_pos h2, if_pos (by omega), if_pos (by omega)]
          exact ⟨rfl, rfl⟩
        · rw [if_neg h2, if_neg h2, if_neg (by omega), if_neg (by omega)]
          exact ⟨rfl, rfl⟩
