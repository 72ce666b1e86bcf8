theorem nI_m1 {k : Nat} (hk : k < 1000) : ¬ nI k = -1 := by
  intro h
  have h2 : (nI k).toInt = (-1 : Int32).toInt := by rw [h]
  rw [nI_toInt (by omega), show (-1 : Int32).toInt = -1 by decide] at h2
  omega
/-- an OCTET of a GROUND that is LET -/
def letAt (σ : St) (g o : Nat) : Prop := ∃ k, k < g ∧ σ.2.1 5 o = nI k ∧ bt (σ.1 4) k = true
theorem w_anyC {σ : St} {g a c : Nat} (hg : g ≤ 12) (hac : a + c ≤ 32) (e6 : ∀ o, o < 32 → σ.2.1 5 o = -1 ∨ ∃ k, k < g ∧ σ.2.1 5 o = nI k) (K : Int32 → St → Prop) :
    ∀ d k, k + d = c → ∀ n, d < n → ((∀ o, a + k ≤ o → o < a + c → ¬ letAt σ g o) → K 0 σ) → ((∃ o, a + k ≤ o ∧ o < a + c ∧ letAt σ g o) → K 1 σ) → wl_X3_anyIsLet_7_2 K n (nI a) (nI c) (nI (a + k)) σ := by
  intro d
  induction d with
  | zero =>
    intro k hk n hn h0 h1
    obtain ⟨n, rfl⟩ : ∃ z, n = z + 1 := ⟨n - 1, by omega⟩
    refine ⟨fun _ => h0 (fun o p q => absurd p (by omega)), fun z => absurd ?_ z⟩
    rw [nI_add, nI_leI (by omega) (by omega)]; omega
  | succ d ih =>
    intro k hk n hn h0 h1
    obtain ⟨n, rfl⟩ : ∃ z, n = z + 1 := ⟨n - 1, by omega⟩
    refine ⟨fun z => absurd z ?_, fun _ => ⟨vp_in_nI (by omega) (by omega), ?_⟩⟩
    · rw [nI_add, nI_leI (by omega) (by omega)]; omega
    rw [nI_clamp (by omega), nI_1, show a + k + 1 = a + (k + 1) by omega]
    have go : ¬ letAt σ g (a + k) → wl_X3_anyIsLet_7_2 K n (nI a) (nI c) (nI (a + (k + 1))) σ := by
      intro hz
      refine ih (k + 1) (by omega) n (by omega) (fun h => h0 (fun o p q => ?_)) (fun ⟨o, p, q, r⟩ => h1 ⟨o, by omega, q, r⟩)
      by_cases e : o = a + k
      · rw [e]; exact hz
      · exact h o (by omega) q
    intro x1 ex1
    refine ⟨fun z => ?_, fun z => ?_⟩
    · intro x2 ex2; subst ex2
      refine go ?_
      intro ⟨k2, hk2, q, _⟩
      rw [← ex1, z] at q
      exact nI_m1 (by omega) q.symm
    · rcases e6 (a + k) (by omega) with q | ⟨k2, hk2, q⟩
      · exact absurd (ex1.trans q) z
      · rw [q] at ex1
        subst ex1
        unfold wp_X3_isLet_7
        rw [tst_s _ (by omega)]
        refine ⟨fun w => ⟨fun _ => ?_, fun y => absurd rfl y⟩, fun w => ⟨fun y => absurd y one_ne, fun _ => ?_⟩⟩
        · intro x2 ex2; subst ex2
          refine go ?_
          intro ⟨k3, hk3, q3, q4⟩
          rw [q, nI_eq (by omega) (by omega)] at q3
          rw [q3, q4] at w
          cases w
        · refine h1 ⟨a + k, by omega, by omega, k2, hk2, q, ?_⟩
          cases h : bt (σ.1 4) k2
          · exact absurd h w
          · rfl
theorem w_anyM {m : Nat} {σ τ : St} (hR : RelM m σ τ) {g a c : Nat} (hg : g ≤ 12) (hac : a + c ≤ 32) (e4 : ∀ k, k < g → τ.2.1 7 k = if bt (σ.1 4) k then 1 else 0) (e6 : ∀ o, o < 32 → σ.2.1 5 o = τ.2.1 4 o ∧ (σ.2.1 5 o = -1 ∨ ∃ k, k < g ∧ σ.2.1 5 o = nI k)) (K : Int32 → St → Prop) :
    ∀ d k, k + d = c → ∀ n, d < n → ((∀ o, a + k ≤ o → o < a + c → ¬ letAt σ g o) → ((¬ (τ.1 0) = (12 : Int32) → (∃ nn : Nat, wl_X8_let_84 K nn (nI a) (nI c) (nI a) τ)) ∧ ((τ.1 0) = (12 : Int32) → K (-1000000004 : Int32) τ))) → ((∃ o, a + k ≤ o ∧ o < a + c ∧ letAt σ g o) → K (-1000000003 : Int32) τ) → wl_X8_let_31 K n (nI a) (nI c) (nI (a + k)) τ := by
  intro d
  induction d with
  | zero =>
    intro k hk n hn h0 h1
    obtain ⟨n, rfl⟩ : ∃ z, n = z + 1 := ⟨n - 1, by omega⟩
    refine ⟨fun _ => h0 (fun o p q => absurd p (by omega)), fun z => absurd ?_ z⟩
    rw [nI_add, nI_leI (by omega) (by omega)]; omega
  | succ d ih =>
    intro k hk n hn h0 h1
    obtain ⟨n, rfl⟩ : ∃ z, n = z + 1 := ⟨n - 1, by omega⟩
    have v32 : vp_in (nI (a + k)) 32 := vp_in_nI (by omega) (by omega)
    refine ⟨fun z => absurd z ?_, fun _ => ⟨v32, ?_⟩⟩
    · rw [nI_add, nI_leI (by omega) (by omega)]; omega
    rw [nI_clamp (by omega), nI_1, show a + k + 1 = a + (k + 1) by omega]
    have go : ¬ letAt σ g (a + k) → wl_X8_let_31 K n (nI a) (nI c) (nI (a + (k + 1))) τ := by
      intro hz
      refine ih (k + 1) (by omega) n (by omega) (fun h => h0 (fun o p q => ?_)) (fun ⟨o, p, q, r⟩ => h1 ⟨o, by omega, q, r⟩)
      by_cases e : o = a + k
      · rw [e]; exact hz
      · exact h o (by omega) q
    obtain ⟨u1, u2⟩ := e6 (a + k) (by omega)
    rw [← u1]
    refine ⟨fun z => ?_, fun z => ⟨v32, ?_⟩⟩
    · intro x2 ex2; subst ex2
      refine go ?_
      intro ⟨k2, hk2, q, _⟩
      rw [q] at z
      exact nI_pos (by omega) z
    · rcases u2 with q | ⟨k2, hk2, q⟩
      · rw [q] at z
        exact absurd (by decide) z
      · rw [q, nI_clamp (by omega)]
        have hz := if01 (e4 k2 hk2)
        refine ⟨vp_in_nI (by omega) (by omega), fun w => ?_, fun w => ?_⟩
        · intro x2 ex2; subst ex2
          refine go ?_
          intro ⟨k3, hk3, q3, q4⟩
          rw [q, nI_eq (by omega) (by omega)] at q3
          have := hz.mp w
          rw [q3, q4] at this
          cases this
        · refine h1 ⟨a + k, by omega, by omega, k2, hk2, q, ?_⟩
          cases h : bt (σ.1 4) k2
          · exact absurd (hz.mpr h) w
          · rfl
theorem w_openL (σ : St) {a c g : Nat} (hac : a + c ≤ 32) (e3 : σ.1 3 = nI g) (K : Int32 → St → Prop)
    (hK : ∀ ρ : St, (∀ q, q ≠ 3 → q ≠ 4 → ρ.1 q = σ.1 q) → ρ.1 3 = nI (g + 1) → ρ.1 4 = (σ.1 4 ||| ((1 : Int32) <<< (nI g &&& 31))) → ρ.2.2 = σ.2.2 → (∀ q, q ≠ 5 → ρ.2.1 q = σ.2.1 q) → (∀ o, ρ.2.1 5 o = if a ≤ o ∧ o < a + c then nI g else σ.2.1 5 o) → K (nI g) ρ) :
    ∀ d k, k + d = c → ∀ n, d < n → ∀ ρ : St, ρ.1 = σ.1 → ρ.2.2 = σ.2.2 → (∀ q, q ≠ 5 → ρ.2.1 q = σ.2.1 q) → (∀ o, ρ.2.1 5 o = if a ≤ o ∧ o < a + k then nI g else σ.2.1 5 o) → wl_X3_open_7_22 K n (nI a) (nI c) (nI g) (nI (a + k)) ρ := by
  intro d
  induction d with
  | zero =>
    intro k hk n hn ρ f1 f2 f3 f4
    obtain ⟨n, rfl⟩ : ∃ z, n = z + 1 := ⟨n - 1, by omega⟩
    have hk : k = c := by omega
    subst hk
    refine ⟨fun _ => ?_, fun z => absurd ?_ z⟩
    · intro s1 e; subst e
      intro s1 e; subst e
      refine hK _ (fun q h1 h2 => ?_) ?_ ?_ f2 f3 f4
      · rw [sI_1, if_neg h1, sI_1, if_neg h2, f1]
      · show ρ.1 3 + (1 : Int32) = _
        rw [f1, e3, nI_add1]
      · show (ρ.1 4 ||| _) = _
        rw [f1]
    · rw [nI_add, nI_leI (by omega) (by omega)]; exact Nat.le_refl _
  | succ d ih =>
    intro k hk n hn ρ f1 f2 f3 f4
    obtain ⟨n, rfl⟩ : ∃ z, n = z + 1 := ⟨n - 1, by omega⟩
    refine ⟨fun z => absurd z ?_, fun _ => ⟨vp_in_nI (by omega) (by omega), ?_⟩⟩
    · rw [nI_add, nI_leI (by omega) (by omega)]; omega
    rw [nI_clamp (by omega), nI_1, show a + k + 1 = a + (k + 1) by omega]
    intro s1 e; subst e
    intro x e; subst e
    refine ih (k + 1) (by omega) n (by omega) _ f1 f2 (fun q hq => ?_) (fun o => ?_)
    · rw [sA_2, if_neg hq, f3 q hq]
    · show upd (ρ.2.1 5) (a + k) (nI g) o = _
      by_cases h : o = a + k
      · rw [h, upd_same, if_pos (by omega)]
      · rw [upd_ne h, f4 o]
        by_cases h2 : a ≤ o ∧ o < a + k
        · rw [if_pos h2, if_pos (by omega)]
        · rw [if_neg h2, if_neg (by omega)]
theorem Ri_lo {i : Nat} {kp d : Int32} {c lo lo2 im ik : Nat → Int32} (h : Ri i kp d c lo im ik) (hl : ∀ o, o < 32 → ¬ lo o = -1 → ¬ lo2 o = -1) : Ri i kp d c lo2 im ik :=
  ⟨h.1, fun z => ⟨(h.2 z).1, fun o ho => ⟨((h.2 z).2 o ho).1, fun y => hl o ho (((h.2 z).2 o ho).2 y)⟩⟩⟩
theorem R_let {m : Nat} {σ τ σ' τ' : St} (hR : RelM m σ τ) {g a c : Nat} (hg : g < 12) (eg : σ.1 3 = nI g) (hc1 : 1 ≤ c) (hc : c ≤ 8) (hac : a + c ≤ 32)
    (s1 : ∀ q, q ≠ 0 → q ≠ 3 → q ≠ 4 → q ≠ 12 → σ'.1 q = σ.1 q) (s0 : σ'.1 0 = (σ.1 0 &&& (oset (nI a) (nI c) ^^^ (-1 : Int32)))) (s3 : σ'.1 3 = nI (g + 1)) (s4 : σ'.1 4 = (σ.1 4 ||| ((1 : Int32) <<< (nI g &&& 31)))) (s12 : σ'.1 12 = lotAt (σ.1 12) c) (sm : σ'.2.2 = σ.2.2)
    (t : ∀ q, q ≠ 0 → q ≠ 3 → q ≠ 4 → q ≠ 5 → σ'.2.1 q = σ.2.1 q) (t0 : ∀ p, σ'.2.1 0 p = if 8 + a ≤ p ∧ p < 8 + a + c then cellOf (lotV (σ.1 12) (p - 8 - a)) 255 ((1 : Int32) <<< (nI g &&& 31)) else σ.2.1 0 p) (t3 : σ'.2.1 3 = upd (σ.2.1 3) g (nI a)) (t4 : σ'.2.1 4 = upd (σ.2.1 4) g (nI c)) (t5 : ∀ o, σ'.2.1 5 o = if a ≤ o ∧ o < a + c then nI g else σ.2.1 5 o)
    (m1 : ∀ q, q ≠ 0 → q ≠ 1 → τ'.1 q = τ.1 q) (m0 : τ'.1 0 = nI (g + 1)) (mx : τ'.1 1 = lotAt (τ.1 1) c) (mm : τ'.2.2 = τ.2.2) (u : ∀ q, 8 ≤ q → τ'.2.1 q = τ.2.1 q) (u0 : ∀ p, (τ'.2.1 0 p = if 8 + a ≤ p ∧ p < 8 + a + c then lotV (τ.1 1) (p - 8 - a) else τ.2.1 0 p) ∧ (τ'.2.1 1 p = if 8 + a ≤ p ∧ p < 8 + a + c then 255 else τ.2.1 1 p) ∧ (τ'.2.1 2 p = if 8 + a ≤ p ∧ p < 8 + a + c then (1 : Int32) <<< (nI g &&& 31) else τ.2.1 2 p))
    (u3 : ∀ o, (τ'.2.1 3 o = if a ≤ o ∧ o < a + c then 0 else τ.2.1 3 o) ∧ (τ'.2.1 4 o = if a ≤ o ∧ o < a + c then nI g else τ.2.1 4 o)) (u5 : τ'.2.1 5 = upd (τ.2.1 5) g (nI a)) (u6 : τ'.2.1 6 = upd (τ.2.1 6) g (nI c)) (u7 : τ'.2.1 7 = upd (τ.2.1 7) g 1) : RelM m σ' τ' := by
  obtain ⟨h1, h2, ⟨g', hg', e1, e2, e3, e4, e5, e6⟩, h4, h5, h6, h7, h8, h9, h10, h11, h12⟩ := hR
  have hgg : g' = g := by
    rw [e1, nI_eq (by omega) (by omega)] at eg
    exact eg
  subst hgg
  have S : ∀ q, q ≠ 0 ∧ q ≠ 3 ∧ q ≠ 4 ∧ q ≠ 12 → σ'.1 q = σ.1 q := fun q h => s1 q h.1 h.2.1 h.2.2.1 h.2.2.2
  have T : ∀ q, q ≠ 0 ∧ q ≠ 3 ∧ q ≠ 4 ∧ q ≠ 5 → σ'.2.1 q = σ.2.1 q := fun q h => t q h.1 h.2.1 h.2.2.1 h.2.2.2
  have M : ∀ q, q ≠ 0 ∧ q ≠ 1 → τ'.1 q = τ.1 q := fun q h => m1 q h.1 h.2
  have hlo : ∀ o, o < 32 → ¬ σ.2.1 5 o = -1 → ¬ σ'.2.1 5 o = -1 := by
    intro o ho h
    rw [t5 o]
    split
    · exact nI_m1 (by omega)
    · exact h
  have hb : ∀ i, i < 32 → bt (σ'.1 4) i = (bt (σ.1 4) i || decide (i = g')) := by
    intro i hi
    rw [s4, b_or, b_one (by omega) hi]
  refine ⟨?_, ?_, ?_, ?_, ?_, ?_, ?_, ?_, ?_, ?_, ?_, ?_⟩
  · intro p hp
    obtain ⟨q1, q2, q3⟩ := u0 p
    rw [t0 p, q1, q2, q3, ← h9.1]
    by_cases h : 8 + a ≤ p ∧ p < 8 + a + c
    · rw [if_pos h, if_pos h, if_pos h, if_pos h]
      exact ⟨rfl, lotV_B h9.2 _, isB_255, isF_one (by omega), fun z => absurd z (by decide)⟩
    · rw [if_neg h, if_neg h, if_neg h, if_neg h]
      exact h1 p hp
  · intro o ho
    obtain ⟨q1, q2⟩ := u3 o
    have e : bt (σ'.1 0) o = (bt (σ.1 0) o && !decide (a ≤ o ∧ o < a + c)) := by
      rw [s0, b_and, b_not _ ho, b_oset a (by omega) c (by omega) hac o ho]
    rw [q1, e]
    by_cases h : a ≤ o ∧ o < a + c
    · rw [if_pos h, decide_eq_true h]
      simp
    · rw [if_neg h, decide_eq_false h]
      simp only [Bool.not_false, Bool.and_true]
      exact ⟨(h2 o ho).1, fun z => hlo o ho ((h2 o ho).2 z)⟩
  · refine ⟨g' + 1, by omega, s3, m0, ?_, ?_, ?_, ?_⟩
    · intro k hk
      rw [t3, t4, u5, u6]
      by_cases h : k = g'
      · subst h
        rw [upd_same, upd_same, upd_same, upd_same]
        refine ⟨rfl, rfl, a, c, rfl, rfl, hc1, hc, hac, fun o p q => ?_⟩
        rw [t5 o, if_pos ⟨p, q⟩]
        exact nI_m1 (by omega)
      · rw [upd_ne h, upd_ne h, upd_ne h, upd_ne h]
        obtain ⟨v1, v2, a2, c2, v3, v4, v5, v6, v7, v8⟩ := e3 k (by omega)
        exact ⟨v1, v2, a2, c2, v3, v4, v5, v6, v7, fun o p q => hlo o (by omega) (v8 o p q)⟩
    · intro k hk
      rw [u7, hb k (by omega)]
      by_cases h : k = g'
      · subst h
        rw [upd_same]; simp
      · rw [upd_ne h, e4 k (by omega)]
        simp [h]
    · intro k hk
      rcases Nat.lt_or_ge k 32 with z | z
      · rw [hb k z, e5 k (by omega), decide_eq_false (by omega)]; rfl
      · exact b_big z
    · intro o ho
      obtain ⟨q1, q2⟩ := u3 o
      rw [t5 o, q2]
      obtain ⟨v1, v2⟩ := e6 o ho
      by_cases h : a ≤ o ∧ o < a + c
      · rw [if_pos h, if_pos h]
        exact ⟨rfl, Or.inr ⟨g', by omega, rfl⟩⟩
      · rw [if_neg h, if_neg h]
        refine ⟨v1, ?_⟩
        rcases v2 with w | ⟨k, hk, w⟩
        · exact Or.inl w
        · exact Or.inr ⟨k, by omega, w⟩
  · rw [S 5 (by decide), S 6 (by decide), T 6 (by decide), T 7 (by decide), T 8 (by decide), M 3 (by decide), u 8 (by decide), u 9 (by decide), u 10 (by decide)]; exact h4
  · rw [S 7 (by decide), S 8 (by decide), T 9 (by decide), T 10 (by decide), T 11 (by decide), M 5 (by decide), u 11 (by decide), u 12 (by decide), u 13 (by decide)]; exact h5
  · rw [S 9 (by decide), S 10 (by decide), T 12 (by decide), T 13 (by decide), M 6 (by decide), u 14 (by decide), u 15 (by decide), u 16 (by decide), u 17 (by decide)]; exact h6
  · rw [S 11 (by decide), S 1 (by decide), T 1 (by decide), u 18 (by decide), u 19 (by decide)]; exact Ri_lo h7 hlo
  · rw [S 11 (by decide), S 2 (by decide), T 2 (by decide), u 18 (by decide), u 19 (by decide)]; exact Ri_lo h8 hlo
  · rw [s12, mx, ← h9.1]
    exact ⟨rfl, lotAt_ok h9.2 c⟩
  · rw [S 13 (by decide), M 2 (by decide)]; exact h10
  · rw [S 14 (by decide), M 4 (by decide)]; exact h11
  · rw [sm, mm]; exact h12
