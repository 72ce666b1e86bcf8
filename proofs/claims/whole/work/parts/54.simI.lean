/-- the reference's loop of giveBack: OCTETS a .. a + c are DEAD -/
theorem w_gvL (τ : St) {j a c : Nat} (hj : j < 12) (hac : a + c ≤ 32) (ha : τ.2.1 5 j = nI a) (hc : τ.2.1 6 j = nI c) (K : Int32 → St → Prop)
    (hK : ∀ ρ : St, ρ.1 = τ.1 → ρ.2.2 = τ.2.2 → (∀ q, q ≠ 3 → ρ.2.1 q = τ.2.1 q) → (∀ o, ρ.2.1 3 o = if a ≤ o ∧ o < a + c then 1 else τ.2.1 3 o) → wp_X8_letOnes ρ (fun x6 σ5 => wp_X8_bits x6 (fun x7 => wp_X8_tick σ5 (7 : Int32) x7 (fun x9 σ8 => K x9 σ8)))) :
    ∀ d k, k + d = c → ∀ n, d < n → ∀ ρ : St, ρ.1 = τ.1 → ρ.2.2 = τ.2.2 → (∀ q, q ≠ 3 → ρ.2.1 q = τ.2.1 q) → (∀ o, ρ.2.1 3 o = if a ≤ o ∧ o < a + k then 1 else τ.2.1 3 o) → wl_X8_giveBack_37 K n (nI j) (nI (a + k)) ρ := by
  intro d
  have vj : vp_in (nI j) 12 := vp_in_nI (by omega) (by omega)
  have ej : (nI j).toNatClampNeg = j := nI_clamp (by omega)
  induction d with
  | zero =>
    intro k hk n hn ρ f1 f2 f3 f4
    obtain ⟨n, rfl⟩ : ∃ z, n = z + 1 := ⟨n - 1, by omega⟩
    have hk : k = c := by omega
    subst hk
    refine ⟨vj, vj, ?_⟩
    rw [ej, f3 5 (by decide), f3 6 (by decide), ha, hc, nI_add]
    exact ⟨fun _ => hK ρ f1 f2 f3 f4, fun z => absurd (by rw [nI_leI (by omega) (by omega)]; exact Nat.le_refl _) z⟩
  | succ d ih =>
    intro k hk n hn ρ f1 f2 f3 f4
    obtain ⟨n, rfl⟩ : ∃ z, n = z + 1 := ⟨n - 1, by omega⟩
    refine ⟨vj, vj, ?_⟩
    rw [ej, f3 5 (by decide), f3 6 (by decide), ha, hc, nI_add]
    refine ⟨fun z => absurd z ?_, fun _ => ⟨vp_in_nI (by omega) (by omega), ?_⟩⟩
    · rw [nI_leI (by omega) (by omega)]; omega
    rw [nar1, nI_clamp (by omega), nI_1]
    intro s1 e; subst e
    intro x e
    rw [show a + k + 1 = a + (k + 1) by omega] at e
    subst e
    refine ih (k + 1) (by omega) n (by omega) _ f1 f2 (fun q hq => ?_) (fun o => ?_)
    · rw [sA_2, if_neg hq, f3 q hq]
    · show upd (ρ.2.1 3) (a + k) 1 o = _
      by_cases h : o = a + k
      · rw [h, upd_same, if_pos (by omega)]
      · rw [upd_ne h, f4 o]
        by_cases h2 : a ≤ o ∧ o < a + k
        · rw [if_pos h2, if_pos (by omega)]
        · rw [if_neg h2, if_neg (by omega)]
theorem R_give {m : Nat} {σ τ ρ : St} (hR : RelM m σ τ) {j a c : Nat} (hc1 : 1 ≤ c) (h3 : ∀ o, a ≤ o → o < a + c → ¬ σ.2.1 5 o = -1) (hc : c ≤ 8) (hac : a + c ≤ 32) (hj12 : j < 12)
    (f1 : ρ.1 = τ.1) (f2 : ρ.2.2 = τ.2.2) (f3 : ∀ q, q ≠ 3 → q ≠ 7 → ρ.2.1 q = τ.2.1 q) (f7 : ρ.2.1 7 = upd (τ.2.1 7) j 0) (f4 : ∀ o, ρ.2.1 3 o = if a ≤ o ∧ o < a + c then 1 else τ.2.1 3 o) :
    RelM m (sI (sI σ 4 (σ.1 4 &&& (((1 : Int32) <<< (nI j &&& 31)) ^^^ (-1 : Int32)))) 0 (σ.1 0 ||| oset (nI a) (nI c))) ρ := by
  obtain ⟨h1, h2, ⟨g, hg, e1, e2, e3, e4, e5, e6⟩, h4, h5, h6, h7, h8, h9, h10, h11, h12⟩ := hR
  have k : ∀ q, q ≠ 3 ∧ q ≠ 7 → ρ.2.1 q = τ.2.1 q := fun q h => f3 q h.1 h.2
  have hb : ∀ i, i < 32 → bt (σ.1 4 &&& (((1 : Int32) <<< (nI j &&& 31)) ^^^ (-1 : Int32))) i = (bt (σ.1 4) i && !decide (i = j)) := by
    intro i hi
    rw [b_and, b_not _ hi, b_one (by omega) hi]
  refine ⟨?_, ?_, ?_, ?_, ?_, ?_, ?_, ?_, ?_, ?_, ?_, ?_⟩
  · show Rc (σ.2.1 0) (ρ.2.1 0) (ρ.2.1 1) (ρ.2.1 2)
    rw [k 0 (by decide), k 1 (by decide), k 2 (by decide)]; exact h1
  · intro o ho
    show ρ.2.1 3 o = (if bt (σ.1 0 ||| oset (nI a) (nI c)) o then 1 else 0) ∧ (bt (σ.1 0 ||| oset (nI a) (nI c)) o = true → ¬ σ.2.1 5 o = -1)
    rw [f4 o, b_or, b_oset a (by omega) c (by omega) hac o ho]
    by_cases h : a ≤ o ∧ o < a + c
    · rw [if_pos h, decide_eq_true h, Bool.or_true]
      exact ⟨rfl, fun _ => h3 o h.1 h.2⟩
    · rw [if_neg h, decide_eq_false h, Bool.or_false]
      exact h2 o ho
  · refine ⟨g, hg, e1, by rw [f1]; exact e2, ?_, ?_, ?_, ?_⟩
    · intro q hq
      show σ.2.1 3 q = ρ.2.1 5 q ∧ σ.2.1 4 q = ρ.2.1 6 q ∧ _
      rw [k 5 (by decide), k 6 (by decide)]
      exact e3 q hq
    · intro q hq
      show ρ.2.1 7 q = if bt (σ.1 4 &&& (((1 : Int32) <<< (nI j &&& 31)) ^^^ (-1 : Int32))) q then 1 else 0
      rw [f7, hb q (by omega)]
      by_cases h : q = j
      · subst h
        rw [upd_same]; simp
      · rw [upd_ne h, e4 q hq]
        simp [h]
    · intro q hq
      show bt (σ.1 4 &&& (((1 : Int32) <<< (nI j &&& 31)) ^^^ (-1 : Int32))) q = false
      rcases Nat.lt_or_ge q 32 with z | z
      · rw [hb q z, e5 q hq]; rfl
      · exact b_big z
    · intro o ho
      show σ.2.1 5 o = ρ.2.1 4 o ∧ _
      rw [k 4 (by decide)]
      exact e6 o ho
  · show Ry m (σ.1 5) (σ.1 6) (σ.2.1 6) (σ.2.1 7) (σ.2.1 8) (ρ.1 3) (ρ.2.1 8) (ρ.2.1 9) (ρ.2.1 10)
    rw [f1, k 8 (by decide), k 9 (by decide), k 10 (by decide)]; exact h4
  · show Rr (σ.1 7) (σ.1 8) (σ.2.1 9) (σ.2.1 10) (σ.2.1 11) (ρ.1 5) (ρ.2.1 11) (ρ.2.1 12) (ρ.2.1 13)
    rw [f1, k 11 (by decide), k 12 (by decide), k 13 (by decide)]; exact h5
  · show Ru (σ.1 9) (σ.1 10) (σ.2.1 12) (σ.2.1 13) (ρ.1 6) (ρ.2.1 14) (ρ.2.1 15) (ρ.2.1 16) (ρ.2.1 17)
    rw [f1, k 14 (by decide), k 15 (by decide), k 16 (by decide), k 17 (by decide)]; exact h6
  · show Ri 0 (σ.1 11) (σ.1 1) (σ.2.1 1) (σ.2.1 5) (ρ.2.1 18) (ρ.2.1 19)
    rw [k 18 (by decide), k 19 (by decide)]; exact h7
  · show Ri 1 (σ.1 11) (σ.1 2) (σ.2.1 2) (σ.2.1 5) (ρ.2.1 18) (ρ.2.1 19)
    rw [k 18 (by decide), k 19 (by decide)]; exact h8
  · show Rs (σ.1 12) (ρ.1 1)
    rw [f1]; exact h9
  · show σ.1 13 = ρ.1 2
    rw [f1]; exact h10
  · show σ.1 14 = ρ.1 4
    rw [f1]; exact h11
  · show σ.2.2 = ρ.2.2
    rw [f2]; exact h12
theorem sim_giveBack : Sim_giveBack Rel := by
  intro n σ τ a1 hn hR
  have hR : RelM (64 * n) σ τ := hR
  have hF := Rel_mono _ _ _ hR
  obtain ⟨g, hg, e1, e2, e3, e4, e5, e6⟩ := hR.2.2.1
  unfold wp_X7_giveBack
  by_cases c1 : inR g a1
  · obtain ⟨j, hj, rfl⟩ := inR_ex c1 (by omega)
    have vj : vp_in (nI j) 12 := vp_in_nI (by omega) (by omega)
    have ej : (nI j).toNatClampNeg = j := nI_clamp (by omega)
    obtain ⟨q1, q2, a, c, q3, q4, q5, q6, q7, q8⟩ := e3 j hj
    have hz := if01 (e4 j hj)
    refine hasC_t e1 hg c1 ⟨fun _ => ?_, fun z => absurd z one_ne⟩
    unfold wp_X3_isLet_7
    rw [tst_s _ (by omega)]
    refine ⟨fun cb => ⟨fun z => absurd rfl z, fun _ => ?_⟩, fun cb => ⟨fun _ => ?_, fun z => absurd z one_ne⟩⟩
    · unfold wp_X8_giveBack
      refine hasM_t e2 hg c1 ⟨fun _ => ⟨vj, ?_⟩, fun z => absurd z one_ne⟩
      rw [ej]
      exact ⟨fun z => absurd (hz.mpr cb) z, fun _ => ⟨rfl, hF⟩⟩
    · unfold wp_X3_close_7
      intro s1 es1; subst es1
      refine ⟨vj, vj, ?_⟩
      rw [ej]
      have f3' : (sI σ 4 (σ.1 4 &&& (((1 : Int32) <<< (nI j &&& 31)) ^^^ (-1 : Int32)))).2.1 3 j = nI a := q3
      have f4' : (sI σ 4 (σ.1 4 &&& (((1 : Int32) <<< (nI j &&& 31)) ^^^ (-1 : Int32)))).2.1 4 j = nI c := q4
      rw [f3', f4']
      unfold wp_X7_octetSet
      intro s2 es2
      have es2 : s2 = sI (sI σ 4 (σ.1 4 &&& (((1 : Int32) <<< (nI j &&& 31)) ^^^ (-1 : Int32)))) 0 (σ.1 0 ||| oset (nI a) (nI c)) := es2
      refine w_pop ?_
      have h8 : vp_in (s2.1 8) 16 := by
        rw [es2]
        show vp_in (σ.1 8) 16
        exact Rr_vp hR
      refine w_cTick h8 ?_
      unfold wp_X8_giveBack
      refine hasM_t e2 hg c1 ⟨fun _ => ⟨vj, ?_⟩, fun z => absurd z one_ne⟩
      rw [ej, nar0]
      refine ⟨fun _ => ⟨vj, ?_⟩, fun z => absurd (hz.mp z) cb⟩
      intro t1 et1; subst et1
      refine ⟨vj, ?_⟩
      intro x4 ex4
      have ex4 : x4 = nI (a + 0) := by rw [ex4]; exact q1.symm.trans q3
      subst ex4
      refine ⟨9, w_gvL (sA τ 7 (upd (τ.2.1 7) j 0)) (j := j) (a := a) (c := c) (by omega) q7 (q1.symm.trans q3) (q2.symm.trans q4) _ ?_ c 0 (by omega) 9 (by omega) _ rfl rfl (fun _ _ => rfl) (fun o => by rw [if_neg (by omega)])⟩
      intro ρ f1 f2 f3 f4
      have hR2 : RelM (64 * n) s2 ρ := by
        rw [es2]
        refine R_give hR q5 q8 q6 q7 (by omega) f1 f2 (fun q h1 h2 => ?_) ?_ f4
        · rw [f3 q h1, sA_2, if_neg h2]
        · rw [f3 7 (by decide)]; rfl
      refine w_letOnes hR2 (w_bits (w_mT ?_))
      obtain ⟨g2, hg2, -, -, -, -, u5, -⟩ := hR2.2.2.1
      have ep : fb_ct (bt (s2.1 4)) 16 = pop (s2.1 4) := pop_16 (fun i hi => u5 i (by omega))
      rw [ep]
      exact ⟨rfl, R_fin (by omega) (R_T hR2 _ _)⟩
  · refine hasC_f e1 hg c1 ⟨fun z => absurd rfl z, fun _ => ?_⟩
    unfold wp_X8_giveBack
    exact hasM_f e2 hg c1 ⟨fun z => absurd rfl z, fun _ => ⟨rfl, hF⟩⟩
