theorem fb_subI' {x y : Int32} (h1 : -2147483648 ≤ x.toInt - y.toInt) (h2 : x.toInt - y.toInt < 2147483648) : (x - y).toInt = x.toInt - y.toInt := by
  rw [Int32.toInt_sub]
  exact Int.bmod_eq_of_le (by omega) (by omega)
/-- the low four bits of n - 16 are those of n -/
theorem ring_sub : ∀ i, i < 32 → ∀ n, n < 32 → (bt (nI n - nI 16) i && bt 15 i) = bt (nI (n % 16)) i := by decide +kernel
theorem sim_mark : Sim_mark Rel := by
  intro n σ τ hn hR
  exact ⟨hR.2.2.2.2.2.2.2.2.2.2.2, Rel_mono _ _ _ hR⟩
theorem sim_lot : Sim_lot Rel := by
  intro n σ τ a1 hn hR
  have hR : RelM (64 * n) σ τ := hR
  have z1 : (1 : Int32).toInt = 1 := by decide
  have zm : (2147483647 : Int32).toInt = 2147483647 := by decide
  have y1 : (1 : Int64).toInt = 1 := by decide
  have ym : (2147483646 : Int64).toInt = 2147483646 := by decide
  have bad : ¬ ((1 : Int64).toInt ≤ a1.toInt ∧ a1.toInt ≤ (2147483646 : Int64).toInt) → wp_X8_lot τ a1 (fun y τ1 => (-1000000002 : Int32) = y ∧ Rel (n + 1) σ τ1) := by
    intro h
    unfold wp_X8_lot
    exact ckM (fun p q => absurd ⟨p, q⟩ h) (fun _ => ⟨fun c => absurd rfl c, fun _ => ⟨rfl, Rel_mono _ _ _ hR⟩⟩)
  unfold wp_X7_lot
  refine ⟨fun c => ?_, fun c => ⟨fun c2 => ?_, fun c2 => ?_⟩⟩
  · rw [Int32.lt_iff_toInt_lt] at c
    exact bad (by omega)
  · rw [Int32.lt_iff_toInt_lt] at c c2
    intro x1 e1; subst e1
    intro σ2 e2; subst e2
    unfold wp_X8_lot
    refine ckM (fun p q => ⟨fun _ => ?_, fun c => absurd c one_ne⟩) (fun h => absurd ⟨by omega, by omega⟩ h)
    intro x2 e; subst e
    intro τ2 e; subst e
    obtain ⟨h1, h2, h3, h4, h5, h6, h7, h8, h9, h10⟩ := hR
    refine ⟨h9.1, R_fin (m := 64 * n) (by omega) ⟨h1, h2, h3, h4, h5, h6, h7, h8, ⟨rfl, ?_⟩, h10⟩⟩
    obtain ⟨j, hj, e⟩ := inR_ex (N := 2147483647) (a := a1) ⟨by omega, by omega⟩ (by omega)
    exact ⟨j, hj, e⟩
  · rw [Int32.lt_iff_toInt_lt] at c2
    exact bad (by omega)
theorem if01 {b : Bool} {x : Int32} (h : x = if b then 1 else 0) : (x = 0 ↔ b = false) := by
  subst h; cases b <;> decide
theorem sim_register : Sim_register Rel := by
  intro n σ τ a1 a2 hn hR
  have hR : RelM (64 * n) σ τ := hR
  have hF := Rel_mono _ _ _ hR
  unfold wp_X7_register
  by_cases c1 : inR 8 a1
  · obtain ⟨j, hj, rfl⟩ := inR_ex c1 (by omega)
    have hc := hR.1 j (by omega)
    have vj : vp_in (nI j) 40 := vp_in_nI (by omega) (by omega)
    have ej : (nI j).toNatClampNeg = j := nI_clamp (by omega)
    refine regC_t c1 ⟨fun _ => ⟨vj, ?_⟩, fun c => absurd c one_ne⟩
    intro x2 e; rw [ej] at e; subst e
    unfold wp_X8_register
    unfold wp_X0_valueOf wp_X0_shadowOf wp_X0_fromOf wp_X0_leastOf wp_X0_mostOf wp_X0_valueOf wp_X0_shadowOf
    rw [RC_val hc, RC_sh hc, RC_fr hc]
    refine ⟨fun q => ?_, fun q => ⟨fun q1 => ?_, fun q1 => ⟨fun q2 => ?_, fun q2 => ⟨fun q3 => ?_, fun q3 => ⟨fun q4 => ?_, fun q4 => ⟨fun q5 => ?_, fun q5 => ⟨fun q6 => ?_, fun q6 => ?_⟩⟩⟩⟩⟩⟩⟩
    · refine regM_t c1 ⟨fun _ => ⟨fun _ => ⟨vj, by rw [ej], hF⟩, fun c => absurd q c⟩, fun c => absurd c one_ne⟩
    · refine regM_t c1 ⟨fun _ => ⟨fun c => absurd c q, fun _ => ⟨fun _ => ⟨vj, by rw [ej], hF⟩, fun c => absurd q1 c⟩⟩, fun c => absurd c one_ne⟩
    · refine regM_t c1 ⟨fun _ => ⟨fun c => absurd c q, fun _ => ⟨fun c => absurd c q1, fun _ => ⟨fun _ => ⟨vj, by rw [ej], hF⟩, fun c => absurd q2 c⟩⟩⟩, fun c => absurd c one_ne⟩
    · refine regM_t c1 ⟨fun _ => ⟨fun c => absurd c q, fun _ => ⟨fun c => absurd c q1, fun _ => ⟨fun c => absurd c q2, fun _ => ⟨fun _ => ⟨vj, vj, by rw [ej], hF⟩, fun c => absurd q3 c⟩⟩⟩⟩, fun c => absurd c one_ne⟩
    · refine regM_t c1 ⟨fun _ => ⟨fun c => absurd c q, fun _ => ⟨fun c => absurd c q1, fun _ => ⟨fun c => absurd c q2, fun _ => ⟨fun c => absurd c q3, fun _ => ⟨fun _ => ⟨vj, vj, by rw [ej], hF⟩, fun c => absurd q4 c⟩⟩⟩⟩⟩, fun c => absurd c one_ne⟩
    · refine w_pop ?_
      refine regM_t c1 ⟨fun _ => ⟨fun c => absurd c q, fun _ => ⟨fun c => absurd c q1, fun _ => ⟨fun c => absurd c q2, fun _ => ⟨fun c => absurd c q3, fun _ => ⟨fun c => absurd c q4, fun _ => ⟨fun _ => ⟨vj, w_bits ⟨?_, hF⟩⟩, fun c => absurd q5 c⟩⟩⟩⟩⟩⟩, fun c => absurd c one_ne⟩
      rw [ej, pop_B hc.2.2.1]
    · refine w_decC hc rfl ?_
      by_cases cd : τ.2.1 1 j = 0 ∨ ¬ (τ.2.1 0 j &&& (τ.2.1 1 j ^^^ (-1 : Int32))) = 0
      · rw [if_pos cd]
        refine ⟨fun c => absurd c one_ne, fun _ => ?_⟩
        refine regM_t c1 ⟨fun _ => ⟨fun c => absurd c q, fun _ => ⟨fun c => absurd c q1, fun _ => ⟨fun c => absurd c q2, fun _ => ⟨fun c => absurd c q3, fun _ => ⟨fun c => absurd c q4, fun _ => ⟨fun c => absurd c q5, fun _ => ⟨fun _ => w_decM (by omega) (if_pos cd).symm ⟨fun c => absurd c one_ne, fun _ => ⟨rfl, hF⟩⟩, fun c => absurd q6 c⟩⟩⟩⟩⟩⟩⟩, fun c => absurd c one_ne⟩
      · rw [if_neg cd]
        refine ⟨fun _ => ?_, fun c => absurd rfl c⟩
        refine regM_t c1 ⟨fun _ => ⟨fun c => absurd c q, fun _ => ⟨fun c => absurd c q1, fun _ => ⟨fun c => absurd c q2, fun _ => ⟨fun c => absurd c q3, fun _ => ⟨fun c => absurd c q4, fun _ => ⟨fun c => absurd c q5, fun _ => ⟨fun _ => w_decM (by omega) (if_neg cd).symm ⟨fun _ => ⟨rfl, hF⟩, fun c => absurd rfl c⟩, fun c => absurd q6 c⟩⟩⟩⟩⟩⟩⟩, fun c => absurd c one_ne⟩
    · refine regM_t c1 ⟨fun _ => ⟨fun c => absurd c q, fun _ => ⟨fun c => absurd c q1, fun _ => ⟨fun c => absurd c q2, fun _ => ⟨fun c => absurd c q3, fun _ => ⟨fun c => absurd c q4, fun _ => ⟨fun c => absurd c q5, fun _ => ⟨fun c => absurd c q6, fun _ => ⟨rfl, hF⟩⟩⟩⟩⟩⟩⟩⟩, fun c => absurd c one_ne⟩
  · refine regC_f c1 ⟨fun c => absurd rfl c, fun _ => ?_⟩
    unfold wp_X8_register
    exact regM_f c1 ⟨fun c => absurd rfl c, fun _ => ⟨rfl, hF⟩⟩
theorem sim_octet : Sim_octet Rel := by
  intro n σ τ a1 a2 hn hR
  have hR : RelM (64 * n) σ τ := hR
  have hF := Rel_mono _ _ _ hR
  unfold wp_X7_octet
  by_cases c1 : inR 32 a1
  · obtain ⟨o, ho, rfl⟩ := inR_ex c1 (by omega)
    have hc := hR.1 (8 + o) (by omega)
    have v32 : vp_in (nI o) 32 := vp_in_nI (by omega) (by omega)
    have v40 : vp_in ((8 : Int32) + nI o) 40 := by rw [add8]; exact vp_in_nI (by omega) (by omega)
    have e8 : ((8 : Int32) + nI o).toNatClampNeg = 8 + o := by rw [add8, nI_clamp (by omega)]
    have eo : (nI o).toNatClampNeg = o := nI_clamp (by omega)
    refine octC_t c1 ⟨fun _ => ⟨v40, ?_⟩, fun c => absurd c one_ne⟩
    intro x2 e; rw [e8] at e; subst e
    unfold wp_X8_octet wp_X0_valueOf wp_X0_shadowOf wp_X0_fromOf
    rw [RC_val hc, RC_sh hc, RC_fr hc]
    have hd := hR.2.1 o ho
    refine ⟨fun q => ?_, fun q => ⟨fun q1 => ?_, fun q1 => ⟨fun q2 => ?_, fun q2 => ⟨fun q3 => ?_, fun q3 => ⟨fun q4 => ?_, fun q4 => ?_⟩⟩⟩⟩⟩
    · exact octM_t c1 ⟨fun _ => ⟨fun _ => ⟨v40, by rw [e8], hF⟩, fun c => absurd q c⟩, fun c => absurd c one_ne⟩
    · exact octM_t c1 ⟨fun _ => ⟨fun c => absurd c q, fun _ => ⟨fun _ => ⟨v40, by rw [e8], hF⟩, fun c => absurd q1 c⟩⟩, fun c => absurd c one_ne⟩
    · exact octM_t c1 ⟨fun _ => ⟨fun c => absurd c q, fun _ => ⟨fun c => absurd c q1, fun _ => ⟨fun _ => ⟨v40, by rw [e8], hF⟩, fun c => absurd q2 c⟩⟩⟩, fun c => absurd c one_ne⟩
    · have hz := if01 hd.1
      unfold wp_X4_isDead_1
      rw [tst_u _ (by omega)]
      refine ⟨fun c => ⟨fun _ => ?_, fun z => absurd rfl z⟩, fun c => ⟨fun z => absurd z one_ne, fun _ => ?_⟩⟩
      · refine octM_t c1 ⟨fun _ => ⟨fun c => absurd c q, fun _ => ⟨fun c => absurd c q1, fun _ => ⟨fun c => absurd c q2, fun _ => ⟨fun _ => ⟨v32, ?_⟩, fun c => absurd q3 c⟩⟩⟩⟩, fun c => absurd c one_ne⟩
        rw [eo]
        exact ⟨fun _ => ⟨rfl, hF⟩, fun z => absurd (hz.mpr c) z⟩
      · refine octM_t c1 ⟨fun _ => ⟨fun c => absurd c q, fun _ => ⟨fun c => absurd c q1, fun _ => ⟨fun c => absurd c q2, fun _ => ⟨fun _ => ⟨v32, ?_⟩, fun c => absurd q3 c⟩⟩⟩⟩, fun c => absurd c one_ne⟩
        rw [eo]
        exact ⟨fun z => absurd (hz.mp z) c, fun _ => ⟨rfl, hF⟩⟩
    · refine ⟨v32, ?_⟩
      refine octM_t c1 ⟨fun _ => ⟨fun c => absurd c q, fun _ => ⟨fun c => absurd c q1, fun _ => ⟨fun c => absurd c q2, fun _ => ⟨fun c => absurd c q3, fun _ => ⟨fun _ => ⟨v32, ?_, hF⟩, fun c => absurd q4 c⟩⟩⟩⟩⟩, fun c => absurd c one_ne⟩
      rw [eo]
      obtain ⟨g, -, -, -, -, -, -, e⟩ := hR.2.2.1
      exact (e o ho).1
    · exact octM_t c1 ⟨fun _ => ⟨fun c => absurd c q, fun _ => ⟨fun c => absurd c q1, fun _ => ⟨fun c => absurd c q2, fun _ => ⟨fun c => absurd c q3, fun _ => ⟨fun c => absurd c q4, fun _ => ⟨rfl, hF⟩⟩⟩⟩⟩⟩, fun c => absurd c one_ne⟩
  · refine octC_f c1 ⟨fun c => absurd rfl c, fun _ => ?_⟩
    unfold wp_X8_octet
    exact octM_f c1 ⟨fun c => absurd rfl c, fun _ => ⟨rfl, hF⟩⟩
/-- keptCries -/
theorem w_kept {m : Nat} {σ τ : St} (hR : RelM m σ τ) (hm : m < 100000) {K : Int32 → St → Prop} (hK : K (σ.1 6) τ) : wp_X8_keptCries τ K := by
  obtain ⟨n, hn, e1, e2, e3, -⟩ := hR.2.2.2.1
  unfold wp_X8_keptCries
  rw [e2, show (20 : Int32) = nI 20 from rfl, nI_leI (by omega) (by omega)]
  rw [e3] at hK
  refine ⟨fun c => ?_, fun c => ?_⟩
  · rw [show min n 20 = 20 by omega] at hK; exact hK
  · rw [show min n 20 = n by omega] at hK; exact hK
theorem sim_cry : Sim_cry Rel := by
  intro n σ τ a1 a2 hn hR
  have hR : RelM (64 * n) σ τ := hR
  have hF := Rel_mono _ _ _ hR
  obtain ⟨c, hc, e1, e2, e3, h4⟩ := hR.2.2.2.1
  unfold wp_X7_cry
  have hlt : a1 < σ.1 6 ↔ ¬ σ.1 6 ≤ a1 := by
    rw [Int32.lt_iff_toInt_lt, Int32.le_iff_toInt_le]; omega
  have hck : ∀ {P Q : Prop}, (inR (min c 20) a1 → P) → (¬ inR (min c 20) a1 → Q) → (a1 < 0 → Q) ∧ (¬ a1 < 0 → (a1 < σ.1 6 → P) ∧ (¬ a1 < σ.1 6 → Q)) := by
    intro P Q t f
    have h := ckC (a := a1) (n := σ.1 6) (N := min c 20) (by rw [e3]; exact nI_toInt (by omega)) t f
    exact ⟨h.1, fun z => ⟨fun y => (h.2 z).2 (hlt.mp y), fun y => (h.2 z).1 (by rw [hlt] at y; exact Classical.byContradiction y)⟩⟩
  by_cases c1 : inR (min c 20) a1
  · refine hck (fun _ => ?_) (fun h => absurd c1 h)
    obtain ⟨j, hj, rfl⟩ := inR_ex c1 (by omega)
    have vj : vp_in (nI j) 20 := vp_in_nI (by omega) (by omega)
    have ej : (nI j).toNatClampNeg = j := nI_clamp (by omega)
    obtain ⟨q1, q2, q3⟩ := h4 j hj
    have hs := sub1_toInt (g := min c 20) (by omega)
    unfold wp_X8_cry
    rw [ej]
    refine ⟨fun q => ⟨vj, ?_⟩, fun q => ⟨fun r => ⟨vj, ?_⟩, fun r => ⟨fun t => ⟨vj, ?_⟩, fun t => ?_⟩⟩⟩
    · refine w_kept hR (by omega) ?_
      rw [e3]
      exact inM_t c1 hs ⟨fun _ => ⟨fun _ => ⟨vj, by rw [q1], hF⟩, fun z => absurd q z⟩, fun z => absurd z one_ne⟩
    · refine w_kept hR (by omega) ?_
      rw [e3]
      exact inM_t c1 hs ⟨fun _ => ⟨fun z => absurd z q, fun _ => ⟨fun _ => ⟨vj, by rw [q2], hF⟩, fun z => absurd r z⟩⟩, fun z => absurd z one_ne⟩
    · refine w_kept hR (by omega) ?_
      rw [e3]
      exact inM_t c1 hs ⟨fun _ => ⟨fun z => absurd z q, fun _ => ⟨fun z => absurd z r, fun _ => ⟨fun _ => ⟨vj, by rw [q3], hF⟩, fun z => absurd t z⟩⟩⟩, fun z => absurd z one_ne⟩
    · refine w_kept hR (by omega) ?_
      rw [e3]
      exact inM_t c1 hs ⟨fun _ => ⟨fun z => absurd z q, fun _ => ⟨fun z => absurd z r, fun _ => ⟨fun z => absurd z t, fun _ => ⟨rfl, hF⟩⟩⟩⟩, fun z => absurd z one_ne⟩
  · refine hck (fun h => absurd h c1) (fun _ => ?_)
    unfold wp_X8_cry
    refine w_kept hR (by omega) ?_
    rw [e3]
    exact inM_f c1 (sub1_toInt (g := min c 20) (by omega)) ⟨fun z => absurd rfl z, fun _ => ⟨rfl, hF⟩⟩
theorem sim_ring : Sim_ring Rel := by
  intro n σ τ a1 a2 hn hR
  have hR : RelM (64 * n) σ τ := hR
  have hF := Rel_mono _ _ _ hR
  obtain ⟨c, p, hc, hp, e1, e2, e3, h5⟩ := hR.2.2.2.2.1
  unfold wp_X7_ring
  have le2 : a2 ≤ (2 : Int32) ↔ ¬ (2 : Int32) < a2 := by
    rw [Int32.lt_iff_toInt_lt, Int32.le_iff_toInt_le]; omega
  have ck2 : ∀ {P Q : Prop}, (inR 3 a2 → P) → (¬ inR 3 a2 → Q) → (a2 < 0 → Q) ∧ (¬ a2 < 0 → (a2 ≤ (2 : Int32) → P) ∧ (¬ a2 ≤ (2 : Int32) → Q)) := by
    intro P Q t f
    have h := ckC2 (a := a2) (n := (2 : Int32)) (N := 3) (by decide) t f
    exact ⟨h.1, fun z => ⟨fun y => (h.2 z).2 (le2.mp y), fun y => (h.2 z).1 (by rw [le2] at y; exact Classical.byContradiction y)⟩⟩
  have hlt : a1 < σ.1 7 ↔ ¬ σ.1 7 ≤ a1 := by
    rw [Int32.lt_iff_toInt_lt, Int32.le_iff_toInt_le]; omega
  have hck : ∀ {P Q : Prop}, (inR c a1 → P) → (¬ inR c a1 → Q) → (a1 < 0 → Q) ∧ (¬ a1 < 0 → (a1 < σ.1 7 → P) ∧ (¬ a1 < σ.1 7 → Q)) := by
    intro P Q t f
    have h := ckC (a := a1) (n := σ.1 7) (N := c) (by rw [e1]; exact nI_toInt (by omega)) t f
    exact ⟨h.1, fun z => ⟨fun y => (h.2 z).2 (hlt.mp y), fun y => (h.2 z).1 (by rw [hlt] at y; exact Classical.byContradiction y)⟩⟩
  have hs := sub1_toInt (g := c) (by omega)
  by_cases c2 : inR 3 a2
  · refine ck2 (fun _ => ?_) (fun h => absurd c2 h)
    by_cases c1 : inR c a1
    · refine hck (fun _ => ?_) (fun h => absurd c1 h)
      obtain ⟨j, hj, rfl⟩ := inR_ex c1 (by omega)
      have vj : vp_in (nI j) 16 := vp_in_nI (by omega) (by omega)
      have ej : (nI j).toNatClampNeg = j := nI_clamp (by omega)
      obtain ⟨q1, q2, q3⟩ := h5 j hj
      have ep : (((σ.1 8) - (1 : Int32)) - nI j) &&& (15 : Int32) = nI ((p + 15 - j) % 16) := by
        rw [e3]
        have h : nI p - (1 : Int32) - nI j = nI (p + 15 - j) - nI 16 := by
          apply Int32.toInt_inj.mp
          have a1 : (nI p - (1 : Int32)).toInt = (p : Int) - 1 := by rw [show (1 : Int32) = nI 1 from rfl, pk_sub_toInt (by omega) (by omega)]; rfl
          rw [fb_subI' (by rw [a1, nI_toInt (by omega)]; omega) (by rw [a1, nI_toInt (by omega)]; omega), a1, nI_toInt (by omega), pk_sub_toInt (by omega) (by omega)]
          omega
        rw [h]
        apply b_ext
        intro i hi
        rw [b_and, ring_sub i hi _ (by omega)]
      unfold wp_X5_placeOf_15
      rw [ep]
      have vq : vp_in (nI ((p + 15 - j) % 16)) 16 := vp_in_nI (by omega) (by omega)
      have eq9 : (nI ((p + 15 - j) % 16)).toNatClampNeg = (p + 15 - j) % 16 := nI_clamp (by omega)
      dsimp only
      rw [eq9]
      unfold wp_X8_ring
      refine ⟨fun q => ⟨vq, ?_⟩, fun q => ⟨fun r => ⟨vq, ?_⟩, fun r => ⟨vq, ?_⟩⟩⟩
      · refine inM_t c2 (by decide) ⟨fun _ => ?_, fun z => absurd z one_ne⟩
        rw [e2]
        refine inM_t c1 hs ⟨fun _ => ⟨fun z => absurd q z, fun _ => ⟨vj, ?_, hF⟩⟩, fun z => absurd z one_ne⟩
        rw [ej, q1]
      · refine inM_t c2 (by decide) ⟨fun _ => ?_, fun z => absurd z one_ne⟩
        rw [e2]
        refine inM_t c1 hs ⟨fun _ => ⟨fun _ => ⟨fun z => absurd r z, fun _ => ⟨vj, ?_, hF⟩⟩, fun z => absurd z q⟩, fun z => absurd z one_ne⟩
        rw [ej, q2]
      · refine inM_t c2 (by decide) ⟨fun _ => ?_, fun z => absurd z one_ne⟩
        rw [e2]
        refine inM_t c1 hs ⟨fun _ => ⟨fun _ => ⟨fun _ => ⟨vj, ?_, hF⟩, fun z => absurd z r⟩, fun z => absurd z q⟩, fun z => absurd z one_ne⟩
        rw [ej, q3]
    · refine hck (fun h => absurd h c1) (fun _ => ?_)
      unfold wp_X8_ring
      refine inM_t c2 (by decide) ⟨fun _ => ?_, fun z => absurd z one_ne⟩
      rw [e2]
      exact inM_f c1 hs ⟨fun z => absurd rfl z, fun _ => ⟨rfl, hF⟩⟩
  · refine ck2 (fun h => absurd h c2) (fun _ => ?_)
    unfold wp_X8_ring
    exact inM_f c2 (by decide) ⟨fun z => absurd rfl z, fun _ => ⟨rfl, hF⟩⟩
