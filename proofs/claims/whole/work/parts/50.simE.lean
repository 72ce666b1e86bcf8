theorem sim_part : Sim_part Rel := by
  intro n σ τ a1 a2 a3 a4 hn hR
  have hR : RelM (64 * n) σ τ := hR
  have hF := Rel_mono _ _ _ hR
  have z1 : (1 : Int32).toInt = 1 := by decide
  have z8 : (8 : Int32).toInt = 8 := by decide
  have z7 : (7 : Int32).toInt = 7 := by decide
  have z0 : (0 : Int32).toInt = 0 := by decide
  have y0 : (0 : Int64).toInt = 0 := by decide
  have y1 : (1 : Int64).toInt = 1 := by decide
  have y8 : (8 : Int64).toInt = 8 := by decide
  unfold wp_X7_part
  by_cases c1 : inR 8 a1
  · by_cases c2 : inR 32 a2
    · refine regC_t c1 ⟨fun c => absurd c one_ne, fun _ => octC_t c2 ⟨fun _ => ?_, fun c => absurd c one_ne⟩⟩
      have bad4 : ¬ (1 ≤ a4.toInt ∧ a4.toInt ≤ 8) → wp_X8_part τ a1 a2 a3 a4 (fun y τ1 => (-1000000002 : Int32) = y ∧ Rel (n + 1) σ τ1) := by
        intro h
        unfold wp_X8_part
        refine regM_t c1 ⟨fun c => absurd c one_ne, fun _ => octM_t c2 ⟨fun _ => ?_, fun c => absurd c one_ne⟩⟩
        exact ckM (fun p q => absurd ⟨by omega, by omega⟩ h) (fun _ => ⟨fun _ => ⟨rfl, hF⟩, fun z => absurd rfl z⟩)
      have bad3 : 1 ≤ a4.toInt → a4.toInt ≤ 8 → ¬ (0 ≤ a3.toInt ∧ a3.toInt + a4.toInt ≤ 8) → wp_X8_part τ a1 a2 a3 a4 (fun y τ1 => (-1000000002 : Int32) = y ∧ Rel (n + 1) σ τ1) := by
        intro p4 q4 h
        have e8 : ((8 : Int32) - a4).toInt64.toInt = 8 - a4.toInt := by rw [Int32.toInt_toInt64, fb_subI' (by omega) (by omega), z8]
        unfold wp_X8_part
        refine regM_t c1 ⟨fun c => absurd c one_ne, fun _ => octM_t c2 ⟨fun _ => ?_, fun c => absurd c one_ne⟩⟩
        refine ckM (fun _ _ => ⟨fun z => absurd z one_ne, fun _ => ?_⟩) (fun h => absurd ⟨by omega, by omega⟩ h)
        exact ckM (fun p q => absurd ⟨by omega, by omega⟩ h) (fun _ => ⟨fun z => absurd rfl z, fun _ => ⟨rfl, hF⟩⟩)
      refine ⟨fun c => ?_, fun c => ⟨fun c' => ?_, fun c' => ⟨fun d => ?_, fun d => ⟨fun d' => ?_, fun d' => ⟨fun w => ?_, fun w => ?_⟩⟩⟩⟩⟩
      · rw [Int32.lt_iff_toInt_lt] at c
        exact bad4 (by omega)
      · rw [Int32.lt_iff_toInt_lt] at c'
        exact bad4 (by omega)
      · rw [Int32.lt_iff_toInt_lt] at c c' d
        exact bad3 (by omega) (by omega) (by omega)
      · rw [Int32.lt_iff_toInt_lt] at c c' d'
        exact bad3 (by omega) (by omega) (by omega)
      · rw [Int32.lt_iff_toInt_lt] at c c' d d'
        obtain ⟨k, hk, rfl⟩ := inR_ex (N := 9) (a := a4) ⟨by omega, by omega⟩ (by omega)
        obtain ⟨lo, hlo, rfl⟩ := inR_ex (N := 8) (a := a3) ⟨by omega, by omega⟩ (by omega)
        rw [nI_add, show (8 : Int32) = nI 8 from rfl, nI_leI (by omega) (by omega)] at w
        rw [nI_toInt (by omega)] at c c'
        obtain ⟨j, hj, rfl⟩ := inR_ex c1 (by omega)
        obtain ⟨o, ho, rfl⟩ := inR_ex c2 (by omega)
        have hR1 := R_read hR (by omega) ho
        have hc := hR.1 (8 + o) (by omega)
        have e8 : ((8 : Int32) - nI k).toInt64.toInt = 8 - (k : Int) := by rw [Int32.toInt_toInt64, fb_subI' (by rw [nI_toInt (by omega)]; omega) (by rw [nI_toInt (by omega)]; omega), z8, nI_toInt (by omega)]
        refine w_cRead hR (by omega) ho ?_
        unfold wp_X0_partOf
        intro x1 ex1
        unfold wp_X0_valueOf wp_X0_shadowOf wp_X0_fromOf
        rw [RC_val hc, RC_sh hc, RC_fr hc]
        have hb1 : isB ((τ.2.1 0 (8 + o) >>> (nI lo &&& 31)) &&& x1) := isB_andl (isB_shr hc.2.1 (by omega))
        have hb2 : isB ((τ.2.1 1 (8 + o) >>> (nI lo &&& 31)) &&& x1) := isB_andl (isB_shr hc.2.2.1 (by omega))
        have hx := RC_mk hb1 hb2 hc.2.2.2.1
        refine w_of ?_
        refine tailC (by omega) (Ru_vp hR1).1 (Rr_vp hR1) (RC_sh hx) ?_
        unfold wp_X8_part
        refine regM_t c1 ⟨fun c => absurd c one_ne, fun _ => octM_t c2 ⟨fun _ => ?_, fun c => absurd c one_ne⟩⟩
        refine ckM (fun _ _ => ⟨fun z => absurd z one_ne, fun _ => ?_⟩) (fun h => absurd ⟨by rw [nI_toInt (by omega)]; omega, by rw [nI_toInt (by omega)]; omega⟩ h)
        refine ckM (fun _ _ => ⟨fun _ => ?_, fun z => absurd z one_ne⟩) (fun h => absurd ⟨by rw [nI_toInt (by omega)]; omega, by rw [nI_toInt (by omega)]; omega⟩ h)
        refine w_mRead hR (by omega) ho ?_
        intro x6 e6
        rw [add8] at e6
        subst e6
        intro x7 e7
        rw [← ex1] at e7
        subst e7
        have vo : vp_in (nI (8 + o)) 40 := vp_in_nI (by omega) (by omega)
        refine ⟨vo, vo, vo, ?_⟩
        rw [nI_clamp (by omega), (mRead_0 τ o).1, (mRead_0 τ o).2.1, (mRead_0 τ o).2.2]
        refine tailM (by omega) (Ru_vp hR1).2 ?_
        exact ⟨rfl, R_fin (by omega) (R_T (R_chg hR1 (by omega) hx) _ _)⟩
      · rw [Int32.lt_iff_toInt_lt] at c c' d d'
        refine bad3 (by omega) (by omega) (fun h => w ?_)
        rw [Int32.le_iff_toInt_le, z8]
        obtain ⟨k, hk, rfl⟩ := inR_ex (N := 9) (a := a4) ⟨by omega, by omega⟩ (by omega)
        obtain ⟨lo, hlo, rfl⟩ := inR_ex (N := 9) (a := a3) ⟨by omega, by omega⟩ (by omega)
        rw [nI_toInt (by omega), nI_toInt (by omega)] at h
        rw [nI_add, nI_toInt (by omega)]
        omega
    · refine regC_t c1 ⟨fun c => absurd c one_ne, fun _ => octC_f c2 ⟨fun z => absurd rfl z, fun _ => ?_⟩⟩
      unfold wp_X8_part
      exact regM_t c1 ⟨fun c => absurd c one_ne, fun _ => octM_f c2 ⟨fun z => absurd rfl z, fun _ => ⟨rfl, hF⟩⟩⟩
  · refine regC_f c1 ⟨fun _ => ?_, fun z => absurd rfl z⟩
    unfold wp_X8_part
    exact regM_f c1 ⟨fun _ => ⟨rfl, hF⟩, fun z => absurd rfl z⟩
theorem dec31 : ∀ p, p < 32 → (nI p - (1 : Int32)) &&& (31 : Int32) = nI ((p + 31) % 32) := by decide +kernel
theorem sim_undo : Sim_undo Rel := by
  intro n σ τ hn hR
  have hR : RelM (64 * n) σ τ := hR
  have hF := Rel_mono _ _ _ hR
  obtain ⟨h1, h2, h3, h4, h5, ⟨c, p, hc, hp, e1, e2, e3, h6⟩, h7, h8, h9, h10⟩ := id hR
  unfold wp_X7_undo
  by_cases cz : c = 0
  · subst cz
    refine ⟨fun z => absurd e1 z, fun _ => ?_⟩
    unfold wp_X8_undo
    exact ⟨fun z => absurd e2 z, fun _ => ⟨rfl, hF⟩⟩
  · have ne : ¬ nI c = 0 := nI_ne0 (by omega) (by omega)
    refine ⟨fun _ => ?_, fun z => absurd (e1 ▸ z) ne⟩
    obtain ⟨q1, ⟨k, hk, q2⟩, q3⟩ := h6 0 (by omega)
    rw [show c - 1 - 0 = c - 1 by omega, show p + 31 - 0 = p + 31 by omega] at q1 q3
    rw [show p + 31 - 0 = p + 31 by omega] at q2
    have vp : vp_in (nI ((p + 31) % 32)) 32 := vp_in_nI (by omega) (by omega)
    have ep : (nI ((p + 31) % 32)).toNatClampNeg = (p + 31) % 32 := nI_clamp (by omega)
    have vk : vp_in (nI k) 40 := vp_in_nI (by omega) (by omega)
    have ek : (nI k).toNatClampNeg = k := nI_clamp (by omega)
    unfold wp_X1_takeBackLatest_19_2
    intro σ1 es1
    rw [e3, dec31 p hp] at es1
    subst es1
    show vp_in (nI ((p + 31) % 32)) 32 ∧ vp_in (nI ((p + 31) % 32)) 32 ∧ vp_in (σ.2.1 12 (nI ((p + 31) % 32)).toNatClampNeg) 40 ∧ _
    rw [ep, q2]
    refine ⟨vp, vp, vk, ?_⟩
    intro σ2 es2
    have es2 : σ2 = sA (sI σ 10 (nI ((p + 31) % 32))) 0 (upd (σ.2.1 0) k (σ.2.1 13 ((p + 31) % 32))) := by
      rw [es2]
      show sA _ 0 (upd (σ.2.1 0) (σ.2.1 12 (nI ((p + 31) % 32)).toNatClampNeg).toNatClampNeg (σ.2.1 13 (nI ((p + 31) % 32)).toNatClampNeg)) = _
      rw [ep, q2, ek]
    subst es2
    intro σ3 es3
    have es3 : σ3 = sI (sA (sI σ 10 (nI ((p + 31) % 32))) 0 (upd (σ.2.1 0) k (σ.2.1 13 ((p + 31) % 32)))) 9 (nI (c - 1)) := by
      rw [es3]
      show sI _ 9 (σ.1 9 - (1 : Int32)) = _
      rw [e1, nI_sub1 (by omega)]
    subst es3
    show wp_X8_undo τ (fun y τ1 => nI (c - 1) = y ∧ _)
    unfold wp_X8_undo
    refine ⟨fun _ => ?_, fun z => absurd (e2 ▸ z) ne⟩
    intro τ1 et1
    rw [e2, nI_sub1 (by omega)] at et1
    subst et1
    have vc : vp_in (nI (c - 1)) 32 := vp_in_nI (by omega) (by omega)
    have ec : (nI (c - 1)).toNatClampNeg = c - 1 := nI_clamp (by omega)
    refine ⟨vc, ?_⟩
    intro x2 ex2
    have ex2 : x2 = nI k := by
      rw [ex2]
      show τ.2.1 14 (nI (c - 1)).toNatClampNeg = _
      rw [ec, ← q1, q2]
    subst ex2
    refine ⟨vc, vk, ?_⟩
    intro τ3 et3; subst et3
    refine ⟨vc, vk, ?_⟩
    intro τ4 et4; subst et4
    refine ⟨vc, vk, ?_⟩
    intro τ5 et5; subst et5
    refine ⟨rfl, R_fin (m := 64 * n) (by omega) ⟨?_, h2, h3, h4, h5, ?_, h7, h8, h9, h10⟩⟩
    · show Rc (upd (σ.2.1 0) k (σ.2.1 13 ((p + 31) % 32))) (upd (τ.2.1 0) (nI k).toNatClampNeg (τ.2.1 15 (nI (c - 1)).toNatClampNeg)) (upd (τ.2.1 1) (nI k).toNatClampNeg (τ.2.1 16 (nI (c - 1)).toNatClampNeg)) (upd (τ.2.1 2) (nI k).toNatClampNeg (τ.2.1 17 (nI (c - 1)).toNatClampNeg))
      rw [ek, ec]
      exact Rc_upd h1 q3
    · refine ⟨c - 1, (p + 31) % 32, by omega, by omega, rfl, rfl, rfl, ?_⟩
      intro i hi
      have h := h6 (i + 1) (by omega)
      rw [show p + 31 - (i + 1) = p + 30 - i by omega, show c - 1 - (i + 1) = c - 1 - 1 - i by omega] at h
      rw [show ((p + 31) % 32 + 31 - i) % 32 = (p + 30 - i) % 32 by omega]
      exact h
