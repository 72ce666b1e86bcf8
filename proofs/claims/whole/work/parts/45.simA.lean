theorem nar0 : vp_nar .boolean (0 : Int32) = 0 := by decide
theorem nar1 : vp_nar .boolean (1 : Int32) = 1 := by decide
theorem add0 (x : Int32) : x + (0 : Int32) = x := by
  apply Int32.toBitVec_inj.mp
  rw [Int32.toBitVec_add]
  exact BitVec.add_zero _
theorem one_ne : ¬ (1 : Int32) = 0 := by decide
theorem R_fin {n : Nat} {m : Nat} {σ τ : St} (h : m ≤ 64 * (n + 1)) (hR : RelM m σ τ) : Rel (n + 1) σ τ := RelM_mono h hR
theorem sim_set : Sim_set Rel := by
  intro n σ τ a1 a2 hn hR
  have hm : 64 * n < 100000 := by omega
  have hR : RelM (64 * n) σ τ := hR
  have h8 := Rr_vp hR
  obtain ⟨h10, h6⟩ := Ru_vp hR
  unfold wp_X7_set
  by_cases c1 : inR 8 a1
  · refine regC_t c1 ⟨fun _ => ?_, fun c => absurd c one_ne⟩
    obtain ⟨j, hj, rfl⟩ := inR_ex c1 (by omega)
    have vj : vp_in (nI j) 40 := vp_in_nI (by omega) (by omega)
    have ej : (nI j).toNatClampNeg = j := nI_clamp (by omega)
    by_cases c2 : inR 256 a2
    · refine byteC_t c2 ⟨fun _ => ⟨vj, ?_⟩, fun c => absurd c one_ne⟩
      unfold wp_X0_valueOf
      rw [ej, RC_val (hR.1 j (by omega))]
      refine w_of (w_cChg h10 vj (w_cTick h8 ?_))
      unfold wp_X8_set
      refine regM_t c1 ⟨fun _ => byteM_t c2 ⟨fun _ => ⟨vj, ?_⟩, fun c => absurd c one_ne⟩, fun c => absurd c one_ne⟩
      intro x3 e; rw [ej] at e; subst e
      refine w_mBec h6 vj (w_mT ?_)
      rw [add0]
      exact ⟨rfl, R_fin (by omega) (R_T (R_chg hR (by omega) (RC_mk (inR_B c2) isB_0 isF_0)) _ _)⟩
    · refine byteC_f c2 ⟨fun c => absurd rfl c, fun _ => ?_⟩
      unfold wp_X8_set
      refine regM_t c1 ⟨fun _ => byteM_f c2 ⟨fun c => absurd rfl c, fun _ => ⟨rfl, Rel_mono _ _ _ hR⟩⟩, fun c => absurd c one_ne⟩
  · refine regC_f c1 ⟨fun c => absurd rfl c, fun _ => ?_⟩
    unfold wp_X8_set
    exact regM_f c1 ⟨fun c => absurd rfl c, fun _ => ⟨rfl, Rel_mono _ _ _ hR⟩⟩
theorem sim_copy : Sim_copy Rel := by
  intro n σ τ a1 a2 hn hR
  have hm : 64 * n < 100000 := by omega
  have hR : RelM (64 * n) σ τ := hR
  have h8 := Rr_vp hR
  obtain ⟨h10, h6⟩ := Ru_vp hR
  unfold wp_X7_copy
  by_cases c1 : inR 8 a1
  · refine regC_t c1 ⟨fun c => absurd c one_ne, fun _ => ?_⟩
    by_cases c2 : inR 8 a2
    · refine regC_t c2 ⟨fun _ => ?_, fun c => absurd c one_ne⟩
      obtain ⟨j, hj, rfl⟩ := inR_ex c1 (by omega)
      obtain ⟨i, hi, rfl⟩ := inR_ex c2 (by omega)
      have vj : vp_in (nI j) 40 := vp_in_nI (by omega) (by omega)
      have vi : vp_in (nI i) 40 := vp_in_nI (by omega) (by omega)
      have ei : (nI i).toNatClampNeg = i := nI_clamp (by omega)
      have hc := hR.1 i (by omega)
      rw [ei]
      refine ⟨vi, tailC (by omega) h10 h8 (RC_sh hc) ?_⟩
      unfold wp_X8_copy
      refine regM_t c1 ⟨fun c => absurd c one_ne, fun _ => regM_t c2 ⟨fun _ => ⟨vi, vi, vi, ?_⟩, fun c => absurd c one_ne⟩⟩
      rw [ei]
      refine tailM (by omega) h6 ?_
      exact ⟨rfl, R_fin (by omega) (R_T (R_chg hR (by omega) (RC_self hc)) _ _)⟩
    · refine regC_f c2 ⟨fun c => absurd rfl c, fun _ => ?_⟩
      unfold wp_X8_copy
      exact regM_t c1 ⟨fun c => absurd c one_ne, fun _ => regM_f c2 ⟨fun c => absurd rfl c, fun _ => ⟨rfl, Rel_mono _ _ _ hR⟩⟩⟩
  · refine regC_f c1 ⟨fun _ => ?_, fun c => absurd rfl c⟩
    unfold wp_X8_copy
    exact regM_f c1 ⟨fun _ => ⟨rfl, Rel_mono _ _ _ hR⟩, fun c => absurd rfl c⟩
theorem sim_forget : Sim_forget Rel := by
  intro n σ τ a1 a2 a3 hn hR
  have hm : 64 * n < 100000 := by omega
  have hR : RelM (64 * n) σ τ := hR
  have h8 := Rr_vp hR
  obtain ⟨h10, h6⟩ := Ru_vp hR
  obtain ⟨g, hg, e1, e2, -⟩ := hR.2.2.1
  unfold wp_X7_forget
  by_cases c1 : inR 8 a1
  · refine regC_t c1 ⟨fun c => absurd c one_ne, fun _ => ?_⟩
    by_cases c3 : inR g a3
    · refine hasC_t e1 hg c3 ⟨fun _ => ?_, fun c => absurd c one_ne⟩
      have z1 : (1 : Int32).toInt = 1 := by decide
      have z255 : (255 : Int32).toInt = 255 := by decide
      have y1 : (1 : Int64).toInt = 1 := by decide
      have y255 : (255 : Int64).toInt = 255 := by decide
      obtain ⟨j, hj, rfl⟩ := inR_ex c1 (by omega)
      obtain ⟨k, hk, rfl⟩ := inR_ex c3 (by omega)
      have vj : vp_in (nI j) 40 := vp_in_nI (by omega) (by omega)
      have ej : (nI j).toNatClampNeg = j := nI_clamp (by omega)
      have hc := hR.1 j (by omega)
      refine ⟨fun c => ?_, fun c => ⟨fun c' => ?_, fun c' => ?_⟩⟩
      · unfold wp_X8_forget
        refine regM_t c1 ⟨fun c => absurd c one_ne, fun _ => hasM_t e2 hg c3 ⟨fun _ => ?_, fun c => absurd c one_ne⟩⟩
        rw [Int32.lt_iff_toInt_lt] at c
        refine ckM (fun p q => ?_) (fun _ => ⟨fun c => absurd rfl c, fun _ => ⟨rfl, Rel_mono _ _ _ hR⟩⟩)
        omega
      · rw [ej]
        refine ⟨vj, ?_⟩
        intro x4 e; subst e
        unfold wp_X0_shadowOf wp_X0_valueOf wp_X0_fromOf
        rw [RC_sh hc, RC_val hc, RC_fr hc]
        intro x6 e6'
        refine w_of (w_cChg h10 vj (w_cTick h8 ?_))
        subst e6'
        unfold wp_X8_forget
        refine regM_t c1 ⟨fun c => absurd c one_ne, fun _ => hasM_t e2 hg c3 ⟨fun _ => ?_, fun c => absurd c one_ne⟩⟩
        rw [Int32.lt_iff_toInt_lt] at c
        rw [Int32.le_iff_toInt_le] at c'
        have hb2 : isB a2 := inR_B ⟨by omega, by omega⟩
        refine ckM (fun p q => ⟨fun _ => ⟨vj, vj, vj, ?_⟩, fun c => absurd c one_ne⟩) (fun h => absurd ⟨by omega, by omega⟩ h)
        rw [ej]
        refine tailM (by omega) h6 ?_
        exact ⟨rfl, R_fin (by omega) (R_T (R_chg hR (by omega) (RC_mk hc.2.1 (isB_or hc.2.2.1 hb2) (isF_or hc.2.2.2.1 (isF_one (by omega))))) _ _)⟩
      · unfold wp_X8_forget
        refine regM_t c1 ⟨fun c => absurd c one_ne, fun _ => hasM_t e2 hg c3 ⟨fun _ => ?_, fun c => absurd c one_ne⟩⟩
        rw [Int32.le_iff_toInt_le] at c'
        refine ckM (fun p q => ?_) (fun _ => ⟨fun c => absurd rfl c, fun _ => ⟨rfl, Rel_mono _ _ _ hR⟩⟩)
        omega
    · refine hasC_f e1 hg c3 ⟨fun c => absurd rfl c, fun _ => ?_⟩
      unfold wp_X8_forget
      exact regM_t c1 ⟨fun c => absurd c one_ne, fun _ => hasM_f e2 hg c3 ⟨fun c => absurd rfl c, fun _ => ⟨rfl, Rel_mono _ _ _ hR⟩⟩⟩
  · refine regC_f c1 ⟨fun _ => ?_, fun c => absurd rfl c⟩
    unfold wp_X8_forget
    exact regM_f c1 ⟨fun _ => ⟨rfl, Rel_mono _ _ _ hR⟩, fun c => absurd rfl c⟩
