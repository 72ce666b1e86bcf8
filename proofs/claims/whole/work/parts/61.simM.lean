/-- areWell -/
theorem w_well {k a s b t : Int32} {K : Int32 → Prop} (h1 : inR 7 k → inR 256 a → inR 256 s → inR 256 b → inR 256 t → K 1) (h0 : ¬ (inR 7 k ∧ inR 256 a ∧ inR 256 s ∧ inR 256 b ∧ inR 256 t) → K 0) : wp_X8_areWell k a s b t K := by
  unfold wp_X8_areWell
  by_cases ck : inR 7 k
  · refine inM_t ck (by decide) ⟨fun z => absurd z one_ne, fun _ => ?_⟩
    by_cases ca : inR 256 a
    · refine byteM_t ca ⟨fun z => absurd z one_ne, fun _ => ?_⟩
      by_cases cs : inR 256 s
      · refine byteM_t cs ⟨fun z => absurd z one_ne, fun _ => ?_⟩
        by_cases cb : inR 256 b
        · refine byteM_t cb ⟨fun z => absurd z one_ne, fun _ => ?_⟩
          by_cases ct : inR 256 t
          · exact byteM_t ct ⟨fun z => absurd z one_ne, fun _ => h1 ck ca cs cb ct⟩
          · exact byteM_f ct ⟨fun _ => h0 (fun h => ct h.2.2.2.2), fun z => absurd rfl z⟩
        · exact byteM_f cb ⟨fun _ => h0 (fun h => cb h.2.2.2.1), fun z => absurd rfl z⟩
      · exact byteM_f cs ⟨fun _ => h0 (fun h => cs h.2.2.1), fun z => absurd rfl z⟩
    · exact byteM_f ca ⟨fun _ => h0 (fun h => ca h.2.1), fun z => absurd rfl z⟩
  · exact inM_f ck (by decide) ⟨fun _ => h0 (fun h => ck h.1), fun z => absurd rfl z⟩
theorem sim_shadow : Sim_shadow Rel := by
  intro n σ τ k a s b t hn hR
  have hF := Rel_mono _ _ _ hR
  have bad : ¬ (inR 7 k ∧ inR 256 a ∧ inR 256 s ∧ inR 256 b ∧ inR 256 t) → wp_X8_shadow τ k a s b t (fun y τ1 => (-1000000002 : Int32) = y ∧ Rel (n + 1) σ τ1) := by
    intro h
    unfold wp_X8_shadow
    exact w_well (fun q1 q2 q3 q4 q5 => absurd ⟨q1, q2, q3, q4, q5⟩ h) (fun _ => ⟨fun _ => ⟨rfl, hF⟩, fun z => absurd rfl z⟩)
  unfold wp_X7_shadow
  by_cases ck : inR 7 k
  · refine sortC_t ck ⟨fun z => absurd z one_ne, fun _ => ?_⟩
    by_cases ca : inR 256 a
    · refine byteC_t ca ⟨fun z => absurd z one_ne, fun _ => ?_⟩
      by_cases cs : inR 256 s
      · refine byteC_t cs ⟨fun z => absurd z one_ne, fun _ => ?_⟩
        by_cases cb : inR 256 b
        · refine byteC_t cb ⟨fun z => absurd z one_ne, fun _ => ?_⟩
          by_cases ct : inR 256 t
          · refine byteC_t ct ⟨fun _ => ?_, fun z => absurd z one_ne⟩
            refine w_sC ?_
            unfold wp_X8_shadow
            exact w_well (fun _ _ _ _ _ => ⟨fun z => absurd z one_ne, fun _ => w_sM ⟨rfl, hF⟩⟩) (fun h => absurd ⟨ck, ca, cs, cb, ct⟩ h)
          · exact byteC_f ct ⟨fun z => absurd rfl z, fun _ => bad (fun h => ct h.2.2.2.2)⟩
        · exact byteC_f cb ⟨fun _ => bad (fun h => cb h.2.2.2.1), fun z => absurd rfl z⟩
      · exact byteC_f cs ⟨fun _ => bad (fun h => cs h.2.2.1), fun z => absurd rfl z⟩
    · exact byteC_f ca ⟨fun _ => bad (fun h => ca h.2.1), fun z => absurd rfl z⟩
  · exact sortC_f ck ⟨fun _ => bad (fun h => ck h.1), fun z => absurd rfl z⟩
theorem sim_exact : Sim_exact Rel := by
  intro n σ τ k a s b t hn hR
  have hF := Rel_mono _ _ _ hR
  have bad : ¬ (inR 7 k ∧ inR 256 a ∧ inR 256 s ∧ inR 256 b ∧ inR 256 t) → wp_X8_exact τ k a s b t (fun y τ1 => (-1000000002 : Int32) = y ∧ Rel (n + 1) σ τ1) := by
    intro h
    unfold wp_X8_exact
    exact w_well (fun q1 q2 q3 q4 q5 => absurd ⟨q1, q2, q3, q4, q5⟩ h) (fun _ => ⟨fun _ => ⟨rfl, hF⟩, fun z => absurd rfl z⟩)
  unfold wp_X7_exact
  by_cases ck : inR 7 k
  · refine sortC_t ck ⟨fun z => absurd z one_ne, fun _ => ?_⟩
    by_cases ca : inR 256 a
    · refine byteC_t ca ⟨fun z => absurd z one_ne, fun _ => ?_⟩
      by_cases cs : inR 256 s
      · refine byteC_t cs ⟨fun z => absurd z one_ne, fun _ => ?_⟩
        by_cases cb : inR 256 b
        · refine byteC_t cb ⟨fun z => absurd z one_ne, fun _ => ?_⟩
          by_cases ct : inR 256 t
          · refine byteC_t ct ⟨fun _ => ?_, fun z => absurd z one_ne⟩
            obtain ⟨j, hj, rfl⟩ := inR_ex ck (by omega)
            refine w_exC hj (inR_B ca) (inR_B cs) (inR_B cb) (inR_B ct) (fun e he => ?_)
            unfold wp_X8_exact
            exact w_well (fun _ _ _ _ _ => ⟨fun z => absurd z one_ne, fun _ => w_exM (inR_B ca) (inR_B cb) (fun e2 he2 => ⟨he.one he2, hF⟩)⟩) (fun h => absurd ⟨ck, ca, cs, cb, ct⟩ h)
          · exact byteC_f ct ⟨fun z => absurd rfl z, fun _ => bad (fun h => ct h.2.2.2.2)⟩
        · exact byteC_f cb ⟨fun _ => bad (fun h => cb h.2.2.2.1), fun z => absurd rfl z⟩
      · exact byteC_f cs ⟨fun _ => bad (fun h => cs h.2.2.1), fun z => absurd rfl z⟩
    · exact byteC_f ca ⟨fun _ => bad (fun h => ca h.2.1), fun z => absurd rfl z⟩
  · exact sortC_f ck ⟨fun _ => bad (fun h => ck h.1), fun z => absurd rfl z⟩
/-- a rule's end on either side -/
theorem w_folC {m : Nat} {σ τ : St} (hR : RelM m σ τ) {q : Int32} {r i j : Nat} (hr : r < 8) (hi : i < 8) (hj : j < 8) {K : Int32 → St → Prop}
    (hK : K (sB q (τ.2.1 0 i) (τ.2.1 1 i) (τ.2.1 0 j) (τ.2.1 1 j)) (cTick (cChg σ (nI r) (cellOf (vB q (τ.2.1 0 i) (τ.2.1 0 j)) (sB q (τ.2.1 0 i) (τ.2.1 1 i) (τ.2.1 0 j) (τ.2.1 1 j)) (if sB q (τ.2.1 0 i) (τ.2.1 1 i) (τ.2.1 0 j) (τ.2.1 1 j) = 0 then 0 else τ.2.1 2 i ||| τ.2.1 2 j))) 4 (sB q (τ.2.1 0 i) (τ.2.1 1 i) (τ.2.1 0 j) (τ.2.1 1 j)))) : wp_X7_followRule σ q (nI r) (nI i) (nI j) K := by
  have vi : vp_in (nI i) 40 := vp_in_nI (by omega) (by omega)
  have vj : vp_in (nI j) 40 := vp_in_nI (by omega) (by omega)
  have ei : (nI i).toNatClampNeg = i := nI_clamp (by omega)
  have ej : (nI j).toNatClampNeg = j := nI_clamp (by omega)
  have hci := hR.1 i (by omega)
  have hcj := hR.1 j (by omega)
  unfold wp_X7_followRule
  rw [ei, ej]
  refine ⟨vi, vj, ?_⟩
  unfold wp_X6_cellBy wp_X0_valueOf wp_X0_shadowOf wp_X0_fromOf
  rw [RC_val hci, RC_val hcj, RC_sh hci, RC_sh hcj, RC_fr hci, RC_fr hcj]
  refine w_sC (w_vC (w_of ?_))
  have hx := RC_mk (vB_B (k := q) hci.2.1 hcj.2.1) (sB_B (k := q) (a := τ.2.1 0 i) (b := τ.2.1 0 j) hci.2.2.1 hcj.2.2.1) (isF_or hci.2.2.2.1 hcj.2.2.2.1)
  exact tailC (by omega) (Ru_vp hR).1 (Rr_vp hR) (RC_sh hx) hK
theorem R_fol {m : Nat} {σ τ : St} (hR : RelM m σ τ) (q : Int32) {r i j : Nat} (hr : r < 8) (hi : i < 8) (hj : j < 8) : RelM m (cTick (cChg σ (nI r) (cellOf (vB q (τ.2.1 0 i) (τ.2.1 0 j)) (sB q (τ.2.1 0 i) (τ.2.1 1 i) (τ.2.1 0 j) (τ.2.1 1 j)) (if sB q (τ.2.1 0 i) (τ.2.1 1 i) (τ.2.1 0 j) (τ.2.1 1 j) = 0 then 0 else τ.2.1 2 i ||| τ.2.1 2 j))) 4 (sB q (τ.2.1 0 i) (τ.2.1 1 i) (τ.2.1 0 j) (τ.2.1 1 j))) (mT (mBec τ (nI r) (vB q (τ.2.1 0 i) (τ.2.1 0 j)) (sB q (τ.2.1 0 i) (τ.2.1 1 i) (τ.2.1 0 j) (τ.2.1 1 j)) (τ.2.1 2 i ||| τ.2.1 2 j)) 4 (sB q (τ.2.1 0 i) (τ.2.1 1 i) (τ.2.1 0 j) (τ.2.1 1 j))) := by
  have hci := hR.1 i (by omega)
  have hcj := hR.1 j (by omega)
  exact R_T (R_chg hR (by omega) (RC_mk (vB_B (k := q) hci.2.1 hcj.2.1) (sB_B (k := q) hci.2.2.1 hcj.2.2.1) (isF_or hci.2.2.2.1 hcj.2.2.2.1))) _ _
theorem R_slack {m : Nat} {σ τ : St} (hR : RelM m σ τ) (x : Int32) : RelM m (sI σ 14 (σ.1 14 + x)) (sI τ 4 (τ.1 4 + x)) := by
  obtain ⟨h1, h2, h3, h4, h5, h6, h7, h8, h9, h10, h11, h12⟩ := hR
  refine ⟨h1, h2, h3, h4, h5, h6, h7, h8, h9, h10, ?_, h12⟩
  show σ.1 14 + x = τ.1 4 + x
  rw [h11]
theorem R_slack0 {m : Nat} {σ τ : St} (hR : RelM m σ τ) : RelM m σ (sI τ 4 (τ.1 4 + 0)) := by
  obtain ⟨h1, h2, h3, h4, h5, h6, h7, h8, h9, h10, h11, h12⟩ := hR
  refine ⟨h1, h2, h3, h4, h5, h6, h7, h8, h9, h10, ?_, h12⟩
  show σ.1 14 = τ.1 4 + 0
  rw [add0, h11]
theorem sim_rule : Sim_rule Rel := by
  intro n σ τ a1 a2 a3 a4 hn hR
  have hR : RelM (64 * n) σ τ := hR
  have hF := Rel_mono _ _ _ hR
  unfold wp_X7_rule
  by_cases c2 : inR 8 a2
  · refine regC_t c2 ⟨fun z => absurd z one_ne, fun _ => ?_⟩
    by_cases c3 : inR 8 a3
    · refine regC_t c3 ⟨fun z => absurd z one_ne, fun _ => ?_⟩
      by_cases c4 : inR 8 a4
      · refine regC_t c4 ⟨fun _ => ?_, fun z => absurd z one_ne⟩
        by_cases c1 : inR 7 a1
        · refine sortC_t c1 ⟨fun _ => ?_, fun z => absurd z one_ne⟩
          obtain ⟨q, hq, rfl⟩ := inR_ex c1 (by omega)
          obtain ⟨r, hr, rfl⟩ := inR_ex c2 (by omega)
          obtain ⟨i, hi, rfl⟩ := inR_ex c3 (by omega)
          obtain ⟨j, hj, rfl⟩ := inR_ex c4 (by omega)
          have vi : vp_in (nI i) 40 := vp_in_nI (by omega) (by omega)
          have vj : vp_in (nI j) 40 := vp_in_nI (by omega) (by omega)
          have ei : (nI i).toNatClampNeg = i := nI_clamp (by omega)
          have ej : (nI j).toNatClampNeg = j := nI_clamp (by omega)
          have hci := hR.1 i (by omega)
          have hcj := hR.1 j (by omega)
          refine ⟨vi, vj, ?_⟩
          rw [ei, ej]
          unfold wp_X6_slackOf wp_X0_valueOf wp_X0_shadowOf
          rw [RC_val hci, RC_val hcj, RC_sh hci, RC_sh hcj]
          refine w_sC (w_exC hq hci.2.1 hci.2.2.1 hcj.2.1 hcj.2.2.1 (fun e he => w_pop ?_))
          intro s6 es6; subst es6
          have hR1 := R_slack hR (nI (pop (sB (nI q) (τ.2.1 0 i) (τ.2.1 1 i) (τ.2.1 0 j) (τ.2.1 1 j) &&& (e ^^^ (-1 : Int32)))))
          refine w_folC hR1 hr hi hj ?_
          unfold wp_X8_rule
          refine regM_t c2 ⟨fun z => absurd z one_ne, fun _ => regM_t c3 ⟨fun z => absurd z one_ne, fun _ => regM_t c4 ⟨fun _ => ?_, fun z => absurd z one_ne⟩⟩⟩
          refine inM_t c1 (by decide) ⟨fun _ => ?_, fun z => absurd z one_ne⟩
          unfold wp_X8_ruleNow
          rw [ei, ej]
          refine ⟨vi, vi, vj, vj, w_sM ⟨vi, vj, w_vM ⟨fun z => absurd z one_ne, fun _ => ⟨vi, vi, vj, vj, ?_⟩⟩⟩⟩
          refine w_exM hci.2.1 hcj.2.1 (fun e2 he2 => ?_)
          have ee := he.one he2
          subst ee
          refine w_bits ?_
          have hb : isB (sB (nI q) (τ.2.1 0 i) (τ.2.1 1 i) (τ.2.1 0 j) (τ.2.1 1 j) &&& (e ^^^ (-1 : Int32))) := isB_andl (sB_B hci.2.2.1 hcj.2.2.1)
          rw [pop_B hb]
          intro s8 es8; subst es8
          refine ⟨vi, vj, ?_⟩
          refine tailM (by omega) (Ru_vp hR1).2 ?_
          exact ⟨rfl, R_fin (by omega) (R_fol hR1 (nI q) hr hi hj)⟩
        · refine sortC_f c1 ⟨fun z => absurd rfl z, fun _ => ?_⟩
          unfold wp_X8_rule
          refine regM_t c2 ⟨fun z => absurd z one_ne, fun _ => regM_t c3 ⟨fun z => absurd z one_ne, fun _ => regM_t c4 ⟨fun _ => ?_, fun z => absurd z one_ne⟩⟩⟩
          exact inM_f c1 (by decide) ⟨fun z => absurd rfl z, fun _ => ⟨rfl, hF⟩⟩
      · refine regC_f c4 ⟨fun z => absurd rfl z, fun _ => ?_⟩
        unfold wp_X8_rule
        exact regM_t c2 ⟨fun z => absurd z one_ne, fun _ => regM_t c3 ⟨fun z => absurd z one_ne, fun _ => regM_f c4 ⟨fun z => absurd rfl z, fun _ => ⟨rfl, hF⟩⟩⟩⟩
    · refine regC_f c3 ⟨fun _ => ?_, fun z => absurd rfl z⟩
      unfold wp_X8_rule
      exact regM_t c2 ⟨fun z => absurd z one_ne, fun _ => regM_f c3 ⟨fun _ => ⟨rfl, hF⟩, fun z => absurd rfl z⟩⟩
  · refine regC_f c2 ⟨fun _ => ?_, fun z => absurd rfl z⟩
    unfold wp_X8_rule
    exact regM_f c2 ⟨fun _ => ⟨rfl, hF⟩, fun z => absurd rfl z⟩
/-- THE LOT on both sides -/
theorem R_lot {m : Nat} {σ τ : St} (hR : RelM m σ τ) : RelM m (sI σ 12 (nx (σ.1 12))) (sI τ 1 (nx (τ.1 1))) := by
  obtain ⟨h1, h2, h3, h4, h5, h6, h7, h8, h9, h10, h11, h12⟩ := hR
  refine ⟨h1, h2, h3, h4, h5, h6, h7, h8, ⟨?_, ?_⟩, h10, h11, h12⟩
  · show nx (σ.1 12) = nx (τ.1 1)
    rw [h9.1]
  · exact lotAt_ok h9.2 1
theorem lot_mod {m : Nat} {σ τ : St} (hR : RelM m σ τ) {D : Int32} {d : Nat} (hD : D = nI d) (h0 : 0 < d) (h1 : d < 1000) : ∃ r, r < d ∧ nx (σ.1 12) - nx (σ.1 12) / D * D = nI r ∧ nx (τ.1 1) - nx (τ.1 1) / D * D = nI r := by
  have h9 := hR.2.2.2.2.2.2.2.2.1
  obtain ⟨z, hz, e⟩ := lotAt_ok h9.2 1
  have e : nx (σ.1 12) = nI z := e
  refine ⟨z % d, Nat.mod_lt _ h0, ?_, ?_⟩
  · rw [e, hD, rem_nI hz h0 h1]
  · rw [← h9.1, e, hD, rem_nI hz h0 h1]
theorem lots_1 {m : Nat} {σ τ : St} (hm : m < 89000) (hR : RelM m σ τ) : ∃ σ' τ' : St, RelM (m + 1) σ' τ' ∧ (∀ K : St → Prop, K σ' → wp_X7_doByLots σ K) ∧ (∀ K : St → Prop, K τ' → wp_X8_doByLots τ K) := by
  have d4 : ¬ (4 : Int32) = 0 := by decide
  have d7 : ¬ (7 : Int32) = 0 := by decide
  have d8 : ¬ (8 : Int32) = 0 := by decide
  have d32 : ¬ (32 : Int32) = 0 := by decide
  obtain ⟨k, hk, ck, mk⟩ := lot_mod hR (D := 4) (d := 4) rfl (by omega) (by omega)
  have hR1 := R_lot hR
  rcases (show k = 0 ∨ k = 1 ∨ k = 2 ∨ k = 3 by omega) with rfl | rfl | rfl | rfl
  · obtain ⟨q, hq, cq, mq⟩ := lot_mod hR1 (D := 7) (d := 7) rfl (by omega) (by omega)
    have hR2 := R_lot hR1
    obtain ⟨r, hr, cr, mr⟩ := lot_mod hR2 (D := 8) (d := 8) rfl (by omega) (by omega)
    have hR3 := R_lot hR2
    obtain ⟨i, hi, ci, mi⟩ := lot_mod hR3 (D := 8) (d := 8) rfl (by omega) (by omega)
    have hR4 := R_lot hR3
    obtain ⟨j, hj, cj, mj⟩ := lot_mod hR4 (D := 8) (d := 8) rfl (by omega) (by omega)
    have hR5 := R_lot hR4
    have hR6 := R_slack0 hR5
    refine ⟨_, _, RelM_mono (Nat.le_succ m) (R_fol hR6 (nI q) hr hi hj), fun K hK => ?_, fun K hK => ?_⟩
    · unfold wp_X7_doByLots
      refine w_nx ?_
      intro x3 ex3
      rw [ck] at ex3
      subst ex3
      refine ⟨fun z => absurd nI_0 z, fun _ => ?_⟩
      refine w_nx ?_
      intro x4 ex4
      rw [cq] at ex4
      subst ex4
      refine w_nx ?_
      intro x4 ex4
      rw [cr] at ex4
      subst ex4
      refine w_nx ?_
      intro x4 ex4
      rw [ci] at ex4
      subst ex4
      refine w_nx ?_
      rw [cj]
      exact w_folC hR6 hr hi hj hK
    · unfold wp_X8_doByLots
      refine w_nxM d4 ?_
      rw [mk]
      refine ⟨fun z => absurd nI_0 z, fun _ => ?_⟩
      refine w_nxM d7 ?_
      rw [mq]
      refine w_nxM d8 ?_
      rw [mr]
      refine w_nxM d8 ?_
      rw [mi]
      refine w_nxM d8 ?_
      rw [mj]
      have vi : vp_in (nI i) 40 := vp_in_nI (by omega) (by omega)
      have vj : vp_in (nI j) 40 := vp_in_nI (by omega) (by omega)
      have ei : (nI i).toNatClampNeg = i := nI_clamp (by omega)
      have ej : (nI j).toNatClampNeg = j := nI_clamp (by omega)
      unfold wp_X8_ruleNow
      rw [ei, ej]
      refine ⟨vi, vi, vj, vj, w_sM ⟨vi, vj, w_vM ⟨fun _ => ?_, fun z => absurd rfl z⟩⟩⟩
      intro s3 es3; subst es3
      refine ⟨vi, vj, ?_⟩
      exact tailM (by omega) (Ru_vp hR6).2 hK
  · obtain ⟨r, hr, cr, mr⟩ := lot_mod hR1 (D := 8) (d := 8) rfl (by omega) (by omega)
    have hR2 := R_lot hR1
    obtain ⟨o, ho, co, mo⟩ := lot_mod hR2 (D := 32) (d := 32) rfl (by omega) (by omega)
    have hR3 := R_lot hR2
    obtain ⟨x, σ', τ', h, hC, hM⟩ := ex_load (nI r) (nI o) (by omega) hR3
    refine ⟨σ', τ', h, fun K hK => ?_, fun K hK => ?_⟩
    · unfold wp_X7_doByLots
      refine w_nx ?_
      intro x3 ex3
      rw [ck] at ex3
      subst ex3
      refine ⟨fun _ => ⟨fun z => absurd rfl z, fun _ => ?_⟩, fun z => absurd z (by decide)⟩
      refine w_nx ?_
      intro x4 ex4
      rw [cr] at ex4
      subst ex4
      refine w_nx ?_
      rw [co]
      exact hC _ hK
    · unfold wp_X8_doByLots
      refine w_nxM d4 ?_
      rw [mk]
      refine ⟨fun _ => ⟨fun z => absurd z (by decide), fun _ => ?_⟩, fun z => absurd z (by decide)⟩
      refine w_nxM d8 ?_
      rw [mr]
      refine w_nxM d32 ?_
      rw [mo]
      exact ⟨fun z => absurd rfl z, fun _ => hM _ hK⟩
  · obtain ⟨r, hr, cr, mr⟩ := lot_mod hR1 (D := 8) (d := 8) rfl (by omega) (by omega)
    have hR2 := R_lot hR1
    obtain ⟨o, ho, co, mo⟩ := lot_mod hR2 (D := 32) (d := 32) rfl (by omega) (by omega)
    have hR3 := R_lot hR2
    obtain ⟨x, σ', τ', h, hC, hM⟩ := ex_store (nI r) (nI o) (by omega) hR3
    refine ⟨σ', τ', RelM_mono (Nat.le_succ m) h, fun K hK => ?_, fun K hK => ?_⟩
    · unfold wp_X7_doByLots
      refine w_nx ?_
      intro x3 ex3
      rw [ck] at ex3
      subst ex3
      refine ⟨fun _ => ⟨fun _ => ⟨fun z => absurd rfl z, fun _ => ?_⟩, fun z => absurd z (by decide)⟩, fun z => absurd z (by decide)⟩
      refine w_nx ?_
      intro x4 ex4
      rw [cr] at ex4
      subst ex4
      refine w_nx ?_
      rw [co]
      exact hC _ hK
    · unfold wp_X8_doByLots
      refine w_nxM d4 ?_
      rw [mk]
      refine ⟨fun _ => ⟨fun z => absurd z (by decide), fun _ => ?_⟩, fun z => absurd z (by decide)⟩
      refine w_nxM d8 ?_
      rw [mr]
      refine w_nxM d32 ?_
      rw [mo]
      exact ⟨fun _ => hM _ hK, fun z => absurd z (by decide)⟩
  · obtain ⟨r, hr, cr, mr⟩ := lot_mod hR1 (D := 8) (d := 8) rfl (by omega) (by omega)
    have hR2 := R_lot hR1
    obtain ⟨x, σ', τ', h, hC, hM⟩ := ex_decide (nI r) (by omega) hR2
    refine ⟨σ', τ', h, fun K hK => ?_, fun K hK => ?_⟩
    · unfold wp_X7_doByLots
      refine w_nx ?_
      intro x3 ex3
      rw [ck] at ex3
      subst ex3
      refine ⟨fun _ => ⟨fun _ => ⟨fun _ => ?_, fun z => absurd z (by decide)⟩, fun z => absurd z (by decide)⟩, fun z => absurd z (by decide)⟩
      refine w_nx ?_
      rw [cr]
      exact hC _ hK
    · unfold wp_X8_doByLots
      refine w_nxM d4 ?_
      rw [mk]
      refine ⟨fun _ => ⟨fun _ => ?_, fun z => absurd (by decide) z⟩, fun z => absurd z (by decide)⟩
      refine w_nxM d8 ?_
      rw [mr]
      exact hM _ hK
theorem lots_n : ∀ (k : Nat) {m : Nat} {σ τ : St}, m + k < 89000 → RelM m σ τ → ∃ σ' τ' : St, RelM (m + k) σ' τ' ∧ (∀ (K : Int32 → St → Prop) (n i N : Nat), i + k = N → N ≤ 40 → k < n → K (σ'.1 5) σ' → wl_X7_drift_16 K n (nI N) (nI i) σ) ∧ (∀ (K : Int32 → St → Prop) (n i N : Nat), i + k = N → N ≤ 40 → k < n → K (τ'.1 3) τ' → wl_X8_drift_17 K n (nI N) (nI i) τ)
  | 0, m, σ, τ, hm, hR => by
    refine ⟨σ, τ, hR, fun K n i N h1 h2 h3 hK => ?_, fun K n i N h1 h2 h3 hK => ?_⟩
    · obtain ⟨n, rfl⟩ : ∃ z, n = z + 1 := ⟨n - 1, by omega⟩
      refine ⟨fun _ => hK, fun z => absurd ?_ z⟩
      rw [nI_leI (by omega) (by omega)]; omega
    · obtain ⟨n, rfl⟩ : ∃ z, n = z + 1 := ⟨n - 1, by omega⟩
      refine ⟨fun _ => hK, fun z => absurd ?_ z⟩
      rw [nI_leI (by omega) (by omega)]; omega
  | k + 1, m, σ, τ, hm, hR => by
    obtain ⟨σ1, τ1, hR1, hC1, hM1⟩ := lots_1 (by omega) hR
    obtain ⟨σ', τ', hR', hC, hM⟩ := lots_n k (m := m + 1) (by omega) hR1
    refine ⟨σ', τ', RelM_mono (by omega) hR', fun K n i N h1 h2 h3 hK => ?_, fun K n i N h1 h2 h3 hK => ?_⟩
    · obtain ⟨n, rfl⟩ : ∃ z, n = z + 1 := ⟨n - 1, by omega⟩
      refine ⟨fun z => absurd z ?_, fun _ => hC1 _ ?_⟩
      · rw [nI_leI (by omega) (by omega)]; omega
      intro x e
      rw [nI_1] at e
      subst e
      exact hC K n (i + 1) N (by omega) h2 (by omega) hK
    · obtain ⟨n, rfl⟩ : ∃ z, n = z + 1 := ⟨n - 1, by omega⟩
      refine ⟨fun z => absurd z ?_, fun _ => hM1 _ ?_⟩
      · rw [nI_leI (by omega) (by omega)]; omega
      intro x e
      rw [nI_1] at e
      subst e
      exact hM K n (i + 1) N (by omega) h2 (by omega) hK
theorem sim_drift : Sim_drift Rel := by
  intro n σ τ a1 hn hR
  have hR : RelM (64 * n) σ τ := hR
  have hF := Rel_mono _ _ _ hR
  have z1 : (1 : Int32).toInt = 1 := by decide
  have z40 : (40 : Int32).toInt = 40 := by decide
  have y1 : (1 : Int64).toInt = 1 := by decide
  have y40 : (40 : Int64).toInt = 40 := by decide
  have bad : ¬ (1 ≤ a1.toInt ∧ a1.toInt ≤ 40) → wp_X8_drift τ a1 (fun y τ1 => (-1000000002 : Int32) = y ∧ Rel (n + 1) σ τ1) := by
    intro h
    unfold wp_X8_drift
    exact ckM (fun p q => absurd ⟨by omega, by omega⟩ h) (fun _ => ⟨fun z => absurd rfl z, fun _ => ⟨rfl, hF⟩⟩)
  unfold wp_X7_drift
  refine ⟨fun c => ?_, fun c => ⟨fun c2 => ?_, fun c2 => ?_⟩⟩
  · rw [Int32.lt_iff_toInt_lt] at c
    exact bad (by omega)
  · rw [Int32.lt_iff_toInt_lt] at c
    rw [Int32.le_iff_toInt_le] at c2
    obtain ⟨k, hk, rfl⟩ := inR_ex (N := 41) (a := a1) ⟨by omega, by omega⟩ (by omega)
    rw [nI_toInt (by omega)] at c c2
    obtain ⟨σ', τ', hR', hC, hM⟩ := lots_n k (by omega) hR
    refine ⟨k + 1, hC _ (k + 1) 0 k (by omega) (by omega) (by omega) ?_⟩
    unfold wp_X8_drift
    refine ckM (fun p q => ⟨fun _ => ?_, fun z => absurd z one_ne⟩) (fun z => absurd ⟨by rw [nI_toInt (by omega)]; omega, by rw [nI_toInt (by omega)]; omega⟩ z)
    refine ⟨k + 1, hM _ (k + 1) 0 k (by omega) (by omega) (by omega) ⟨?_, R_fin (by omega) hR'⟩⟩
    obtain ⟨w, -, u1, u2, -⟩ := hR'.2.2.2.1
    rw [u1, u2]
  · rw [Int32.le_iff_toInt_le] at c2
    exact bad (by omega)
theorem sims_all : SIMS Rel := ⟨sim_start, sim_set, sim_forget, sim_copy, sim_load, sim_part, sim_store, sim_loadAt, sim_storeAt, sim_rule, sim_decide, sim_let, sim_giveBack, sim_drift, sim_lot, sim_undo, sim_told, sim_mark, sim_register, sim_octet, sim_ground, sim_cry, sim_ring, sim_shadow, sim_exact, sim_keep, sim_goBack⟩
