theorem sim_let : Sim_let Rel := by
  intro n σ τ a1 a2 hn hR
  have hR : RelM (64 * n) σ τ := hR
  have hF := Rel_mono _ _ _ hR
  have z1 : (1 : Int32).toInt = 1 := by decide
  have z8 : (8 : Int32).toInt = 8 := by decide
  have z32 : (32 : Int32).toInt = 32 := by decide
  have y0 : (0 : Int64).toInt = 0 := by decide
  have y1 : (1 : Int64).toInt = 1 := by decide
  have y8 : (8 : Int64).toInt = 8 := by decide
  obtain ⟨g, hg, e1, e2, e3, e4, e5, e6⟩ := hR.2.2.1
  have bad : ¬ (0 ≤ a1.toInt ∧ 1 ≤ a2.toInt ∧ a2.toInt ≤ 8 ∧ a1.toInt + a2.toInt ≤ 32) → wp_X8_let τ a1 a2 (fun y τ1 => (-1000000002 : Int32) = y ∧ Rel (n + 1) σ τ1) := by
    intro h
    unfold wp_X8_let
    refine ckM (fun p q => ⟨fun z => absurd z one_ne, fun _ => ?_⟩) (fun _ => ⟨fun _ => ⟨rfl, hF⟩, fun z => absurd rfl z⟩)
    have e8 : ((32 : Int32) - a2).toInt64.toInt = 32 - a2.toInt := by rw [Int32.toInt_toInt64, fb_subI' (by omega) (by omega), z32]
    exact ckM (fun p q => absurd ⟨by omega, by omega, by omega, by omega⟩ h) (fun _ => ⟨fun z => absurd rfl z, fun _ => ⟨rfl, hF⟩⟩)
  unfold wp_X7_let
  by_cases c1 : inR 32 a1
  · refine octC_t c1 ⟨fun z => absurd z one_ne, fun _ => ?_⟩
    obtain ⟨a, ha, rfl⟩ := inR_ex c1 (by omega)
    refine ⟨fun c => ?_, fun c => ⟨fun c' => ?_, fun c' => ⟨fun w => ?_, fun w => ?_⟩⟩⟩
    · rw [Int32.lt_iff_toInt_lt] at c
      exact bad (by omega)
    · rw [Int32.lt_iff_toInt_lt] at c'
      exact bad (by omega)
    · rw [Int32.lt_iff_toInt_lt] at c c'
      obtain ⟨k, hk, rfl⟩ := inR_ex (N := 9) (a := a2) ⟨by omega, by omega⟩ (by omega)
      rw [nI_add, show (32 : Int32) = nI 32 from rfl, nI_leI (by omega) (by omega)] at w
      rw [nI_toInt (by omega)] at c c'
      have hk1 : 1 ≤ k := by omega
      have inM : ∀ {K : Int32 → St → Prop}, (∃ nn : Nat, wl_X8_let_31 K nn (nI a) (nI k) (nI a) τ) → wp_X8_let τ (nI a) (nI k) K := by
        intro K h
        unfold wp_X8_let
        have e8 : ((32 : Int32) - nI k).toInt64.toInt = 32 - (k : Int) := by rw [Int32.toInt_toInt64, fb_subI' (by rw [nI_toInt (by omega)]; omega) (by rw [nI_toInt (by omega)]; omega), z32, nI_toInt (by omega)]
        refine ckM (fun p q => ⟨fun z => absurd z one_ne, fun _ => ?_⟩) (fun z => absurd ⟨by rw [nI_toInt (by omega)]; omega, by rw [nI_toInt (by omega)]; omega⟩ z)
        exact ckM (fun p q => ⟨fun _ => h, fun z => absurd z one_ne⟩) (fun z => absurd ⟨by rw [nI_toInt (by omega)]; omega, by rw [nI_toInt (by omega)]; omega⟩ z)
      by_cases P : ∃ o, a ≤ o ∧ o < a + k ∧ letAt σ g o
      · refine ⟨k + 1, w_anyC (σ := σ) hg w (fun o ho => (e6 o ho).2) _ k 0 (by omega) (k + 1) (by omega) (fun h => ?_) (fun _ => ?_)⟩
        · obtain ⟨o, p, q, r⟩ := P
          exact absurd r (h o p q)
        · refine ⟨fun z => absurd z one_ne, fun _ => ?_⟩
          refine inM ⟨k + 1, w_anyM hR hg w e4 e6 _ k 0 (by omega) (k + 1) (by omega) (fun h => ?_) (fun _ => ⟨rfl, hF⟩)⟩
          obtain ⟨o, p, q, r⟩ := P
          exact absurd r (h o p q)
      · refine ⟨k + 1, w_anyC (σ := σ) hg w (fun o ho => (e6 o ho).2) _ k 0 (by omega) (k + 1) (by omega) (fun _ => ?_) (fun h => absurd h P)⟩
        refine ⟨fun _ => ?_, fun z => absurd rfl z⟩
        rw [e1, show (12 : Int32) = nI 12 from rfl, nI_ltI (by omega) (by omega)]
        refine ⟨fun hl => ?_, fun hl => ?_⟩
        · have vg : vp_in (nI g) 12 := vp_in_nI (by omega) (by omega)
          have ecg : (nI g).toNatClampNeg = g := nI_clamp (by omega)
          unfold wp_X3_open_7
          intro x1 ex1
          rw [e1] at ex1
          subst ex1
          rw [ecg]
          refine ⟨vg, ?_⟩
          intro s1 es1; subst es1
          refine ⟨vg, ?_⟩
          intro s1 es1; subst es1
          refine ⟨k + 1, w_openL (sA (sA σ 3 (upd (σ.2.1 3) g (nI a))) 4 (upd (σ.2.1 4) g (nI k))) w e1 _ ?_ k 0 (by omega) (k + 1) (by omega) (sA (sA σ 3 (upd (σ.2.1 3) g (nI a))) 4 (upd (σ.2.1 4) g (nI k))) rfl rfl (fun _ _ => rfl) (fun o => by rw [if_neg (by omega)])⟩
          intro ρ1 f1 f2 f3 f4 f5 f6
          refine ⟨k + 1, w_leC ρ1 (g := g) w _ ?_ k 0 (by omega) (k + 1) (by omega) ρ1 (fun _ _ => rfl) rfl rfl (fun _ _ => rfl) (fun p => by rw [if_neg (by omega)])⟩
          intro ρ2 g1 g2 g3 g4 g5
          unfold wp_X7_octetSet
          intro s2 es2
          have h8 : vp_in (s2.1 8) 16 := by
            rw [es2]
            show vp_in (ρ2.1 8) 16
            rw [g1 8 (by decide), f1 8 (by decide) (by decide)]
            show vp_in (σ.1 8) 16
            exact Rr_vp hR
          refine w_cTick h8 ?_
          refine inM ⟨k + 1, w_anyM hR hg w e4 e6 _ k 0 (by omega) (k + 1) (by omega) (fun _ => ?_) (fun h => absurd h P)⟩
          refine ⟨fun _ => ?_, fun z => ?_⟩
          · refine ⟨k + 1, w_leM τ (a := a) (c := k) (g := g) w hl e2 _ ?_ k 0 (by omega) (k + 1) (by omega) τ (fun _ _ => rfl) rfl rfl (fun _ _ => rfl) (fun p => by rw [if_neg (by omega), if_neg (by omega), if_neg (by omega)]; exact ⟨rfl, rfl, rfl⟩) (fun o => by rw [if_neg (by omega), if_neg (by omega)]; exact ⟨rfl, rfl⟩)⟩
            intro ρ3 k1 k2 k3 k4 k5 k6
            refine ⟨rfl, R_fin (m := 64 * n) (by omega) (R_T ?_ _ _)⟩
            have l12 : ρ1.1 12 = σ.1 12 := f1 12 (by decide) (by decide)
            have hs2 : ∀ q, q ≠ 0 → s2.1 q = ρ2.1 q := by
              intro q hq
              rw [es2, sI_1, if_neg hq]
            have ha2 : s2.2.1 = ρ2.2.1 := by rw [es2]; rfl
            refine R_let hR hl e1 hk1 (by omega) w ?_ ?_ ?_ ?_ ?_ ?_ ?_ ?_ ?_ ?_ ?_ ?_ rfl k2 k3 ?_ k5 k6 ?_ ?_ ?_
            · intro q q0 q3 q4 q12
              rw [hs2 q q0, g1 q q12, f1 q q3 q4]; rfl
            · rw [es2]
              show (ρ2.1 0 &&& (oset (nI a) (nI k) ^^^ (-1 : Int32))) = _
              rw [g1 0 (by decide), f1 0 (by decide) (by decide)]; rfl
            · rw [hs2 3 (by decide), g1 3 (by decide), f2]
            · rw [hs2 4 (by decide), g1 4 (by decide), f3]; rfl
            · rw [hs2 12 (by decide), g2, l12]
            · rw [es2]
              show ρ2.2.2 = _
              rw [g3, f4]; rfl
            · intro q q0 q3 q4 q5
              rw [ha2, g4 q q0, f5 q q5, sA_2, if_neg q4, sA_2, if_neg q3]
            · intro p
              rw [ha2, g5 p, l12, f5 0 (by decide)]; rfl
            · rw [ha2, g4 3 (by decide), f5 3 (by decide)]; rfl
            · rw [ha2, g4 4 (by decide), f5 4 (by decide)]; rfl
            · intro o
              rw [ha2, g4 5 (by decide), f6 o]; rfl
            · intro q q0 q1
              show (if q = 0 then _ else ρ3.1 q) = _
              rw [if_neg q0, k1 q q1]
            · intro q hq
              show (if q = 7 then _ else if q = 6 then _ else if q = 5 then _ else ρ3.2.1 q) = _
              rw [if_neg (by omega), if_neg (by omega), if_neg (by omega), k4 q (by omega)]
            · show upd (ρ3.2.1 5) g (nI a) = _
              rw [k4 5 (by decide)]
            · show upd (ρ3.2.1 6) g (nI k) = _
              rw [k4 6 (by decide)]
            · show upd (ρ3.2.1 7) g 1 = _
              rw [k4 7 (by decide)]
          · rw [e2, show (12 : Int32) = nI 12 from rfl, nI_eq (by omega) (by omega)] at z
            exact absurd z (by omega)
        · have hg12 : g = 12 := by omega
          subst hg12
          refine inM ⟨k + 1, w_anyM hR hg w e4 e6 _ k 0 (by omega) (k + 1) (by omega) (fun _ => ?_) (fun h => absurd h P)⟩
          exact ⟨fun z => absurd e2 z, fun _ => ⟨rfl, hF⟩⟩
    · rw [Int32.lt_iff_toInt_lt] at c c'
      refine bad (fun h => w ?_)
      obtain ⟨k, hk, rfl⟩ := inR_ex (N := 9) (a := a2) ⟨by omega, by omega⟩ (by omega)
      rw [nI_toInt (by omega), nI_toInt (by omega)] at h
      rw [nI_add, show (32 : Int32) = nI 32 from rfl, nI_leI (by omega) (by omega)]
      omega
  · refine octC_f c1 ⟨fun _ => ?_, fun z => absurd rfl z⟩
    refine bad (fun h => c1 ?_)
    unfold inR
    omega
