/-- both sides come to states that are related, and answer the same -/
def Ex (m : Nat) (wC wM : (Int32 → St → Prop) → Prop) : Prop := ∃ (x : Int32) (σ τ : St), RelM m σ τ ∧ (∀ K : Int32 → St → Prop, K x σ → wC K) ∧ (∀ K : Int32 → St → Prop, K x τ → wM K)
theorem Ex.mono {m m2 : Nat} {wC wM : (Int32 → St → Prop) → Prop} (h : m ≤ m2) (e : Ex m wC wM) : Ex m2 wC wM := by
  obtain ⟨x, σ, τ, h1, h2, h3⟩ := e
  exact ⟨x, σ, τ, RelM_mono h h1, h2, h3⟩
theorem Ex.sim {n m : Nat} {wC wM : (Int32 → St → Prop) → Prop} (h : m ≤ 64 * (n + 1)) (e : Ex m wC wM) : wC (fun x σ1 => wM (fun y τ1 => x = y ∧ Rel (n + 1) σ1 τ1)) := by
  obtain ⟨x, σ, τ, h1, h2, h3⟩ := e
  exact h2 _ (h3 _ ⟨rfl, R_fin h h1⟩)
theorem ex_load {m : Nat} {σ τ : St} (a1 a2 : Int32) (hm : m < 90000) (hR : RelM m σ τ) : Ex (m + 1) (wp_X7_load σ a1 a2) (wp_X8_load τ a1 a2) := by
  by_cases c1 : inR 8 a1
  · by_cases c2 : inR 32 a2
    · obtain ⟨j, hj, rfl⟩ := inR_ex c1 (by omega)
      obtain ⟨o, ho, rfl⟩ := inR_ex c2 (by omega)
      have hR1 := R_read hR (by omega) ho
      have hc := hR.1 (8 + o) (by omega)
      refine ⟨τ.2.1 1 (8 + o), _, _, R_T (R_chg hR1 (k := j) (by omega) (RC_self hc)) 2 (τ.2.1 1 (8 + o)), fun K hK => ?_, fun K hK => ?_⟩
      · unfold wp_X7_load
        refine regC_t c1 ⟨fun c => absurd c one_ne, fun _ => octC_t c2 ⟨fun _ => ?_, fun c => absurd c one_ne⟩⟩
        refine w_cRead hR (by omega) ho ?_
        exact tailC (by omega) (Ru_vp hR1).1 (Rr_vp hR1) (RC_sh hc) hK
      · unfold wp_X8_load
        refine regM_t c1 ⟨fun c => absurd c one_ne, fun _ => octM_t c2 ⟨fun _ => ?_, fun c => absurd c one_ne⟩⟩
        unfold wp_X8_loadNow
        refine w_mRead hR (by omega) ho ?_
        intro x2 e
        rw [add8] at e
        subst e
        have vo : vp_in (nI (8 + o)) 40 := vp_in_nI (by omega) (by omega)
        refine ⟨vo, vo, vo, ?_⟩
        rw [nI_clamp (by omega), (mRead_0 τ o).1, (mRead_0 τ o).2.1, (mRead_0 τ o).2.2]
        exact tailM (by omega) (Ru_vp hR1).2 hK
    · refine ⟨(-1000000001 : Int32), σ, τ, RelM_mono (by omega) hR, fun K hK => ?_, fun K hK => ?_⟩
      · unfold wp_X7_load
        exact regC_t c1 ⟨fun c => absurd c one_ne, fun _ => octC_f c2 ⟨fun c => absurd rfl c, fun _ => hK⟩⟩
      · unfold wp_X8_load
        exact regM_t c1 ⟨fun c => absurd c one_ne, fun _ => octM_f c2 ⟨fun c => absurd rfl c, fun _ => hK⟩⟩
  · refine ⟨(-1000000001 : Int32), σ, τ, RelM_mono (by omega) hR, fun K hK => ?_, fun K hK => ?_⟩
    · unfold wp_X7_load
      exact regC_f c1 ⟨fun _ => hK, fun c => absurd rfl c⟩
    · unfold wp_X8_load
      exact regM_f c1 ⟨fun _ => hK, fun c => absurd rfl c⟩
theorem sim_load : Sim_load Rel := fun n σ τ a1 a2 hn hR => (ex_load a1 a2 (by omega) hR).sim (by omega)
theorem Rd_clear {d : Int32} {lo z : Nat → Int32} (h : Rd d lo z) {o : Nat} (ho : o < 32) : Rd (d &&& (oset (nI o) 1 ^^^ (-1 : Int32))) lo (upd z o 0) := by
  intro i hi
  have e : bt (d &&& (oset (nI o) 1 ^^^ (-1 : Int32))) i = (bt d i && !decide (i = o)) := by
    rw [b_and, b_not _ hi]
    have := b_oset o ho 1 (by omega) (by omega) i hi
    rw [show nI 1 = (1 : Int32) from rfl] at this
    rw [this]
    congr 2
    simp only [decide_eq_decide]
    omega
  rw [e]
  by_cases c : i = o
  · subst c
    rw [upd_same]
    simp
  · rw [upd_ne c]
    simp only [c, decide_false, Bool.not_false, Bool.and_true]
    exact h i hi
theorem R_undead {m : Nat} {σ τ : St} (hR : RelM m σ τ) {o : Nat} (ho : o < 32) : RelM m (sI σ 0 (σ.1 0 &&& (oset (nI o) 1 ^^^ (-1 : Int32)))) (sA τ 3 (upd (τ.2.1 3) o 0)) := by
  obtain ⟨h1, h2, h3⟩ := hR
  exact ⟨h1, Rd_clear h2 ho, h3⟩
theorem sI_sI0 (σ : St) (d v : Int32) {k : Nat} (hk : k ≠ 0) : sI (sI σ 0 d) k v = sI (sI σ k v) 0 d := by
  apply Prod.ext
  · funext j
    show (if j = k then v else if j = 0 then d else σ.1 j) = (if j = 0 then d else if j = k then v else σ.1 j)
    by_cases h0 : j = 0
    · rw [if_pos h0, if_pos h0, if_neg (fun h => hk (h.symm.trans h0))]
    · rw [if_neg h0, if_neg h0]
  · rfl
theorem sA_sI0 (σ : St) (d : Int32) (k : Nat) (f : Nat → Int32) : sA (sI σ 0 d) k f = sI (sA σ k f) 0 d := rfl
theorem sI0_10 (σ : St) (d : Int32) : (sI σ 0 d).1 10 = σ.1 10 := rfl
theorem sI0_9 (σ : St) (d : Int32) : (sI σ 0 d).1 9 = σ.1 9 := rfl
theorem cChg_swap (σ : St) (p x d : Int32) : cChg (sI σ 0 d) p x = sI (cChg σ p x) 0 d := by
  unfold cChg cAdd
  rw [sI0_10, sI0_9, sI_2, sA_sI0, sA_sI0, sI_sI0 _ _ _ (by decide), sI_sI0 _ _ _ (by decide), sA_sI0]
theorem R_swap {m : Nat} {σ τ : St} {p x d : Int32} (h : RelM m (cChg (sI σ 0 d) p x) τ) : RelM m (sI (cChg σ p x) 0 d) τ := by
  rw [← cChg_swap]; exact h
theorem R_sto {m : Nat} {σ τ : St} (hR : RelM m σ τ) {o : Nat} (ho : o < 32) {x v s f : Int32} (hx : RC x v s (if s = 0 then 0 else f)) : RelM m (sI (cChg σ (nI (8 + o)) x) 0 (σ.1 0 &&& (oset (nI o) 1 ^^^ (-1 : Int32)))) (mBec (sA τ 3 (upd (τ.2.1 3) o 0)) (nI (8 + o)) v s f) :=
  R_swap (R_chg (R_undead hR ho) (k := 8 + o) (by omega) hx)
/-- store at a known place, from a register -/
theorem stoC {σ : St} {j o : Nat} {s k : Int32} {K : Int32 → St → Prop} (hj : j < 8) (ho : o < 32) (h10 : vp_in (σ.1 10) 32) (h8 : vp_in (σ.1 8) 16) (hs : ((σ.2.1 0 j) >>> ((8 : Int32) &&& 31)) &&& (255 : Int32) = s)
    (hK : K s (cTick (sI (cChg σ (nI (8 + o)) (σ.2.1 0 j)) 0 (σ.1 0 &&& (oset (nI o) 1 ^^^ (-1 : Int32)))) k s)) : wp_X7_changeOctet σ (nI o) (σ.2.1 0 j) (fun σ1 => wp_X7_shadowOfRegister σ1 (nI j) (fun x1 σ2 => wp_X7_tick σ2 k x1 K)) := by
  have vo : vp_in ((8 : Int32) + nI o) 40 := by rw [add8]; exact vp_in_nI (by omega) (by omega)
  have vj : vp_in (nI j) 40 := vp_in_nI (by omega) (by omega)
  have ej : (nI j).toNatClampNeg = j := nI_clamp (by omega)
  refine w_cChgO h10 vo ⟨vj, ?_⟩
  rw [add8, ej]
  have e : (sI (cChg σ (nI (8 + o)) (σ.2.1 0 j)) 0 (σ.1 0 &&& (oset (nI o) 1 ^^^ (-1 : Int32)))).2.1 0 j = σ.2.1 0 j := by
    show upd (σ.2.1 0) (nI (8 + o)).toNatClampNeg (σ.2.1 0 j) j = _
    rw [nI_clamp (by omega)]
    exact upd_ne (by omega)
  rw [e]
  show wp_X7_tick _ k (((σ.2.1 0 j) >>> ((8 : Int32) &&& 31)) &&& (255 : Int32)) K
  rw [hs]
  exact w_cTick h8 hK
theorem stoM {τ : St} {j o : Nat} {k : Int32} {K : Int32 → St → Prop} (hj : j < 8) (ho : o < 32) (h6 : ¬ τ.1 6 = (32 : Int32) → vp_in (τ.1 6) 32)
    (hK : K (τ.2.1 1 j) (mT (mBec (sA τ 3 (upd (τ.2.1 3) o 0)) (nI (8 + o)) (τ.2.1 0 j) (τ.2.1 1 j) (τ.2.1 2 j)) k (τ.2.1 1 j))) : wp_X8_storeNow τ (nI j) (nI o) (fun x τ1 => wp_X8_tick τ1 k x K) := by
  have vo : vp_in (nI o) 32 := vp_in_nI (by omega) (by omega)
  have vj : vp_in (nI j) 40 := vp_in_nI (by omega) (by omega)
  have ej : (nI j).toNatClampNeg = j := nI_clamp (by omega)
  have eo : (nI o).toNatClampNeg = o := nI_clamp (by omega)
  unfold wp_X8_storeNow
  refine ⟨vo, ?_⟩
  intro σ1 e1
  rw [nar0, eo] at e1
  subst e1
  refine ⟨vj, vj, vj, ?_⟩
  rw [add8, ej]
  exact tailM (by omega) h6 hK
theorem ex_store {m : Nat} {σ τ : St} (a1 a2 : Int32) (hm : m < 90000) (hR : RelM m σ τ) : Ex m (wp_X7_store σ a1 a2) (wp_X8_store τ a1 a2) := by
  by_cases c1 : inR 8 a1
  · by_cases c2 : inR 32 a2
    · obtain ⟨j, hj, rfl⟩ := inR_ex c1 (by omega)
      obtain ⟨o, ho, rfl⟩ := inR_ex c2 (by omega)
      have hc := hR.1 j (by omega)
      have vj : vp_in (nI j) 40 := vp_in_nI (by omega) (by omega)
      have ej : (nI j).toNatClampNeg = j := nI_clamp (by omega)
      refine ⟨τ.2.1 1 j, _, _, R_T (R_sto hR ho (RC_self hc)) 3 (τ.2.1 1 j), fun K hK => ?_, fun K hK => ?_⟩
      · unfold wp_X7_store
        refine regC_t c1 ⟨fun c => absurd c one_ne, fun _ => octC_t c2 ⟨fun _ => ⟨vj, ?_⟩, fun c => absurd c one_ne⟩⟩
        rw [ej]
        exact stoC hj ho (Ru_vp hR).1 (Rr_vp hR) (RC_sh hc) hK
      · unfold wp_X8_store
        exact regM_t c1 ⟨fun c => absurd c one_ne, fun _ => octM_t c2 ⟨fun _ => stoM hj ho (Ru_vp hR).2 hK, fun c => absurd c one_ne⟩⟩
    · refine ⟨(-1000000001 : Int32), σ, τ, hR, fun K hK => ?_, fun K hK => ?_⟩
      · unfold wp_X7_store
        exact regC_t c1 ⟨fun c => absurd c one_ne, fun _ => octC_f c2 ⟨fun c => absurd rfl c, fun _ => hK⟩⟩
      · unfold wp_X8_store
        exact regM_t c1 ⟨fun c => absurd c one_ne, fun _ => octM_f c2 ⟨fun c => absurd rfl c, fun _ => hK⟩⟩
  · refine ⟨(-1000000001 : Int32), σ, τ, hR, fun K hK => ?_, fun K hK => ?_⟩
    · unfold wp_X7_store
      exact regC_f c1 ⟨fun _ => hK, fun c => absurd rfl c⟩
    · unfold wp_X8_store
      exact regM_f c1 ⟨fun _ => hK, fun c => absurd rfl c⟩
theorem sim_store : Sim_store Rel := fun n σ τ a1 a2 hn hR => (ex_store a1 a2 (by omega) hR).sim (by omega)
/-- the lowest five bits are a place -/
theorem low5 (x : Int32) : ∃ o, o < 32 ∧ x &&& (31 : Int32) = nI o := by
  obtain ⟨j, hj, e⟩ := pk_andE x (m := 31) 5 (by decide)
  exact ⟨j, hj, e⟩
theorem sim_loadAt : Sim_loadAt Rel := by
  intro n σ τ a1 a2 hn hR
  have hR : RelM (64 * n) σ τ := hR
  refine Ex.sim (m := 64 * n + 1 + 1) (by omega) ?_
  by_cases c1 : inR 8 a1
  · by_cases c2 : inR 8 a2
    · obtain ⟨j, hj, rfl⟩ := inR_ex c1 (by omega)
      obtain ⟨i, hi, rfl⟩ := inR_ex c2 (by omega)
      obtain ⟨o, ho, eo⟩ := low5 (τ.2.1 0 i)
      have hR1 := R_pl hR (by omega) (τ.2.1 1 i) (τ.2.1 2 i)
      have hR2 := R_read hR1 (by omega) ho
      have hc := hR1.1 (8 + o) (by omega)
      refine ⟨(mPl τ (τ.2.1 1 i) (τ.2.1 2 i)).2.1 1 (8 + o), _, _, R_T (R_chg hR2 (k := j) (by omega) (RC_self hc)) 9 ((mPl τ (τ.2.1 1 i) (τ.2.1 2 i)).2.1 1 (8 + o)), fun K hK => ?_, fun K hK => ?_⟩
      · unfold wp_X7_loadAt
        refine regC_t c1 ⟨fun c => absurd c one_ne, fun _ => regC_t c2 ⟨fun _ => ?_, fun c => absurd c one_ne⟩⟩
        refine w_cPl hR (by omega) (by omega) ?_
        rw [eo]
        refine w_cRead hR1 (by omega) ho ?_
        exact tailC (by omega) (Ru_vp hR2).1 (Rr_vp hR2) (RC_sh hc) hK
      · unfold wp_X8_loadAt
        refine regM_t c1 ⟨fun c => absurd c one_ne, fun _ => regM_t c2 ⟨fun _ => ?_, fun c => absurd c one_ne⟩⟩
        refine w_mPl hR (by omega) (by omega) ?_
        rw [eo]
        unfold wp_X8_loadNow
        refine w_mRead hR1 (by omega) ho ?_
        intro x2 e
        rw [add8] at e
        subst e
        have vo : vp_in (nI (8 + o)) 40 := vp_in_nI (by omega) (by omega)
        refine ⟨vo, vo, vo, ?_⟩
        rw [nI_clamp (by omega), (mRead_0 _ o).1, (mRead_0 _ o).2.1, (mRead_0 _ o).2.2]
        exact tailM (by omega) (Ru_vp hR2).2 hK
    · refine ⟨(-1000000001 : Int32), σ, τ, RelM_mono (by omega) hR, fun K hK => ?_, fun K hK => ?_⟩
      · unfold wp_X7_loadAt
        exact regC_t c1 ⟨fun c => absurd c one_ne, fun _ => regC_f c2 ⟨fun c => absurd rfl c, fun _ => hK⟩⟩
      · unfold wp_X8_loadAt
        exact regM_t c1 ⟨fun c => absurd c one_ne, fun _ => regM_f c2 ⟨fun c => absurd rfl c, fun _ => hK⟩⟩
  · refine ⟨(-1000000001 : Int32), σ, τ, RelM_mono (by omega) hR, fun K hK => ?_, fun K hK => ?_⟩
    · unfold wp_X7_loadAt
      exact regC_f c1 ⟨fun _ => hK, fun c => absurd rfl c⟩
    · unfold wp_X8_loadAt
      exact regM_f c1 ⟨fun _ => hK, fun c => absurd rfl c⟩
theorem sim_storeAt : Sim_storeAt Rel := by
  intro n σ τ a1 a2 hn hR
  have hR : RelM (64 * n) σ τ := hR
  refine Ex.sim (m := 64 * n + 1) (by omega) ?_
  by_cases c1 : inR 8 a1
  · by_cases c2 : inR 8 a2
    · obtain ⟨j, hj, rfl⟩ := inR_ex c1 (by omega)
      obtain ⟨i, hi, rfl⟩ := inR_ex c2 (by omega)
      obtain ⟨o, ho, eo⟩ := low5 (τ.2.1 0 i)
      have hR1 := R_pl hR (by omega) (τ.2.1 1 i) (τ.2.1 2 i)
      have hc := hR1.1 j (by omega)
      have vj : vp_in (nI j) 40 := vp_in_nI (by omega) (by omega)
      have ej : (nI j).toNatClampNeg = j := nI_clamp (by omega)
      refine ⟨(mPl τ (τ.2.1 1 i) (τ.2.1 2 i)).2.1 1 j, _, _, R_T (R_sto hR1 ho (RC_self hc)) 10 ((mPl τ (τ.2.1 1 i) (τ.2.1 2 i)).2.1 1 j), fun K hK => ?_, fun K hK => ?_⟩
      · unfold wp_X7_storeAt
        refine regC_t c1 ⟨fun c => absurd c one_ne, fun _ => regC_t c2 ⟨fun _ => ?_, fun c => absurd c one_ne⟩⟩
        refine w_cPl hR (by omega) (by omega) ⟨vj, ?_⟩
        rw [eo, ej]
        exact stoC hj ho (Ru_vp hR1).1 (Rr_vp hR1) (RC_sh hc) hK
      · unfold wp_X8_storeAt
        refine regM_t c1 ⟨fun c => absurd c one_ne, fun _ => regM_t c2 ⟨fun _ => ?_, fun c => absurd c one_ne⟩⟩
        refine w_mPl hR (by omega) (by omega) ?_
        rw [eo]
        exact stoM hj ho (Ru_vp hR1).2 hK
    · refine ⟨(-1000000001 : Int32), σ, τ, RelM_mono (by omega) hR, fun K hK => ?_, fun K hK => ?_⟩
      · unfold wp_X7_storeAt
        exact regC_t c1 ⟨fun c => absurd c one_ne, fun _ => regC_f c2 ⟨fun c => absurd rfl c, fun _ => hK⟩⟩
      · unfold wp_X8_storeAt
        exact regM_t c1 ⟨fun c => absurd c one_ne, fun _ => regM_f c2 ⟨fun c => absurd rfl c, fun _ => hK⟩⟩
  · refine ⟨(-1000000001 : Int32), σ, τ, RelM_mono (by omega) hR, fun K hK => ?_, fun K hK => ?_⟩
    · unfold wp_X7_storeAt
      exact regC_f c1 ⟨fun _ => hK, fun c => absurd rfl c⟩
    · unfold wp_X8_storeAt
      exact regM_f c1 ⟨fun _ => hK, fun c => absurd rfl c⟩
/-- a DECISION is known -/
theorem w_decC {c v s f x : Int32} {K : Int32 → Prop} (h : RC c v s f) (hx : x = if s = 0 ∨ ¬ (v &&& (s ^^^ (-1 : Int32))) = 0 then 1 else 0) (hK : K x) : wp_X0_isDecided c K := by
  subst hx
  unfold wp_X0_isDecided wp_X0_leastOf wp_X0_valueOf wp_X0_shadowOf
  rw [RC_val h, RC_sh h]
  refine ⟨fun c => ?_, fun c => ⟨fun c2 => ?_, fun c2 => ?_⟩⟩
  · rw [if_pos (Or.inr c)] at hK; exact hK
  · rw [if_neg (by intro z; rcases z with z | z; exact c2 z; exact z c)] at hK; exact hK
  · rw [if_pos (Or.inl c2)] at hK; exact hK
theorem w_decM {τ : St} {j : Nat} (hj : j < 40) {x : Int32} {K : Int32 → St → Prop} (hx : x = if τ.2.1 1 j = 0 ∨ ¬ (τ.2.1 0 j &&& (τ.2.1 1 j ^^^ (-1 : Int32))) = 0 then 1 else 0) (hK : K x τ) : wp_X8_isDecided τ (nI j) K := by
  subst hx
  have vj : vp_in (nI j) 40 := vp_in_nI (by omega) (by omega)
  have ej : (nI j).toNatClampNeg = j := nI_clamp (by omega)
  unfold wp_X8_isDecided
  rw [ej]
  refine ⟨vj, fun c => ?_, fun c => ⟨vj, vj, fun c2 => ?_, fun c2 => ?_⟩⟩
  · rw [if_pos (Or.inl c)] at hK; exact hK
  · rw [if_neg (by intro z; rcases z with z | z; exact c z; exact z c2)] at hK; exact hK
  · rw [if_pos (Or.inr c2)] at hK; exact hK
theorem ex_decide {m : Nat} {σ τ : St} (a1 : Int32) (hm : m < 90000) (hR : RelM m σ τ) : Ex (m + 1) (wp_X7_decide σ a1) (wp_X8_decide τ a1) := by
  by_cases c1 : inR 8 a1
  · obtain ⟨j, hj, rfl⟩ := inR_ex c1 (by omega)
    have hc := hR.1 j (by omega)
    have vj : vp_in (nI j) 40 := vp_in_nI (by omega) (by omega)
    have ej : (nI j).toNatClampNeg = j := nI_clamp (by omega)
    by_cases cd : τ.2.1 1 j = 0 ∨ ¬ (τ.2.1 0 j &&& (τ.2.1 1 j ^^^ (-1 : Int32))) = 0
    · refine ⟨if τ.2.1 0 j = 0 then 0 else 1, _, _, RelM_mono (by omega) (R_T hR 5 (if τ.2.1 0 j = 0 then 0 else 1)), fun K hK => ?_, fun K hK => ?_⟩
      · unfold wp_X7_decide
        refine regC_t c1 ⟨fun _ => ⟨vj, ?_⟩, fun c => absurd c one_ne⟩
        intro x2 e; rw [ej] at e; subst e
        refine w_decC hc (if_pos cd).symm ⟨fun _ => ?_, fun c => absurd c one_ne⟩
        unfold wp_X0_valueOf
        rw [RC_val hc]
        refine ⟨fun c => ?_, fun c => ?_⟩
        · rw [if_pos c] at hK; exact w_cTick (Rr_vp hR) hK
        · rw [if_neg c] at hK; exact w_cTick (Rr_vp hR) hK
      · unfold wp_X8_decide wp_X8_decideNow
        refine regM_t c1 ⟨fun c => absurd c one_ne, fun _ => ?_⟩
        refine w_decM (by omega) (if_pos cd).symm ⟨fun _ => ⟨vj, ?_⟩, fun c => absurd c one_ne⟩
        rw [ej]
        refine ⟨fun c => ?_, fun c => ?_⟩
        · rw [if_neg c] at hK; exact w_mT hK
        · rw [if_pos c] at hK; exact w_mT hK
    · have hR1 := R_cry hR (by omega) 0 (τ.2.1 2 j)
      refine ⟨if τ.2.1 0 j = 0 then 0 else 1, _, _, R_T hR1 5 (if τ.2.1 0 j = 0 then 0 else 1), fun K hK => ?_, fun K hK => ?_⟩
      · unfold wp_X7_decide
        refine regC_t c1 ⟨fun _ => ⟨vj, ?_⟩, fun c => absurd c one_ne⟩
        intro x2 e; rw [ej] at e; subst e
        refine w_decC hc (if_neg cd).symm ⟨fun c => absurd rfl c, fun _ => ?_⟩
        unfold wp_X0_valueOf wp_X0_fromOf
        rw [RC_fr hc, RC_val hc]
        refine w_cCry (Ry_vp hR.2.2.2.1 (by omega)).1 ⟨fun c => ?_, fun c => ?_⟩
        · rw [if_pos c] at hK; exact w_cTick (Rr_vp hR1) hK
        · rw [if_neg c] at hK; exact w_cTick (Rr_vp hR1) hK
      · unfold wp_X8_decide wp_X8_decideNow
        refine regM_t c1 ⟨fun c => absurd c one_ne, fun _ => ?_⟩
        refine w_decM (by omega) (if_neg cd).symm ⟨fun c => absurd rfl c, fun _ => ⟨vj, ?_⟩⟩
        rw [ej]
        refine w_mCry (Ry_vp hR.2.2.2.1 (by omega)).2.1 ⟨vj, ?_⟩
        rw [(mCry_0 _ _ _).1]
        refine ⟨fun c => ?_, fun c => ?_⟩
        · rw [if_neg c] at hK; exact w_mT hK
        · rw [if_pos c] at hK; exact w_mT hK
  · refine ⟨(-1000000001 : Int32), σ, τ, RelM_mono (by omega) hR, fun K hK => ?_, fun K hK => ?_⟩
    · unfold wp_X7_decide
      exact regC_f c1 ⟨fun c => absurd rfl c, fun _ => hK⟩
    · unfold wp_X8_decide
      exact regM_f c1 ⟨fun _ => hK, fun c => absurd rfl c⟩
theorem sim_decide : Sim_decide Rel := fun n σ τ a1 hn hR => (ex_decide a1 (by omega) hR).sim (by omega)
