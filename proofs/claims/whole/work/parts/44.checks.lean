/-- a number in 0 .. N - 1 -/
def inR (N : Nat) (a : Int32) : Prop := 0 ≤ a.toInt ∧ a.toInt < N
theorem inR_ex {N : Nat} {a : Int32} (h : inR N a) (hN : N < 2147483648) : ∃ j, j < N ∧ a = nI j := by
  obtain ⟨h1, h2⟩ := h
  refine ⟨a.toInt.toNat, by omega, ?_⟩
  apply Int32.toInt_inj.mp
  rw [nI_toInt (by omega)]
  omega
theorem inR_nI {N j : Nat} (hj : j < N) (hN : N < 2147483648) : inR N (nI j) := by
  unfold inR
  rw [nI_toInt (by omega)]
  omega
theorem inR_vp {N M : Nat} {a : Int32} (h : inR N a) (hN : N < 2147483648) (hM : N ≤ M) (hM2 : M < 2147483648) : vp_in a M := by
  obtain ⟨j, hj, rfl⟩ := inR_ex h hN
  exact vp_in_nI (by omega) (by omega)
theorem ckC {a n : Int32} {N : Nat} (hn : n.toInt = N) {P Q : Prop} (t : inR N a → P) (f : ¬ inR N a → Q) : (a < 0 → Q) ∧ (¬ a < 0 → (n ≤ a → Q) ∧ (¬ n ≤ a → P)) := by
  have z : (0 : Int32).toInt = 0 := by decide
  rw [Int32.lt_iff_toInt_lt, Int32.le_iff_toInt_le, z, hn]
  refine ⟨fun c => f (fun h => ?_), fun c => ⟨fun c2 => f (fun h => ?_), fun c2 => t ?_⟩⟩ <;> unfold inR at * <;> omega
theorem ckC2 {a n : Int32} {N : Nat} (hn : n.toInt + 1 = N) {P Q : Prop} (t : inR N a → P) (f : ¬ inR N a → Q) : (a < 0 → Q) ∧ (¬ a < 0 → (n < a → Q) ∧ (¬ n < a → P)) := by
  have z : (0 : Int32).toInt = 0 := by decide
  rw [Int32.lt_iff_toInt_lt, Int32.lt_iff_toInt_lt, z]
  refine ⟨fun c => f (fun h => ?_), fun c => ⟨fun c2 => f (fun h => ?_), fun c2 => t ?_⟩⟩ <;> unfold inR at * <;> omega
theorem ckM {a : Int32} {lo hi : Int64} {K : Int32 → Prop} (t : lo.toInt ≤ a.toInt → a.toInt ≤ hi.toInt → K 1) (f : ¬ (lo.toInt ≤ a.toInt ∧ a.toInt ≤ hi.toInt) → K 0) : wp_X8_in a.toInt64 lo hi K := by
  unfold wp_X8_in
  rw [lg_cmp_lt, lg_cmp_gt, Int64.lt_iff_toInt_lt, Int64.lt_iff_toInt_lt, Int32.toInt_toInt64]
  refine ⟨fun c => f (by omega), fun c => ⟨fun c2 => f (by omega), fun c2 => t (by omega) (by omega)⟩⟩
theorem ckMR {a : Int32} {lo hi : Int64} {N : Nat} {K : Int32 → Prop} (h0 : lo.toInt = 0) (h1 : hi.toInt + 1 = N) (t : inR N a → K 1) (f : ¬ inR N a → K 0) : wp_X8_in a.toInt64 lo hi K := by
  refine ckM (fun a b => t ?_) (fun c => f (fun h => c ?_)) <;> unfold inR at * <;> omega
section CK
variable {a : Int32} {K : Int32 → Prop}
theorem regC_t (h : inR 8 a) (hK : K 1) : wp_X7_isRegister a K := ckC (by decide) (fun _ => hK) (fun c => absurd h c)
theorem regC_f (h : ¬ inR 8 a) (hK : K 0) : wp_X7_isRegister a K := ckC (N := 8) (by decide) (fun c => absurd c h) (fun _ => hK)
theorem octC_t (h : inR 32 a) (hK : K 1) : wp_X7_isOctet a K := ckC (by decide) (fun _ => hK) (fun c => absurd h c)
theorem octC_f (h : ¬ inR 32 a) (hK : K 0) : wp_X7_isOctet a K := ckC (N := 32) (by decide) (fun c => absurd c h) (fun _ => hK)
theorem imgC_t (h : inR 2 a) (hK : K 1) : wp_X7_isImage a K := ckC (by decide) (fun _ => hK) (fun c => absurd h c)
theorem imgC_f (h : ¬ inR 2 a) (hK : K 0) : wp_X7_isImage a K := ckC (N := 2) (by decide) (fun c => absurd c h) (fun _ => hK)
theorem sortC_t (h : inR 7 a) (hK : K 1) : wp_X7_isSort a K := ckC (by decide) (fun _ => hK) (fun c => absurd h c)
theorem sortC_f (h : ¬ inR 7 a) (hK : K 0) : wp_X7_isSort a K := ckC (N := 7) (by decide) (fun c => absurd c h) (fun _ => hK)
theorem byteC_t (h : inR 256 a) (hK : K 1) : wp_X7_isByte a K := ckC2 (by decide) (fun _ => hK) (fun c => absurd h c)
theorem byteC_f (h : ¬ inR 256 a) (hK : K 0) : wp_X7_isByte a K := ckC2 (N := 256) (by decide) (fun c => absurd c h) (fun _ => hK)
theorem regM_t (h : inR 8 a) (hK : K 1) : wp_X8_isRegister a K := ckMR (N := 8) (by decide) (by decide) (fun _ => ⟨rfl, hK⟩) (fun c => absurd h c)
theorem regM_f (h : ¬ inR 8 a) (hK : K 0) : wp_X8_isRegister a K := ckMR (N := 8) (by decide) (by decide) (fun c => absurd c h) (fun _ => ⟨rfl, hK⟩)
theorem octM_t (h : inR 32 a) (hK : K 1) : wp_X8_isOctet a K := ckMR (N := 32) (by decide) (by decide) (fun _ => ⟨rfl, hK⟩) (fun c => absurd h c)
theorem octM_f (h : ¬ inR 32 a) (hK : K 0) : wp_X8_isOctet a K := ckMR (N := 32) (by decide) (by decide) (fun c => absurd c h) (fun _ => ⟨rfl, hK⟩)
theorem byteM_t (h : inR 256 a) (hK : K 1) : wp_X8_isByte a K := ckMR (N := 256) (by decide) (by decide) (fun _ => ⟨rfl, hK⟩) (fun c => absurd h c)
theorem byteM_f (h : ¬ inR 256 a) (hK : K 0) : wp_X8_isByte a K := ckMR (N := 256) (by decide) (by decide) (fun c => absurd c h) (fun _ => ⟨rfl, hK⟩)
theorem inM_t {N : Nat} {hi : Int64} (h : inR N a) (hh : hi.toInt + 1 = N) (hK : K 1) : wp_X8_in a.toInt64 (0 : Int64) hi K := ckMR (N := N) (by decide) hh (fun _ => hK) (fun c => absurd h c)
theorem inM_f {N : Nat} {hi : Int64} (h : ¬ inR N a) (hh : hi.toInt + 1 = N) (hK : K 0) : wp_X8_in a.toInt64 (0 : Int64) hi K := ckMR (N := N) (by decide) hh (fun c => absurd c h) (fun _ => hK)
end CK
theorem inR_B {a : Int32} (h : inR 256 a) : isB a := by
  obtain ⟨j, hj, rfl⟩ := inR_ex h (by omega)
  exact isB_nI hj
/-- has / isGround -/
theorem hasC_t {σ : St} {a : Int32} {g : Nat} {K : Int32 → St → Prop} (hg : σ.1 3 = nI g) (hg2 : g ≤ 12) (h : inR g a) (hK : K 1 σ) : wp_X3_has_7 σ a K := by
  unfold wp_X3_has_7
  rw [hg]
  exact ckC (N := g) (nI_toInt (by omega)) (fun _ => hK) (fun c => absurd h c)
theorem hasC_f {σ : St} {a : Int32} {g : Nat} {K : Int32 → St → Prop} (hg : σ.1 3 = nI g) (hg2 : g ≤ 12) (h : ¬ inR g a) (hK : K 0 σ) : wp_X3_has_7 σ a K := by
  unfold wp_X3_has_7
  rw [hg]
  exact ckC (N := g) (nI_toInt (by omega)) (fun c => absurd c h) (fun _ => hK)
theorem sub1_toInt {g : Nat} (hg : g < 1000) : ((nI g - (1 : Int32)).toInt64).toInt + 1 = g := by
  rw [Int32.toInt_toInt64, show (1 : Int32) = nI 1 from rfl, pk_sub_toInt (by omega) (by omega)]
  omega
theorem hasM_t {τ : St} {a : Int32} {g : Nat} {K : Int32 → St → Prop} (hg : τ.1 0 = nI g) (hg2 : g ≤ 12) (h : inR g a) (hK : K 1 τ) : wp_X8_isGround τ a K := by
  unfold wp_X8_isGround
  rw [hg]
  exact inM_t h (sub1_toInt (by omega)) ⟨rfl, hK⟩
theorem hasM_f {τ : St} {a : Int32} {g : Nat} {K : Int32 → St → Prop} (hg : τ.1 0 = nI g) (hg2 : g ≤ 12) (h : ¬ inR g a) (hK : K 0 τ) : wp_X8_isGround τ a K := by
  unfold wp_X8_isGround
  rw [hg]
  exact inM_f h (sub1_toInt (by omega)) ⟨rfl, hK⟩
/-- cells -/
theorem RC_val {c v s f : Int32} (h : RC c v s f) : c &&& (255 : Int32) = v := by rw [h.1]; exact val_of h.2.1
theorem RC_sh {c v s f : Int32} (h : RC c v s f) : (c >>> ((8 : Int32) &&& 31)) &&& (255 : Int32) = s := by rw [h.1]; exact sh_of h.2.1 h.2.2.1
theorem RC_fr {c v s f : Int32} (h : RC c v s f) : c >>> ((16 : Int32) &&& 31) = f := by rw [h.1]; exact fr_of h.2.1 h.2.2.1 h.2.2.2.1
theorem RC_self {c v s f : Int32} (h : RC c v s f) : RC c v s (if s = 0 then 0 else f) := by
  by_cases e : s = 0
  · rw [if_pos e, ← h.2.2.2.2 e]; exact h
  · rw [if_neg e]; exact h
theorem RC_mk {v s f : Int32} (hv : isB v) (hs : isB s) (hf : isF f) : RC (cellOf v s (if s = 0 then 0 else f)) v s (if s = 0 then 0 else f) := by
  refine ⟨rfl, hv, hs, ?_, fun e => if_pos e⟩
  split
  · exact isF_0
  · exact hf
theorem w_of {v s f : Int32} {K : Int32 → Prop} (hK : K (cellOf v s (if s = 0 then 0 else f))) : wp_X0_of v s f K := by
  unfold wp_X0_of
  refine ⟨fun c => ?_, fun c => ?_⟩
  · rw [if_neg c] at hK; exact hK
  · rw [if_pos c] at hK; exact hK
def mT (τ : St) (k a : Int32) : St := mTE (mSh 15 τ) k a
theorem w_mT {τ : St} {k a : Int32} {K : Int32 → St → Prop} (hK : K a (mT τ k a)) : wp_X8_tick τ k a K := w_mTick hK
theorem R_T {m : Nat} {σ τ : St} (hR : RelM m σ τ) (k a : Int32) : RelM m (cTick σ k a) (mT τ k a) := R_tick hR k a
theorem mT_ans (τ : St) (k a : Int32) : (mT τ k a).1 0 = τ.1 0 := by
  show (mSh 15 τ).1 0 = _
  rw [mSh_1]
/-- the ends of most calls -/
theorem tailC {σ : St} {j : Nat} {x s k : Int32} {K : Int32 → St → Prop} (hj : j < 40) (h10 : vp_in (σ.1 10) 32) (h8 : vp_in (σ.1 8) 16) (hs : (x >>> ((8 : Int32) &&& 31)) &&& (255 : Int32) = s) (hK : K s (cTick (cChg σ (nI j) x) k s)) : wp_X7_changeRegister σ (nI j) x (fun σ1 => wp_X7_shadowOfRegister σ1 (nI j) (fun x1 σ2 => wp_X7_tick σ2 k x1 K)) := by
  have vj : vp_in (nI j) 40 := vp_in_nI (by omega) (by omega)
  refine w_cChg h10 vj ⟨vj, ?_⟩
  have e : (cChg σ (nI j) x).2.1 0 (nI j).toNatClampNeg = x := upd_same
  rw [e]
  show wp_X7_tick _ k ((x >>> ((8 : Int32) &&& 31)) &&& (255 : Int32)) K
  rw [hs]
  exact w_cTick h8 hK
theorem tailM {τ : St} {j : Nat} {v s f k : Int32} {K : Int32 → St → Prop} (hj : j < 40) (h6 : ¬ τ.1 6 = (32 : Int32) → vp_in (τ.1 6) 32) (hK : K s (mT (mBec τ (nI j) v s f) k s)) : wp_X8_become τ (nI j) v s f (fun x τ1 => wp_X8_tick τ1 k x K) :=
  w_mBec h6 (vp_in_nI (by omega) (by omega)) (w_mT hK)
/-- a DEAD OCTET read -/
def cRead (σ : St) (o : Nat) : St := if bt (σ.1 0) o then cCry σ 2 (σ.1 13) ((1 : Int32) <<< (σ.2.1 5 o &&& 31)) else σ
def mRead (τ : St) (o : Nat) : St := if τ.2.1 3 o = 0 then τ else mCry τ 2 ((1 : Int32) <<< (τ.2.1 4 o &&& 31))
theorem cCry_0 (σ : St) (k t g : Int32) : (cCry σ k t g).2.1 0 = σ.2.1 0 := by unfold cCry; split <;> rfl
theorem cCry_10 (σ : St) (k t g : Int32) : (cCry σ k t g).1 10 = σ.1 10 ∧ (cCry σ k t g).1 8 = σ.1 8 ∧ (cCry σ k t g).1 13 = σ.1 13 := by unfold cCry; split <;> exact ⟨rfl, rfl, rfl⟩
theorem mCry_0 (τ : St) (k g : Int32) : (mCry τ k g).2.1 0 = τ.2.1 0 ∧ (mCry τ k g).2.1 1 = τ.2.1 1 ∧ (mCry τ k g).2.1 2 = τ.2.1 2 := by unfold mCry; split <;> exact ⟨rfl, rfl, rfl⟩
theorem cRead_0 (σ : St) (o : Nat) : (cRead σ o).2.1 0 = σ.2.1 0 := by unfold cRead; split; exact cCry_0 _ _ _ _; rfl
theorem mRead_0 (τ : St) (o : Nat) : (mRead τ o).2.1 0 = τ.2.1 0 ∧ (mRead τ o).2.1 1 = τ.2.1 1 ∧ (mRead τ o).2.1 2 = τ.2.1 2 := by unfold mRead; split; exact ⟨rfl, rfl, rfl⟩; exact mCry_0 _ _ _
theorem add8 (o : Nat) : (8 : Int32) + nI o = nI (8 + o) := by rw [show (8 : Int32) = nI 8 from rfl, nI_add]
theorem w_cRead {m : Nat} {σ τ : St} (hR : RelM m σ τ) (hm : m < 100000) {o : Nat} (ho : o < 32) {K : Int32 → St → Prop} (hK : K (σ.2.1 0 (8 + o)) (cRead σ o)) : wp_X7_readOctet σ (nI o) K := by
  have v32 : vp_in (nI o) 32 := vp_in_nI (by omega) (by omega)
  have v40 : vp_in ((8 : Int32) + nI o) 40 := by rw [add8]; exact vp_in_nI (by omega) (by omega)
  have e8 : ((8 : Int32) + nI o).toNatClampNeg = 8 + o := by rw [add8, nI_clamp (by omega)]
  have eo : (nI o).toNatClampNeg = o := nI_clamp (by omega)
  unfold wp_X7_readOctet
  refine ⟨v32, ?_⟩
  intro x1 ex
  rw [eo] at ex
  subst ex
  rw [e8]
  unfold wp_X4_isDead_1
  rw [tst_u _ (by omega)]
  unfold cRead at hK
  refine ⟨fun c => ?_, fun c => ?_⟩
  · rw [if_neg (by rw [c]; decide)] at hK
    exact ⟨fun _ => ⟨v40, hK⟩, fun c => absurd rfl c⟩
  · have c : bt (σ.1 0) o = true := by cases h : bt (σ.1 0) o; exact absurd h c; rfl
    rw [if_pos c] at hK
    refine ⟨fun c => absurd c (by decide), fun _ => ⟨fun c2 => absurd c2 ((hR.2.1 o ho).2 c), fun _ => ?_⟩⟩
    refine w_cCry (Ry_vp hR.2.2.2.1 hm).1 ⟨v40, ?_⟩
    rw [cCry_0]
    exact hK
theorem w_mRead {m : Nat} {σ τ : St} (hR : RelM m σ τ) (hm : m < 100000) {o : Nat} (ho : o < 32) {K : St → Prop} (hK : K (mRead τ o)) : wp_X8_read τ (nI o) K := by
  have v32 : vp_in (nI o) 32 := vp_in_nI (by omega) (by omega)
  have eo : (nI o).toNatClampNeg = o := nI_clamp (by omega)
  unfold wp_X8_read
  rw [eo]
  unfold mRead at hK
  refine ⟨v32, fun c => ?_, fun c => ⟨v32, ?_⟩⟩
  · rw [if_pos c] at hK; exact hK
  · rw [if_neg c] at hK; exact w_mCry (Ry_vp hR.2.2.2.1 hm).2.1 hK
theorem R_read {m : Nat} {σ τ : St} (hR : RelM m σ τ) (hm : m < 100000) {o : Nat} (ho : o < 32) : RelM (m + 1) (cRead σ o) (mRead τ o) := by
  unfold cRead mRead
  obtain ⟨g, hg, e1, e2, e3, e4, e5, e6⟩ := hR.2.2.1
  have hd := hR.2.1 o ho
  rw [hd.1, ← (e6 o ho).1]
  by_cases c : bt (σ.1 0) o = true
  · rw [if_pos c, if_pos c, if_neg (by decide)]
    exact R_cry hR hm _ _
  · rw [if_neg c, if_neg c, if_pos rfl]
    exact RelM_mono (by omega) hR
def cPl (σ : St) (s f : Int32) : St := if s &&& (31 : Int32) = 0 then σ else cCry σ 1 (σ.1 13) f
def mPl (τ : St) (s f : Int32) : St := if s &&& (31 : Int32) = 0 then τ else mCry τ 1 f
theorem cPl_0 (σ : St) (s f : Int32) : (cPl σ s f).2.1 0 = σ.2.1 0 := by unfold cPl; split; rfl; exact cCry_0 _ _ _ _
theorem mPl_0 (τ : St) (s f : Int32) : (mPl τ s f).2.1 0 = τ.2.1 0 ∧ (mPl τ s f).2.1 1 = τ.2.1 1 ∧ (mPl τ s f).2.1 2 = τ.2.1 2 := by unfold mPl; split; exact ⟨rfl, rfl, rfl⟩; exact mCry_0 _ _ _
theorem w_cPl {m : Nat} {σ τ : St} (hR : RelM m σ τ) (hm : m < 100000) {j : Nat} (hj : j < 40) {K : Int32 → St → Prop} (hK : K (τ.2.1 0 j &&& (31 : Int32)) (cPl σ (τ.2.1 1 j) (τ.2.1 2 j))) : wp_X7_placeAt σ (nI j) K := by
  have v : vp_in (nI j) 40 := vp_in_nI (by omega) (by omega)
  have ej : (nI j).toNatClampNeg = j := nI_clamp (by omega)
  have hc := hR.1 j hj
  unfold wp_X7_placeAt
  rw [ej]
  refine ⟨v, ?_⟩
  intro x1 e; subst e
  unfold wp_X0_shadowOf wp_X0_valueOf wp_X0_fromOf
  rw [RC_sh hc, RC_val hc, RC_fr hc]
  unfold cPl at hK
  refine ⟨fun c => ?_, fun c => ?_⟩
  · rw [if_pos c] at hK; exact hK
  · rw [if_neg c] at hK; exact w_cCry (Ry_vp hR.2.2.2.1 hm).1 hK
theorem w_mPl {m : Nat} {σ τ : St} (hR : RelM m σ τ) (hm : m < 100000) {j : Nat} (hj : j < 40) {K : Int32 → St → Prop} (hK : K (τ.2.1 0 j &&& (31 : Int32)) (mPl τ (τ.2.1 1 j) (τ.2.1 2 j))) : wp_X8_placeBy τ (nI j) K := by
  have v : vp_in (nI j) 40 := vp_in_nI (by omega) (by omega)
  have ej : (nI j).toNatClampNeg = j := nI_clamp (by omega)
  unfold wp_X8_placeBy
  rw [ej]
  unfold mPl at hK
  refine ⟨v, fun c => ⟨v, ?_⟩, fun c => ⟨v, ?_⟩⟩
  · rw [if_pos c] at hK; exact hK
  · rw [if_neg c] at hK
    refine w_mCry (Ry_vp hR.2.2.2.1 hm).2.1 ⟨v, ?_⟩
    rw [(mCry_0 _ _ _).1]
    exact hK
theorem R_pl {m : Nat} {σ τ : St} (hR : RelM m σ τ) (hm : m < 100000) (s f : Int32) : RelM (m + 1) (cPl σ s f) (mPl τ s f) := by
  unfold cPl mPl
  by_cases c : s &&& (31 : Int32) = 0
  · rw [if_pos c, if_pos c]; exact RelM_mono (by omega) hR
  · rw [if_neg c, if_neg c]; exact R_cry hR hm _ _
