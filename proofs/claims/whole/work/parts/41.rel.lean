theorem sI_1 (σ : St) (k : Nat) (v : Int32) (j : Nat) : (sI σ k v).1 j = if j = k then v else σ.1 j := rfl
theorem sI_2 (σ : St) (k : Nat) (v : Int32) : (sI σ k v).2.1 = σ.2.1 := rfl
theorem sI_3 (σ : St) (k : Nat) (v : Int32) : (sI σ k v).2.2 = σ.2.2 := rfl
theorem sA_1 (σ : St) (k : Nat) (f : Nat → Int32) : (sA σ k f).1 = σ.1 := rfl
theorem sA_2 (σ : St) (k : Nat) (f : Nat → Int32) (j : Nat) : (sA σ k f).2.1 j = if j = k then f else σ.2.1 j := rfl
theorem sA_3 (σ : St) (k : Nat) (f : Nat → Int32) : (sA σ k f).2.2 = σ.2.2 := rfl
theorem sL_1 (σ : St) (v : Int64) : (sL σ v).1 = σ.1 := rfl
theorem sL_2 (σ : St) (v : Int64) : (sL σ v).2.1 = σ.2.1 := rfl
theorem sL_3 (σ : St) (v : Int64) : (sL σ v).2.2 = v := rfl
/-- a packed cell and its three numbers -/
def RC (c v s f : Int32) : Prop := c = cellOf v s f ∧ isB v ∧ isB s ∧ isF f ∧ (s = 0 → f = 0)
def Rc (c v s f : Nat → Int32) : Prop := ∀ k, k < 40 → RC (c k) (v k) (s k) (f k)
/-- DEAD: bits and booleans; what is DEAD was LET once -/
def Rd (d : Int32) (lo z : Nat → Int32) : Prop := ∀ o, o < 32 → z o = (if bt d o then 1 else 0) ∧ (bt d o = true → ¬ lo o = -1)
def Rg (gc ls : Int32) (fi le lo : Nat → Int32) (gn : Int32) (ov gat gm isl : Nat → Int32) : Prop :=
  ∃ g, g ≤ 12 ∧ gc = nI g ∧ gn = nI g ∧ (∀ k, k < g → fi k = gat k ∧ le k = gm k ∧ ∃ a n, fi k = nI a ∧ le k = nI n ∧ 1 ≤ n ∧ n ≤ 8 ∧ a + n ≤ 32 ∧ ∀ o, a ≤ o → o < a + n → ¬ lo o = -1) ∧ (∀ k, k < g → isl k = if bt ls k then 1 else 0) ∧ (∀ k, g ≤ k → bt ls k = false) ∧ (∀ o, o < 32 → lo o = ov o ∧ (lo o = -1 ∨ ∃ k, k < g ∧ lo o = nI k))
def Ry (m : Nat) (cn kp : Int32) (a b c : Nat → Int32) (cr : Int32) (a2 b2 c2 : Nat → Int32) : Prop :=
  ∃ n, n ≤ m ∧ cn = nI n ∧ cr = nI n ∧ kp = nI (min n 20) ∧ ∀ k, k < min n 20 → a k = a2 k ∧ b k = b2 k ∧ c k = c2 k
def Rr (cn nx : Int32) (a b c : Nat → Int32) (rg : Int32) (a2 b2 c2 : Nat → Int32) : Prop :=
  ∃ n p, n ≤ 16 ∧ p < 16 ∧ cn = nI n ∧ rg = nI n ∧ nx = nI p ∧ ∀ i, i < n → a ((p + 15 - i) % 16) = a2 i ∧ b ((p + 15 - i) % 16) = b2 i ∧ c ((p + 15 - i) % 16) = c2 i
def Ru (cn nx : Int32) (pl be : Nat → Int32) (un : Int32) (po pv ps pf : Nat → Int32) : Prop :=
  ∃ n p, n ≤ 32 ∧ p < 32 ∧ cn = nI n ∧ un = nI n ∧ nx = nI p ∧ ∀ i, i < n → pl ((p + 31 - i) % 32) = po (n - 1 - i) ∧ (∃ k, k < 40 ∧ pl ((p + 31 - i) % 32) = nI k) ∧ RC (be ((p + 31 - i) % 32)) (pv (n - 1 - i)) (ps (n - 1 - i)) (pf (n - 1 - i))
def Ri (i : Nat) (kp d : Int32) (c lo im ik : Nat → Int32) : Prop :=
  ik i = (if bt kp i then 1 else 0) ∧ (bt kp i = true → (∀ k, k < 40 → RC (c k) (im (152 * i + k)) (im (152 * i + 40 + k)) (im (152 * i + 80 + k))) ∧ Rd d lo (fun o => im (152 * i + 120 + o)))
def Rs (x y : Int32) : Prop := x = y ∧ ∃ n, n < 2147483647 ∧ x = nI n
/-- the class's state and the reference's: at most m CRIES -/
def RelM (m : Nat) (σ τ : St) : Prop :=
  Rc (σ.2.1 0) (τ.2.1 0) (τ.2.1 1) (τ.2.1 2) ∧ Rd (σ.1 0) (σ.2.1 5) (τ.2.1 3) ∧
  Rg (σ.1 3) (σ.1 4) (σ.2.1 3) (σ.2.1 4) (σ.2.1 5) (τ.1 0) (τ.2.1 4) (τ.2.1 5) (τ.2.1 6) (τ.2.1 7) ∧
  Ry m (σ.1 5) (σ.1 6) (σ.2.1 6) (σ.2.1 7) (σ.2.1 8) (τ.1 3) (τ.2.1 8) (τ.2.1 9) (τ.2.1 10) ∧
  Rr (σ.1 7) (σ.1 8) (σ.2.1 9) (σ.2.1 10) (σ.2.1 11) (τ.1 5) (τ.2.1 11) (τ.2.1 12) (τ.2.1 13) ∧
  Ru (σ.1 9) (σ.1 10) (σ.2.1 12) (σ.2.1 13) (τ.1 6) (τ.2.1 14) (τ.2.1 15) (τ.2.1 16) (τ.2.1 17) ∧
  Ri 0 (σ.1 11) (σ.1 1) (σ.2.1 1) (σ.2.1 5) (τ.2.1 18) (τ.2.1 19) ∧ Ri 1 (σ.1 11) (σ.1 2) (σ.2.1 2) (σ.2.1 5) (τ.2.1 18) (τ.2.1 19) ∧
  Rs (σ.1 12) (τ.1 1) ∧ σ.1 13 = τ.1 2 ∧ σ.1 14 = τ.1 4 ∧ σ.2.2 = τ.2.2
def Rel (n : Nat) (σ τ : St) : Prop := RelM (64 * n) σ τ
theorem RelM_mono {m m2 : Nat} (h : m ≤ m2) {σ τ : St} (hR : RelM m σ τ) : RelM m2 σ τ := by
  obtain ⟨h1, h2, h3, ⟨n, hn, h4⟩, h5⟩ := hR
  exact ⟨h1, h2, h3, ⟨n, Nat.le_trans hn h, h4⟩, h5⟩
theorem Rel_mono : ∀ n σ τ, Rel n σ τ → Rel (n + 1) σ τ := fun _ _ _ h => RelM_mono (by omega) h
/-- helpers of the class, as functions of the state -/
def cCry (σ : St) (k t g : Int32) : St := if (20 : Int32) ≤ σ.1 6 then sI σ 5 (σ.1 5 + 1) else sI (sA (sA (sA (sI σ 5 (σ.1 5 + 1)) 6 (upd (σ.2.1 6) (σ.1 6).toNatClampNeg k)) 7 (upd (σ.2.1 7) (σ.1 6).toNatClampNeg t)) 8 (upd (σ.2.1 8) (σ.1 6).toNatClampNeg g)) 6 (σ.1 6 + 1)
theorem w_cCry {σ : St} {k t g : Int32} {K : St → Prop} (h : ¬ (20 : Int32) ≤ σ.1 6 → vp_in (σ.1 6) 20) (hK : K (cCry σ k t g)) : wp_X2_add_11 σ k t g K := by
  unfold wp_X2_add_11
  intro σ1 e1
  subst e1
  unfold cCry at hK
  refine ⟨fun c => ?_, fun c => ⟨h c, ?_⟩⟩
  · have c : (20 : Int32) ≤ σ.1 6 := c
    rw [if_pos c] at hK
    exact hK
  · have c : ¬ (20 : Int32) ≤ σ.1 6 := c
    rw [if_neg c] at hK
    intro σ2 e2
    subst e2
    refine ⟨h c, ?_⟩
    intro σ3 e3
    subst e3
    refine ⟨h c, ?_⟩
    intro σ4 e4
    subst e4
    intro σ5 e5
    subst e5
    exact hK
def mCry (τ : St) (k g : Int32) : St := if (20 : Int32) ≤ τ.1 3 then sI τ 3 (τ.1 3 + 1) else sI (sA (sA (sA τ 8 (upd (τ.2.1 8) (τ.1 3).toNatClampNeg k)) 9 (upd (τ.2.1 9) (τ.1 3).toNatClampNeg (τ.1 2))) 10 (upd (τ.2.1 10) (τ.1 3).toNatClampNeg g)) 3 (τ.1 3 + 1)
theorem w_mCry {τ : St} {k g : Int32} {K : St → Prop} (h : ¬ (20 : Int32) ≤ τ.1 3 → vp_in (τ.1 3) 20) (hK : K (mCry τ k g)) : wp_X8_cries τ k g K := by
  unfold wp_X8_cries
  unfold mCry at hK
  refine ⟨fun c => ?_, fun c => ⟨h c, ?_⟩⟩
  · rw [if_pos c] at hK
    intro σ1 e1
    subst e1
    exact hK
  · rw [if_neg c] at hK
    intro σ2 e2
    subst e2
    refine ⟨h c, ?_⟩
    intro σ3 e3
    subst e3
    refine ⟨h c, ?_⟩
    intro σ4 e4
    subst e4
    intro σ5 e5
    subst e5
    exact hK
theorem nI_add1 (n : Nat) : nI n + (1 : Int32) = nI (n + 1) := nI_1 n
theorem upd_same {f : Nat → Int32} {k : Nat} {x : Int32} : upd f k x k = x := pk_us
theorem upd_ne {f : Nat → Int32} {k j : Nat} {x : Int32} (h : j ≠ k) : upd f k x j = f j := pk_un h
theorem Ry_vp {m : Nat} {cn kp : Int32} {a b c : Nat → Int32} {cr : Int32} {a2 b2 c2 : Nat → Int32} (h : Ry m cn kp a b c cr a2 b2 c2) (hm : m < 100000) : (¬ (20 : Int32) ≤ kp → vp_in kp 20) ∧ (¬ (20 : Int32) ≤ cr → vp_in cr 20) ∧ ((20 : Int32) ≤ kp ↔ (20 : Int32) ≤ cr) := by
  obtain ⟨n, hn, rfl, rfl, rfl, -⟩ := h
  have e : (20 : Int32) = nI 20 := rfl
  rw [e, nI_leI (by omega) (by omega), nI_leI (by omega) (by omega)]
  refine ⟨fun h => vp_in_nI (by omega) (by omega), fun h => vp_in_nI (by omega) (by omega), by omega⟩
theorem R_cry {m : Nat} {σ τ : St} (hR : RelM m σ τ) (hm : m < 100000) (k g : Int32) : RelM (m + 1) (cCry σ k (σ.1 13) g) (mCry τ k g) := by
  obtain ⟨h1, h2, h3, h4, h5, h6, h7, h8, h9, h10, h11, h12⟩ := hR
  obtain ⟨-, -, hiff⟩ := Ry_vp h4 hm
  obtain ⟨n, hn, e1, e2, e3, h4⟩ := h4
  have e20 : (20 : Int32) = nI 20 := rfl
  unfold cCry mCry
  by_cases c : (20 : Int32) ≤ σ.1 6
  · rw [if_pos c, if_pos (hiff.mp c)]
    have hn20 : 20 ≤ n := by
      rw [hiff, e2, e20, nI_leI (by omega) (by omega)] at c
      exact c
    refine ⟨h1, h2, h3, ⟨n + 1, by omega, ?_, ?_, ?_, ?_⟩, h5, h6, h7, h8, h9, h10, h11, h12⟩
    · show σ.1 5 + 1 = _
      rw [e1, nI_add1]
    · show τ.1 3 + 1 = _
      rw [e2, nI_add1]
    · show σ.1 6 = _
      rw [e3]
      congr 1
      omega
    · intro j hj
      exact h4 j (by omega)
  · rw [if_neg c, if_neg (fun z => c (hiff.mpr z))]
    have hn20 : n < 20 := by
      rw [hiff, e2, e20, nI_leI (by omega) (by omega)] at c
      omega
    have ek : (σ.1 6).toNatClampNeg = n := by rw [e3, nI_clamp (by omega)]; omega
    have ec : (τ.1 3).toNatClampNeg = n := by rw [e2, nI_clamp (by omega)]
    refine ⟨h1, h2, h3, ⟨n + 1, by omega, ?_, ?_, ?_, ?_⟩, h5, h6, h7, h8, h9, h10, h11, h12⟩
    · show σ.1 5 + 1 = _
      rw [e1, nI_add1]
    · show τ.1 3 + 1 = _
      rw [e2, nI_add1]
    · show σ.1 6 + 1 = _
      rw [e3, nI_add1]
      congr 1
      omega
    · intro j hj
      show upd (σ.2.1 6) (σ.1 6).toNatClampNeg k j = upd (τ.2.1 8) (τ.1 3).toNatClampNeg k j ∧ upd (σ.2.1 7) (σ.1 6).toNatClampNeg (σ.1 13) j = upd (τ.2.1 9) (τ.1 3).toNatClampNeg (τ.1 2) j ∧ upd (σ.2.1 8) (σ.1 6).toNatClampNeg g j = upd (τ.2.1 10) (τ.1 3).toNatClampNeg g j
      rw [ek, ec]
      by_cases e : j = n
      · subst e
        rw [upd_same, upd_same, upd_same, upd_same, upd_same, upd_same]
        exact ⟨rfl, h10, rfl⟩
      · rw [upd_ne e, upd_ne e, upd_ne e, upd_ne e, upd_ne e, upd_ne e]
        exact h4 j (by omega)
