/-- one bit of a shift by m -/
def shb (k A : Int32) (m i : Nat) : Bool := if k = 5 then decide (m ≤ i) && bt A (i - m) else bt A (m + i)
theorem vB_sh {k A B : Int32} (hk : k = 5 ∨ k = 6) {m i : Nat} (hm : m < 8) (hi : i < 8) (hB : B &&& (7 : Int32) = nI m) : bt (vB k A B) i = shb k A m i := by
  unfold vB shb
  rcases hk with rfl | rfl
  · rw [if_neg (by decide), if_neg (by decide), if_neg (by decide), if_neg (by decide), if_neg (by decide), if_pos rfl, if_pos rfl, hB, b_m8 _ hi, b_shl m (by omega) _ (by omega)]
  · rw [if_neg (by decide), if_neg (by decide), if_neg (by decide), if_neg (by decide), if_neg (by decide), if_neg (by decide), if_neg (by decide), hB, b_sshr m (by omega) _ (by omega), if_pos (by omega)]
theorem shb_mono {k A C : Int32} (h : ∀ j, j < 32 → bt A j = true → bt C j = true) {m i : Nat} (hm : m < 8) (hi : i < 8) : shb k A m i = true → shb k C m i = true := by
  unfold shb
  split
  · intro z
    rw [Bool.and_eq_true] at z ⊢
    exact ⟨z.1, h _ (by omega) z.2⟩
  · exact h _ (by omega)
theorem nI_7 {m : Nat} (hm : m < 8) : nI m &&& (7 : Int32) = nI m := by
  rw [pk_andN (by omega) 3 (by decide), Nat.mod_eq_of_lt (by omega)]
theorem b_7 : ∀ j, j < 32 → bt 7 j = decide (j < 3) := by decide +kernel
/-- the shift by m is possible -/
def poss (b t : Int32) (m : Nat) : Prop := (((nI m ^^^ b) &&& (t ^^^ (-1 : Int32))) &&& (7 : Int32)) = 0
theorem poss_of {B b t : Int32} (hB : cmp B b t) {m : Nat} (hm : m < 8) (e : B &&& (7 : Int32) = nI m) : poss b t m := by
  unfold poss
  apply b_ext
  intro j hj
  rw [← e, b_and, b_and, b_xor, b_and, b_not _ hj, b_7 j hj, b_0]
  by_cases c : j < 3
  · cases h : bt t j
    · rw [hB.2 j h]; simp [c]
    · simp
  · simp [c]
theorem of_poss {b t : Int32} (hb : isB b) {m : Nat} (hm : m < 8) (h : poss b t m) : ∃ B, cmp B b t ∧ B &&& (7 : Int32) = nI m := by
  have hbm : ∀ j, 3 ≤ j → bt (nI m) j = false := by
    intro j hj
    rcases Nat.lt_or_ge j 32 with c | c
    · rw [b_nI m c]
      exact Nat.testBit_lt_two_pow (Nat.lt_of_lt_of_le hm (Nat.pow_le_pow_right (n := 2) (by omega) hj))
    · exact b_big c
  refine ⟨(b &&& ((7 : Int32) ^^^ (-1 : Int32))) ||| nI m, ⟨?_, ?_⟩, ?_⟩
  · intro j hj
    rw [b_or, b_and, hb j hj, hbm j (by omega)]; rfl
  · intro j ht
    rcases Nat.lt_or_ge j 32 with c | c
    · rw [b_or, b_and, b_not _ c, b_7 j c]
      by_cases c3 : j < 3
      · have z : bt (((nI m ^^^ b) &&& (t ^^^ (-1 : Int32))) &&& (7 : Int32)) j = false := by
          unfold poss at h
          rw [h, b_0]
        rw [b_and, b_and, b_xor, b_not _ c, ht, b_7 j c] at z
        simp only [c3, decide_true, Bool.not_true, Bool.and_false, Bool.false_or, Bool.not_false, Bool.and_true] at z ⊢
        cases h1 : bt (nI m) j <;> cases h2 : bt b j <;> simp_all
      · rw [hbm j (by omega)]; simp [c3]
    · rw [b_big c, b_big c]
  · apply b_ext
    intro j hj
    rw [b_and, b_or, b_and, b_not _ hj, b_7 j hj]
    by_cases c3 : j < 3
    · simp [c3]
    · rw [hbm j (by omega)]; simp [c3]
theorem ex_shift {k a s b t e : Int32} (hk : k = 5 ∨ k = 6) (ha : isB a) (hs : isB s) (hb : isB b) (he : isB e)
    (h : ∀ i, i < 8 → (bt e i = true ↔ (∃ m, m < 8 ∧ poss b t m ∧ shb k (a ||| s) m i = true) ∧ ¬ (∀ m, m < 8 → poss b t m → shb k (a &&& (s ^^^ (-1 : Int32))) m i = true))) : IsEx k a s b t e := by
  refine IsEx.mk8 ha hb he (fun i hi => ?_)
  rw [h i hi]
  have hi1 : ∀ {A B : Int32}, cmp A a s → cmp B b t → bt (vB k A B) i = true → ∃ m, m < 8 ∧ poss b t m ∧ shb k (a ||| s) m i = true := by
    intro A B hA hB z
    obtain ⟨m, hm, e⟩ := low3 B
    rw [vB_sh hk hm hi e] at z
    exact ⟨m, hm, poss_of hB hm e, shb_mono (cmp_le hA) hm hi z⟩
  have hi0 : ∀ {A B : Int32}, cmp A a s → cmp B b t → bt (vB k A B) i = false → ¬ (∀ m, m < 8 → poss b t m → shb k (a &&& (s ^^^ (-1 : Int32))) m i = true) := by
    intro A B hA hB z w
    obtain ⟨m, hm, e⟩ := low3 B
    rw [vB_sh hk hm hi e] at z
    have := shb_mono (cmp_ge hA) hm hi (w m hm (poss_of hB hm e))
    rw [z] at this
    cases this
  constructor
  · intro ⟨⟨m, hm, hp, h1⟩, h0⟩
    cases hv : bt (vB k a b) i
    · obtain ⟨B, hB, eB⟩ := of_poss hb hm hp
      refine ⟨_, B, cmp_most ha hs, hB, ?_⟩
      rw [vB_sh hk hm hi eB, h1, hv]
      decide
    · have : ∃ m, m < 8 ∧ poss b t m ∧ ¬ shb k (a &&& (s ^^^ (-1 : Int32))) m i = true := by
        apply Classical.byContradiction
        intro hn
        apply h0
        intro m2 hm2 hp2
        apply Classical.byContradiction
        intro z
        exact hn ⟨m2, hm2, hp2, z⟩
      obtain ⟨m2, hm2, hp2, z⟩ := this
      obtain ⟨B, hB, eB⟩ := of_poss hb hm2 hp2
      refine ⟨_, B, cmp_least ha, hB, ?_⟩
      rw [vB_sh hk hm2 hi eB, hv]
      exact z
  · intro ⟨A, B, hA, hB, z⟩
    cases hv : bt (vB k a b) i
    · rw [hv] at z
      have z : bt (vB k A B) i = true := by cases hh : bt (vB k A B) i; exact absurd hh z; rfl
      exact ⟨hi1 hA hB z, hi0 (cmp_self ha) (cmp_self hb) hv⟩
    · rw [hv] at z
      have z : bt (vB k A B) i = false := by cases hh : bt (vB k A B) i; rfl; exact absurd hh z
      exact ⟨hi1 (cmp_self ha) (cmp_self hb) hv, hi0 hA hB z⟩
theorem w_shL {k a s b t : Int32} (hk : k = 5 ∨ k = 6) (ha : isB a) (hs : isB s) (hb : isB b) (K : Int32 → Prop) (hK : ∀ e, IsEx k a s b t e → K e) :
    ∀ d m, m + d = 8 → ∀ n, d < n → ∀ u w : Int32, isB u → (∀ i, i < 8 → (bt u i = true ↔ ∃ q, q < m ∧ poss b t q ∧ shb k (a ||| s) q i = true)) → (∀ i, i < 8 → (bt w i = true ↔ ∀ q, q < m → poss b t q → shb k (a &&& (s ^^^ (-1 : Int32))) q i = true)) → wl_X6_exactShift_11 K n k a s b t u w (nI m) := by
  intro d
  induction d with
  | zero =>
    intro m hm n hn u w hu h1 h2
    obtain ⟨n, rfl⟩ : ∃ z, n = z + 1 := ⟨n - 1, by omega⟩
    have hm : m = 8 := by omega
    subst hm
    refine ⟨fun _ => hK _ (ex_shift hk ha hs hb (isB_andl hu) (fun i hi => ?_)), fun z => absurd (by decide) z⟩
    rw [b_and, b_not _ (by omega), Bool.and_eq_true, h1 i hi, ← h2 i hi]
    simp
  | succ d ih =>
    intro m hm n hn u w hu h1 h2
    obtain ⟨n, rfl⟩ : ∃ z, n = z + 1 := ⟨n - 1, by omega⟩
    refine ⟨fun z => absurd z ?_, fun _ => ⟨fun z => ?_, fun z => ?_⟩⟩
    · rw [show (7 : Int32) = nI 7 from rfl, nI_ltI (by omega) (by omega)]; omega
    · intro x1 e1
      rw [nI_1] at e1
      subst e1
      refine ih (m + 1) (by omega) n (by omega) u w hu (fun i hi => ?_) (fun i hi => ?_)
      · rw [h1 i hi]
        constructor
        · intro ⟨q, hq, r⟩
          exact ⟨q, by omega, r⟩
        · intro ⟨q, hq, r⟩
          refine ⟨q, ?_, r⟩
          rcases Nat.lt_or_ge q m with c | c
          · exact c
          · have : q = m := by omega
            subst this
            exact absurd r.1 z
      · rw [h2 i hi]
        constructor
        · intro f q hq r
          rcases Nat.lt_or_ge q m with c | c
          · exact f q c r
          · have : q = m := by omega
            subst this
            exact absurd r z
        · intro f q hq r
          exact f q (by omega) r
    · have hmm := nI_7 (m := m) (by omega)
      refine w_vC ?_
      intro x3 e3
      refine w_vC ?_
      intro x5 e5
      intro x6 e6
      rw [nI_1] at e6
      subst e6
      subst e3
      subst e5
      refine ih (m + 1) (by omega) n (by omega) _ _ (isB_or hu (vB_B (isB_or ha hs) (isB_nI (by omega)))) (fun i hi => ?_) (fun i hi => ?_)
      · rw [b_or, Bool.or_eq_true, h1 i hi, vB_sh hk (by omega) hi hmm]
        constructor
        · rintro (⟨q, hq, r⟩ | r)
          · exact ⟨q, by omega, r⟩
          · exact ⟨m, by omega, z, r⟩
        · intro ⟨q, hq, r⟩
          rcases Nat.lt_or_ge q m with c | c
          · exact Or.inl ⟨q, c, r⟩
          · have : q = m := by omega
            subst this
            exact Or.inr r.2
      · rw [b_and, Bool.and_eq_true, h2 i hi, vB_sh hk (by omega) hi hmm]
        constructor
        · intro ⟨f, r⟩ q hq hp
          rcases Nat.lt_or_ge q m with c | c
          · exact f q c hp
          · have : q = m := by omega
            subst this
            exact r
        · intro f
          exact ⟨fun q hq hp => f q (by omega) hp, f m (by omega) z⟩
/-- the class's EXACT -/
theorem w_exC {j : Nat} (hj : j < 7) {a s b t : Int32} (ha : isB a) (hs : isB s) (hb : isB b) (ht : isB t) {K : Int32 → Prop} (hK : ∀ e, IsEx (nI j) a s b t e → K e) : wp_X6_exactBy (nI j) a s b t K := by
  unfold wp_X6_exactBy
  rw [show (5 : Int32) = nI 5 from rfl, nI_leI (by omega) (by omega)]
  refine ⟨fun c => ?_, fun c => ?_⟩
  · have hk : nI j = 5 ∨ nI j = 6 := by
      rcases (show j = 5 ∨ j = 6 by omega) with rfl | rfl
      · exact Or.inl rfl
      · exact Or.inr rfl
    refine ⟨9, w_shL hk ha hs hb K hK 8 0 (by omega) 9 (by omega) 0 255 isB_0 (fun i hi => ?_) (fun i hi => ?_)⟩
    · rw [b_0]
      exact ⟨fun z => absurd z (by decide), fun ⟨q, hq, _⟩ => absurd hq (by omega)⟩
    · rw [b_255]
      exact ⟨fun _ q hq => absurd hq (by omega), fun _ => decide_eq_true hi⟩
  · refine w_sC (hK _ ?_)
    rcases (show j = 0 ∨ j = 1 ∨ j = 2 ∨ j = 3 ∨ j = 4 by omega) with rfl | rfl | rfl | rfl | rfl
    · exact ex_and ha hs hb ht
    · exact ex_or ha hs hb ht
    · exact ex_xor ha hs hb ht
    · exact ex_sum ha hs hb ht
    · exact ex_dif ha hs hb ht
/-- the reference's: all that both could be -/
def seen (k a s b t : Int32) (x y i : Nat) : Prop := ∃ p q, p < 256 ∧ q < 256 ∧ (p < x ∨ (p = x ∧ q < y)) ∧ (nI p &&& (s ^^^ (-1 : Int32))) = 0 ∧ (nI q &&& (t ^^^ (-1 : Int32))) = 0 ∧ ¬ bt (vB k ((a &&& (s ^^^ (-1 : Int32))) ||| nI p) ((b &&& (t ^^^ (-1 : Int32))) ||| nI q)) i = bt (vB k a b) i
def inv (k a s b t : Int32) (x y : Nat) (v : Int32) : Prop := ∀ i, i < 32 → (bt v i = true ↔ seen k a s b t x y i)
theorem inv_next {k a s b t v : Int32} {x : Nat} (h : inv k a s b t x 256 v) : inv k a s b t (x + 1) 0 v := by
  intro i hi
  rw [h i hi]
  constructor
  · intro ⟨p, q, hp, hq, c, r⟩
    exact ⟨p, q, hp, hq, by omega, r⟩
  · intro ⟨p, q, hp, hq, c, r⟩
    exact ⟨p, q, hp, hq, by omega, r⟩
theorem inv_skip {k a s b t v : Int32} {x y : Nat} (hz : ¬ (nI x &&& (s ^^^ (-1 : Int32))) = 0) (h : inv k a s b t x y v) : inv k a s b t (x + 1) 0 v := by
  intro i hi
  rw [h i hi]
  constructor
  · intro ⟨p, q, hp, hq, c, r⟩
    exact ⟨p, q, hp, hq, by omega, r⟩
  · intro ⟨p, q, hp, hq, c, r⟩
    refine ⟨p, q, hp, hq, ?_, r⟩
    by_cases e : p = x
    · subst e
      exact absurd r.1 hz
    · omega
theorem w_exI {k a s b t : Int32} (K : Int32 → Prop) (Ko : Int32 → Int32 → Int32 → Int32 → Int32 → Int32 → Int32 → Int32 → Prop) {x : Nat} (hx : x < 256) (hKo : ∀ v, inv k a s b t (x + 1) 0 v → Ko k a s b t (vB k a b) v (nI (x + 1))) :
    ∀ d y, y + d = 256 → ∀ n, d < n → ∀ v, inv k a s b t x y v → wl_X8_exactBy_25 K Ko n k a s b t (vB k a b) v (nI x) (nI y) := by
  intro d
  induction d with
  | zero =>
    intro y hy n hn v hv
    obtain ⟨n, rfl⟩ : ∃ z, n = z + 1 := ⟨n - 1, by omega⟩
    have hy : y = 256 := by omega
    subst hy
    refine ⟨fun _ => ?_, fun z => absurd (by decide) z⟩
    intro x2 e2
    rw [nI_1] at e2
    subst e2
    exact hKo v (inv_next hv)
  | succ d ih =>
    intro y hy n hn v hv
    obtain ⟨n, rfl⟩ : ∃ z, n = z + 1 := ⟨n - 1, by omega⟩
    refine ⟨fun z => absurd z ?_, fun _ => ⟨fun z => ?_, fun z => ⟨fun w => ?_, fun w => ?_⟩⟩⟩
    · rw [show (256 : Int32) = nI 256 from rfl, nI_leI (by omega) (by omega)]; omega
    · intro x3 e3
      rw [nI_1] at e3
      subst e3
      exact hKo v (inv_skip z hv)
    · intro x4 e4
      intro x5 e5
      rw [nI_1] at e5
      subst e5
      subst e4
      refine ih (y + 1) (by omega) n (by omega) _ (fun i hi => ?_)
      rw [b_or, b_0, Bool.or_false, hv i hi]
      constructor
      · intro ⟨p, q, hp, hq, c, r⟩
        exact ⟨p, q, hp, hq, by omega, r⟩
      · intro ⟨p, q, hp, hq, c, r⟩
        refine ⟨p, q, hp, hq, ?_, r⟩
        by_cases e : p = x ∧ q = y
        · rw [e.2] at r
          exact absurd r.2.1 w
        · omega
    · refine w_vM ?_
      intro x7 e7
      intro x8 e8
      rw [nI_1] at e8
      subst e8
      subst e7
      refine ih (y + 1) (by omega) n (by omega) _ (fun i hi => ?_)
      rw [b_or, Bool.or_eq_true, hv i hi, b_xor]
      constructor
      · rintro (⟨p, q, hp, hq, c, r⟩ | r)
        · exact ⟨p, q, hp, hq, by omega, r⟩
        · refine ⟨x, y, hx, by omega, by omega, z, w, fun e => ?_⟩
          rw [e] at r
          simp at r
      · intro ⟨p, q, hp, hq, c, r⟩
        by_cases e : p = x ∧ q = y
        · right
          rw [e.1, e.2] at r
          have r := r.2.2
          cases h1 : bt (vB k ((a &&& (s ^^^ (-1 : Int32))) ||| nI x) ((b &&& (t ^^^ (-1 : Int32))) ||| nI y)) i <;> cases h2 : bt (vB k a b) i <;> simp_all
        · left
          exact ⟨p, q, hp, hq, by omega, r⟩
theorem w_exO {k a s b t : Int32} (K : Int32 → Prop) (hK : ∀ v, inv k a s b t 256 0 v → K v) : ∀ d x, x + d = 256 → ∀ n, d < n → ∀ v, inv k a s b t x 0 v → wl_X8_exactBy_14 K n k a s b t (vB k a b) v (nI x) := by
  intro d
  induction d with
  | zero =>
    intro x hx n hn v hv
    obtain ⟨n, rfl⟩ : ∃ z, n = z + 1 := ⟨n - 1, by omega⟩
    have hx : x = 256 := by omega
    subst hx
    exact ⟨fun _ => hK v hv, fun z => absurd (by decide) z⟩
  | succ d ih =>
    intro x hx n hn v hv
    obtain ⟨n, rfl⟩ : ∃ z, n = z + 1 := ⟨n - 1, by omega⟩
    refine ⟨fun z => absurd z ?_, fun _ => ?_⟩
    · rw [show (256 : Int32) = nI 256 from rfl, nI_leI (by omega) (by omega)]; omega
    exact ⟨257, w_exI K _ (by omega) (fun v2 h2 => ih (x + 1) (by omega) n (by omega) v2 h2) 256 0 (by omega) 257 (by omega) v hv⟩
theorem sub_cmp {a s : Int32} (ha : isB a) {p : Nat} (hp : p < 256) (h : (nI p &&& (s ^^^ (-1 : Int32))) = 0) : cmp ((a &&& (s ^^^ (-1 : Int32))) ||| nI p) a s := by
  refine ⟨isB_or (isB_andl ha) (isB_nI hp), fun i hs => ?_⟩
  rcases Nat.lt_or_ge i 32 with c | c
  · have z : bt (nI p &&& (s ^^^ (-1 : Int32))) i = false := by rw [h, b_0]
    rw [b_and, b_not _ c, hs] at z
    rw [b_or, b_and, b_not _ c, hs]
    simp_all
  · rw [b_big c, b_big c]
theorem cmp_sub {A a s : Int32} (h : cmp A a s) : ∃ p, p < 256 ∧ (nI p &&& (s ^^^ (-1 : Int32))) = 0 ∧ (a &&& (s ^^^ (-1 : Int32))) ||| nI p = A := by
  obtain ⟨p, hp, e⟩ := isB_ex (isB_andl (y := s) h.1)
  refine ⟨p, hp, ?_, ?_⟩
  · rw [← e]
    apply b_ext
    intro i hi
    rw [b_and, b_and, b_not _ hi, b_0]
    cases bt A i <;> cases bt s i <;> rfl
  · rw [← e]
    apply b_ext
    intro i hi
    rw [b_or, b_and, b_and, b_not _ hi]
    cases hs : bt s i
    · rw [h.2 i hs]; simp
    · simp
theorem inv_ex {k a s b t v : Int32} (ha : isB a) (hb : isB b) (h : inv k a s b t 256 0 v) : IsEx k a s b t v := by
  intro i hi
  rw [h i hi]
  constructor
  · intro ⟨p, q, hp, hq, _, h1, h2, r⟩
    exact ⟨_, _, sub_cmp ha hp h1, sub_cmp hb hq h2, r⟩
  · intro ⟨A, B, hA, hB, r⟩
    obtain ⟨p, hp, h1, e1⟩ := cmp_sub hA
    obtain ⟨q, hq, h2, e2⟩ := cmp_sub hB
    exact ⟨p, q, hp, hq, Or.inl hp, h1, h2, by rw [e1, e2]; exact r⟩
theorem w_exM {k a s b t : Int32} (ha : isB a) (hb : isB b) {K : Int32 → Prop} (hK : ∀ e, IsEx k a s b t e → K e) : wp_X8_exactBy k a s b t K := by
  unfold wp_X8_exactBy
  refine w_vM ⟨257, w_exO K (fun v h => hK v (inv_ex ha hb h)) 256 0 (by omega) 257 (by omega) 0 (fun i hi => ?_)⟩
  rw [b_0]
  exact ⟨fun z => absurd z (by decide), fun ⟨p, q, _, _, c, _⟩ => absurd c (by omega)⟩
