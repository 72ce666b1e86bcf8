/-- a number that a with unknown bits s could be -/
def cmp (A a s : Int32) : Prop := isB A ∧ ∀ i, bt s i = false → bt A i = bt a i
def Dif (k a s b t : Int32) (i : Nat) : Prop := ∃ A B : Int32, cmp A a s ∧ cmp B b t ∧ ¬ bt (vB k A B) i = bt (vB k a b) i
def IsEx (k a s b t e : Int32) : Prop := ∀ i, i < 32 → (bt e i = true ↔ Dif k a s b t i)
theorem IsEx.one {k a s b t e e2 : Int32} (h : IsEx k a s b t e) (h2 : IsEx k a s b t e2) : e = e2 := by
  apply b_ext
  intro i hi
  have := (h i hi).trans (h2 i hi).symm
  cases h1 : bt e i <;> cases h2 : bt e2 i <;> simp_all
theorem IsEx.mk8 {k a s b t e : Int32} (ha : isB a) (hb : isB b) (he : isB e) (h : ∀ i, i < 8 → (bt e i = true ↔ Dif k a s b t i)) : IsEx k a s b t e := by
  intro i hi
  rcases Nat.lt_or_ge i 8 with c | c
  · exact h i c
  · rw [he i c]
    refine ⟨fun z => absurd z (by decide), fun ⟨A, B, hA, hB, z⟩ => ?_⟩
    exact absurd (by rw [vB_B hA.1 hB.1 i c, vB_B ha hb i c]) z
section CM
variable {a s A : Int32}
theorem cmp_self (ha : isB a) : cmp a a s := ⟨ha, fun _ _ => rfl⟩
theorem cmp_least (ha : isB a) : cmp (a &&& (s ^^^ (-1 : Int32))) a s := by
  refine ⟨isB_andl ha, fun i h => ?_⟩
  rcases Nat.lt_or_ge i 32 with c | c
  · rw [b_and, b_not _ c, h]; simp
  · rw [b_big c, b_big c]
theorem cmp_most (ha : isB a) (hs : isB s) : cmp (a ||| s) a s := by
  refine ⟨isB_or ha hs, fun i h => ?_⟩
  rw [b_or, h]; simp
theorem cmp_ge (h : cmp A a s) : ∀ j, j < 32 → bt (a &&& (s ^^^ (-1 : Int32))) j = true → bt A j = true := by
  intro j hj
  rw [b_and, b_not _ hj]
  cases hs : bt s j
  · rw [h.2 j hs]; simp
  · simp
theorem cmp_le (h : cmp A a s) : ∀ j, j < 32 → bt A j = true → bt (a ||| s) j = true := by
  intro j hj
  rw [b_or]
  cases hs : bt s j
  · rw [h.2 j hs]; simp
  · simp
theorem flip_bit (x : Int32) {i j : Nat} (hi : i < 32) (hj : j < 32) : bt (x ^^^ ((1 : Int32) <<< (nI i &&& 31))) j = (bt x j ^^ decide (j = i)) := by
  rw [b_xor, b_one hi hj]
theorem cmp_flip (ha : isB a) {i : Nat} (hi : i < 8) (hs : bt s i = true) : cmp (a ^^^ ((1 : Int32) <<< (nI i &&& 31))) a s := by
  refine ⟨fun j hj => ?_, fun j h => ?_⟩
  · rcases Nat.lt_or_ge j 32 with c | c
    · rw [flip_bit _ (by omega) c, ha j hj, decide_eq_false (by omega)]; rfl
    · exact b_big c
  · rcases Nat.lt_or_ge j 32 with c | c
    · rw [flip_bit _ (by omega) c]
      by_cases e : j = i
      · rw [e, hs] at h; cases h
      · rw [decide_eq_false e]; simp
    · rw [b_big c, b_big c]
theorem cmp_bit (ha : isB a) {i : Nat} (hi : i < 8) {p : Bool} (hp : bt s i = false → p = bt a i) : ∃ A, cmp A a s ∧ bt A i = p := by
  by_cases e : p = bt a i
  · exact ⟨a, cmp_self ha, e.symm⟩
  · have hs : bt s i = true := by cases h : bt s i; exact absurd (hp h) e; rfl
    refine ⟨_, cmp_flip ha hi hs, ?_⟩
    rw [flip_bit _ (by omega) (by omega)]
    cases p <;> cases h : bt a i <;> simp_all
end CM
theorem Dif_bool {k a s b t : Int32} (ha : isB a) (hb : isB b) {i : Nat} (hi : i < 8) {F : Bool → Bool → Bool} (hF : ∀ A B : Int32, bt (vB k A B) i = F (bt A i) (bt B i)) : Dif k a s b t i ↔ ∃ p q : Bool, (bt s i = false → p = bt a i) ∧ (bt t i = false → q = bt b i) ∧ ¬ F p q = F (bt a i) (bt b i) := by
  constructor
  · intro ⟨A, B, hA, hB, h⟩
    rw [hF, hF] at h
    exact ⟨bt A i, bt B i, hA.2 i, hB.2 i, h⟩
  · intro ⟨p, q, hp, hq, h⟩
    obtain ⟨A, hA, eA⟩ := cmp_bit ha hi hp
    obtain ⟨B, hB, eB⟩ := cmp_bit hb hi hq
    refine ⟨A, B, hA, hB, ?_⟩
    rw [hF, hF, eA, eB]
    exact h
theorem bool_and : ∀ a s b t : Bool, (((((s || t) && (a || s)) && (b || t)) = true) ↔ ∃ p q : Bool, (s = false → p = a) ∧ (t = false → q = b) ∧ ¬ (p && q) = (a && b)) := by decide
theorem bool_or : ∀ a s b t : Bool, ((((s || t) && !((a && !s) || (b && !t))) = true) ↔ ∃ p q : Bool, (s = false → p = a) ∧ (t = false → q = b) ∧ ¬ (p || q) = (a || b)) := by decide
theorem bool_xor : ∀ a s b t : Bool, (((s || t) = true) ↔ ∃ p q : Bool, (s = false → p = a) ∧ (t = false → q = b) ∧ ¬ (p ^^ q) = (a ^^ b)) := by decide
theorem ex_and {a s b t : Int32} (ha : isB a) (hs : isB s) (hb : isB b) (ht : isB t) : IsEx 0 a s b t (sB 0 a s b t) := by
  refine IsEx.mk8 ha hb (sB_B hs ht) (fun i hi => ?_)
  rw [Dif_bool ha hb hi (F := fun p q => p && q) (fun A B => by unfold vB; rw [if_pos rfl, b_and])]
  have e : bt (sB 0 a s b t) i = (((bt s i || bt t i) && (bt a i || bt s i)) && (bt b i || bt t i)) := by
    unfold sB; rw [if_pos rfl, b_and, b_and, b_or, b_or, b_or]
  rw [e]
  exact bool_and _ _ _ _
theorem ex_or {a s b t : Int32} (ha : isB a) (hs : isB s) (hb : isB b) (ht : isB t) : IsEx 1 a s b t (sB 1 a s b t) := by
  refine IsEx.mk8 ha hb (sB_B hs ht) (fun i hi => ?_)
  rw [Dif_bool ha hb hi (F := fun p q => p || q) (fun A B => by unfold vB; rw [if_neg (by decide), if_pos rfl, b_or])]
  have e : bt (sB 1 a s b t) i = ((bt s i || bt t i) && !((bt a i && !bt s i) || (bt b i && !bt t i))) := by
    unfold sB; rw [if_neg (by decide), if_pos rfl, b_and, b_or, b_not _ (by omega), b_or, b_and, b_and, b_not _ (by omega), b_not _ (by omega)]
  rw [e]
  exact bool_or _ _ _ _
theorem ex_xor {a s b t : Int32} (ha : isB a) (hs : isB s) (hb : isB b) (ht : isB t) : IsEx 2 a s b t (sB 2 a s b t) := by
  refine IsEx.mk8 ha hb (sB_B hs ht) (fun i hi => ?_)
  rw [Dif_bool ha hb hi (F := fun p q => p ^^ q) (fun A B => by unfold vB; rw [if_neg (by decide), if_neg (by decide), if_pos rfl, b_xor])]
  have e : bt (sB 2 a s b t) i = (bt s i || bt t i) := by
    unfold sB; rw [if_neg (by decide), if_neg (by decide), if_pos rfl, b_or]
  rw [e]
  exact bool_xor _ _ _ _
theorem b_m8 (x : Int32) {i : Nat} (hi : i < 8) : bt (x &&& 255) i = bt x i := by rw [b_and, b_255]; simp [hi]
theorem lo_flip (x : Int32) {i : Nat} (hi : i < 32) : lo (x ^^^ ((1 : Int32) <<< (nI i &&& 31))) i = lo x i := by
  apply lo_same
  intro j hj
  rw [flip_bit _ hi (by omega), decide_eq_false (by omega)]; simp
theorem ex_sum {a s b t : Int32} (ha : isB a) (hs : isB s) (hb : isB b) (ht : isB t) : IsEx 3 a s b t (sB 3 a s b t) := by
  refine IsEx.mk8 ha hb (sB_B hs ht) (fun i hi => ?_)
  have hv : ∀ A B : Int32, bt (vB 3 A B) i = bt (A + B) i := by
    intro A B
    unfold vB; rw [if_neg (by decide), if_neg (by decide), if_neg (by decide), if_pos rfl, b_m8 _ hi]
  have e : bt (sB 3 a s b t) i = ((bt ((a &&& (s ^^^ -1)) + (b &&& (t ^^^ -1))) i ^^ bt ((a ||| s) + (b ||| t)) i) || (bt s i || bt t i)) := by
    unfold sB; rw [if_neg (by decide), if_neg (by decide), if_neg (by decide), if_pos rfl, b_m8 _ hi, b_or, b_xor, b_or]
  rw [e]
  constructor
  · intro h
    by_cases c1 : bt s i = true
    · refine ⟨_, b, cmp_flip ha hi c1, cmp_self hb, ?_⟩
      rw [hv, hv, b_add _ _ (by omega), b_add _ _ (by omega), lo_flip _ (by omega), flip_bit _ (by omega) (by omega)]
      cases bt a i <;> cases bt b i <;> cases decide (2 ^ i ≤ lo a i + lo b i) <;> simp
    · by_cases c2 : bt t i = true
      · refine ⟨a, _, cmp_self ha, cmp_flip hb hi c2, ?_⟩
        rw [hv, hv, b_add _ _ (by omega), b_add _ _ (by omega), lo_flip _ (by omega), flip_bit _ (by omega) (by omega)]
        cases bt a i <;> cases bt b i <;> cases decide (2 ^ i ≤ lo a i + lo b i) <;> simp
      · by_cases c3 : bt ((a &&& (s ^^^ -1)) + (b &&& (t ^^^ -1))) i = bt (a + b) i
        · refine ⟨_, _, cmp_most ha hs, cmp_most hb ht, ?_⟩
          rw [hv, hv]
          intro z
          rw [c3, z] at h
          simp_all
        · refine ⟨_, _, cmp_least ha, cmp_least hb, ?_⟩
          rw [hv, hv]
          exact c3
  · intro ⟨A, B, hA, hB, h⟩
    rw [hv, hv] at h
    apply Classical.byContradiction
    intro hn
    have c1 : bt s i = false := by cases hh : bt s i; rfl; simp_all
    have c2 : bt t i = false := by cases hh : bt t i; rfl; simp_all
    have c3 : bt ((a &&& (s ^^^ -1)) + (b &&& (t ^^^ -1))) i = bt ((a ||| s) + (b ||| t)) i := by
      rw [c1, c2] at hn
      cases h1 : bt ((a &&& (s ^^^ -1)) + (b &&& (t ^^^ -1))) i <;> cases h2 : bt ((a ||| s) + (b ||| t)) i <;> simp_all
    apply h
    rw [b_add _ _ (by omega), b_add _ _ (by omega), (cmp_least ha).2 i c1, (cmp_least hb).2 i c2, (cmp_most ha hs).2 i c1, (cmp_most hb ht).2 i c2] at c3
    rw [b_add _ _ (by omega), b_add _ _ (by omega), hA.2 i c1, hB.2 i c2]
    have m1 := lo_mono (cmp_ge hA) i
    have m2 := lo_mono (cmp_le hA) i
    have m3 := lo_mono (cmp_ge hB) i
    have m4 := lo_mono (cmp_le hB) i
    have m5 := lo_mono (cmp_ge (cmp_self (s := s) ha)) i
    have m6 := lo_mono (cmp_le (cmp_self (s := s) ha)) i
    have m7 := lo_mono (cmp_ge (cmp_self (s := t) hb)) i
    have m8 := lo_mono (cmp_le (cmp_self (s := t) hb)) i
    have c4 : decide (2 ^ i ≤ lo (a &&& (s ^^^ -1)) i + lo (b &&& (t ^^^ -1)) i) = decide (2 ^ i ≤ lo (a ||| s) i + lo (b ||| t) i) := by
      revert c3
      generalize decide (2 ^ i ≤ lo (a &&& (s ^^^ -1)) i + lo (b &&& (t ^^^ -1)) i) = p
      generalize decide (2 ^ i ≤ lo (a ||| s) i + lo (b ||| t) i) = q
      cases bt a i <;> cases bt b i <;> cases p <;> cases q <;> simp
    rw [decide_eq_decide] at c4
    have c5 : decide (2 ^ i ≤ lo A i + lo B i) = decide (2 ^ i ≤ lo a i + lo b i) := by
      rw [decide_eq_decide]
      omega
    rw [c5]
theorem ex_dif {a s b t : Int32} (ha : isB a) (hs : isB s) (hb : isB b) (ht : isB t) : IsEx 4 a s b t (sB 4 a s b t) := by
  refine IsEx.mk8 ha hb (sB_B hs ht) (fun i hi => ?_)
  have hv : ∀ A B : Int32, bt (vB 4 A B) i = bt (A - B) i := by
    intro A B
    unfold vB; rw [if_neg (by decide), if_neg (by decide), if_neg (by decide), if_neg (by decide), if_pos rfl, b_m8 _ hi]
  have e : bt (sB 4 a s b t) i = ((bt ((a &&& (s ^^^ -1)) - (b ||| t)) i ^^ bt ((a ||| s) - (b &&& (t ^^^ -1))) i) || (bt s i || bt t i)) := by
    unfold sB; rw [if_neg (by decide), if_neg (by decide), if_neg (by decide), if_neg (by decide), if_pos rfl, b_m8 _ hi, b_or, b_xor, b_or]
  rw [e]
  constructor
  · intro h
    by_cases c1 : bt s i = true
    · refine ⟨_, b, cmp_flip ha hi c1, cmp_self hb, ?_⟩
      rw [hv, hv, b_sub _ _ (by omega), b_sub _ _ (by omega), lo_flip _ (by omega), flip_bit _ (by omega) (by omega)]
      cases bt a i <;> cases bt b i <;> cases decide (lo a i < lo b i) <;> simp
    · by_cases c2 : bt t i = true
      · refine ⟨a, _, cmp_self ha, cmp_flip hb hi c2, ?_⟩
        rw [hv, hv, b_sub _ _ (by omega), b_sub _ _ (by omega), lo_flip _ (by omega), flip_bit _ (by omega) (by omega)]
        cases bt a i <;> cases bt b i <;> cases decide (lo a i < lo b i) <;> simp
      · by_cases c3 : bt ((a &&& (s ^^^ -1)) - (b ||| t)) i = bt (a - b) i
        · refine ⟨_, _, cmp_most ha hs, cmp_least hb, ?_⟩
          rw [hv, hv]
          intro z
          rw [c3, z] at h
          simp_all
        · refine ⟨_, _, cmp_least ha, cmp_most hb ht, ?_⟩
          rw [hv, hv]
          exact c3
  · intro ⟨A, B, hA, hB, h⟩
    rw [hv, hv] at h
    apply Classical.byContradiction
    intro hn
    have c1 : bt s i = false := by cases hh : bt s i; rfl; simp_all
    have c2 : bt t i = false := by cases hh : bt t i; rfl; simp_all
    have c3 : bt ((a &&& (s ^^^ -1)) - (b ||| t)) i = bt ((a ||| s) - (b &&& (t ^^^ -1))) i := by
      rw [c1, c2] at hn
      cases h1 : bt ((a &&& (s ^^^ -1)) - (b ||| t)) i <;> cases h2 : bt ((a ||| s) - (b &&& (t ^^^ -1))) i <;> simp_all
    apply h
    rw [b_sub _ _ (by omega), b_sub _ _ (by omega), (cmp_least ha).2 i c1, (cmp_least hb).2 i c2, (cmp_most ha hs).2 i c1, (cmp_most hb ht).2 i c2] at c3
    rw [b_sub _ _ (by omega), b_sub _ _ (by omega), hA.2 i c1, hB.2 i c2]
    have m1 := lo_mono (cmp_ge hA) i
    have m2 := lo_mono (cmp_le hA) i
    have m3 := lo_mono (cmp_ge hB) i
    have m4 := lo_mono (cmp_le hB) i
    have m5 := lo_mono (cmp_ge (cmp_self (s := s) ha)) i
    have m6 := lo_mono (cmp_le (cmp_self (s := s) ha)) i
    have m7 := lo_mono (cmp_ge (cmp_self (s := t) hb)) i
    have m8 := lo_mono (cmp_le (cmp_self (s := t) hb)) i
    have c4 : decide (lo (a &&& (s ^^^ -1)) i < lo (b ||| t) i) = decide (lo (a ||| s) i < lo (b &&& (t ^^^ -1)) i) := by
      revert c3
      generalize decide (lo (a &&& (s ^^^ -1)) i < lo (b ||| t) i) = p
      generalize decide (lo (a ||| s) i < lo (b &&& (t ^^^ -1)) i) = q
      cases bt a i <;> cases bt b i <;> cases p <;> cases q <;> simp
    rw [decide_eq_decide] at c4
    have c5 : decide (lo A i < lo B i) = decide (lo a i < lo b i) := by
      rw [decide_eq_decide]
      omega
    rw [c5]
