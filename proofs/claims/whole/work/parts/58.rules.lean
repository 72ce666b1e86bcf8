def vB (k a b : Int32) : Int32 := if k = 0 then a &&& b else if k = 1 then a ||| b else if k = 2 then a ^^^ b else if k = 3 then (a + b) &&& 255 else if k = 4 then (a - b) &&& 255 else if k = 5 then (a <<< ((b &&& 7) &&& 31)) &&& 255 else a >>> ((b &&& 7) &&& 31)
theorem w_vC {k a b : Int32} {K : Int32 → Prop} (hK : K (vB k a b)) : wp_X6_valueBy k a b K := by
  unfold vB at hK
  refine ⟨fun q => ?_, fun q => ⟨fun q1 => ?_, fun q1 => ⟨fun q2 => ?_, fun q2 => ⟨fun q3 => ?_, fun q3 => ⟨fun q4 => ?_, fun q4 => ⟨fun q5 => ?_, fun q5 => ?_⟩⟩⟩⟩⟩⟩
  · rw [if_pos q] at hK; exact hK
  · rw [if_neg q, if_pos q1] at hK; exact hK
  · rw [if_neg q, if_neg q1, if_pos q2] at hK; exact hK
  · rw [if_neg q, if_neg q1, if_neg q2, if_pos q3] at hK; exact hK
  · rw [if_neg q, if_neg q1, if_neg q2, if_neg q3, if_pos q4] at hK; exact hK
  · rw [if_neg q, if_neg q1, if_neg q2, if_neg q3, if_neg q4, if_pos q5] at hK; exact hK
  · rw [if_neg q, if_neg q1, if_neg q2, if_neg q3, if_neg q4, if_neg q5] at hK; exact hK
theorem w_vM {k a b : Int32} {K : Int32 → Prop} (hK : K (vB k a b)) : wp_X8_valueBy k a b K := w_vC hK
def sB (k a s b t : Int32) : Int32 :=
  if k = 0 then ((s ||| t) &&& (a ||| s)) &&& (b ||| t) else if k = 1 then (s ||| t) &&& (((a &&& (s ^^^ -1)) ||| (b &&& (t ^^^ -1))) ^^^ -1) else if k = 2 then s ||| t
  else if k = 3 then ((((a &&& (s ^^^ -1)) + (b &&& (t ^^^ -1))) ^^^ ((a ||| s) + (b ||| t))) ||| (s ||| t)) &&& 255
  else if k = 4 then ((((a &&& (s ^^^ -1)) - (b ||| t)) ^^^ ((a ||| s) - (b &&& (t ^^^ -1)))) ||| (s ||| t)) &&& 255
  else if ¬ (t &&& 7) = 0 then 255 else if k = 5 then (s <<< ((b &&& 7) &&& 31)) &&& 255 else s >>> ((b &&& 7) &&& 31)
theorem or_as (x s t : Int32) : (x ||| s) ||| t = x ||| (s ||| t) := by
  apply b_ext
  intro i hi
  simp only [b_or, Bool.or_assoc]
theorem dm (x y z : Int32) : (x &&& (y ^^^ (-1 : Int32))) &&& (z ^^^ (-1 : Int32)) = x &&& ((y ||| z) ^^^ (-1 : Int32)) := by
  apply b_ext
  intro i hi
  rw [b_and, b_and, b_and, b_not _ hi, b_not _ hi, b_not _ hi, b_or]
  cases bt x i <;> cases bt y i <;> cases bt z i <;> rfl
theorem w_sM {k a s b t : Int32} {K : Int32 → Prop} (hK : K (sB k a s b t)) : wp_X8_shadowBy k a s b t K := by
  unfold sB at hK
  intro x1 e1; subst e1
  intro x2 e2; subst e2
  intro x3 e3; subst e3
  intro x4 e4; subst e4
  intro x5 e5; subst e5
  refine ⟨fun q => ?_, fun q => ⟨fun q1 => ?_, fun q1 => ⟨fun q2 => ?_, fun q2 => ⟨fun q3 => ?_, fun q3 => ⟨fun q4 => ?_, fun q4 => ⟨fun q5 => ⟨fun w => ?_, fun w => ?_⟩, fun q5 => ⟨fun w => ?_, fun w => ?_⟩⟩⟩⟩⟩⟩⟩
  · rw [if_pos q] at hK; exact hK
  · rw [if_neg q, if_pos q1] at hK; exact hK
  · rw [if_neg q, if_neg q1, if_pos q2] at hK; exact hK
  · rw [if_neg q, if_neg q1, if_neg q2, if_pos q3] at hK; exact hK
  · rw [if_neg q, if_neg q1, if_neg q2, if_neg q3, if_pos q4] at hK; exact hK
  · rw [if_neg q, if_neg q1, if_neg q2, if_neg q3, if_neg q4, if_neg (fun z => z w), if_pos q5] at hK; exact hK
  · rw [if_neg q, if_neg q1, if_neg q2, if_neg q3, if_neg q4, if_pos w] at hK; exact hK
  · rw [if_neg q, if_neg q1, if_neg q2, if_neg q3, if_neg q4, if_neg (fun z => z w), if_neg q5] at hK; exact hK
  · rw [if_neg q, if_neg q1, if_neg q2, if_neg q3, if_neg q4, if_pos w] at hK; exact hK
theorem w_sC {k a s b t : Int32} {K : Int32 → Prop} (hK : K (sB k a s b t)) : wp_X6_shadowBy k a s b t K := by
  unfold sB at hK
  intro x2 e2; subst e2
  intro x3 e3; subst e3
  intro x4 e4; subst e4
  intro x5 e5; subst e5
  refine ⟨fun q => ?_, fun q => ⟨fun q1 => ?_, fun q1 => ⟨fun q2 => ?_, fun q2 => ⟨fun q3 => ?_, fun q3 => ⟨fun q4 => ?_, fun q4 => ⟨fun w => ?_, fun w => ?_⟩⟩⟩⟩⟩⟩
  · rw [if_pos q] at hK; exact hK
  · rw [if_neg q, if_pos q1] at hK; rw [dm]; exact hK
  · rw [if_neg q, if_neg q1, if_pos q2] at hK; exact hK
  · rw [if_neg q, if_neg q1, if_neg q2, if_pos q3] at hK; rw [or_as]; exact hK
  · rw [if_neg q, if_neg q1, if_neg q2, if_neg q3, if_pos q4] at hK; rw [or_as]; exact hK
  · rw [if_neg q, if_neg q1, if_neg q2, if_neg q3, if_neg q4, if_neg (fun z => z w)] at hK
    refine w_vC ?_
    unfold vB
    rw [if_neg q, if_neg q1, if_neg q2, if_neg q3, if_neg q4]
    exact hK
  · rw [if_neg q, if_neg q1, if_neg q2, if_neg q3, if_neg q4, if_pos w] at hK; exact hK
theorem low3 (x : Int32) : ∃ o, o < 8 ∧ x &&& (7 : Int32) = nI o := by
  obtain ⟨j, hj, e⟩ := pk_andE x (m := 7) 3 (by decide)
  exact ⟨j, hj, e⟩
theorem vB_B {k a b : Int32} (ha : isB a) (hb : isB b) : isB (vB k a b) := by
  unfold vB
  split
  · exact isB_andl ha
  split
  · exact isB_or ha hb
  split
  · exact isB_xor ha hb
  split
  · exact isB_m _
  split
  · exact isB_m _
  split
  · exact isB_m _
  obtain ⟨o, ho, e⟩ := low3 b
  rw [e]
  exact isB_shr ha (by omega)
theorem sB_B {k a s b t : Int32} (hs : isB s) (ht : isB t) : isB (sB k a s b t) := by
  unfold sB
  split
  · exact isB_andl (isB_andl (isB_or hs ht))
  split
  · exact isB_andl (isB_or hs ht)
  split
  · exact isB_or hs ht
  split
  · exact isB_m _
  split
  · exact isB_m _
  split
  · exact isB_255
  split
  · exact isB_m _
  obtain ⟨o, ho, e⟩ := low3 b
  rw [e]
  exact isB_shr hs (by omega)
/-- the low i bits as a number -/
def lo (x : Int32) (i : Nat) : Nat := x.toBitVec.toNat % 2 ^ i
theorem lo_lt (x : Int32) (i : Nat) : lo x i < 2 ^ i := Nat.mod_lt _ (Nat.two_pow_pos i)
theorem b_add (x y : Int32) {i : Nat} (hi : i < 32) : bt (x + y) i = (bt x i ^^ (bt y i ^^ decide (2 ^ i ≤ lo x i + lo y i))) := by
  unfold bt lo
  rw [Int32.toBitVec_add, BitVec.getLsbD_add hi]
  congr 2
theorem lo_add (x y : Int32) {i : Nat} (hi : i ≤ 32) : lo (x + y) i = (lo x i + lo y i) % 2 ^ i := by
  unfold lo
  rw [Int32.toBitVec_add, BitVec.toNat_add, Nat.mod_mod_of_dvd _ (Nat.pow_dvd_pow 2 hi), Nat.add_mod]
theorem b_sub (x y : Int32) {i : Nat} (hi : i < 32) : bt (x - y) i = (bt x i ^^ (bt y i ^^ decide (lo x i < lo y i))) := by
  have e : x - y + y = x := by
    apply Int32.toBitVec_inj.mp
    rw [Int32.toBitVec_add, Int32.toBitVec_sub, BitVec.sub_add_cancel]
  have h := b_add (x - y) y hi
  rw [e] at h
  have h2 := lo_add (x - y) y (i := i) (by omega)
  rw [e] at h2
  have l1 := lo_lt (x - y) i
  have l2 := lo_lt y i
  have hc : decide (2 ^ i ≤ lo (x - y) i + lo y i) = decide (lo x i < lo y i) := by
    rw [decide_eq_decide, h2]
    by_cases c : 2 ^ i ≤ lo (x - y) i + lo y i
    · rw [Nat.mod_eq_sub_mod c, Nat.mod_eq_of_lt (by omega)]
      omega
    · rw [Nat.mod_eq_of_lt (by omega)]
      omega
  rw [hc] at h
  rw [h]
  cases bt (x - y) i <;> cases bt y i <;> cases decide (lo x i < lo y i) <;> rfl
theorem lo_mono {x y : Int32} (h : ∀ j, j < 32 → bt x j = true → bt y j = true) (i : Nat) : lo x i ≤ lo y i := by
  have e : x &&& y = x := by
    apply b_ext
    intro j hj
    rw [b_and]
    cases hx : bt x j
    · rfl
    · rw [h j hj hx]; rfl
  have e2 : x.toBitVec.toNat &&& y.toBitVec.toNat = x.toBitVec.toNat := by
    rw [← BitVec.toNat_and, ← Int32.toBitVec_and, e]
  unfold lo
  rw [← e2, Nat.and_mod_two_pow]
  exact Nat.and_le_right
theorem lo_same {x y : Int32} {i : Nat} (h : ∀ j, j < i → bt x j = bt y j) : lo x i = lo y i := by
  apply Nat.eq_of_testBit_eq
  intro j
  unfold lo
  rw [Nat.testBit_mod_two_pow, Nat.testBit_mod_two_pow]
  by_cases c : j < i
  · have := h j c
    unfold bt at this
    rw [← BitVec.testBit_toNat, ← BitVec.testBit_toNat] at this
    rw [this]
  · simp [c]
