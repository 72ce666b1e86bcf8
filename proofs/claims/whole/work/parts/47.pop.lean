theorem fb_ct_zero {p : Nat → Bool} : ∀ {n : Nat}, fb_ct p n = 0 ↔ ∀ k, k < n → p k = false
  | 0 => ⟨fun _ k hk => absurd hk (Nat.not_lt_zero k), fun _ => rfl⟩
  | n + 1 => by
    have h := fb_ct_zero (p := p) (n := n)
    rw [fb_ct_succ]
    constructor
    · intro e k hk
      have e1 : fb_ct p n = 0 := by omega
      rcases Nat.lt_or_ge k n with q | q
      · exact h.mp e1 k q
      · have ek : k = n := by omega
        subst ek
        cases hp : p k
        · rfl
        · simp [hp] at e
    · intro a
      rw [h.mpr (fun k hk => a k (by omega)), a n (by omega)]
      rfl
/-- how many bits of a byte -/
def pop8 (b : Nat) : Nat := fb_ct (fun i => b.testBit i) 8
theorem pw_bytes : ∀ b, b < 256 → ((b / 2) &&& 0x55) ≤ b ∧ pop8 b ≤ 8 ∧
    (let c := b - ((b / 2) &&& 0x55); c < 256 ∧ (let e := (c &&& 0x33) + ((c / 4) &&& 0x33); e % 16 ≤ 4 ∧ e / 16 ≤ 4 ∧ (e + e / 16) % 16 = pop8 b)) := by decide +kernel
theorem pw_55 : ∀ b, b < 256 → ∀ c, c < 2 → (b / 2 + 128 * c) &&& 0x55 = (b / 2) &&& 0x55 := by decide +kernel
theorem pw_33 : ∀ b, b < 256 → ∀ c, c < 4 → (b / 4 + 64 * c) &&& 0x33 = (b / 4) &&& 0x33 := by decide +kernel
theorem pw_0f : ∀ b, b < 256 → b &&& 0x0f = b % 16 := by decide +kernel
theorem and_le_r (a b : Nat) : a &&& b ≤ b := Nat.and_le_right
/-- and, byte by byte -/
theorem and_bytes {n M m b0 b1 b2 b3 : Nat} (hM : M = m + 256 * m + 65536 * m + 16777216 * m) (hm : m < 256) (h0 : b0 < 256) (h1 : b1 < 256) (h2 : b2 < 256) (h3 : b3 < 256) (hn : n = b0 + 256 * b1 + 65536 * b2 + 16777216 * b3) :
    n &&& M = (b0 &&& m) + 256 * (b1 &&& m) + 65536 * (b2 &&& m) + 16777216 * (b3 &&& m) := by
  have key : ∀ k x y : Nat, (x &&& y) = ((x % 2 ^ k) &&& (y % 2 ^ k)) + 2 ^ k * ((x / 2 ^ k) &&& (y / 2 ^ k)) := by
    intro k x y
    rw [← Nat.and_mod_two_pow, ← Nat.and_div_two_pow]
    exact (Nat.mod_add_div _ _).symm
  have s8 : ∀ a x y : Nat, a < 256 → y < 256 → ∀ z, (a + 256 * x) &&& (y + 256 * z) = (a &&& y) + 256 * (x &&& z) := by
    intro a x y ha hy z
    rw [key 8, show (2 : Nat) ^ 8 = 256 from rfl]
    rw [show (a + 256 * x) % 256 = a by omega, show (y + 256 * z) % 256 = y by omega, show (a + 256 * x) / 256 = x by omega, show (y + 256 * z) / 256 = z by omega]
  subst hn
  subst hM
  rw [show b0 + 256 * b1 + 65536 * b2 + 16777216 * b3 = b0 + 256 * (b1 + 256 * (b2 + 256 * b3)) by omega, show m + 256 * m + 65536 * m + 16777216 * m = m + 256 * (m + 256 * (m + 256 * m)) by omega]
  rw [s8 _ _ _ h0 hm, s8 _ _ _ h1 hm, s8 _ _ _ h2 hm]
  omega
theorem pw_h2 {n b0 b1 b2 b3 : Nat} (en : n = b0 + 256 * b1 + 65536 * b2 + 16777216 * b3) : n / 2 = (b0 / 2 + 128 * (b1 % 2)) + 256 * (b1 / 2 + 128 * (b2 % 2)) + 65536 * (b2 / 2 + 128 * (b3 % 2)) + 16777216 * (b3 / 2) := by omega
theorem pw_h4 {n b0 b1 b2 b3 : Nat} (en : n = b0 + 256 * b1 + 65536 * b2 + 16777216 * b3) : n / 4 = (b0 / 4 + 64 * (b1 % 4)) + 256 * (b1 / 4 + 64 * (b2 % 4)) + 65536 * (b2 / 4 + 64 * (b3 % 4)) + 16777216 * (b3 / 4) := by omega
theorem pw_h16 {n b0 b1 b2 b3 : Nat} (en : n = b0 + 256 * b1 + 65536 * b2 + 16777216 * b3) : n + n / 16 = (b0 + b0 / 16 + 16 * (b1 % 16)) + 256 * (b1 + b1 / 16 + 16 * (b2 % 16)) + 65536 * (b2 + b2 / 16 + 16 * (b3 % 16)) + 16777216 * (b3 + b3 / 16) := by omega
theorem pw_lt {b c : Nat} (h : b < 256) (hc : c < 2) : b / 2 + 128 * c < 256 := by omega
theorem pw_lt4 {b c : Nat} (h : b < 256) (hc : c < 4) : b / 4 + 64 * c < 256 := by omega
theorem pw_s1 {n b0 b1 b2 b3 t0 t1 t2 t3 d0 d1 d2 d3 T : Nat} (en : n = b0 + 256 * b1 + 65536 * b2 + 16777216 * b3) (eT : T = t0 + 256 * t1 + 65536 * t2 + 16777216 * t3) (h0 : t0 ≤ b0) (h1 : t1 ≤ b1) (h2 : t2 ≤ b2) (h3 : t3 ≤ b3) (e0 : b0 - t0 = d0) (e1 : b1 - t1 = d1) (e2 : b2 - t2 = d2) (e3 : b3 - t3 = d3) : T ≤ n ∧ d0 + 256 * d1 + 65536 * d2 + 16777216 * d3 = n - T := by omega
theorem pw_16 {f g : Nat} (hf : f % 16 ≤ 4) (hf2 : f / 16 ≤ 4) (hg : g % 16 ≤ 4) : f + f / 16 + 16 * (g % 16) < 256 := by omega
theorem pw_16b {f g : Nat} : (f + f / 16 + 16 * (g % 16)) % 16 = (f + f / 16) % 16 := by omega
theorem pw_fin {p0 p1 p2 p3 n3 : Nat} (h0 : p0 ≤ 8) (h1 : p1 ≤ 8) (h2 : p2 ≤ 8) (h3 : p3 ≤ 8) (e : n3 = p0 + 256 * p1 + 65536 * p2 + 16777216 * p3) : n3 + n3 / 256 < 4294967296 ∧ (n3 + n3 / 256) + (n3 + n3 / 256) / 65536 < 4294967296 ∧ ((n3 + n3 / 256) + (n3 + n3 / 256) / 65536) % 64 = p0 + p1 + p2 + p3 := by
  have a1 : n3 / 256 = p1 + 256 * p2 + 65536 * p3 := by omega
  have a2 : n3 + n3 / 256 = (p0 + p1) + 256 * (p1 + p2) + 65536 * (p2 + p3) + 16777216 * p3 := by omega
  have a3 : (n3 + n3 / 256) / 65536 = (p2 + p3) + 256 * p3 := by omega
  rw [a3, a2]
  omega
theorem pw_b4 {b0 b1 b2 b3 : Nat} (h0 : b0 < 256) (h1 : b1 < 256) (h2 : b2 < 256) (h3 : b3 < 256) : b0 + 256 * b1 + 65536 * b2 + 16777216 * b3 < 4294967296 := by omega
theorem pw_sum {f0 f1 f2 f3 a0 a1 a2 a3 c0 c1 c2 c3 A C : Nat} (eA : A = a0 + 256 * a1 + 65536 * a2 + 16777216 * a3) (eC : C = c0 + 256 * c1 + 65536 * c2 + 16777216 * c3) (e0 : a0 + c0 = f0) (e1 : a1 + c1 = f1) (e2 : a2 + c2 = f2) (e3 : a3 + c3 = f3) : f0 + 256 * f1 + 65536 * f2 + 16777216 * f3 = A + C := by omega
theorem pw_split {n : Nat} (hn : n < 4294967296) : ∃ b0 b1 b2 b3 : Nat, b0 < 256 ∧ b1 < 256 ∧ b2 < 256 ∧ b3 < 256 ∧ n = b0 + 256 * b1 + 65536 * b2 + 16777216 * b3 :=
  ⟨n % 256, n / 256 % 256, n / 65536 % 256, n / 16777216, by omega, by omega, by omega, by omega, by omega⟩
theorem pw_ef {e : Nat} (h1 : e % 16 ≤ 4) (h2 : e / 16 ≤ 4) : e < 256 := by omega
theorem pw_main {n : Nat} (hn : n < 4294967296) : ∃ b0 b1 b2 b3 : Nat, b0 < 256 ∧ b1 < 256 ∧ b2 < 256 ∧ b3 < 256 ∧ n = b0 + 256 * b1 + 65536 * b2 + 16777216 * b3 ∧
    ((n / 2) &&& 0x55555555) ≤ n ∧ ∃ n1 n2 n3 : Nat, n1 = n - ((n / 2) &&& 0x55555555) ∧ n1 < 4294967296 ∧ n2 = (n1 &&& 0x33333333) + ((n1 / 4) &&& 0x33333333) ∧ n2 < 4294967296 ∧ n3 = (n2 + n2 / 16) &&& 0x0f0f0f0f ∧ n3 < 4294967296 ∧
    n3 + n3 / 256 < 4294967296 ∧ (n3 + n3 / 256) + (n3 + n3 / 256) / 65536 < 4294967296 ∧ ((n3 + n3 / 256) + (n3 + n3 / 256) / 65536) % 64 = pop8 b0 + pop8 b1 + pop8 b2 + pop8 b3 := by
  obtain ⟨b0, b1, b2, b3, l0, l1, l2, l3, en⟩ := pw_split hn
  obtain ⟨p0, q0, c0, x0, y0, z0⟩ := pw_bytes b0 l0
  obtain ⟨p1, q1, c1, x1, y1, z1⟩ := pw_bytes b1 l1
  obtain ⟨p2, q2, c2, x2, y2, z2⟩ := pw_bytes b2 l2
  obtain ⟨p3, q3, c3, x3, y3, z3⟩ := pw_bytes b3 l3
  have t1 := and_bytes (n := n / 2) (M := 0x55555555) (m := 0x55) rfl (by decide) (pw_lt l0 (Nat.mod_lt _ (by decide))) (pw_lt l1 (Nat.mod_lt _ (by decide))) (pw_lt l2 (Nat.mod_lt _ (by decide))) (Nat.lt_of_le_of_lt (Nat.div_le_self _ _) l3) (pw_h2 en)
  rw [pw_55 b0 l0 _ (Nat.mod_lt _ (by decide)), pw_55 b1 l1 _ (Nat.mod_lt _ (by decide)), pw_55 b2 l2 _ (Nat.mod_lt _ (by decide))] at t1
  obtain ⟨hle, em1⟩ := pw_s1 en t1 p0 p1 p2 p3 rfl rfl rfl rfl
  have t2 := and_bytes (M := 0x33333333) (m := 0x33) rfl (by decide) c0 c1 c2 c3 rfl
  have t3 := and_bytes (M := 0x33333333) (m := 0x33) rfl (by decide) (pw_lt4 c0 (Nat.mod_lt _ (by decide))) (pw_lt4 c1 (Nat.mod_lt _ (by decide))) (pw_lt4 c2 (Nat.mod_lt _ (by decide))) (Nat.lt_of_le_of_lt (Nat.div_le_self _ _) c3) (pw_h4 rfl)
  rw [pw_33 _ c0 _ (Nat.mod_lt _ (by decide)), pw_33 _ c1 _ (Nat.mod_lt _ (by decide)), pw_33 _ c2 _ (Nat.mod_lt _ (by decide))] at t3
  have em2 := pw_sum t2 t3 rfl rfl rfl rfl
  have t4 := and_bytes (M := 0x0f0f0f0f) (m := 0x0f) rfl (by decide) (pw_16 x0 y0 x1) (pw_16 x1 y1 x2) (pw_16 x2 y2 x3) (pw_16 x3 y3 (g := 0) (by decide)) (pw_h16 (b3 := _) rfl)
  rw [pw_0f _ (pw_16 x0 y0 x1), pw_0f _ (pw_16 x1 y1 x2), pw_0f _ (pw_16 x2 y2 x3), pw_0f _ (pw_16 x3 y3 (g := 0) (by decide)), pw_16b, pw_16b, pw_16b, pw_16b, z0, z1, z2, z3] at t4
  exact ⟨b0, b1, b2, b3, l0, l1, l2, l3, en, hle, _, _, _, em1, pw_b4 c0 c1 c2 c3, em2, pw_b4 (pw_ef x0 y0) (pw_ef x1 y1) (pw_ef x2 y2) (pw_ef x3 y3), t4.symm, pw_b4 (Nat.lt_of_le_of_lt q0 (by decide)) (Nat.lt_of_le_of_lt q1 (by decide)) (Nat.lt_of_le_of_lt q2 (by decide)) (Nat.lt_of_le_of_lt q3 (by decide)), pw_fin q0 q1 q2 q3 rfl⟩
/-- how many bits of 32 -/
def pop (x : Int32) : Nat := fb_ct (bt x) 32
theorem pop_bytes {n b0 b1 b2 b3 : Nat} (l0 : b0 < 256) (l1 : b1 < 256) (l2 : b2 < 256) (l3 : b3 < 256) (en : n = b0 + 256 * b1 + 65536 * b2 + 16777216 * b3) : pop (nI n) = pop8 b0 + pop8 b1 + pop8 b2 + pop8 b3 := by
  have tb : ∀ (a x i : Nat), a < 256 → (a + 256 * x).testBit i = if i < 8 then a.testBit i else x.testBit (i - 8) := by
    intro a x i ha
    have e : a + 256 * x = 2 ^ 8 * x + a := by omega
    rw [e, Nat.testBit_two_pow_mul_add _ (by omega)]
  have en2 : n = b0 + 256 * (b1 + 256 * (b2 + 256 * b3)) := by omega
  unfold pop pop8
  rw [fb_ct_cong (q := fun i => n.testBit i) (fun k hk => b_nI n hk)]
  rw [show (32 : Nat) = 8 + (8 + (8 + 8)) from rfl, fb_ct_split, fb_ct_split, fb_ct_split]
  have a0 : fb_ct (fun i => n.testBit i) 8 = fb_ct (fun i => b0.testBit i) 8 := fb_ct_cong (fun k hk => by
    show n.testBit k = _
    rw [en2, tb _ _ _ l0, if_pos hk])
  have a1 : fb_ct (fun k => n.testBit (8 + k)) 8 = fb_ct (fun i => b1.testBit i) 8 := fb_ct_cong (fun k hk => by
    show n.testBit (8 + k) = _
    rw [en2, tb _ _ _ l0, if_neg (by omega), show 8 + k - 8 = k by omega, tb _ _ _ l1, if_pos hk])
  have a2 : fb_ct (fun k => n.testBit (8 + (8 + k))) 8 = fb_ct (fun i => b2.testBit i) 8 := fb_ct_cong (fun k hk => by
    show n.testBit (8 + (8 + k)) = _
    rw [en2, tb _ _ _ l0, if_neg (by omega), show 8 + (8 + k) - 8 = 8 + k by omega, tb _ _ _ l1, if_neg (by omega), show 8 + k - 8 = k by omega, tb _ _ _ l2, if_pos hk])
  have a3 : fb_ct (fun k => n.testBit (8 + (8 + (8 + k)))) 8 = fb_ct (fun i => b3.testBit i) 8 := fb_ct_cong (fun k hk => by
    show n.testBit (8 + (8 + (8 + k))) = _
    rw [en2, tb _ _ _ l0, if_neg (by omega), show 8 + (8 + (8 + k)) - 8 = 8 + (8 + k) by omega, tb _ _ _ l1, if_neg (by omega), show 8 + (8 + k) - 8 = 8 + k by omega, tb _ _ _ l2, if_neg (by omega), show 8 + k - 8 = k by omega])
  rw [a0, a1, a2, a3]
  omega
theorem nI_ex (x : Int32) : ∃ n, n < 4294967296 ∧ x = nI n := by
  refine ⟨x.toBitVec.toNat, x.toBitVec.isLt, ?_⟩
  apply Int32.toBitVec_inj.1
  show x.toBitVec = BitVec.ofNat 32 x.toBitVec.toNat
  simp
theorem w_pop {x : Int32} {K : Int32 → Prop} (hK : K (nI (pop x))) : wp_J6_bitCount_0f7a4 x K := by
  obtain ⟨n, hn, rfl⟩ := nI_ex x
  obtain ⟨b0, b1, b2, b3, l0, l1, l2, l3, en, hle, n1, n2, n3, e1, h1, e2, h2, e3, h3, h4, h5, hr⟩ := pw_main hn
  unfold wp_J6_bitCount_0f7a4
  intro x1 ex1
  rw [pk_ushrN (by omega) (1 : Int32) 1 (by decide), show (1431655765 : Int32) = nI 0x55555555 from rfl, nx_and, show (2 : Nat) ^ 1 = 2 from rfl, pk_sub hle, ← e1] at ex1
  subst ex1
  intro x2 ex2
  rw [pk_ushrN (by omega) (2 : Int32) 2 (by decide), show (858993459 : Int32) = nI 0x33333333 from rfl, nx_and, nx_and, show (2 : Nat) ^ 2 = 4 from rfl, nI_add, ← e2] at ex2
  subst ex2
  intro x3 ex3
  rw [pk_ushrN (by omega) (4 : Int32) 4 (by decide), show (252645135 : Int32) = nI 0x0f0f0f0f from rfl, show (2 : Nat) ^ 4 = 16 from rfl, nI_add, nx_and, ← e3] at ex3
  subst ex3
  intro x4 ex4
  rw [pk_ushrN (by omega) (8 : Int32) 8 (by decide), show (2 : Nat) ^ 8 = 256 from rfl, nI_add] at ex4
  subst ex4
  intro x5 ex5
  rw [pk_ushrN h4 (16 : Int32) 16 (by decide), show (2 : Nat) ^ 16 = 65536 from rfl, nI_add] at ex5
  subst ex5
  rw [pk_andN h5 6 (by decide), show (2 : Nat) ^ 6 = 64 from rfl, hr, ← pop_bytes l0 l1 l2 l3 en]
  exact hK
theorem w_bitsL (K : Int32 → Prop) (x : Int32) : ∀ d k, k + d = 16 → ∀ n, d < n → K (nI (fb_ct (bt x) 16)) → wl_X8_bits_4 K n x (nI (fb_ct (bt x) k)) (nI k) := by
  intro d
  induction d with
  | zero =>
    intro k hk n hn hK
    obtain ⟨n, rfl⟩ : ∃ z, n = z + 1 := ⟨n - 1, by omega⟩
    have hk : k = 16 := by omega
    subst hk
    exact ⟨fun _ => hK, fun c => absurd (by decide) c⟩
  | succ d ih =>
    intro k hk n hn hK
    obtain ⟨n, rfl⟩ : ∃ z, n = z + 1 := ⟨n - 1, by omega⟩
    refine ⟨fun c => absurd c ?_, fun _ => ?_⟩
    · rw [show (16 : Int32) = nI 16 from rfl, nI_leI (by omega) (by omega)]; omega
    intro x1 e1
    intro x2 e2
    rw [nI_1] at e2
    subst e2
    have e1 : x1 = nI (fb_ct (bt x) (k + 1)) := by
      rw [e1, val_s x (by omega), fb_ct_succ]
      cases bt x k
      · exact add0 _
      · exact nI_add1 _
    subst e1
    exact ih (k + 1) (by omega) n (by omega) hK
theorem w_bits {x : Int32} {K : Int32 → Prop} (hK : K (nI (fb_ct (bt x) 16))) : wp_X8_bits x K := ⟨17, w_bitsL K x 16 0 (by omega) 17 (by omega) hK⟩
theorem pop_16 {x : Int32} (h : ∀ i, 16 ≤ i → bt x i = false) : fb_ct (bt x) 16 = pop x := by
  unfold pop
  rw [show (32 : Nat) = 16 + 16 from rfl, fb_ct_split, (fb_ct_zero (p := fun k => bt x (16 + k)) (n := 16)).mpr (fun k _ => h _ (by omega))]
  rfl
theorem pop_B {x : Int32} (h : isB x) : fb_ct (bt x) 16 = pop x := pop_16 (fun i hi => h i (by omega))
