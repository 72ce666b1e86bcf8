def wp_X7_octet (σ : St) (a1 : Int32) (a2 : Int32) (K : Int32 → St → Prop) : Prop :=
  wp_X7_isOctet a1 (fun x1 => ((¬ x1 = 0 → vp_in ((8 : Int32) + a1) 40 ∧ ∀ x2 : Int32, x2 = σ.2.1 0 ((8 : Int32) + a1).toNatClampNeg → ((a2 = (0 : Int32) → wp_X0_valueOf x2 (fun x3 => K x3 σ)) ∧ (¬ a2 = (0 : Int32) → ((a2 = (1 : Int32) → wp_X0_shadowOf x2 (fun x4 => K x4 σ)) ∧ (¬ a2 = (1 : Int32) → ((a2 = (2 : Int32) → wp_X0_fromOf x2 (fun x5 => K x5 σ)) ∧ (¬ a2 = (2 : Int32) → ((a2 = (3 : Int32) → wp_X4_isDead_1 σ a1 (fun x7 σ6 => ((x7 = 0 → K (0 : Int32) σ6) ∧ (¬ x7 = 0 → K (1 : Int32) σ6)))) ∧ (¬ a2 = (3 : Int32) → ((a2 = (4 : Int32) → vp_in a1 32 ∧ K (σ.2.1 5 a1.toNatClampNeg) σ) ∧ (¬ a2 = (4 : Int32) → K (-1000000002 : Int32) σ))))))))))) ∧ (x1 = 0 → K (-1000000001 : Int32) σ)))
set_option maxHeartbeats 4000000 in
set_option maxRecDepth 100000 in
theorem c_X7_octet (l : Launch) (D : va_G) (cI : ClassId) (ad : Nat → Nat) (A : Nat → Prop) (σ : St) (a1 : Int32) (a2 : Int32) (K : Int32 → St → Prop) (hw : wp_X7_octet σ a1 a2 K) : Met l yX7_octet wsX7_octet ({ frames := 1, cells := 0, slots := 0, locals := 21 }) (va_Pc [.ref (ad 0), .int a1, .int a2] (GW D [(cI, FieldType.int)] (wC cI ad) A σ)) (va_Qi K (GW D [(cI, FieldType.int)] (wC cI ad) A) A) 0 0 A := by
  refine Met.ofW (cc := cX7_octet) (maxL := 4) (ret := (some .int)) (by decide) rfl ?_
  intro p e s m args below meth c s₁ B hml hv
  obtain ⟨rfl, hP, hK, hD⟩ := hv
  have hx := B.exec
  have hb := B.bytes
  have hr := B.returns
  have hts := atoms_spec (ws := wsX7_octet) B.pre
  have hown : s.vm.findClass RX7 = some m.cls := findClass_of_methodNamed B.named
  have hlocks := B.notSynchronized
  have hS : va_S A s.heap s.heap [] := va_S.rf
  have hinX3 : ∀ w ∈ wsX30, w ∈ wsX7_octet := fun _ h => List.mem_cons_of_mem _ (List.mem_append_right _ (h))
  have hinX4 : ∀ w ∈ wsX40, w ∈ wsX7_octet := fun _ h => List.mem_cons_of_mem _ (List.mem_append_left _ (List.mem_append_right _ (h)))
  have hinX7 : ∀ w ∈ wsX70, w ∈ wsX7_octet := fun _ h => List.mem_cons_of_mem _ (List.mem_append_left _ (List.mem_append_left _ (List.mem_append_right _ (h))))
  have hl := lv_entry ([.ref (ad 0), .int a1, .int a2]) (n := 4) (Nat.le_of_ble_eq_true rfl)
  rw [lg_entry_eq]
  generalize (lg_sl ([.ref (ad 0), .int a1, .int a2]) ++ List.replicate (4 - (lg_sl ([.ref (ad 0), .int a1, .int a2])).length) Slot.unset).toArray = ls at hl ⊢
  have hl : lv_has ls 4 [(0, .ref (ad 0)), (1, .int a1), (2, .int a2)] := hl
  have hP : va_P D vwCl (wC cI ad σ) s.heap := hP
  refine lv_iload_n hx hb dX7_octet_0 rfl (lv_at hl 1 rfl) ?_
  refine S_calli (As := [.int a1]) (rest := []) ⟨hx, hb, hml, hown, hts⟩ (c_X7_isOctet l a1 _ hw) (va_cwS 1 hts gX7_octet_X7_isOctet rfl rfl rfl (by decide +kernel) ⟨Nat.le_of_ble_eq_true rfl, Nat.le_of_ble_eq_true rfl⟩) rfl hl.1 rfl (Nat.le_of_ble_eq_true rfl) dX7_octet_1 ⟨Nat.zero_le _, Nat.zero_le _⟩ (fun x1 hw => ?_)
  refine lv_if_ne (tgt := 10) hx hb dX7_octet_4 (by decide) (fun c9 => ?_) (fun c9 => ?_)
  · have hw := hw.1 c9
    refine lv_aload_n hx hb dX7_octet_10 rfl (lv_at hl 0 rfl) ?_
    refine va_get (D := D) (ci := 5) (C := RX7) (T := TX7) (N := 12) hx hb hts hinX7 hown hK hP 0 rfl rfl 0 (by decide) (hts _ (List.mem_of_getElem? (i := 2) rfl)) (fun _ h9 => h9) rfl dX7_octet_11 ?_
    refine va_get (D := D) (ci := 3) (C := RX4) (T := TX4) (N := 2) hx hb hts hinX4 hown hK hP 1 rfl rfl 0 (by decide) (hts _ (List.mem_of_getElem? (i := 3) rfl)) (fun _ h9 => h9) rfl dX7_octet_14 ?_
    refine lv_bipush (v := 8) hx hb dX7_octet_17 (by decide) ?_
    refine lv_iload_n hx hb dX7_octet_19 rfl (lv_at hl 1 rfl) ?_
    refine lv_iadd hx hb dX7_octet_20 ?_
    refine va_iald (D := D) hx hb hK hP 2 0 rfl rfl hw.1 dX7_octet_21 ?_
    have hw := hw.2
    refine lv_topi (fun x2 ex2 => ?_)
    have hw := hw x2 ex2
    refine lv_istore_n (lv' := [(3, .int x2), (0, .ref (ad 0)), (1, .int a1), (2, .int a2)]) hx hb dX7_octet_22 rfl hl (by decide) rfl (fun ls hl => ?_)
    refine lv_iload_n hx hb dX7_octet_23 rfl (lv_at hl 3 rfl) ?_
    by_cases q0 : a2 = (0 : Int32)
    · have hw := hw.1 q0
      refine lv_tableIn (off := 36) (tgt := 60) hx hb dX7_octet_24 (by rw [q0]; decide) (by rw [q0]; decide) (by rw [q0]; rfl) (by decide) ?_
      refine lv_iload_n hx hb dX7_octet_60 rfl (lv_at hl 0 rfl) ?_
      refine S_calli (As := [.int x2]) (rest := []) ⟨hx, hb, hml, hown, hts⟩ (c_X0_valueOf l x2 _ hw) (va_cwS 1 hts gX7_octet_X0_valueOf rfl rfl rfl (by decide +kernel) ⟨Nat.le_of_ble_eq_true rfl, Nat.le_of_ble_eq_true rfl⟩) rfl hl.1 rfl (Nat.le_of_ble_eq_true rfl) dX7_octet_61 ⟨Nat.zero_le _, Nat.zero_le _⟩ (fun x3 hw => ?_)
      exact G_iret hx hb hr hlocks hw hP hK hD hS dX7_octet_64
    · have hw := hw.2 q0
      by_cases q1 : a2 = (1 : Int32)
      · have hw := hw.1 q1
        refine lv_tableIn (off := 41) (tgt := 65) hx hb dX7_octet_24 (by rw [q1]; decide) (by rw [q1]; decide) (by rw [q1]; rfl) (by decide) ?_
        refine lv_iload_n hx hb dX7_octet_65 rfl (lv_at hl 0 rfl) ?_
        refine S_calli (As := [.int x2]) (rest := []) ⟨hx, hb, hml, hown, hts⟩ (c_X0_shadowOf l x2 _ hw) (va_cwS 1 hts gX7_octet_X0_shadowOf rfl rfl rfl (by decide +kernel) ⟨Nat.le_of_ble_eq_true rfl, Nat.le_of_ble_eq_true rfl⟩) rfl hl.1 rfl (Nat.le_of_ble_eq_true rfl) dX7_octet_66 ⟨Nat.zero_le _, Nat.zero_le _⟩ (fun x4 hw => ?_)
        exact G_iret hx hb hr hlocks hw hP hK hD hS dX7_octet_69
      · have hw := hw.2 q1
        by_cases q2 : a2 = (2 : Int32)
        · have hw := hw.1 q2
          refine lv_tableIn (off := 46) (tgt := 70) hx hb dX7_octet_24 (by rw [q2]; decide) (by rw [q2]; decide) (by rw [q2]; rfl) (by decide) ?_
          refine lv_iload_n hx hb dX7_octet_70 rfl (lv_at hl 0 rfl) ?_
          refine S_calli (As := [.int x2]) (rest := []) ⟨hx, hb, hml, hown, hts⟩ (c_X0_fromOf l x2 _ hw) (va_cwS 1 hts gX7_octet_X0_fromOf rfl rfl rfl (by decide +kernel) ⟨Nat.le_of_ble_eq_true rfl, Nat.le_of_ble_eq_true rfl⟩) rfl hl.1 rfl (Nat.le_of_ble_eq_true rfl) dX7_octet_71 ⟨Nat.zero_le _, Nat.zero_le _⟩ (fun x5 hw => ?_)
          exact G_iret hx hb hr hlocks hw hP hK hD hS dX7_octet_74
        · have hw := hw.2 q2
          by_cases q3 : a2 = (3 : Int32)
          · have hw := hw.1 q3
            refine lv_tableIn (off := 51) (tgt := 75) hx hb dX7_octet_24 (by rw [q3]; decide) (by rw [q3]; decide) (by rw [q3]; rfl) (by decide) ?_
            refine lv_aload_n hx hb dX7_octet_75 rfl (lv_at hl 1 rfl) ?_
            refine va_get (D := D) (ci := 5) (C := RX7) (T := TX7) (N := 12) hx hb hts hinX7 hown hK hP 0 rfl rfl 0 (by decide) (hts _ (List.mem_of_getElem? (i := 2) rfl)) (fun _ h9 => h9) rfl dX7_octet_76 ?_
            refine lv_iload_n hx hb dX7_octet_79 rfl (lv_at hl 2 rfl) ?_
            refine G_calli (As := [.int a1]) (rest := []) ⟨hx, hb, hml, hown, hts⟩ hK hP hD hS 1 3 rfl rfl (c_X4_isDead_1 l D cI ad A σ a1 _ hw) (cwV 1 hts gX7_octet_X4_isDead rfl rfl rfl (by decide +kernel) ⟨Nat.le_of_ble_eq_true rfl, Nat.le_of_ble_eq_true rfl⟩) rfl hl.1 rfl (Nat.le_of_ble_eq_true rfl) dX7_octet_80 ⟨Nat.zero_le _, Nat.zero_le _⟩ (fun x7 σ6 hw H locs hP hD hS => ?_)
            refine lv_if_eq (tgt := 90) hx hb dX7_octet_83 (by decide) (fun c9 => ?_) (fun c9 => ?_)
            · have hw := hw.1 c9
              refine lv_iconst (v := 0) hx hb dX7_octet_90 (by decide) ?_
              exact G_iret hx hb hr hlocks hw hP hK hD hS dX7_octet_91
            · have hw := hw.2 c9
              refine lv_iconst (v := 1) hx hb dX7_octet_86 (by decide) ?_
              refine lv_goto (tgt := 91) hx hb dX7_octet_87 (by decide) ?_
              exact G_iret hx hb hr hlocks hw hP hK hD hS dX7_octet_91
          · have hw := hw.2 q3
            by_cases q4 : a2 = (4 : Int32)
            · have hw := hw.1 q4
              refine lv_tableIn (off := 68) (tgt := 92) hx hb dX7_octet_24 (by rw [q4]; decide) (by rw [q4]; decide) (by rw [q4]; rfl) (by decide) ?_
              refine lv_aload_n hx hb dX7_octet_92 rfl (lv_at hl 1 rfl) ?_
              refine va_get (D := D) (ci := 5) (C := RX7) (T := TX7) (N := 12) hx hb hts hinX7 hown hK hP 0 rfl rfl 3 (by decide) (hts _ (List.mem_of_getElem? (i := 4) rfl)) (fun _ h9 => h9) rfl dX7_octet_93 ?_
              refine va_get (D := D) (ci := 2) (C := RX3) (T := TX3) (N := 5) hx hb hts hinX3 hown hK hP 7 rfl rfl 2 (by decide) (hts _ (List.mem_of_getElem? (i := 5) rfl)) (fun _ h9 => h9) rfl dX7_octet_96 ?_
              refine lv_iload_n hx hb dX7_octet_99 rfl (lv_at hl 2 rfl) ?_
              refine va_iald (D := D) hx hb hK hP 10 0 rfl rfl hw.1 dX7_octet_100 ?_
              have hw := hw.2
              exact G_iret hx hb hr hlocks hw hP hK hD hS dX7_octet_101
            · have hw := hw.2 q4
              have r0 := lv_neT q0 (a := 0) (by decide)
              have r1 := lv_neT q1 (a := 1) (by decide)
              have r2 := lv_neT q2 (a := 2) (by decide)
              have r3 := lv_neT q3 (a := 3) (by decide)
              have r4 := lv_neT q4 (a := 4) (by decide)
              refine lv_tableOut (tgt := 102) hx hb dX7_octet_24 (by omega) (by decide) ?_
              refine lv_ldc (v := -1000000002) hx hb hown (hts _ (List.mem_of_getElem? (i := 6) rfl)) dX7_octet_102 ?_
              exact G_iret hx hb hr hlocks hw hP hK hD hS dX7_octet_104
  · have hw := hw.2 c9
    refine lv_ldc (v := -1000000001) hx hb hown (hts _ (List.mem_of_getElem? (i := 1) rfl)) dX7_octet_7 ?_
    exact G_iret hx hb hr hlocks hw hP hK hD hS dX7_octet_9

def wl_X2_countNaming_11_4 (K : Int32 → St → Prop) : Nat → Int32 → Int32 → Int32 → St → Prop
  | 0, _, _, _, _ => False
  | n + 1, v1, v2, v3, σ => (((σ.1 6) ≤ v3 → K v2 σ) ∧ (¬ (σ.1 6) ≤ v3 → vp_in v3 20 ∧ ∀ x1 : Int32, x1 = v2 + (((σ.2.1 8 v3.toNatClampNeg) >>> (v1 &&& 31)) &&& (1 : Int32)) → ∀ x2 : Int32, x2 = v3 + 1 → wl_X2_countNaming_11_4 K n v1 x1 x2 σ))
def wp_X2_countNaming_11 (σ : St) (a1 : Int32) (K : Int32 → St → Prop) : Prop :=
  (∃ nn : Nat, wl_X2_countNaming_11_4 K nn a1 (0 : Int32) (0 : Int32) σ)
set_option maxHeartbeats 4000000 in
set_option maxRecDepth 100000 in
theorem c_X2_countNaming_11 (l : Launch) (D : va_G) (cI : ClassId) (ad : Nat → Nat) (A : Nat → Prop) (σ : St) (a1 : Int32) (K : Int32 → St → Prop) (hw : wp_X2_countNaming_11 σ a1 K) : Met l yX2_countNaming wsX2_countNaming ({ frames := 0, cells := 0, slots := 0, locals := 0 }) (va_Pc [.ref (ad 11), .int a1] (GW D [(cI, FieldType.int)] (wC cI ad) A σ)) (va_Qi K (GW D [(cI, FieldType.int)] (wC cI ad) A) A) 0 0 A := by
  refine Met.ofW (cc := cX2_countNaming) (maxL := 4) (ret := (some .int)) (by decide) rfl ?_
  intro p e s m args below meth c s₁ B hml hv
  obtain ⟨rfl, hP, hK, hD⟩ := hv
  have hx := B.exec
  have hb := B.bytes
  have hr := B.returns
  have hts := atoms_spec (ws := wsX2_countNaming) B.pre
  have hown : s.vm.findClass RX2 = some m.cls := findClass_of_methodNamed B.named
  have hlocks := B.notSynchronized
  have hS : va_S A s.heap s.heap [] := va_S.rf
  have hinX2 : ∀ w ∈ wsX20, w ∈ wsX2_countNaming := fun _ h => List.mem_cons_of_mem _ (List.mem_append_right _ (h))
  have hwl_X2_countNaming_11_4 : ∀ (n : Nat) (v1 : Int32) (v2 : Int32) (v3 : Int32) (σ : St), wl_X2_countNaming_11_4 K n v1 v2 v3 σ → ∀ (H : Heap) (locs : List Loc), va_P D vwCl (wC cI ad σ) H → va_D A (wC cI ad σ) → va_S A s.heap H locs → ∀ ls : Array Slot, lv_has ls 4 [(0, .ref (ad 11)), (1, .int v1), (2, .int v2), (3, .int v3)] → W p l e (headSpec wsX2_countNaming ({ frames := 0, cells := 0, slots := 0, locals := 0 })).room s m ([.ref (ad 11), .int a1] : List Value).toArray below meth c H locs 0 0 (MQ below (va_Qi K (GW D [(cI, FieldType.int)] (wC cI ad) A) A) ([.ref (ad 11), .int a1] : List Value).toArray s 0 0 A) (F0 m 4 ls []) := by
    intro n
    induction n with
    | zero => intro v1 v2 v3 σ hw; exact hw.elim
    | succ n ih =>
      intro v1 v2 v3 σ hw H locs hP hD hS ls hl
      refine lv_iload_n hx hb dX2_countNaming_4 rfl (lv_at hl 3 rfl) ?_
      refine lv_aload_n hx hb dX2_countNaming_5 rfl (lv_at hl 0 rfl) ?_
      refine va_get (D := D) (ci := 1) (C := RX2) (T := TX2) (N := 5) hx hb hts hinX2 hown hK hP 11 rfl rfl 4 (by decide) (hts _ (List.mem_of_getElem? (i := 1) rfl)) (fun _ h9 => h9) rfl dX2_countNaming_6 ?_
      refine lv_icmp_ge (tgt := 31) hx hb dX2_countNaming_9 (by decide) (fun c9 => ?_) (fun c9 => ?_)
      · have hw := hw.1 c9
        refine lv_iload_n hx hb dX2_countNaming_31 rfl (lv_at hl 2 rfl) ?_
        exact G_iret hx hb hr hlocks hw hP hK hD hS dX2_countNaming_32
      · have hw := hw.2 c9
        refine lv_iload_n hx hb dX2_countNaming_12 rfl (lv_at hl 2 rfl) ?_
        refine lv_aload_n hx hb dX2_countNaming_13 rfl (lv_at hl 0 rfl) ?_
        refine va_get (D := D) (ci := 1) (C := RX2) (T := TX2) (N := 5) hx hb hts hinX2 hown hK hP 11 rfl rfl 2 (by decide) (hts _ (List.mem_of_getElem? (i := 2) rfl)) (fun _ h9 => h9) rfl dX2_countNaming_14 ?_
        refine lv_iload_n hx hb dX2_countNaming_17 rfl (lv_at hl 3 rfl) ?_
        refine va_iald (D := D) hx hb hK hP 14 0 rfl rfl hw.1 dX2_countNaming_18 ?_
        have hw := hw.2
        refine lv_iload_n hx hb dX2_countNaming_19 rfl (lv_at hl 1 rfl) ?_
        refine lv_ishr hx hb dX2_countNaming_20 ?_
        refine lv_iconst (v := 1) hx hb dX2_countNaming_21 (by decide) ?_
        refine lv_iand hx hb dX2_countNaming_22 ?_
        refine lv_iadd hx hb dX2_countNaming_23 ?_
        refine lv_topi (fun x1 ex1 => ?_)
        have hw := hw x1 ex1
        refine lv_istore_n (lv' := [(2, .int x1), (0, .ref (ad 11)), (1, .int v1), (3, .int v3)]) hx hb dX2_countNaming_24 rfl hl (by decide) rfl (fun ls hl => ?_)
        obtain ⟨x2, ex2⟩ : ∃ y : Int32, y = v3 + 1 := ⟨_, rfl⟩
        have hw := hw x2 ex2
        refine lv_iinc (v := x2) (lv' := [(3, .int x2), (2, .int x1), (0, .ref (ad 11)), (1, .int v1)]) hx hb dX2_countNaming_25 hl (k := 3) rfl (by rw [ex2]; rfl) (by decide) rfl (fun ls hl => ?_)
        refine lv_goto (tgt := 4) hx hb dX2_countNaming_28 (by decide) ?_
        exact ih v1 x1 x2 σ hw _ _ hP hD hS ls (lv_sub hl [2, 3, 1, 0] rfl)
  have hl := lv_entry ([.ref (ad 11), .int a1]) (n := 4) (Nat.le_of_ble_eq_true rfl)
  rw [lg_entry_eq]
  generalize (lg_sl ([.ref (ad 11), .int a1]) ++ List.replicate (4 - (lg_sl ([.ref (ad 11), .int a1])).length) Slot.unset).toArray = ls at hl ⊢
  have hl : lv_has ls 4 [(0, .ref (ad 11)), (1, .int a1)] := hl
  have hP : va_P D vwCl (wC cI ad σ) s.heap := hP
  refine lv_iconst (v := 0) hx hb dX2_countNaming_0 (by decide) ?_
  refine lv_istore_n (lv' := [(2, .int (0 : Int32)), (0, .ref (ad 11)), (1, .int a1)]) hx hb dX2_countNaming_1 rfl hl (by decide) rfl (fun ls hl => ?_)
  refine lv_iconst (v := 0) hx hb dX2_countNaming_2 (by decide) ?_
  refine lv_istore_n (lv' := [(3, .int (0 : Int32)), (2, .int (0 : Int32)), (0, .ref (ad 11)), (1, .int a1)]) hx hb dX2_countNaming_3 rfl hl (by decide) rfl (fun ls hl => ?_)
  obtain ⟨nn, hw⟩ := hw
  exact hwl_X2_countNaming_11_4 nn a1 (0 : Int32) (0 : Int32) σ hw _ _ hP hD hS ls (lv_sub hl [2, 3, 1, 0] rfl)

def wp_X7_ground (σ : St) (a1 : Int32) (a2 : Int32) (K : Int32 → St → Prop) : Prop :=
  wp_X3_has_7 σ a1 (fun x2 σ1 => ((¬ x2 = 0 → ((a2 = (0 : Int32) → vp_in a1 12 ∧ K (σ1.2.1 3 a1.toNatClampNeg) σ1) ∧ (¬ a2 = (0 : Int32) → ((a2 = (1 : Int32) → vp_in a1 12 ∧ K (σ1.2.1 4 a1.toNatClampNeg) σ1) ∧ (¬ a2 = (1 : Int32) → ((a2 = (2 : Int32) → wp_X3_isLet_7 σ1 a1 (fun x4 σ3 => ((x4 = 0 → K (0 : Int32) σ3) ∧ (¬ x4 = 0 → K (1 : Int32) σ3)))) ∧ (¬ a2 = (2 : Int32) → ((a2 = (3 : Int32) → wp_X2_countNaming_11 σ1 a1 (fun x6 σ5 => K x6 σ5)) ∧ (¬ a2 = (3 : Int32) → K (-1000000002 : Int32) σ1))))))))) ∧ (x2 = 0 → K (-1000000001 : Int32) σ1)))
set_option maxHeartbeats 4000000 in
set_option maxRecDepth 100000 in
theorem c_X7_ground (l : Launch) (D : va_G) (cI : ClassId) (ad : Nat → Nat) (A : Nat → Prop) (σ : St) (a1 : Int32) (a2 : Int32) (K : Int32 → St → Prop) (hw : wp_X7_ground σ a1 a2 K) : Met l yX7_ground wsX7_ground ({ frames := 1, cells := 0, slots := 0, locals := 23 }) (va_Pc [.ref (ad 0), .int a1, .int a2] (GW D [(cI, FieldType.int)] (wC cI ad) A σ)) (va_Qi K (GW D [(cI, FieldType.int)] (wC cI ad) A) A) 0 0 A := by
  refine Met.ofW (cc := cX7_ground) (maxL := 3) (ret := (some .int)) (by decide) rfl ?_
  intro p e s m args below meth c s₁ B hml hv
  obtain ⟨rfl, hP, hK, hD⟩ := hv
  have hx := B.exec
  have hb := B.bytes
  have hr := B.returns
  have hts := atoms_spec (ws := wsX7_ground) B.pre
  have hown : s.vm.findClass RX7 = some m.cls := findClass_of_methodNamed B.named
  have hlocks := B.notSynchronized
  have hS : va_S A s.heap s.heap [] := va_S.rf
  have hinX2 : ∀ w ∈ wsX20, w ∈ wsX7_ground := fun _ h => List.mem_cons_of_mem _ (List.mem_append_right _ (h))
  have hinX3 : ∀ w ∈ wsX30, w ∈ wsX7_ground := fun _ h => List.mem_cons_of_mem _ (List.mem_append_left _ (List.mem_append_right _ (h)))
  have hinX7 : ∀ w ∈ wsX70, w ∈ wsX7_ground := fun _ h => List.mem_cons_of_mem _ (List.mem_append_left _ (List.mem_append_left _ (List.mem_append_right _ (h))))
  have hl := lv_entry ([.ref (ad 0), .int a1, .int a2]) (n := 3) (Nat.le_of_ble_eq_true rfl)
  rw [lg_entry_eq]
  generalize (lg_sl ([.ref (ad 0), .int a1, .int a2]) ++ List.replicate (3 - (lg_sl ([.ref (ad 0), .int a1, .int a2])).length) Slot.unset).toArray = ls at hl ⊢
  have hl : lv_has ls 3 [(0, .ref (ad 0)), (1, .int a1), (2, .int a2)] := hl
  have hP : va_P D vwCl (wC cI ad σ) s.heap := hP
  refine lv_aload_n hx hb dX7_ground_0 rfl (lv_at hl 0 rfl) ?_
  refine va_get (D := D) (ci := 5) (C := RX7) (T := TX7) (N := 12) hx hb hts hinX7 hown hK hP 0 rfl rfl 3 (by decide) (hts _ (List.mem_of_getElem? (i := 1) rfl)) (fun _ h9 => h9) rfl dX7_ground_1 ?_
  refine lv_iload_n hx hb dX7_ground_4 rfl (lv_at hl 1 rfl) ?_
  refine G_calli (As := [.int a1]) (rest := []) ⟨hx, hb, hml, hown, hts⟩ hK hP hD hS 7 2 rfl rfl (c_X3_has_7 l D cI ad A σ a1 _ hw) (cwV 1 hts gX7_ground_X3_has rfl rfl rfl (by decide +kernel) ⟨Nat.le_of_ble_eq_true rfl, Nat.le_of_ble_eq_true rfl⟩) rfl hl.1 rfl (Nat.le_of_ble_eq_true rfl) dX7_ground_5 ⟨Nat.zero_le _, Nat.zero_le _⟩ (fun x2 σ1 hw H locs hP hD hS => ?_)
  refine lv_if_ne (tgt := 14) hx hb dX7_ground_8 (by decide) (fun c9 => ?_) (fun c9 => ?_)
  · have hw := hw.1 c9
    refine lv_iload_n hx hb dX7_ground_14 rfl (lv_at hl 2 rfl) ?_
    by_cases q0 : a2 = (0 : Int32)
    · have hw := hw.1 q0
      refine lv_tableIn (off := 29) (tgt := 44) hx hb dX7_ground_15 (by rw [q0]; decide) (by rw [q0]; decide) (by rw [q0]; rfl) (by decide) ?_
      refine lv_aload_n hx hb dX7_ground_44 rfl (lv_at hl 0 rfl) ?_
      refine va_get (D := D) (ci := 5) (C := RX7) (T := TX7) (N := 12) hx hb hts hinX7 hown hK hP 0 rfl rfl 3 (by decide) (hts _ (List.mem_of_getElem? (i := 1) rfl)) (fun _ h9 => h9) rfl dX7_ground_45 ?_
      refine va_get (D := D) (ci := 2) (C := RX3) (T := TX3) (N := 5) hx hb hts hinX3 hown hK hP 7 rfl rfl 0 (by decide) (hts _ (List.mem_of_getElem? (i := 3) rfl)) (fun _ h9 => h9) rfl dX7_ground_48 ?_
      refine lv_iload_n hx hb dX7_ground_51 rfl (lv_at hl 1 rfl) ?_
      refine va_iald (D := D) hx hb hK hP 8 0 rfl rfl hw.1 dX7_ground_52 ?_
      have hw := hw.2
      exact G_iret hx hb hr hlocks hw hP hK hD hS dX7_ground_53
    · have hw := hw.2 q0
      by_cases q1 : a2 = (1 : Int32)
      · have hw := hw.1 q1
        refine lv_tableIn (off := 39) (tgt := 54) hx hb dX7_ground_15 (by rw [q1]; decide) (by rw [q1]; decide) (by rw [q1]; rfl) (by decide) ?_
        refine lv_aload_n hx hb dX7_ground_54 rfl (lv_at hl 0 rfl) ?_
        refine va_get (D := D) (ci := 5) (C := RX7) (T := TX7) (N := 12) hx hb hts hinX7 hown hK hP 0 rfl rfl 3 (by decide) (hts _ (List.mem_of_getElem? (i := 1) rfl)) (fun _ h9 => h9) rfl dX7_ground_55 ?_
        refine va_get (D := D) (ci := 2) (C := RX3) (T := TX3) (N := 5) hx hb hts hinX3 hown hK hP 7 rfl rfl 1 (by decide) (hts _ (List.mem_of_getElem? (i := 4) rfl)) (fun _ h9 => h9) rfl dX7_ground_58 ?_
        refine lv_iload_n hx hb dX7_ground_61 rfl (lv_at hl 1 rfl) ?_
        refine va_iald (D := D) hx hb hK hP 9 0 rfl rfl hw.1 dX7_ground_62 ?_
        have hw := hw.2
        exact G_iret hx hb hr hlocks hw hP hK hD hS dX7_ground_63
      · have hw := hw.2 q1
        by_cases q2 : a2 = (2 : Int32)
        · have hw := hw.1 q2
          refine lv_tableIn (off := 49) (tgt := 64) hx hb dX7_ground_15 (by rw [q2]; decide) (by rw [q2]; decide) (by rw [q2]; rfl) (by decide) ?_
          refine lv_aload_n hx hb dX7_ground_64 rfl (lv_at hl 0 rfl) ?_
          refine va_get (D := D) (ci := 5) (C := RX7) (T := TX7) (N := 12) hx hb hts hinX7 hown hK hP 0 rfl rfl 3 (by decide) (hts _ (List.mem_of_getElem? (i := 1) rfl)) (fun _ h9 => h9) rfl dX7_ground_65 ?_
          refine lv_iload_n hx hb dX7_ground_68 rfl (lv_at hl 1 rfl) ?_
          refine G_calli (As := [.int a1]) (rest := []) ⟨hx, hb, hml, hown, hts⟩ hK hP hD hS 7 2 rfl rfl (c_X3_isLet_7 l D cI ad A σ1 a1 _ hw) (cwV 1 hts gX7_ground_X3_isLet rfl rfl rfl (by decide +kernel) ⟨Nat.le_of_ble_eq_true rfl, Nat.le_of_ble_eq_true rfl⟩) rfl hl.1 rfl (Nat.le_of_ble_eq_true rfl) dX7_ground_69 ⟨Nat.zero_le _, Nat.zero_le _⟩ (fun x4 σ3 hw H locs hP hD hS => ?_)
          refine lv_if_eq (tgt := 79) hx hb dX7_ground_72 (by decide) (fun c9 => ?_) (fun c9 => ?_)
          · have hw := hw.1 c9
            refine lv_iconst (v := 0) hx hb dX7_ground_79 (by decide) ?_
            exact G_iret hx hb hr hlocks hw hP hK hD hS dX7_ground_80
          · have hw := hw.2 c9
            refine lv_iconst (v := 1) hx hb dX7_ground_75 (by decide) ?_
            refine lv_goto (tgt := 80) hx hb dX7_ground_76 (by decide) ?_
            exact G_iret hx hb hr hlocks hw hP hK hD hS dX7_ground_80
        · have hw := hw.2 q2
          by_cases q3 : a2 = (3 : Int32)
          · have hw := hw.1 q3
            refine lv_tableIn (off := 66) (tgt := 81) hx hb dX7_ground_15 (by rw [q3]; decide) (by rw [q3]; decide) (by rw [q3]; rfl) (by decide) ?_
            refine lv_aload_n hx hb dX7_ground_81 rfl (lv_at hl 0 rfl) ?_
            refine va_get (D := D) (ci := 5) (C := RX7) (T := TX7) (N := 12) hx hb hts hinX7 hown hK hP 0 rfl rfl 4 (by decide) (hts _ (List.mem_of_getElem? (i := 5) rfl)) (fun _ h9 => h9) rfl dX7_ground_82 ?_
            refine lv_iload_n hx hb dX7_ground_85 rfl (lv_at hl 1 rfl) ?_
            refine G_calli (As := [.int a1]) (rest := []) ⟨hx, hb, hml, hown, hts⟩ hK hP hD hS 11 1 rfl rfl (c_X2_countNaming_11 l D cI ad A σ1 a1 _ hw) (cwV 1 hts gX7_ground_X2_countNaming rfl rfl rfl (by decide +kernel) ⟨Nat.le_of_ble_eq_true rfl, Nat.le_of_ble_eq_true rfl⟩) rfl hl.1 rfl (Nat.le_of_ble_eq_true rfl) dX7_ground_86 ⟨Nat.zero_le _, Nat.zero_le _⟩ (fun x6 σ5 hw H locs hP hD hS => ?_)
            exact G_iret hx hb hr hlocks hw hP hK hD hS dX7_ground_89
          · have hw := hw.2 q3
            have r0 := lv_neT q0 (a := 0) (by decide)
            have r1 := lv_neT q1 (a := 1) (by decide)
            have r2 := lv_neT q2 (a := 2) (by decide)
            have r3 := lv_neT q3 (a := 3) (by decide)
            refine lv_tableOut (tgt := 90) hx hb dX7_ground_15 (by omega) (by decide) ?_
            refine lv_ldc (v := -1000000002) hx hb hown (hts _ (List.mem_of_getElem? (i := 6) rfl)) dX7_ground_90 ?_
            exact G_iret hx hb hr hlocks hw hP hK hD hS dX7_ground_92
  · have hw := hw.2 c9
    refine lv_ldc (v := -1000000001) hx hb hown (hts _ (List.mem_of_getElem? (i := 2) rfl)) dX7_ground_11 ?_
    exact G_iret hx hb hr hlocks hw hP hK hD hS dX7_ground_13

def wp_X7_cry (σ : St) (a1 : Int32) (a2 : Int32) (K : Int32 → St → Prop) : Prop :=
  ((a1 < 0 → K (-1000000001 : Int32) σ) ∧ (¬ a1 < 0 → ((a1 < (σ.1 6) → ((a2 = (0 : Int32) → vp_in a1 20 ∧ K (σ.2.1 6 a1.toNatClampNeg) σ) ∧ (¬ a2 = (0 : Int32) → ((a2 = (1 : Int32) → vp_in a1 20 ∧ K (σ.2.1 7 a1.toNatClampNeg) σ) ∧ (¬ a2 = (1 : Int32) → ((a2 = (2 : Int32) → vp_in a1 20 ∧ K (σ.2.1 8 a1.toNatClampNeg) σ) ∧ (¬ a2 = (2 : Int32) → K (-1000000002 : Int32) σ))))))) ∧ (¬ a1 < (σ.1 6) → K (-1000000001 : Int32) σ))))
set_option maxHeartbeats 4000000 in
set_option maxRecDepth 100000 in
theorem c_X7_cry (l : Launch) (D : va_G) (cI : ClassId) (ad : Nat → Nat) (A : Nat → Prop) (σ : St) (a1 : Int32) (a2 : Int32) (K : Int32 → St → Prop) (hw : wp_X7_cry σ a1 a2 K) : Met l yX7_cry wsX7_cry ({ frames := 0, cells := 0, slots := 0, locals := 0 }) (va_Pc [.ref (ad 0), .int a1, .int a2] (GW D [(cI, FieldType.int)] (wC cI ad) A σ)) (va_Qi K (GW D [(cI, FieldType.int)] (wC cI ad) A) A) 0 0 A := by
  refine Met.ofW (cc := cX7_cry) (maxL := 3) (ret := (some .int)) (by decide) rfl ?_
  intro p e s m args below meth c s₁ B hml hv
  obtain ⟨rfl, hP, hK, hD⟩ := hv
  have hx := B.exec
  have hb := B.bytes
  have hr := B.returns
  have hts := atoms_spec (ws := wsX7_cry) B.pre
  have hown : s.vm.findClass RX7 = some m.cls := findClass_of_methodNamed B.named
  have hlocks := B.notSynchronized
  have hS : va_S A s.heap s.heap [] := va_S.rf
  have hinX2 : ∀ w ∈ wsX20, w ∈ wsX7_cry := fun _ h => List.mem_cons_of_mem _ (List.mem_append_right _ (h))
  have hinX7 : ∀ w ∈ wsX70, w ∈ wsX7_cry := fun _ h => List.mem_cons_of_mem _ (List.mem_append_left _ (List.mem_append_right _ (h)))
  have hl := lv_entry ([.ref (ad 0), .int a1, .int a2]) (n := 3) (Nat.le_of_ble_eq_true rfl)
  rw [lg_entry_eq]
  generalize (lg_sl ([.ref (ad 0), .int a1, .int a2]) ++ List.replicate (3 - (lg_sl ([.ref (ad 0), .int a1, .int a2])).length) Slot.unset).toArray = ls at hl ⊢
  have hl : lv_has ls 3 [(0, .ref (ad 0)), (1, .int a1), (2, .int a2)] := hl
  have hP : va_P D vwCl (wC cI ad σ) s.heap := hP
  refine lv_iload_n hx hb dX7_cry_0 rfl (lv_at hl 1 rfl) ?_
  refine lv_if_lt (tgt := 15) hx hb dX7_cry_1 (by decide) (fun c9 => ?_) (fun c9 => ?_)
  · have hw := hw.1 c9
    refine lv_ldc (v := -1000000001) hx hb hown (hts _ (List.mem_of_getElem? (i := 3) rfl)) dX7_cry_15 ?_
    exact G_iret hx hb hr hlocks hw hP hK hD hS dX7_cry_17
  · have hw := hw.2 c9
    refine lv_iload_n hx hb dX7_cry_4 rfl (lv_at hl 1 rfl) ?_
    refine lv_aload_n hx hb dX7_cry_5 rfl (lv_at hl 0 rfl) ?_
    refine va_get (D := D) (ci := 5) (C := RX7) (T := TX7) (N := 12) hx hb hts hinX7 hown hK hP 0 rfl rfl 4 (by decide) (hts _ (List.mem_of_getElem? (i := 1) rfl)) (fun _ h9 => h9) rfl dX7_cry_6 ?_
    refine va_get (D := D) (ci := 1) (C := RX2) (T := TX2) (N := 5) hx hb hts hinX2 hown hK hP 11 rfl rfl 4 (by decide) (hts _ (List.mem_of_getElem? (i := 2) rfl)) (fun _ h9 => h9) rfl dX7_cry_9 ?_
    refine lv_icmp_lt (tgt := 18) hx hb dX7_cry_12 (by decide) (fun c9 => ?_) (fun c9 => ?_)
    · have hw := hw.1 c9
      refine lv_iload_n hx hb dX7_cry_18 rfl (lv_at hl 2 rfl) ?_
      by_cases q0 : a2 = (0 : Int32)
      · have hw := hw.1 q0
        refine lv_tableIn (off := 25) (tgt := 44) hx hb dX7_cry_19 (by rw [q0]; decide) (by rw [q0]; decide) (by rw [q0]; rfl) (by decide) ?_
        refine lv_aload_n hx hb dX7_cry_44 rfl (lv_at hl 0 rfl) ?_
        refine va_get (D := D) (ci := 5) (C := RX7) (T := TX7) (N := 12) hx hb hts hinX7 hown hK hP 0 rfl rfl 4 (by decide) (hts _ (List.mem_of_getElem? (i := 1) rfl)) (fun _ h9 => h9) rfl dX7_cry_45 ?_
        refine va_get (D := D) (ci := 1) (C := RX2) (T := TX2) (N := 5) hx hb hts hinX2 hown hK hP 11 rfl rfl 0 (by decide) (hts _ (List.mem_of_getElem? (i := 4) rfl)) (fun _ h9 => h9) rfl dX7_cry_48 ?_
        refine lv_iload_n hx hb dX7_cry_51 rfl (lv_at hl 1 rfl) ?_
        refine va_iald (D := D) hx hb hK hP 12 0 rfl rfl hw.1 dX7_cry_52 ?_
        have hw := hw.2
        exact G_iret hx hb hr hlocks hw hP hK hD hS dX7_cry_53
      · have hw := hw.2 q0
        by_cases q1 : a2 = (1 : Int32)
        · have hw := hw.1 q1
          refine lv_tableIn (off := 35) (tgt := 54) hx hb dX7_cry_19 (by rw [q1]; decide) (by rw [q1]; decide) (by rw [q1]; rfl) (by decide) ?_
          refine lv_aload_n hx hb dX7_cry_54 rfl (lv_at hl 0 rfl) ?_
          refine va_get (D := D) (ci := 5) (C := RX7) (T := TX7) (N := 12) hx hb hts hinX7 hown hK hP 0 rfl rfl 4 (by decide) (hts _ (List.mem_of_getElem? (i := 1) rfl)) (fun _ h9 => h9) rfl dX7_cry_55 ?_
          refine va_get (D := D) (ci := 1) (C := RX2) (T := TX2) (N := 5) hx hb hts hinX2 hown hK hP 11 rfl rfl 1 (by decide) (hts _ (List.mem_of_getElem? (i := 5) rfl)) (fun _ h9 => h9) rfl dX7_cry_58 ?_
          refine lv_iload_n hx hb dX7_cry_61 rfl (lv_at hl 1 rfl) ?_
          refine va_iald (D := D) hx hb hK hP 13 0 rfl rfl hw.1 dX7_cry_62 ?_
          have hw := hw.2
          exact G_iret hx hb hr hlocks hw hP hK hD hS dX7_cry_63
        · have hw := hw.2 q1
          by_cases q2 : a2 = (2 : Int32)
          · have hw := hw.1 q2
            refine lv_tableIn (off := 45) (tgt := 64) hx hb dX7_cry_19 (by rw [q2]; decide) (by rw [q2]; decide) (by rw [q2]; rfl) (by decide) ?_
            refine lv_aload_n hx hb dX7_cry_64 rfl (lv_at hl 0 rfl) ?_
            refine va_get (D := D) (ci := 5) (C := RX7) (T := TX7) (N := 12) hx hb hts hinX7 hown hK hP 0 rfl rfl 4 (by decide) (hts _ (List.mem_of_getElem? (i := 1) rfl)) (fun _ h9 => h9) rfl dX7_cry_65 ?_
            refine va_get (D := D) (ci := 1) (C := RX2) (T := TX2) (N := 5) hx hb hts hinX2 hown hK hP 11 rfl rfl 2 (by decide) (hts _ (List.mem_of_getElem? (i := 6) rfl)) (fun _ h9 => h9) rfl dX7_cry_68 ?_
            refine lv_iload_n hx hb dX7_cry_71 rfl (lv_at hl 1 rfl) ?_
            refine va_iald (D := D) hx hb hK hP 14 0 rfl rfl hw.1 dX7_cry_72 ?_
            have hw := hw.2
            exact G_iret hx hb hr hlocks hw hP hK hD hS dX7_cry_73
          · have hw := hw.2 q2
            have r0 := lv_neT q0 (a := 0) (by decide)
            have r1 := lv_neT q1 (a := 1) (by decide)
            have r2 := lv_neT q2 (a := 2) (by decide)
            refine lv_tableOut (tgt := 74) hx hb dX7_cry_19 (by omega) (by decide) ?_
            refine lv_ldc (v := -1000000002) hx hb hown (hts _ (List.mem_of_getElem? (i := 7) rfl)) dX7_cry_74 ?_
            exact G_iret hx hb hr hlocks hw hP hK hD hS dX7_cry_76
    · have hw := hw.2 c9
      refine lv_ldc (v := -1000000001) hx hb hown (hts _ (List.mem_of_getElem? (i := 3) rfl)) dX7_cry_15 ?_
      exact G_iret hx hb hr hlocks hw hP hK hD hS dX7_cry_17

def wp_X5_placeOf_15 (σ : St) (a1 : Int32) (K : Int32 → St → Prop) : Prop :=
  K ((((σ.1 8) - (1 : Int32)) - a1) &&& (15 : Int32)) σ
set_option maxHeartbeats 4000000 in
set_option maxRecDepth 100000 in
theorem c_X5_placeOf_15 (l : Launch) (D : va_G) (cI : ClassId) (ad : Nat → Nat) (A : Nat → Prop) (σ : St) (a1 : Int32) (K : Int32 → St → Prop) (hw : wp_X5_placeOf_15 σ a1 K) : Met l yX5_placeOf wsX5_placeOf ({ frames := 0, cells := 0, slots := 0, locals := 0 }) (va_Pc [.ref (ad 15), .int a1] (GW D [(cI, FieldType.int)] (wC cI ad) A σ)) (va_Qi K (GW D [(cI, FieldType.int)] (wC cI ad) A) A) 0 0 A := by
  refine Met.ofW (cc := cX5_placeOf) (maxL := 2) (ret := (some .int)) (by decide) rfl ?_
  intro p e s m args below meth c s₁ B hml hv
  obtain ⟨rfl, hP, hK, hD⟩ := hv
  have hx := B.exec
  have hb := B.bytes
  have hr := B.returns
  have hts := atoms_spec (ws := wsX5_placeOf) B.pre
  have hown : s.vm.findClass RX5 = some m.cls := findClass_of_methodNamed B.named
  have hlocks := B.notSynchronized
  have hS : va_S A s.heap s.heap [] := va_S.rf
  have hinX5 : ∀ w ∈ wsX50, w ∈ wsX5_placeOf := fun _ h => List.mem_cons_of_mem _ (List.mem_append_right _ (h))
  have hl := lv_entry ([.ref (ad 15), .int a1]) (n := 2) (Nat.le_of_ble_eq_true rfl)
  rw [lg_entry_eq]
  generalize (lg_sl ([.ref (ad 15), .int a1]) ++ List.replicate (2 - (lg_sl ([.ref (ad 15), .int a1])).length) Slot.unset).toArray = ls at hl ⊢
  have hl : lv_has ls 2 [(0, .ref (ad 15)), (1, .int a1)] := hl
  have hP : va_P D vwCl (wC cI ad σ) s.heap := hP
  refine lv_aload_n hx hb dX5_placeOf_0 rfl (lv_at hl 0 rfl) ?_
  refine va_get (D := D) (ci := 4) (C := RX5) (T := TX5) (N := 5) hx hb hts hinX5 hown hK hP 15 rfl rfl 4 (by decide) (hts _ (List.mem_of_getElem? (i := 1) rfl)) (fun _ h9 => h9) rfl dX5_placeOf_1 ?_
  refine lv_iconst (v := 1) hx hb dX5_placeOf_4 (by decide) ?_
  refine lv_isub hx hb dX5_placeOf_5 ?_
  refine lv_iload_n hx hb dX5_placeOf_6 rfl (lv_at hl 1 rfl) ?_
  refine lv_isub hx hb dX5_placeOf_7 ?_
  refine lv_bipush (v := 15) hx hb dX5_placeOf_8 (by decide) ?_
  refine lv_iand hx hb dX5_placeOf_10 ?_
  exact G_iret hx hb hr hlocks hw hP hK hD hS dX5_placeOf_11

def wp_X7_ring (σ : St) (a1 : Int32) (a2 : Int32) (K : Int32 → St → Prop) : Prop :=
  ((a2 < 0 → K (-1000000002 : Int32) σ) ∧ (¬ a2 < 0 → ((a2 ≤ (2 : Int32) → ((a1 < 0 → K (-1 : Int32) σ) ∧ (¬ a1 < 0 → ((a1 < (σ.1 7) → wp_X5_placeOf_15 σ a1 (fun x2 σ1 => ((a2 = (0 : Int32) → vp_in x2 16 ∧ K (σ1.2.1 9 x2.toNatClampNeg) σ1) ∧ (¬ a2 = (0 : Int32) → ((a2 = (1 : Int32) → vp_in x2 16 ∧ K (σ1.2.1 10 x2.toNatClampNeg) σ1) ∧ (¬ a2 = (1 : Int32) → vp_in x2 16 ∧ K (σ1.2.1 11 x2.toNatClampNeg) σ1)))))) ∧ (¬ a1 < (σ.1 7) → K (-1 : Int32) σ))))) ∧ (¬ a2 ≤ (2 : Int32) → K (-1000000002 : Int32) σ))))
set_option maxHeartbeats 4000000 in
set_option maxRecDepth 100000 in
theorem c_X7_ring (l : Launch) (D : va_G) (cI : ClassId) (ad : Nat → Nat) (A : Nat → Prop) (σ : St) (a1 : Int32) (a2 : Int32) (K : Int32 → St → Prop) (hw : wp_X7_ring σ a1 a2 K) : Met l yX7_ring wsX7_ring ({ frames := 1, cells := 0, slots := 0, locals := 21 }) (va_Pc [.ref (ad 0), .int a1, .int a2] (GW D [(cI, FieldType.int)] (wC cI ad) A σ)) (va_Qi K (GW D [(cI, FieldType.int)] (wC cI ad) A) A) 0 0 A := by
  refine Met.ofW (cc := cX7_ring) (maxL := 4) (ret := (some .int)) (by decide) rfl ?_
  intro p e s m args below meth c s₁ B hml hv
  obtain ⟨rfl, hP, hK, hD⟩ := hv
  have hx := B.exec
  have hb := B.bytes
  have hr := B.returns
  have hts := atoms_spec (ws := wsX7_ring) B.pre
  have hown : s.vm.findClass RX7 = some m.cls := findClass_of_methodNamed B.named
  have hlocks := B.notSynchronized
  have hS : va_S A s.heap s.heap [] := va_S.rf
  have hinX5 : ∀ w ∈ wsX50, w ∈ wsX7_ring := fun _ h => List.mem_cons_of_mem _ (List.mem_append_right _ (h))
  have hinX7 : ∀ w ∈ wsX70, w ∈ wsX7_ring := fun _ h => List.mem_cons_of_mem _ (List.mem_append_left _ (List.mem_append_right _ (h)))
  have hl := lv_entry ([.ref (ad 0), .int a1, .int a2]) (n := 4) (Nat.le_of_ble_eq_true rfl)
  rw [lg_entry_eq]
  generalize (lg_sl ([.ref (ad 0), .int a1, .int a2]) ++ List.replicate (4 - (lg_sl ([.ref (ad 0), .int a1, .int a2])).length) Slot.unset).toArray = ls at hl ⊢
  have hl : lv_has ls 4 [(0, .ref (ad 0)), (1, .int a1), (2, .int a2)] := hl
  have hP : va_P D vwCl (wC cI ad σ) s.heap := hP
  refine lv_iload_n hx hb dX7_ring_0 rfl (lv_at hl 2 rfl) ?_
  refine lv_if_lt (tgt := 9) hx hb dX7_ring_1 (by decide) (fun c9 => ?_) (fun c9 => ?_)
  · have hw := hw.1 c9
    refine lv_ldc (v := -1000000002) hx hb hown (hts _ (List.mem_of_getElem? (i := 1) rfl)) dX7_ring_9 ?_
    exact G_iret hx hb hr hlocks hw hP hK hD hS dX7_ring_11
  · have hw := hw.2 c9
    refine lv_iload_n hx hb dX7_ring_4 rfl (lv_at hl 2 rfl) ?_
    refine lv_iconst (v := 2) hx hb dX7_ring_5 (by decide) ?_
    refine lv_icmp_le (tgt := 12) hx hb dX7_ring_6 (by decide) (fun c9 => ?_) (fun c9 => ?_)
    · have hw := hw.1 c9
      refine lv_iload_n hx hb dX7_ring_12 rfl (lv_at hl 1 rfl) ?_
      refine lv_if_lt (tgt := 27) hx hb dX7_ring_13 (by decide) (fun c9 => ?_) (fun c9 => ?_)
      · have hw := hw.1 c9
        refine lv_iconst (v := -1) hx hb dX7_ring_27 (by decide) ?_
        exact G_iret hx hb hr hlocks hw hP hK hD hS dX7_ring_28
      · have hw := hw.2 c9
        refine lv_iload_n hx hb dX7_ring_16 rfl (lv_at hl 1 rfl) ?_
        refine lv_aload_n hx hb dX7_ring_17 rfl (lv_at hl 0 rfl) ?_
        refine va_get (D := D) (ci := 5) (C := RX7) (T := TX7) (N := 12) hx hb hts hinX7 hown hK hP 0 rfl rfl 5 (by decide) (hts _ (List.mem_of_getElem? (i := 2) rfl)) (fun _ h9 => h9) rfl dX7_ring_18 ?_
        refine va_get (D := D) (ci := 4) (C := RX5) (T := TX5) (N := 5) hx hb hts hinX5 hown hK hP 15 rfl rfl 3 (by decide) (hts _ (List.mem_of_getElem? (i := 3) rfl)) (fun _ h9 => h9) rfl dX7_ring_21 ?_
        refine lv_icmp_lt (tgt := 29) hx hb dX7_ring_24 (by decide) (fun c9 => ?_) (fun c9 => ?_)
        · have hw := hw.1 c9
          refine lv_aload_n hx hb dX7_ring_29 rfl (lv_at hl 0 rfl) ?_
          refine va_get (D := D) (ci := 5) (C := RX7) (T := TX7) (N := 12) hx hb hts hinX7 hown hK hP 0 rfl rfl 5 (by decide) (hts _ (List.mem_of_getElem? (i := 2) rfl)) (fun _ h9 => h9) rfl dX7_ring_30 ?_
          refine lv_iload_n hx hb dX7_ring_33 rfl (lv_at hl 1 rfl) ?_
          refine G_calli (As := [.int a1]) (rest := []) ⟨hx, hb, hml, hown, hts⟩ hK hP hD hS 15 4 rfl rfl (c_X5_placeOf_15 l D cI ad A σ a1 _ hw) (cwV 1 hts gX7_ring_X5_placeOf rfl rfl rfl (by decide +kernel) ⟨Nat.le_of_ble_eq_true rfl, Nat.le_of_ble_eq_true rfl⟩) rfl hl.1 rfl (Nat.le_of_ble_eq_true rfl) dX7_ring_34 ⟨Nat.zero_le _, Nat.zero_le _⟩ (fun x2 σ1 hw H locs hP hD hS => ?_)
          refine lv_istore_n (lv' := [(3, .int x2), (0, .ref (ad 0)), (1, .int a1), (2, .int a2)]) hx hb dX7_ring_37 rfl hl (by decide) rfl (fun ls hl => ?_)
          refine lv_iload_n hx hb dX7_ring_38 rfl (lv_at hl 3 rfl) ?_
          by_cases q0 : a2 = (0 : Int32)
          · have hw := hw.1 q0
            refine lv_lookup (off := 25) (tgt := 64) hx hb dX7_ring_39 (by decide) (by rw [q0]; rfl) (by decide) ?_
            refine lv_aload_n hx hb dX7_ring_64 rfl (lv_at hl 1 rfl) ?_
            refine va_get (D := D) (ci := 5) (C := RX7) (T := TX7) (N := 12) hx hb hts hinX7 hown hK hP 0 rfl rfl 5 (by decide) (hts _ (List.mem_of_getElem? (i := 2) rfl)) (fun _ h9 => h9) rfl dX7_ring_65 ?_
            refine va_get (D := D) (ci := 4) (C := RX5) (T := TX5) (N := 5) hx hb hts hinX5 hown hK hP 15 rfl rfl 0 (by decide) (hts _ (List.mem_of_getElem? (i := 4) rfl)) (fun _ h9 => h9) rfl dX7_ring_68 ?_
            refine lv_iload_n hx hb dX7_ring_71 rfl (lv_at hl 0 rfl) ?_
            refine va_iald (D := D) hx hb hK hP 16 0 rfl rfl hw.1 dX7_ring_72 ?_
            have hw := hw.2
            exact G_iret hx hb hr hlocks hw hP hK hD hS dX7_ring_73
          · have hw := hw.2 q0
            by_cases q1 : a2 = (1 : Int32)
            · have hw := hw.1 q1
              refine lv_lookup (off := 35) (tgt := 74) hx hb dX7_ring_39 (by decide) (by rw [q1]; rfl) (by decide) ?_
              refine lv_aload_n hx hb dX7_ring_74 rfl (lv_at hl 1 rfl) ?_
              refine va_get (D := D) (ci := 5) (C := RX7) (T := TX7) (N := 12) hx hb hts hinX7 hown hK hP 0 rfl rfl 5 (by decide) (hts _ (List.mem_of_getElem? (i := 2) rfl)) (fun _ h9 => h9) rfl dX7_ring_75 ?_
              refine va_get (D := D) (ci := 4) (C := RX5) (T := TX5) (N := 5) hx hb hts hinX5 hown hK hP 15 rfl rfl 1 (by decide) (hts _ (List.mem_of_getElem? (i := 5) rfl)) (fun _ h9 => h9) rfl dX7_ring_78 ?_
              refine lv_iload_n hx hb dX7_ring_81 rfl (lv_at hl 0 rfl) ?_
              refine va_iald (D := D) hx hb hK hP 17 0 rfl rfl hw.1 dX7_ring_82 ?_
              have hw := hw.2
              exact G_iret hx hb hr hlocks hw hP hK hD hS dX7_ring_83
            · have hw := hw.2 q1
              refine lv_lookup (off := 45) (tgt := 84) hx hb dX7_ring_39 (by decide) (by rw [lv_osw q0 (by decide)]; rw [lv_osw q1 (by decide)]; rfl) (by decide) ?_
              refine lv_aload_n hx hb dX7_ring_84 rfl (lv_at hl 1 rfl) ?_
              refine va_get (D := D) (ci := 5) (C := RX7) (T := TX7) (N := 12) hx hb hts hinX7 hown hK hP 0 rfl rfl 5 (by decide) (hts _ (List.mem_of_getElem? (i := 2) rfl)) (fun _ h9 => h9) rfl dX7_ring_85 ?_
              refine va_get (D := D) (ci := 4) (C := RX5) (T := TX5) (N := 5) hx hb hts hinX5 hown hK hP 15 rfl rfl 2 (by decide) (hts _ (List.mem_of_getElem? (i := 6) rfl)) (fun _ h9 => h9) rfl dX7_ring_88 ?_
              refine lv_iload_n hx hb dX7_ring_91 rfl (lv_at hl 0 rfl) ?_
              refine va_iald (D := D) hx hb hK hP 18 0 rfl rfl hw.1 dX7_ring_92 ?_
              have hw := hw.2
              exact G_iret hx hb hr hlocks hw hP hK hD hS dX7_ring_93
        · have hw := hw.2 c9
          refine lv_iconst (v := -1) hx hb dX7_ring_27 (by decide) ?_
          exact G_iret hx hb hr hlocks hw hP hK hD hS dX7_ring_28
    · have hw := hw.2 c9
      refine lv_ldc (v := -1000000002) hx hb hown (hts _ (List.mem_of_getElem? (i := 1) rfl)) dX7_ring_9 ?_
      exact G_iret hx hb hr hlocks hw hP hK hD hS dX7_ring_11

def wp_X7_shadow (σ : St) (a1 : Int32) (a2 : Int32) (a3 : Int32) (a4 : Int32) (a5 : Int32) (K : Int32 → St → Prop) : Prop :=
  wp_X7_isSort a1 (fun x1 => ((x1 = 0 → K (-1000000002 : Int32) σ) ∧ (¬ x1 = 0 → wp_X7_isByte a2 (fun x2 => ((x2 = 0 → K (-1000000002 : Int32) σ) ∧ (¬ x2 = 0 → wp_X7_isByte a3 (fun x3 => ((x3 = 0 → K (-1000000002 : Int32) σ) ∧ (¬ x3 = 0 → wp_X7_isByte a4 (fun x4 => ((x4 = 0 → K (-1000000002 : Int32) σ) ∧ (¬ x4 = 0 → wp_X7_isByte a5 (fun x5 => ((¬ x5 = 0 → wp_X6_shadowBy a1 a2 a3 a4 a5 (fun x6 => K x6 σ)) ∧ (x5 = 0 → K (-1000000002 : Int32) σ)))))))))))))))
set_option maxHeartbeats 4000000 in
set_option maxRecDepth 100000 in
theorem c_X7_shadow (l : Launch) (D : va_G) (cI : ClassId) (ad : Nat → Nat) (A : Nat → Prop) (σ : St) (a1 : Int32) (a2 : Int32) (a3 : Int32) (a4 : Int32) (a5 : Int32) (K : Int32 → St → Prop) (hw : wp_X7_shadow σ a1 a2 a3 a4 a5 K) : Met l yX7_shadow wsX7_shadow ({ frames := 2, cells := 0, slots := 0, locals := 50 }) (va_Pc [.ref (ad 0), .int a1, .int a2, .int a3, .int a4, .int a5] (GW D [(cI, FieldType.int)] (wC cI ad) A σ)) (va_Qi K (GW D [(cI, FieldType.int)] (wC cI ad) A) A) 0 0 A := by
  refine Met.ofW (cc := cX7_shadow) (maxL := 6) (ret := (some .int)) (by decide) rfl ?_
  intro p e s m args below meth c s₁ B hml hv
  obtain ⟨rfl, hP, hK, hD⟩ := hv
  have hx := B.exec
  have hb := B.bytes
  have hr := B.returns
  have hts := atoms_spec (ws := wsX7_shadow) B.pre
  have hown : s.vm.findClass RX7 = some m.cls := findClass_of_methodNamed B.named
  have hlocks := B.notSynchronized
  have hS : va_S A s.heap s.heap [] := va_S.rf
  have hl := lv_entry ([.ref (ad 0), .int a1, .int a2, .int a3, .int a4, .int a5]) (n := 6) (Nat.le_of_ble_eq_true rfl)
  rw [lg_entry_eq]
  generalize (lg_sl ([.ref (ad 0), .int a1, .int a2, .int a3, .int a4, .int a5]) ++ List.replicate (6 - (lg_sl ([.ref (ad 0), .int a1, .int a2, .int a3, .int a4, .int a5])).length) Slot.unset).toArray = ls at hl ⊢
  have hl : lv_has ls 6 [(0, .ref (ad 0)), (1, .int a1), (2, .int a2), (3, .int a3), (4, .int a4), (5, .int a5)] := hl
  have hP : va_P D vwCl (wC cI ad σ) s.heap := hP
  refine lv_iload_n hx hb dX7_shadow_0 rfl (lv_at hl 1 rfl) ?_
  refine S_calli (As := [.int a1]) (rest := []) ⟨hx, hb, hml, hown, hts⟩ (c_X7_isSort l a1 _ hw) (va_cwS 1 hts gX7_shadow_X7_isSort rfl rfl rfl (by decide +kernel) ⟨Nat.le_of_ble_eq_true rfl, Nat.le_of_ble_eq_true rfl⟩) rfl hl.1 rfl (Nat.le_of_ble_eq_true rfl) dX7_shadow_1 ⟨Nat.zero_le _, Nat.zero_le _⟩ (fun x1 hw => ?_)
  refine lv_if_eq (tgt := 37) hx hb dX7_shadow_4 (by decide) (fun c9 => ?_) (fun c9 => ?_)
  · have hw := hw.1 c9
    refine lv_ldc (v := -1000000002) hx hb hown (hts _ (List.mem_of_getElem? (i := 1) rfl)) dX7_shadow_37 ?_
    exact G_iret hx hb hr hlocks hw hP hK hD hS dX7_shadow_39
  · have hw := hw.2 c9
    refine lv_iload_n hx hb dX7_shadow_7 rfl (lv_at hl 2 rfl) ?_
    refine S_calli (As := [.int a2]) (rest := []) ⟨hx, hb, hml, hown, hts⟩ (c_X7_isByte l a2 _ hw) (va_cwS 1 hts gX7_shadow_X7_isByte rfl rfl rfl (by decide +kernel) ⟨Nat.le_of_ble_eq_true rfl, Nat.le_of_ble_eq_true rfl⟩) rfl hl.1 rfl (Nat.le_of_ble_eq_true rfl) dX7_shadow_8 ⟨Nat.zero_le _, Nat.zero_le _⟩ (fun x2 hw => ?_)
    refine lv_if_eq (tgt := 37) hx hb dX7_shadow_11 (by decide) (fun c9 => ?_) (fun c9 => ?_)
    · have hw := hw.1 c9
      refine lv_ldc (v := -1000000002) hx hb hown (hts _ (List.mem_of_getElem? (i := 1) rfl)) dX7_shadow_37 ?_
      exact G_iret hx hb hr hlocks hw hP hK hD hS dX7_shadow_39
    · have hw := hw.2 c9
      refine lv_iload_n hx hb dX7_shadow_14 rfl (lv_at hl 3 rfl) ?_
      refine S_calli (As := [.int a3]) (rest := []) ⟨hx, hb, hml, hown, hts⟩ (c_X7_isByte l a3 _ hw) (va_cwS 1 hts gX7_shadow_X7_isByte rfl rfl rfl (by decide +kernel) ⟨Nat.le_of_ble_eq_true rfl, Nat.le_of_ble_eq_true rfl⟩) rfl hl.1 rfl (Nat.le_of_ble_eq_true rfl) dX7_shadow_15 ⟨Nat.zero_le _, Nat.zero_le _⟩ (fun x3 hw => ?_)
      refine lv_if_eq (tgt := 37) hx hb dX7_shadow_18 (by decide) (fun c9 => ?_) (fun c9 => ?_)
      · have hw := hw.1 c9
        refine lv_ldc (v := -1000000002) hx hb hown (hts _ (List.mem_of_getElem? (i := 1) rfl)) dX7_shadow_37 ?_
        exact G_iret hx hb hr hlocks hw hP hK hD hS dX7_shadow_39
      · have hw := hw.2 c9
        refine lv_iload hx hb dX7_shadow_21 (lv_at hl 4 rfl) ?_
        refine S_calli (As := [.int a4]) (rest := []) ⟨hx, hb, hml, hown, hts⟩ (c_X7_isByte l a4 _ hw) (va_cwS 1 hts gX7_shadow_X7_isByte rfl rfl rfl (by decide +kernel) ⟨Nat.le_of_ble_eq_true rfl, Nat.le_of_ble_eq_true rfl⟩) rfl hl.1 rfl (Nat.le_of_ble_eq_true rfl) dX7_shadow_23 ⟨Nat.zero_le _, Nat.zero_le _⟩ (fun x4 hw => ?_)
        refine lv_if_eq (tgt := 37) hx hb dX7_shadow_26 (by decide) (fun c9 => ?_) (fun c9 => ?_)
        · have hw := hw.1 c9
          refine lv_ldc (v := -1000000002) hx hb hown (hts _ (List.mem_of_getElem? (i := 1) rfl)) dX7_shadow_37 ?_
          exact G_iret hx hb hr hlocks hw hP hK hD hS dX7_shadow_39
        · have hw := hw.2 c9
          refine lv_iload hx hb dX7_shadow_29 (lv_at hl 5 rfl) ?_
          refine S_calli (As := [.int a5]) (rest := []) ⟨hx, hb, hml, hown, hts⟩ (c_X7_isByte l a5 _ hw) (va_cwS 1 hts gX7_shadow_X7_isByte rfl rfl rfl (by decide +kernel) ⟨Nat.le_of_ble_eq_true rfl, Nat.le_of_ble_eq_true rfl⟩) rfl hl.1 rfl (Nat.le_of_ble_eq_true rfl) dX7_shadow_31 ⟨Nat.zero_le _, Nat.zero_le _⟩ (fun x5 hw => ?_)
          refine lv_if_ne (tgt := 40) hx hb dX7_shadow_34 (by decide) (fun c9 => ?_) (fun c9 => ?_)
          · have hw := hw.1 c9
            refine lv_iload_n hx hb dX7_shadow_40 rfl (lv_at hl 1 rfl) ?_
            refine lv_iload_n hx hb dX7_shadow_41 rfl (lv_at hl 2 rfl) ?_
            refine lv_iload_n hx hb dX7_shadow_42 rfl (lv_at hl 3 rfl) ?_
            refine lv_iload hx hb dX7_shadow_43 (lv_at hl 4 rfl) ?_
            refine lv_iload hx hb dX7_shadow_45 (lv_at hl 5 rfl) ?_
            refine S_calli (As := [.int a1, .int a2, .int a3, .int a4, .int a5]) (rest := []) ⟨hx, hb, hml, hown, hts⟩ (c_X6_shadowBy l a1 a2 a3 a4 a5 _ hw) (va_cwS 5 hts gX7_shadow_X6_shadowBy rfl rfl rfl (by decide +kernel) ⟨Nat.le_of_ble_eq_true rfl, Nat.le_of_ble_eq_true rfl⟩) rfl hl.1 rfl (Nat.le_of_ble_eq_true rfl) dX7_shadow_47 ⟨Nat.zero_le _, Nat.zero_le _⟩ (fun x6 hw => ?_)
            exact G_iret hx hb hr hlocks hw hP hK hD hS dX7_shadow_50
          · have hw := hw.2 c9
            refine lv_ldc (v := -1000000002) hx hb hown (hts _ (List.mem_of_getElem? (i := 1) rfl)) dX7_shadow_37 ?_
            exact G_iret hx hb hr hlocks hw hP hK hD hS dX7_shadow_39

def wp_X7_exact (σ : St) (a1 : Int32) (a2 : Int32) (a3 : Int32) (a4 : Int32) (a5 : Int32) (K : Int32 → St → Prop) : Prop :=
  wp_X7_isSort a1 (fun x1 => ((x1 = 0 → K (-1000000002 : Int32) σ) ∧ (¬ x1 = 0 → wp_X7_isByte a2 (fun x2 => ((x2 = 0 → K (-1000000002 : Int32) σ) ∧ (¬ x2 = 0 → wp_X7_isByte a3 (fun x3 => ((x3 = 0 → K (-1000000002 : Int32) σ) ∧ (¬ x3 = 0 → wp_X7_isByte a4 (fun x4 => ((x4 = 0 → K (-1000000002 : Int32) σ) ∧ (¬ x4 = 0 → wp_X7_isByte a5 (fun x5 => ((¬ x5 = 0 → wp_X6_exactBy a1 a2 a3 a4 a5 (fun x6 => K x6 σ)) ∧ (x5 = 0 → K (-1000000002 : Int32) σ)))))))))))))))
set_option maxHeartbeats 4000000 in
set_option maxRecDepth 100000 in
theorem c_X7_exact (l : Launch) (D : va_G) (cI : ClassId) (ad : Nat → Nat) (A : Nat → Prop) (σ : St) (a1 : Int32) (a2 : Int32) (a3 : Int32) (a4 : Int32) (a5 : Int32) (K : Int32 → St → Prop) (hw : wp_X7_exact σ a1 a2 a3 a4 a5 K) : Met l yX7_exact wsX7_exact ({ frames := 3, cells := 0, slots := 0, locals := 74 }) (va_Pc [.ref (ad 0), .int a1, .int a2, .int a3, .int a4, .int a5] (GW D [(cI, FieldType.int)] (wC cI ad) A σ)) (va_Qi K (GW D [(cI, FieldType.int)] (wC cI ad) A) A) 0 0 A := by
  refine Met.ofW (cc := cX7_exact) (maxL := 6) (ret := (some .int)) (by decide) rfl ?_
  intro p e s m args below meth c s₁ B hml hv
  obtain ⟨rfl, hP, hK, hD⟩ := hv
  have hx := B.exec
  have hb := B.bytes
  have hr := B.returns
  have hts := atoms_spec (ws := wsX7_exact) B.pre
  have hown : s.vm.findClass RX7 = some m.cls := findClass_of_methodNamed B.named
  have hlocks := B.notSynchronized
  have hS : va_S A s.heap s.heap [] := va_S.rf
  have hl := lv_entry ([.ref (ad 0), .int a1, .int a2, .int a3, .int a4, .int a5]) (n := 6) (Nat.le_of_ble_eq_true rfl)
  rw [lg_entry_eq]
  generalize (lg_sl ([.ref (ad 0), .int a1, .int a2, .int a3, .int a4, .int a5]) ++ List.replicate (6 - (lg_sl ([.ref (ad 0), .int a1, .int a2, .int a3, .int a4, .int a5])).length) Slot.unset).toArray = ls at hl ⊢
  have hl : lv_has ls 6 [(0, .ref (ad 0)), (1, .int a1), (2, .int a2), (3, .int a3), (4, .int a4), (5, .int a5)] := hl
  have hP : va_P D vwCl (wC cI ad σ) s.heap := hP
  refine lv_iload_n hx hb dX7_exact_0 rfl (lv_at hl 1 rfl) ?_
  refine S_calli (As := [.int a1]) (rest := []) ⟨hx, hb, hml, hown, hts⟩ (c_X7_isSort l a1 _ hw) (va_cwS 1 hts gX7_exact_X7_isSort rfl rfl rfl (by decide +kernel) ⟨Nat.le_of_ble_eq_true rfl, Nat.le_of_ble_eq_true rfl⟩) rfl hl.1 rfl (Nat.le_of_ble_eq_true rfl) dX7_exact_1 ⟨Nat.zero_le _, Nat.zero_le _⟩ (fun x1 hw => ?_)
  refine lv_if_eq (tgt := 37) hx hb dX7_exact_4 (by decide) (fun c9 => ?_) (fun c9 => ?_)
  · have hw := hw.1 c9
    refine lv_ldc (v := -1000000002) hx hb hown (hts _ (List.mem_of_getElem? (i := 1) rfl)) dX7_exact_37 ?_
    exact G_iret hx hb hr hlocks hw hP hK hD hS dX7_exact_39
  · have hw := hw.2 c9
    refine lv_iload_n hx hb dX7_exact_7 rfl (lv_at hl 2 rfl) ?_
    refine S_calli (As := [.int a2]) (rest := []) ⟨hx, hb, hml, hown, hts⟩ (c_X7_isByte l a2 _ hw) (va_cwS 1 hts gX7_exact_X7_isByte rfl rfl rfl (by decide +kernel) ⟨Nat.le_of_ble_eq_true rfl, Nat.le_of_ble_eq_true rfl⟩) rfl hl.1 rfl (Nat.le_of_ble_eq_true rfl) dX7_exact_8 ⟨Nat.zero_le _, Nat.zero_le _⟩ (fun x2 hw => ?_)
    refine lv_if_eq (tgt := 37) hx hb dX7_exact_11 (by decide) (fun c9 => ?_) (fun c9 => ?_)
    · have hw := hw.1 c9
      refine lv_ldc (v := -1000000002) hx hb hown (hts _ (List.mem_of_getElem? (i := 1) rfl)) dX7_exact_37 ?_
      exact G_iret hx hb hr hlocks hw hP hK hD hS dX7_exact_39
    · have hw := hw.2 c9
      refine lv_iload_n hx hb dX7_exact_14 rfl (lv_at hl 3 rfl) ?_
      refine S_calli (As := [.int a3]) (rest := []) ⟨hx, hb, hml, hown, hts⟩ (c_X7_isByte l a3 _ hw) (va_cwS 1 hts gX7_exact_X7_isByte rfl rfl rfl (by decide +kernel) ⟨Nat.le_of_ble_eq_true rfl, Nat.le_of_ble_eq_true rfl⟩) rfl hl.1 rfl (Nat.le_of_ble_eq_true rfl) dX7_exact_15 ⟨Nat.zero_le _, Nat.zero_le _⟩ (fun x3 hw => ?_)
      refine lv_if_eq (tgt := 37) hx hb dX7_exact_18 (by decide) (fun c9 => ?_) (fun c9 => ?_)
      · have hw := hw.1 c9
        refine lv_ldc (v := -1000000002) hx hb hown (hts _ (List.mem_of_getElem? (i := 1) rfl)) dX7_exact_37 ?_
        exact G_iret hx hb hr hlocks hw hP hK hD hS dX7_exact_39
      · have hw := hw.2 c9
        refine lv_iload hx hb dX7_exact_21 (lv_at hl 4 rfl) ?_
        refine S_calli (As := [.int a4]) (rest := []) ⟨hx, hb, hml, hown, hts⟩ (c_X7_isByte l a4 _ hw) (va_cwS 1 hts gX7_exact_X7_isByte rfl rfl rfl (by decide +kernel) ⟨Nat.le_of_ble_eq_true rfl, Nat.le_of_ble_eq_true rfl⟩) rfl hl.1 rfl (Nat.le_of_ble_eq_true rfl) dX7_exact_23 ⟨Nat.zero_le _, Nat.zero_le _⟩ (fun x4 hw => ?_)
        refine lv_if_eq (tgt := 37) hx hb dX7_exact_26 (by decide) (fun c9 => ?_) (fun c9 => ?_)
        · have hw := hw.1 c9
          refine lv_ldc (v := -1000000002) hx hb hown (hts _ (List.mem_of_getElem? (i := 1) rfl)) dX7_exact_37 ?_
          exact G_iret hx hb hr hlocks hw hP hK hD hS dX7_exact_39
        · have hw := hw.2 c9
          refine lv_iload hx hb dX7_exact_29 (lv_at hl 5 rfl) ?_
          refine S_calli (As := [.int a5]) (rest := []) ⟨hx, hb, hml, hown, hts⟩ (c_X7_isByte l a5 _ hw) (va_cwS 1 hts gX7_exact_X7_isByte rfl rfl rfl (by decide +kernel) ⟨Nat.le_of_ble_eq_true rfl, Nat.le_of_ble_eq_true rfl⟩) rfl hl.1 rfl (Nat.le_of_ble_eq_true rfl) dX7_exact_31 ⟨Nat.zero_le _, Nat.zero_le _⟩ (fun x5 hw => ?_)
          refine lv_if_ne (tgt := 40) hx hb dX7_exact_34 (by decide) (fun c9 => ?_) (fun c9 => ?_)
          · have hw := hw.1 c9
            refine lv_iload_n hx hb dX7_exact_40 rfl (lv_at hl 1 rfl) ?_
            refine lv_iload_n hx hb dX7_exact_41 rfl (lv_at hl 2 rfl) ?_
            refine lv_iload_n hx hb dX7_exact_42 rfl (lv_at hl 3 rfl) ?_
            refine lv_iload hx hb dX7_exact_43 (lv_at hl 4 rfl) ?_
            refine lv_iload hx hb dX7_exact_45 (lv_at hl 5 rfl) ?_
            refine S_calli (As := [.int a1, .int a2, .int a3, .int a4, .int a5]) (rest := []) ⟨hx, hb, hml, hown, hts⟩ (c_X6_exactBy l a1 a2 a3 a4 a5 _ hw) (va_cwS 5 hts gX7_exact_X6_exactBy rfl rfl rfl (by decide +kernel) ⟨Nat.le_of_ble_eq_true rfl, Nat.le_of_ble_eq_true rfl⟩) rfl hl.1 rfl (Nat.le_of_ble_eq_true rfl) dX7_exact_47 ⟨Nat.zero_le _, Nat.zero_le _⟩ (fun x6 hw => ?_)
            exact G_iret hx hb hr hlocks hw hP hK hD hS dX7_exact_50
          · have hw := hw.2 c9
            refine lv_ldc (v := -1000000002) hx hb hown (hts _ (List.mem_of_getElem? (i := 1) rfl)) dX7_exact_37 ?_
            exact G_iret hx hb hr hlocks hw hP hK hD hS dX7_exact_39

def wp_X4_becomeAs_3_1 (σ : St) (K : St → Prop) : Prop :=
  ∀ σ1 : St, σ1 = sA σ 1 (va_cpy (σ.2.1 0) (σ.2.1 1) (0 : Int32).toNatClampNeg (0 : Int32).toNatClampNeg (40 : Int32).toNatClampNeg) → ∀ σ2 : St, σ2 = sI σ1 1 (σ1.1 0) → K σ2
set_option maxHeartbeats 4000000 in
set_option maxRecDepth 100000 in
theorem c_X4_becomeAs_3_1 (l : Launch) (D : va_G) (cI : ClassId) (ad : Nat → Nat) (A : Nat → Prop) (σ : St) (K : St → Prop) (hw : wp_X4_becomeAs_3_1 σ K) : Met l yX4_becomeAs wsX4_becomeAs ({ frames := 1, cells := 0, slots := 0, locals := 30 }) (va_Pc [.ref (ad 3), .ref (ad 1)] (GW D [(cI, FieldType.int)] (wC cI ad) A σ)) (va_Qv K (GW D [(cI, FieldType.int)] (wC cI ad) A) A) 0 0 A := by
  refine Met.ofW (cc := cX4_becomeAs) (maxL := 2) (ret := none) (by decide) rfl ?_
  intro p e s m args below meth c s₁ B hml hv
  obtain ⟨rfl, hP, hK, hD⟩ := hv
  have hx := B.exec
  have hb := B.bytes
  have hr := B.returns
  have hts := atoms_spec (ws := wsX4_becomeAs) B.pre
  have hown : s.vm.findClass RX4 = some m.cls := findClass_of_methodNamed B.named
  have hlocks := B.notSynchronized
  have hS : va_S A s.heap s.heap [] := va_S.rf
  have hinX4 : ∀ w ∈ wsX40, w ∈ wsX4_becomeAs := fun _ h => List.mem_cons_of_mem _ (List.mem_append_right _ (h))
  have hl := lv_entry ([.ref (ad 3), .ref (ad 1)]) (n := 2) (Nat.le_of_ble_eq_true rfl)
  rw [lg_entry_eq]
  generalize (lg_sl ([.ref (ad 3), .ref (ad 1)]) ++ List.replicate (2 - (lg_sl ([.ref (ad 3), .ref (ad 1)])).length) Slot.unset).toArray = ls at hl ⊢
  have hl : lv_has ls 2 [(0, .ref (ad 3)), (1, .ref (ad 1))] := hl
  have hP : va_P D vwCl (wC cI ad σ) s.heap := hP
  refine lv_aload_n hx hb dX4_becomeAs_0 rfl (lv_at hl 1 rfl) ?_
  refine va_get (D := D) (ci := 3) (C := RX4) (T := TX4) (N := 2) hx hb hts hinX4 hown hK hP 1 rfl rfl 0 (by decide) (hts _ (List.mem_of_getElem? (i := 1) rfl)) (fun _ h9 => h9) rfl dX4_becomeAs_1 ?_
  refine lv_iconst (v := 0) hx hb dX4_becomeAs_4 (by decide) ?_
  refine lv_aload_n hx hb dX4_becomeAs_5 rfl (lv_at hl 0 rfl) ?_
  refine va_get (D := D) (ci := 3) (C := RX4) (T := TX4) (N := 2) hx hb hts hinX4 hown hK hP 3 rfl rfl 0 (by decide) (hts _ (List.mem_of_getElem? (i := 1) rfl)) (fun _ h9 => h9) rfl dX4_becomeAs_6 ?_
  refine lv_iconst (v := 0) hx hb dX4_becomeAs_9 (by decide) ?_
  refine lv_bipush (v := 40) hx hb dX4_becomeAs_10 (by decide) ?_
  refine va_copyi (D := D) (ty := .int) hx hb (hml.trans hl.1.symm) hown (hts _ (List.mem_of_getElem? (i := 2) rfl)) (hts _ (List.mem_of_getElem? (i := 3) rfl)) (hts _ (List.mem_of_getElem? (i := 4) rfl)) (hts _ (List.mem_of_getElem? (i := 5) rfl)) hK hP hD hS 2 4 0 0 rfl rfl rfl rfl rfl (by decide) (by decide) (by decide) (by decide) (by decide) (fun _ _ => rfl) (Nat.le_of_ble_eq_true rfl) (by decide) dX4_becomeAs_12 (fun H locs hP hD hS => ?_)
  obtain ⟨σ1, eσ1⟩ : ∃ z : St, z = sA σ 1 (va_cpy (σ.2.1 0) (σ.2.1 1) (0 : Int32).toNatClampNeg (0 : Int32).toNatClampNeg (40 : Int32).toNatClampNeg) := ⟨_, rfl⟩
  have hP : va_P D vwCl (wC cI ad σ1) H := by rw [eσ1]; exact hP
  have hD : va_D A (wC cI ad σ1) := by rw [eσ1]; exact hD
  have hw := hw σ1 eσ1
  refine lv_aload_n hx hb dX4_becomeAs_15 rfl (lv_at hl 0 rfl) ?_
  refine lv_aload_n hx hb dX4_becomeAs_16 rfl (lv_at hl 1 rfl) ?_
  refine va_get (D := D) (ci := 3) (C := RX4) (T := TX4) (N := 2) hx hb hts hinX4 hown hK hP 1 rfl rfl 1 (by decide) (hts _ (List.mem_of_getElem? (i := 6) rfl)) (fun _ h9 => h9) rfl dX4_becomeAs_17 ?_
  refine va_put (D := D) (ci := 3) (ty := .int) (C := RX4) (T := TX4) (N := 2) hx hb hts hinX4 tyX4 tyX4_ok nmX4 hown hK hP hD hS 3 rfl rfl 1 (by decide) (hts _ (List.mem_of_getElem? (i := 6) rfl)) (fun _ h9 => h9) rfl (by decide +kernel) rfl rfl (Nat.le_of_ble_eq_true rfl) dX4_becomeAs_20 (fun H locs hP hD hS => ?_)
  obtain ⟨σ2, eσ2⟩ : ∃ z : St, z = sI σ1 1 (σ1.1 0) := ⟨_, rfl⟩
  have hP : va_P D vwCl (wC cI ad σ2) H := by rw [eσ2]; exact hP
  have hD : va_D A (wC cI ad σ2) := by rw [eσ2]; exact hD
  have hw := hw σ2 eσ2
  exact G_vret hx hb hr hlocks hw hP hK hD hS dX4_becomeAs_23

def wp_X4_becomeAs_5_1 (σ : St) (K : St → Prop) : Prop :=
  ∀ σ1 : St, σ1 = sA σ 2 (va_cpy (σ.2.1 0) (σ.2.1 2) (0 : Int32).toNatClampNeg (0 : Int32).toNatClampNeg (40 : Int32).toNatClampNeg) → ∀ σ2 : St, σ2 = sI σ1 2 (σ1.1 0) → K σ2
set_option maxHeartbeats 4000000 in
set_option maxRecDepth 100000 in
theorem c_X4_becomeAs_5_1 (l : Launch) (D : va_G) (cI : ClassId) (ad : Nat → Nat) (A : Nat → Prop) (σ : St) (K : St → Prop) (hw : wp_X4_becomeAs_5_1 σ K) : Met l yX4_becomeAs wsX4_becomeAs ({ frames := 1, cells := 0, slots := 0, locals := 30 }) (va_Pc [.ref (ad 5), .ref (ad 1)] (GW D [(cI, FieldType.int)] (wC cI ad) A σ)) (va_Qv K (GW D [(cI, FieldType.int)] (wC cI ad) A) A) 0 0 A := by
  refine Met.ofW (cc := cX4_becomeAs) (maxL := 2) (ret := none) (by decide) rfl ?_
  intro p e s m args below meth c s₁ B hml hv
  obtain ⟨rfl, hP, hK, hD⟩ := hv
  have hx := B.exec
  have hb := B.bytes
  have hr := B.returns
  have hts := atoms_spec (ws := wsX4_becomeAs) B.pre
  have hown : s.vm.findClass RX4 = some m.cls := findClass_of_methodNamed B.named
  have hlocks := B.notSynchronized
  have hS : va_S A s.heap s.heap [] := va_S.rf
  have hinX4 : ∀ w ∈ wsX40, w ∈ wsX4_becomeAs := fun _ h => List.mem_cons_of_mem _ (List.mem_append_right _ (h))
  have hl := lv_entry ([.ref (ad 5), .ref (ad 1)]) (n := 2) (Nat.le_of_ble_eq_true rfl)
  rw [lg_entry_eq]
  generalize (lg_sl ([.ref (ad 5), .ref (ad 1)]) ++ List.replicate (2 - (lg_sl ([.ref (ad 5), .ref (ad 1)])).length) Slot.unset).toArray = ls at hl ⊢
  have hl : lv_has ls 2 [(0, .ref (ad 5)), (1, .ref (ad 1))] := hl
  have hP : va_P D vwCl (wC cI ad σ) s.heap := hP
  refine lv_aload_n hx hb dX4_becomeAs_0 rfl (lv_at hl 1 rfl) ?_
  refine va_get (D := D) (ci := 3) (C := RX4) (T := TX4) (N := 2) hx hb hts hinX4 hown hK hP 1 rfl rfl 0 (by decide) (hts _ (List.mem_of_getElem? (i := 1) rfl)) (fun _ h9 => h9) rfl dX4_becomeAs_1 ?_
  refine lv_iconst (v := 0) hx hb dX4_becomeAs_4 (by decide) ?_
  refine lv_aload_n hx hb dX4_becomeAs_5 rfl (lv_at hl 0 rfl) ?_
  refine va_get (D := D) (ci := 3) (C := RX4) (T := TX4) (N := 2) hx hb hts hinX4 hown hK hP 5 rfl rfl 0 (by decide) (hts _ (List.mem_of_getElem? (i := 1) rfl)) (fun _ h9 => h9) rfl dX4_becomeAs_6 ?_
  refine lv_iconst (v := 0) hx hb dX4_becomeAs_9 (by decide) ?_
  refine lv_bipush (v := 40) hx hb dX4_becomeAs_10 (by decide) ?_
  refine va_copyi (D := D) (ty := .int) hx hb (hml.trans hl.1.symm) hown (hts _ (List.mem_of_getElem? (i := 2) rfl)) (hts _ (List.mem_of_getElem? (i := 3) rfl)) (hts _ (List.mem_of_getElem? (i := 4) rfl)) (hts _ (List.mem_of_getElem? (i := 5) rfl)) hK hP hD hS 2 6 0 0 rfl rfl rfl rfl rfl (by decide) (by decide) (by decide) (by decide) (by decide) (fun _ _ => rfl) (Nat.le_of_ble_eq_true rfl) (by decide) dX4_becomeAs_12 (fun H locs hP hD hS => ?_)
  obtain ⟨σ1, eσ1⟩ : ∃ z : St, z = sA σ 2 (va_cpy (σ.2.1 0) (σ.2.1 2) (0 : Int32).toNatClampNeg (0 : Int32).toNatClampNeg (40 : Int32).toNatClampNeg) := ⟨_, rfl⟩
  have hP : va_P D vwCl (wC cI ad σ1) H := by rw [eσ1]; exact hP
  have hD : va_D A (wC cI ad σ1) := by rw [eσ1]; exact hD
  have hw := hw σ1 eσ1
  refine lv_aload_n hx hb dX4_becomeAs_15 rfl (lv_at hl 0 rfl) ?_
  refine lv_aload_n hx hb dX4_becomeAs_16 rfl (lv_at hl 1 rfl) ?_
  refine va_get (D := D) (ci := 3) (C := RX4) (T := TX4) (N := 2) hx hb hts hinX4 hown hK hP 1 rfl rfl 1 (by decide) (hts _ (List.mem_of_getElem? (i := 6) rfl)) (fun _ h9 => h9) rfl dX4_becomeAs_17 ?_
  refine va_put (D := D) (ci := 3) (ty := .int) (C := RX4) (T := TX4) (N := 2) hx hb hts hinX4 tyX4 tyX4_ok nmX4 hown hK hP hD hS 5 rfl rfl 1 (by decide) (hts _ (List.mem_of_getElem? (i := 6) rfl)) (fun _ h9 => h9) rfl (by decide +kernel) rfl rfl (Nat.le_of_ble_eq_true rfl) dX4_becomeAs_20 (fun H locs hP hD hS => ?_)
  obtain ⟨σ2, eσ2⟩ : ∃ z : St, z = sI σ1 2 (σ1.1 0) := ⟨_, rfl⟩
  have hP : va_P D vwCl (wC cI ad σ2) H := by rw [eσ2]; exact hP
  have hD : va_D A (wC cI ad σ2) := by rw [eσ2]; exact hD
  have hw := hw σ2 eσ2
  exact G_vret hx hb hr hlocks hw hP hK hD hS dX4_becomeAs_23

def wp_X7_keep (σ : St) (a1 : Int32) (K : Int32 → St → Prop) : Prop :=
  wp_X7_isImage a1 (fun x1 => ((¬ x1 = 0 → ((a1 = 0 → wp_X4_becomeAs_3_1 σ (fun σ2 => ∀ σ3 : St, σ3 = sI σ2 11 ((σ2.1 11) ||| ((1 : Int32) <<< (a1 &&& 31))) → wp_X1_clear_19 σ3 (fun σ4 => K (1 : Int32) σ4))) ∧ (¬ a1 = 0 → wp_X4_becomeAs_5_1 σ (fun σ5 => ∀ σ6 : St, σ6 = sI σ5 11 ((σ5.1 11) ||| ((1 : Int32) <<< (a1 &&& 31))) → wp_X1_clear_19 σ6 (fun σ7 => K (1 : Int32) σ7))))) ∧ (x1 = 0 → K (-1000000001 : Int32) σ)))
set_option maxHeartbeats 4000000 in
set_option maxRecDepth 100000 in
theorem c_X7_keep (l : Launch) (D : va_G) (cI : ClassId) (ad : Nat → Nat) (A : Nat → Prop) (σ : St) (a1 : Int32) (K : Int32 → St → Prop) (hw : wp_X7_keep σ a1 K) : Met l yX7_keep wsX7_keep ({ frames := 2, cells := 0, slots := 0, locals := 51 }) (va_Pc [.ref (ad 0), .int a1] (GW D [(cI, FieldType.int)] (wC cI ad) A σ)) (va_Qi K (GW D [(cI, FieldType.int)] (wC cI ad) A) A) 0 0 A := by
  refine Met.ofW (cc := cX7_keep) (maxL := 2) (ret := (some .int)) (by decide) rfl ?_
  intro p e s m args below meth c s₁ B hml hv
  obtain ⟨rfl, hP, hK, hD⟩ := hv
  have hx := B.exec
  have hb := B.bytes
  have hr := B.returns
  have hts := atoms_spec (ws := wsX7_keep) B.pre
  have hown : s.vm.findClass RX7 = some m.cls := findClass_of_methodNamed B.named
  have hlocks := B.notSynchronized
  have hS : va_S A s.heap s.heap [] := va_S.rf
  have hinX1 : ∀ w ∈ wsX10, w ∈ wsX7_keep := fun _ h => List.mem_cons_of_mem _ (List.mem_append_right _ (h))
  have hinX4 : ∀ w ∈ wsX40, w ∈ wsX7_keep := fun _ h => List.mem_cons_of_mem _ (List.mem_append_left _ (List.mem_append_right _ (h)))
  have hinX7 : ∀ w ∈ wsX70, w ∈ wsX7_keep := fun _ h => List.mem_cons_of_mem _ (List.mem_append_left _ (List.mem_append_left _ (List.mem_append_right _ (h))))
  have hl := lv_entry ([.ref (ad 0), .int a1]) (n := 2) (Nat.le_of_ble_eq_true rfl)
  rw [lg_entry_eq]
  generalize (lg_sl ([.ref (ad 0), .int a1]) ++ List.replicate (2 - (lg_sl ([.ref (ad 0), .int a1])).length) Slot.unset).toArray = ls at hl ⊢
  have hl : lv_has ls 2 [(0, .ref (ad 0)), (1, .int a1)] := hl
  have hP : va_P D vwCl (wC cI ad σ) s.heap := hP
  refine lv_iload_n hx hb dX7_keep_0 rfl (lv_at hl 1 rfl) ?_
  refine S_calli (As := [.int a1]) (rest := []) ⟨hx, hb, hml, hown, hts⟩ (c_X7_isImage l a1 _ hw) (va_cwS 1 hts gX7_keep_X7_isImage rfl rfl rfl (by decide +kernel) ⟨Nat.le_of_ble_eq_true rfl, Nat.le_of_ble_eq_true rfl⟩) rfl hl.1 rfl (Nat.le_of_ble_eq_true rfl) dX7_keep_1 ⟨Nat.zero_le _, Nat.zero_le _⟩ (fun x1 hw => ?_)
  refine lv_if_ne (tgt := 10) hx hb dX7_keep_4 (by decide) (fun c9 => ?_) (fun c9 => ?_)
  · have hw := hw.1 c9
    refine lv_aload_n hx hb dX7_keep_10 rfl (lv_at hl 0 rfl) ?_
    refine lv_iload_n hx hb dX7_keep_11 rfl (lv_at hl 1 rfl) ?_
    by_cases q9 : a1 = 0
    · have hw := hw.1 q9
      refine G_callr (k := 3) (As := [.int a1]) (rest := []) ⟨hx, hb, hml, hown, hts⟩ hK hP hD hS 0 5 rfl rfl (c_X7_imageOf0 l D cI ad A σ a1 q9) (cwV 1 hts gX7_keep_X7_imageOf rfl rfl rfl (by decide +kernel) ⟨Nat.le_of_ble_eq_true rfl, Nat.le_of_ble_eq_true rfl⟩) rfl hl.1 rfl (Nat.le_of_ble_eq_true rfl) dX7_keep_12 ⟨Nat.zero_le _, Nat.zero_le _⟩ (fun H locs hP hD hS => ?_)
      refine lv_aload_n hx hb dX7_keep_15 rfl (lv_at hl 0 rfl) ?_
      refine va_get (D := D) (ci := 5) (C := RX7) (T := TX7) (N := 12) hx hb hts hinX7 hown hK hP 0 rfl rfl 0 (by decide) (hts _ (List.mem_of_getElem? (i := 2) rfl)) (fun _ h9 => h9) rfl dX7_keep_16 ?_
      refine G_callv (As := [.ref (ad 1)]) (rest := []) ⟨hx, hb, hml, hown, hts⟩ hK hP hD hS 3 3 rfl rfl (c_X4_becomeAs_3_1 l D cI ad A σ _ hw) (cwV 1 hts gX7_keep_X4_becomeAs rfl rfl rfl (by decide +kernel) ⟨Nat.le_of_ble_eq_true rfl, Nat.le_of_ble_eq_true rfl⟩) rfl hl.1 rfl (Nat.le_of_ble_eq_true rfl) dX7_keep_19 ⟨Nat.zero_le _, Nat.zero_le _⟩ (fun σ2 hw H locs hP hD hS => ?_)
      refine lv_aload_n hx hb dX7_keep_22 rfl (lv_at hl 0 rfl) ?_
      refine lv_dup hx hb dX7_keep_23 rfl ?_
      refine va_get (D := D) (ci := 5) (C := RX7) (T := TX7) (N := 12) hx hb hts hinX7 hown hK hP 0 rfl rfl 7 (by decide) (hts _ (List.mem_of_getElem? (i := 3) rfl)) (fun _ h9 => h9) rfl dX7_keep_24 ?_
      refine lv_iconst (v := 1) hx hb dX7_keep_27 (by decide) ?_
      refine lv_iload_n hx hb dX7_keep_28 rfl (lv_at hl 1 rfl) ?_
      refine lv_ishl hx hb dX7_keep_29 ?_
      refine lv_ior hx hb dX7_keep_30 ?_
      refine va_put (D := D) (ci := 5) (ty := .int) (C := RX7) (T := TX7) (N := 12) hx hb hts hinX7 tyX7 tyX7_ok nmX7 hown hK hP hD hS 0 rfl rfl 7 (by decide) (hts _ (List.mem_of_getElem? (i := 3) rfl)) (fun _ h9 => h9) rfl (by decide +kernel) rfl rfl (Nat.le_of_ble_eq_true rfl) dX7_keep_31 (fun H locs hP hD hS => ?_)
      obtain ⟨σ3, eσ3⟩ : ∃ z : St, z = sI σ2 11 ((σ2.1 11) ||| ((1 : Int32) <<< (a1 &&& 31))) := ⟨_, rfl⟩
      have hP : va_P D vwCl (wC cI ad σ3) H := by rw [eσ3]; exact hP
      have hD : va_D A (wC cI ad σ3) := by rw [eσ3]; exact hD
      have hw := hw σ3 eσ3
      refine lv_aload_n hx hb dX7_keep_34 rfl (lv_at hl 0 rfl) ?_
      refine va_get (D := D) (ci := 5) (C := RX7) (T := TX7) (N := 12) hx hb hts hinX7 hown hK hP 0 rfl rfl 6 (by decide) (hts _ (List.mem_of_getElem? (i := 4) rfl)) (fun _ h9 => h9) rfl dX7_keep_35 ?_
      refine G_callv (As := []) (rest := []) ⟨hx, hb, hml, hown, hts⟩ hK hP hD hS 19 0 rfl rfl (c_X1_clear_19 l D cI ad A σ3 _ hw) (cwV 0 hts gX7_keep_X1_clear rfl rfl rfl (by decide +kernel) ⟨Nat.le_of_ble_eq_true rfl, Nat.le_of_ble_eq_true rfl⟩) rfl hl.1 rfl (Nat.le_of_ble_eq_true rfl) dX7_keep_38 ⟨Nat.zero_le _, Nat.zero_le _⟩ (fun σ4 hw H locs hP hD hS => ?_)
      refine lv_iconst (v := 1) hx hb dX7_keep_41 (by decide) ?_
      exact G_iret hx hb hr hlocks hw hP hK hD hS dX7_keep_42
    · have hw := hw.2 q9
      refine G_callr (k := 5) (As := [.int a1]) (rest := []) ⟨hx, hb, hml, hown, hts⟩ hK hP hD hS 0 5 rfl rfl (c_X7_imageOf1 l D cI ad A σ a1 q9) (cwV 1 hts gX7_keep_X7_imageOf rfl rfl rfl (by decide +kernel) ⟨Nat.le_of_ble_eq_true rfl, Nat.le_of_ble_eq_true rfl⟩) rfl hl.1 rfl (Nat.le_of_ble_eq_true rfl) dX7_keep_12 ⟨Nat.zero_le _, Nat.zero_le _⟩ (fun H locs hP hD hS => ?_)
      refine lv_aload_n hx hb dX7_keep_15 rfl (lv_at hl 0 rfl) ?_
      refine va_get (D := D) (ci := 5) (C := RX7) (T := TX7) (N := 12) hx hb hts hinX7 hown hK hP 0 rfl rfl 0 (by decide) (hts _ (List.mem_of_getElem? (i := 2) rfl)) (fun _ h9 => h9) rfl dX7_keep_16 ?_
      refine G_callv (As := [.ref (ad 1)]) (rest := []) ⟨hx, hb, hml, hown, hts⟩ hK hP hD hS 5 3 rfl rfl (c_X4_becomeAs_5_1 l D cI ad A σ _ hw) (cwV 1 hts gX7_keep_X4_becomeAs rfl rfl rfl (by decide +kernel) ⟨Nat.le_of_ble_eq_true rfl, Nat.le_of_ble_eq_true rfl⟩) rfl hl.1 rfl (Nat.le_of_ble_eq_true rfl) dX7_keep_19 ⟨Nat.zero_le _, Nat.zero_le _⟩ (fun σ5 hw H locs hP hD hS => ?_)
      refine lv_aload_n hx hb dX7_keep_22 rfl (lv_at hl 0 rfl) ?_
      refine lv_dup hx hb dX7_keep_23 rfl ?_
      refine va_get (D := D) (ci := 5) (C := RX7) (T := TX7) (N := 12) hx hb hts hinX7 hown hK hP 0 rfl rfl 7 (by decide) (hts _ (List.mem_of_getElem? (i := 3) rfl)) (fun _ h9 => h9) rfl dX7_keep_24 ?_
      refine lv_iconst (v := 1) hx hb dX7_keep_27 (by decide) ?_
      refine lv_iload_n hx hb dX7_keep_28 rfl (lv_at hl 1 rfl) ?_
      refine lv_ishl hx hb dX7_keep_29 ?_
      refine lv_ior hx hb dX7_keep_30 ?_
      refine va_put (D := D) (ci := 5) (ty := .int) (C := RX7) (T := TX7) (N := 12) hx hb hts hinX7 tyX7 tyX7_ok nmX7 hown hK hP hD hS 0 rfl rfl 7 (by decide) (hts _ (List.mem_of_getElem? (i := 3) rfl)) (fun _ h9 => h9) rfl (by decide +kernel) rfl rfl (Nat.le_of_ble_eq_true rfl) dX7_keep_31 (fun H locs hP hD hS => ?_)
      obtain ⟨σ6, eσ6⟩ : ∃ z : St, z = sI σ5 11 ((σ5.1 11) ||| ((1 : Int32) <<< (a1 &&& 31))) := ⟨_, rfl⟩
      have hP : va_P D vwCl (wC cI ad σ6) H := by rw [eσ6]; exact hP
      have hD : va_D A (wC cI ad σ6) := by rw [eσ6]; exact hD
      have hw := hw σ6 eσ6
      refine lv_aload_n hx hb dX7_keep_34 rfl (lv_at hl 0 rfl) ?_
      refine va_get (D := D) (ci := 5) (C := RX7) (T := TX7) (N := 12) hx hb hts hinX7 hown hK hP 0 rfl rfl 6 (by decide) (hts _ (List.mem_of_getElem? (i := 4) rfl)) (fun _ h9 => h9) rfl dX7_keep_35 ?_
      refine G_callv (As := []) (rest := []) ⟨hx, hb, hml, hown, hts⟩ hK hP hD hS 19 0 rfl rfl (c_X1_clear_19 l D cI ad A σ6 _ hw) (cwV 0 hts gX7_keep_X1_clear rfl rfl rfl (by decide +kernel) ⟨Nat.le_of_ble_eq_true rfl, Nat.le_of_ble_eq_true rfl⟩) rfl hl.1 rfl (Nat.le_of_ble_eq_true rfl) dX7_keep_38 ⟨Nat.zero_le _, Nat.zero_le _⟩ (fun σ7 hw H locs hP hD hS => ?_)
      refine lv_iconst (v := 1) hx hb dX7_keep_41 (by decide) ?_
      exact G_iret hx hb hr hlocks hw hP hK hD hS dX7_keep_42
  · have hw := hw.2 c9
    refine lv_ldc (v := -1000000001) hx hb hown (hts _ (List.mem_of_getElem? (i := 1) rfl)) dX7_keep_7 ?_
    exact G_iret hx hb hr hlocks hw hP hK hD hS dX7_keep_9

def wp_X4_becomeAs_1_3 (σ : St) (K : St → Prop) : Prop :=
  ∀ σ1 : St, σ1 = sA σ 0 (va_cpy (σ.2.1 1) (σ.2.1 0) (0 : Int32).toNatClampNeg (0 : Int32).toNatClampNeg (40 : Int32).toNatClampNeg) → ∀ σ2 : St, σ2 = sI σ1 0 (σ1.1 1) → K σ2
set_option maxHeartbeats 4000000 in
set_option maxRecDepth 100000 in
theorem c_X4_becomeAs_1_3 (l : Launch) (D : va_G) (cI : ClassId) (ad : Nat → Nat) (A : Nat → Prop) (σ : St) (K : St → Prop) (hw : wp_X4_becomeAs_1_3 σ K) : Met l yX4_becomeAs wsX4_becomeAs ({ frames := 1, cells := 0, slots := 0, locals := 30 }) (va_Pc [.ref (ad 1), .ref (ad 3)] (GW D [(cI, FieldType.int)] (wC cI ad) A σ)) (va_Qv K (GW D [(cI, FieldType.int)] (wC cI ad) A) A) 0 0 A := by
  refine Met.ofW (cc := cX4_becomeAs) (maxL := 2) (ret := none) (by decide) rfl ?_
  intro p e s m args below meth c s₁ B hml hv
  obtain ⟨rfl, hP, hK, hD⟩ := hv
  have hx := B.exec
  have hb := B.bytes
  have hr := B.returns
  have hts := atoms_spec (ws := wsX4_becomeAs) B.pre
  have hown : s.vm.findClass RX4 = some m.cls := findClass_of_methodNamed B.named
  have hlocks := B.notSynchronized
  have hS : va_S A s.heap s.heap [] := va_S.rf
  have hinX4 : ∀ w ∈ wsX40, w ∈ wsX4_becomeAs := fun _ h => List.mem_cons_of_mem _ (List.mem_append_right _ (h))
  have hl := lv_entry ([.ref (ad 1), .ref (ad 3)]) (n := 2) (Nat.le_of_ble_eq_true rfl)
  rw [lg_entry_eq]
  generalize (lg_sl ([.ref (ad 1), .ref (ad 3)]) ++ List.replicate (2 - (lg_sl ([.ref (ad 1), .ref (ad 3)])).length) Slot.unset).toArray = ls at hl ⊢
  have hl : lv_has ls 2 [(0, .ref (ad 1)), (1, .ref (ad 3))] := hl
  have hP : va_P D vwCl (wC cI ad σ) s.heap := hP
  refine lv_aload_n hx hb dX4_becomeAs_0 rfl (lv_at hl 1 rfl) ?_
  refine va_get (D := D) (ci := 3) (C := RX4) (T := TX4) (N := 2) hx hb hts hinX4 hown hK hP 3 rfl rfl 0 (by decide) (hts _ (List.mem_of_getElem? (i := 1) rfl)) (fun _ h9 => h9) rfl dX4_becomeAs_1 ?_
  refine lv_iconst (v := 0) hx hb dX4_becomeAs_4 (by decide) ?_
  refine lv_aload_n hx hb dX4_becomeAs_5 rfl (lv_at hl 0 rfl) ?_
  refine va_get (D := D) (ci := 3) (C := RX4) (T := TX4) (N := 2) hx hb hts hinX4 hown hK hP 1 rfl rfl 0 (by decide) (hts _ (List.mem_of_getElem? (i := 1) rfl)) (fun _ h9 => h9) rfl dX4_becomeAs_6 ?_
  refine lv_iconst (v := 0) hx hb dX4_becomeAs_9 (by decide) ?_
  refine lv_bipush (v := 40) hx hb dX4_becomeAs_10 (by decide) ?_
  refine va_copyi (D := D) (ty := .int) hx hb (hml.trans hl.1.symm) hown (hts _ (List.mem_of_getElem? (i := 2) rfl)) (hts _ (List.mem_of_getElem? (i := 3) rfl)) (hts _ (List.mem_of_getElem? (i := 4) rfl)) (hts _ (List.mem_of_getElem? (i := 5) rfl)) hK hP hD hS 4 2 0 0 rfl rfl rfl rfl rfl (by decide) (by decide) (by decide) (by decide) (by decide) (fun _ _ => rfl) (Nat.le_of_ble_eq_true rfl) (by decide) dX4_becomeAs_12 (fun H locs hP hD hS => ?_)
  obtain ⟨σ1, eσ1⟩ : ∃ z : St, z = sA σ 0 (va_cpy (σ.2.1 1) (σ.2.1 0) (0 : Int32).toNatClampNeg (0 : Int32).toNatClampNeg (40 : Int32).toNatClampNeg) := ⟨_, rfl⟩
  have hP : va_P D vwCl (wC cI ad σ1) H := by rw [eσ1]; exact hP
  have hD : va_D A (wC cI ad σ1) := by rw [eσ1]; exact hD
  have hw := hw σ1 eσ1
  refine lv_aload_n hx hb dX4_becomeAs_15 rfl (lv_at hl 0 rfl) ?_
  refine lv_aload_n hx hb dX4_becomeAs_16 rfl (lv_at hl 1 rfl) ?_
  refine va_get (D := D) (ci := 3) (C := RX4) (T := TX4) (N := 2) hx hb hts hinX4 hown hK hP 3 rfl rfl 1 (by decide) (hts _ (List.mem_of_getElem? (i := 6) rfl)) (fun _ h9 => h9) rfl dX4_becomeAs_17 ?_
  refine va_put (D := D) (ci := 3) (ty := .int) (C := RX4) (T := TX4) (N := 2) hx hb hts hinX4 tyX4 tyX4_ok nmX4 hown hK hP hD hS 1 rfl rfl 1 (by decide) (hts _ (List.mem_of_getElem? (i := 6) rfl)) (fun _ h9 => h9) rfl (by decide +kernel) rfl rfl (Nat.le_of_ble_eq_true rfl) dX4_becomeAs_20 (fun H locs hP hD hS => ?_)
  obtain ⟨σ2, eσ2⟩ : ∃ z : St, z = sI σ1 0 (σ1.1 1) := ⟨_, rfl⟩
  have hP : va_P D vwCl (wC cI ad σ2) H := by rw [eσ2]; exact hP
  have hD : va_D A (wC cI ad σ2) := by rw [eσ2]; exact hD
  have hw := hw σ2 eσ2
  exact G_vret hx hb hr hlocks hw hP hK hD hS dX4_becomeAs_23

def wp_X4_becomeAs_1_5 (σ : St) (K : St → Prop) : Prop :=
  ∀ σ1 : St, σ1 = sA σ 0 (va_cpy (σ.2.1 2) (σ.2.1 0) (0 : Int32).toNatClampNeg (0 : Int32).toNatClampNeg (40 : Int32).toNatClampNeg) → ∀ σ2 : St, σ2 = sI σ1 0 (σ1.1 2) → K σ2
set_option maxHeartbeats 4000000 in
set_option maxRecDepth 100000 in
theorem c_X4_becomeAs_1_5 (l : Launch) (D : va_G) (cI : ClassId) (ad : Nat → Nat) (A : Nat → Prop) (σ : St) (K : St → Prop) (hw : wp_X4_becomeAs_1_5 σ K) : Met l yX4_becomeAs wsX4_becomeAs ({ frames := 1, cells := 0, slots := 0, locals := 30 }) (va_Pc [.ref (ad 1), .ref (ad 5)] (GW D [(cI, FieldType.int)] (wC cI ad) A σ)) (va_Qv K (GW D [(cI, FieldType.int)] (wC cI ad) A) A) 0 0 A := by
  refine Met.ofW (cc := cX4_becomeAs) (maxL := 2) (ret := none) (by decide) rfl ?_
  intro p e s m args below meth c s₁ B hml hv
  obtain ⟨rfl, hP, hK, hD⟩ := hv
  have hx := B.exec
  have hb := B.bytes
  have hr := B.returns
  have hts := atoms_spec (ws := wsX4_becomeAs) B.pre
  have hown : s.vm.findClass RX4 = some m.cls := findClass_of_methodNamed B.named
  have hlocks := B.notSynchronized
  have hS : va_S A s.heap s.heap [] := va_S.rf
  have hinX4 : ∀ w ∈ wsX40, w ∈ wsX4_becomeAs := fun _ h => List.mem_cons_of_mem _ (List.mem_append_right _ (h))
  have hl := lv_entry ([.ref (ad 1), .ref (ad 5)]) (n := 2) (Nat.le_of_ble_eq_true rfl)
  rw [lg_entry_eq]
  generalize (lg_sl ([.ref (ad 1), .ref (ad 5)]) ++ List.replicate (2 - (lg_sl ([.ref (ad 1), .ref (ad 5)])).length) Slot.unset).toArray = ls at hl ⊢
  have hl : lv_has ls 2 [(0, .ref (ad 1)), (1, .ref (ad 5))] := hl
  have hP : va_P D vwCl (wC cI ad σ) s.heap := hP
  refine lv_aload_n hx hb dX4_becomeAs_0 rfl (lv_at hl 1 rfl) ?_
  refine va_get (D := D) (ci := 3) (C := RX4) (T := TX4) (N := 2) hx hb hts hinX4 hown hK hP 5 rfl rfl 0 (by decide) (hts _ (List.mem_of_getElem? (i := 1) rfl)) (fun _ h9 => h9) rfl dX4_becomeAs_1 ?_
  refine lv_iconst (v := 0) hx hb dX4_becomeAs_4 (by decide) ?_
  refine lv_aload_n hx hb dX4_becomeAs_5 rfl (lv_at hl 0 rfl) ?_
  refine va_get (D := D) (ci := 3) (C := RX4) (T := TX4) (N := 2) hx hb hts hinX4 hown hK hP 1 rfl rfl 0 (by decide) (hts _ (List.mem_of_getElem? (i := 1) rfl)) (fun _ h9 => h9) rfl dX4_becomeAs_6 ?_
  refine lv_iconst (v := 0) hx hb dX4_becomeAs_9 (by decide) ?_
  refine lv_bipush (v := 40) hx hb dX4_becomeAs_10 (by decide) ?_
  refine va_copyi (D := D) (ty := .int) hx hb (hml.trans hl.1.symm) hown (hts _ (List.mem_of_getElem? (i := 2) rfl)) (hts _ (List.mem_of_getElem? (i := 3) rfl)) (hts _ (List.mem_of_getElem? (i := 4) rfl)) (hts _ (List.mem_of_getElem? (i := 5) rfl)) hK hP hD hS 6 2 0 0 rfl rfl rfl rfl rfl (by decide) (by decide) (by decide) (by decide) (by decide) (fun _ _ => rfl) (Nat.le_of_ble_eq_true rfl) (by decide) dX4_becomeAs_12 (fun H locs hP hD hS => ?_)
  obtain ⟨σ1, eσ1⟩ : ∃ z : St, z = sA σ 0 (va_cpy (σ.2.1 2) (σ.2.1 0) (0 : Int32).toNatClampNeg (0 : Int32).toNatClampNeg (40 : Int32).toNatClampNeg) := ⟨_, rfl⟩
  have hP : va_P D vwCl (wC cI ad σ1) H := by rw [eσ1]; exact hP
  have hD : va_D A (wC cI ad σ1) := by rw [eσ1]; exact hD
  have hw := hw σ1 eσ1
  refine lv_aload_n hx hb dX4_becomeAs_15 rfl (lv_at hl 0 rfl) ?_
  refine lv_aload_n hx hb dX4_becomeAs_16 rfl (lv_at hl 1 rfl) ?_
  refine va_get (D := D) (ci := 3) (C := RX4) (T := TX4) (N := 2) hx hb hts hinX4 hown hK hP 5 rfl rfl 1 (by decide) (hts _ (List.mem_of_getElem? (i := 6) rfl)) (fun _ h9 => h9) rfl dX4_becomeAs_17 ?_
  refine va_put (D := D) (ci := 3) (ty := .int) (C := RX4) (T := TX4) (N := 2) hx hb hts hinX4 tyX4 tyX4_ok nmX4 hown hK hP hD hS 1 rfl rfl 1 (by decide) (hts _ (List.mem_of_getElem? (i := 6) rfl)) (fun _ h9 => h9) rfl (by decide +kernel) rfl rfl (Nat.le_of_ble_eq_true rfl) dX4_becomeAs_20 (fun H locs hP hD hS => ?_)
  obtain ⟨σ2, eσ2⟩ : ∃ z : St, z = sI σ1 0 (σ1.1 2) := ⟨_, rfl⟩
  have hP : va_P D vwCl (wC cI ad σ2) H := by rw [eσ2]; exact hP
  have hD : va_D A (wC cI ad σ2) := by rw [eσ2]; exact hD
  have hw := hw σ2 eσ2
  exact G_vret hx hb hr hlocks hw hP hK hD hS dX4_becomeAs_23

def wp_X7_goBack (σ : St) (a1 : Int32) (K : Int32 → St → Prop) : Prop :=
  wp_X7_isImage a1 (fun x1 => ((¬ x1 = 0 → ((¬ (((σ.1 11) >>> (a1 &&& 31)) &&& (1 : Int32)) = 0 → ((a1 = 0 → wp_X4_becomeAs_1_3 σ (fun σ2 => wp_X1_clear_19 σ2 (fun σ3 => K (1 : Int32) σ3))) ∧ (¬ a1 = 0 → wp_X4_becomeAs_1_5 σ (fun σ4 => wp_X1_clear_19 σ4 (fun σ5 => K (1 : Int32) σ5))))) ∧ ((((σ.1 11) >>> (a1 &&& 31)) &&& (1 : Int32)) = 0 → K (-1000000003 : Int32) σ))) ∧ (x1 = 0 → K (-1000000001 : Int32) σ)))
set_option maxHeartbeats 4000000 in
set_option maxRecDepth 100000 in
theorem c_X7_goBack (l : Launch) (D : va_G) (cI : ClassId) (ad : Nat → Nat) (A : Nat → Prop) (σ : St) (a1 : Int32) (K : Int32 → St → Prop) (hw : wp_X7_goBack σ a1 K) : Met l yX7_goBack wsX7_goBack ({ frames := 2, cells := 0, slots := 0, locals := 51 }) (va_Pc [.ref (ad 0), .int a1] (GW D [(cI, FieldType.int)] (wC cI ad) A σ)) (va_Qi K (GW D [(cI, FieldType.int)] (wC cI ad) A) A) 0 0 A := by
  refine Met.ofW (cc := cX7_goBack) (maxL := 2) (ret := (some .int)) (by decide) rfl ?_
  intro p e s m args below meth c s₁ B hml hv
  obtain ⟨rfl, hP, hK, hD⟩ := hv
  have hx := B.exec
  have hb := B.bytes
  have hr := B.returns
  have hts := atoms_spec (ws := wsX7_goBack) B.pre
  have hown : s.vm.findClass RX7 = some m.cls := findClass_of_methodNamed B.named
  have hlocks := B.notSynchronized
  have hS : va_S A s.heap s.heap [] := va_S.rf
  have hinX1 : ∀ w ∈ wsX10, w ∈ wsX7_goBack := fun _ h => List.mem_cons_of_mem _ (List.mem_append_right _ (h))
  have hinX4 : ∀ w ∈ wsX40, w ∈ wsX7_goBack := fun _ h => List.mem_cons_of_mem _ (List.mem_append_left _ (List.mem_append_right _ (h)))
  have hinX7 : ∀ w ∈ wsX70, w ∈ wsX7_goBack := fun _ h => List.mem_cons_of_mem _ (List.mem_append_left _ (List.mem_append_left _ (List.mem_append_right _ (h))))
  have hl := lv_entry ([.ref (ad 0), .int a1]) (n := 2) (Nat.le_of_ble_eq_true rfl)
  rw [lg_entry_eq]
  generalize (lg_sl ([.ref (ad 0), .int a1]) ++ List.replicate (2 - (lg_sl ([.ref (ad 0), .int a1])).length) Slot.unset).toArray = ls at hl ⊢
  have hl : lv_has ls 2 [(0, .ref (ad 0)), (1, .int a1)] := hl
  have hP : va_P D vwCl (wC cI ad σ) s.heap := hP
  refine lv_iload_n hx hb dX7_goBack_0 rfl (lv_at hl 1 rfl) ?_
  refine S_calli (As := [.int a1]) (rest := []) ⟨hx, hb, hml, hown, hts⟩ (c_X7_isImage l a1 _ hw) (va_cwS 1 hts gX7_goBack_X7_isImage rfl rfl rfl (by decide +kernel) ⟨Nat.le_of_ble_eq_true rfl, Nat.le_of_ble_eq_true rfl⟩) rfl hl.1 rfl (Nat.le_of_ble_eq_true rfl) dX7_goBack_1 ⟨Nat.zero_le _, Nat.zero_le _⟩ (fun x1 hw => ?_)
  refine lv_if_ne (tgt := 10) hx hb dX7_goBack_4 (by decide) (fun c9 => ?_) (fun c9 => ?_)
  · have hw := hw.1 c9
    refine lv_aload_n hx hb dX7_goBack_10 rfl (lv_at hl 0 rfl) ?_
    refine va_get (D := D) (ci := 5) (C := RX7) (T := TX7) (N := 12) hx hb hts hinX7 hown hK hP 0 rfl rfl 7 (by decide) (hts _ (List.mem_of_getElem? (i := 2) rfl)) (fun _ h9 => h9) rfl dX7_goBack_11 ?_
    refine lv_iload_n hx hb dX7_goBack_14 rfl (lv_at hl 1 rfl) ?_
    refine lv_ishr hx hb dX7_goBack_15 ?_
    refine lv_iconst (v := 1) hx hb dX7_goBack_16 (by decide) ?_
    refine lv_iand hx hb dX7_goBack_17 ?_
    refine lv_if_ne (tgt := 24) hx hb dX7_goBack_18 (by decide) (fun c9 => ?_) (fun c9 => ?_)
    · have hw := hw.1 c9
      refine lv_aload_n hx hb dX7_goBack_24 rfl (lv_at hl 0 rfl) ?_
      refine va_get (D := D) (ci := 5) (C := RX7) (T := TX7) (N := 12) hx hb hts hinX7 hown hK hP 0 rfl rfl 0 (by decide) (hts _ (List.mem_of_getElem? (i := 4) rfl)) (fun _ h9 => h9) rfl dX7_goBack_25 ?_
      refine lv_aload_n hx hb dX7_goBack_28 rfl (lv_at hl 0 rfl) ?_
      refine lv_iload_n hx hb dX7_goBack_29 rfl (lv_at hl 1 rfl) ?_
      by_cases q9 : a1 = 0
      · have hw := hw.1 q9
        refine G_callr (k := 3) (As := [.int a1]) (rest := [.ref (ad 1)]) ⟨hx, hb, hml, hown, hts⟩ hK hP hD hS 0 5 rfl rfl (c_X7_imageOf0 l D cI ad A σ a1 q9) (cwV 1 hts gX7_goBack_X7_imageOf rfl rfl rfl (by decide +kernel) ⟨Nat.le_of_ble_eq_true rfl, Nat.le_of_ble_eq_true rfl⟩) rfl hl.1 rfl (Nat.le_of_ble_eq_true rfl) dX7_goBack_30 ⟨Nat.zero_le _, Nat.zero_le _⟩ (fun H locs hP hD hS => ?_)
        refine G_callv (As := [.ref (ad 3)]) (rest := []) ⟨hx, hb, hml, hown, hts⟩ hK hP hD hS 1 3 rfl rfl (c_X4_becomeAs_1_3 l D cI ad A σ _ hw) (cwV 1 hts gX7_goBack_X4_becomeAs rfl rfl rfl (by decide +kernel) ⟨Nat.le_of_ble_eq_true rfl, Nat.le_of_ble_eq_true rfl⟩) rfl hl.1 rfl (Nat.le_of_ble_eq_true rfl) dX7_goBack_33 ⟨Nat.zero_le _, Nat.zero_le _⟩ (fun σ2 hw H locs hP hD hS => ?_)
        refine lv_aload_n hx hb dX7_goBack_36 rfl (lv_at hl 0 rfl) ?_
        refine va_get (D := D) (ci := 5) (C := RX7) (T := TX7) (N := 12) hx hb hts hinX7 hown hK hP 0 rfl rfl 6 (by decide) (hts _ (List.mem_of_getElem? (i := 5) rfl)) (fun _ h9 => h9) rfl dX7_goBack_37 ?_
        refine G_callv (As := []) (rest := []) ⟨hx, hb, hml, hown, hts⟩ hK hP hD hS 19 0 rfl rfl (c_X1_clear_19 l D cI ad A σ2 _ hw) (cwV 0 hts gX7_goBack_X1_clear rfl rfl rfl (by decide +kernel) ⟨Nat.le_of_ble_eq_true rfl, Nat.le_of_ble_eq_true rfl⟩) rfl hl.1 rfl (Nat.le_of_ble_eq_true rfl) dX7_goBack_40 ⟨Nat.zero_le _, Nat.zero_le _⟩ (fun σ3 hw H locs hP hD hS => ?_)
        refine lv_iconst (v := 1) hx hb dX7_goBack_43 (by decide) ?_
        exact G_iret hx hb hr hlocks hw hP hK hD hS dX7_goBack_44
      · have hw := hw.2 q9
        refine G_callr (k := 5) (As := [.int a1]) (rest := [.ref (ad 1)]) ⟨hx, hb, hml, hown, hts⟩ hK hP hD hS 0 5 rfl rfl (c_X7_imageOf1 l D cI ad A σ a1 q9) (cwV 1 hts gX7_goBack_X7_imageOf rfl rfl rfl (by decide +kernel) ⟨Nat.le_of_ble_eq_true rfl, Nat.le_of_ble_eq_true rfl⟩) rfl hl.1 rfl (Nat.le_of_ble_eq_true rfl) dX7_goBack_30 ⟨Nat.zero_le _, Nat.zero_le _⟩ (fun H locs hP hD hS => ?_)
        refine G_callv (As := [.ref (ad 5)]) (rest := []) ⟨hx, hb, hml, hown, hts⟩ hK hP hD hS 1 3 rfl rfl (c_X4_becomeAs_1_5 l D cI ad A σ _ hw) (cwV 1 hts gX7_goBack_X4_becomeAs rfl rfl rfl (by decide +kernel) ⟨Nat.le_of_ble_eq_true rfl, Nat.le_of_ble_eq_true rfl⟩) rfl hl.1 rfl (Nat.le_of_ble_eq_true rfl) dX7_goBack_33 ⟨Nat.zero_le _, Nat.zero_le _⟩ (fun σ4 hw H locs hP hD hS => ?_)
        refine lv_aload_n hx hb dX7_goBack_36 rfl (lv_at hl 0 rfl) ?_
        refine va_get (D := D) (ci := 5) (C := RX7) (T := TX7) (N := 12) hx hb hts hinX7 hown hK hP 0 rfl rfl 6 (by decide) (hts _ (List.mem_of_getElem? (i := 5) rfl)) (fun _ h9 => h9) rfl dX7_goBack_37 ?_
        refine G_callv (As := []) (rest := []) ⟨hx, hb, hml, hown, hts⟩ hK hP hD hS 19 0 rfl rfl (c_X1_clear_19 l D cI ad A σ4 _ hw) (cwV 0 hts gX7_goBack_X1_clear rfl rfl rfl (by decide +kernel) ⟨Nat.le_of_ble_eq_true rfl, Nat.le_of_ble_eq_true rfl⟩) rfl hl.1 rfl (Nat.le_of_ble_eq_true rfl) dX7_goBack_40 ⟨Nat.zero_le _, Nat.zero_le _⟩ (fun σ5 hw H locs hP hD hS => ?_)
        refine lv_iconst (v := 1) hx hb dX7_goBack_43 (by decide) ?_
        exact G_iret hx hb hr hlocks hw hP hK hD hS dX7_goBack_44
    · have hw := hw.2 c9
      refine lv_ldc (v := -1000000003) hx hb hown (hts _ (List.mem_of_getElem? (i := 3) rfl)) dX7_goBack_21 ?_
      exact G_iret hx hb hr hlocks hw hP hK hD hS dX7_goBack_23
  · have hw := hw.2 c9
    refine lv_ldc (v := -1000000001) hx hb hown (hts _ (List.mem_of_getElem? (i := 1) rfl)) dX7_goBack_7 ?_
    exact G_iret hx hb hr hlocks hw hP hK hD hS dX7_goBack_9
