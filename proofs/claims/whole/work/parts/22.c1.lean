def wp_X7_storeAt (σ : St) (a1 : Int32) (a2 : Int32) (K : Int32 → St → Prop) : Prop :=
  wp_X7_isRegister a1 (fun x1 => ((x1 = 0 → K (-1000000001 : Int32) σ) ∧ (¬ x1 = 0 → wp_X7_isRegister a2 (fun x2 => ((¬ x2 = 0 → wp_X7_placeAt σ a2 (fun x4 σ3 => vp_in a1 40 ∧ wp_X7_changeOctet σ3 x4 (σ3.2.1 0 a1.toNatClampNeg) (fun σ5 => wp_X7_shadowOfRegister σ5 a1 (fun x7 σ6 => wp_X7_tick σ6 (10 : Int32) x7 (fun x9 σ8 => K x9 σ8))))) ∧ (x2 = 0 → K (-1000000001 : Int32) σ))))))
set_option maxHeartbeats 4000000 in
set_option maxRecDepth 100000 in
theorem c_X7_storeAt (l : Launch) (D : va_G) (cI : ClassId) (ad : Nat → Nat) (A : Nat → Prop) (σ : St) (a1 : Int32) (a2 : Int32) (K : Int32 → St → Prop) (hw : wp_X7_storeAt σ a1 a2 K) : Met l yX7_storeAt wsX7_storeAt ({ frames := 3, cells := 0, slots := 0, locals := 66 }) (va_Pc [.ref (ad 0), .int a1, .int a2] (GW D [(cI, FieldType.int)] (wC cI ad) A σ)) (va_Qi K (GW D [(cI, FieldType.int)] (wC cI ad) A) A) 0 0 A := by
  refine Met.ofW (cc := cX7_storeAt) (maxL := 3) (ret := (some .int)) (by decide) rfl ?_
  intro p e s m args below meth c s₁ B hml hv
  obtain ⟨rfl, hP, hK, hD⟩ := hv
  have hx := B.exec
  have hb := B.bytes
  have hr := B.returns
  have hts := atoms_spec (ws := wsX7_storeAt) B.pre
  have hown : s.vm.findClass RX7 = some m.cls := findClass_of_methodNamed B.named
  have hlocks := B.notSynchronized
  have hS : va_S A s.heap s.heap [] := va_S.rf
  have hinX1 : ∀ w ∈ wsX10, w ∈ wsX7_storeAt := fun _ h => List.mem_cons_of_mem _ (List.mem_append_left _ (List.mem_append_right _ (h)))
  have hinX2 : ∀ w ∈ wsX20, w ∈ wsX7_storeAt := fun _ h => List.mem_cons_of_mem _ (List.mem_append_left _ (List.mem_append_left _ (List.mem_append_right _ (h))))
  have hinX4 : ∀ w ∈ wsX40, w ∈ wsX7_storeAt := fun _ h => List.mem_cons_of_mem _ (List.mem_append_left _ (List.mem_append_left _ (List.mem_append_left _ (List.mem_append_right _ (h)))))
  have hinX5 : ∀ w ∈ wsX50, w ∈ wsX7_storeAt := fun _ h => List.mem_cons_of_mem _ (List.mem_append_right _ (h))
  have hinX7 : ∀ w ∈ wsX70, w ∈ wsX7_storeAt := fun _ h => List.mem_cons_of_mem _ (List.mem_append_left _ (List.mem_append_left _ (List.mem_append_left _ (List.mem_append_left _ (List.mem_append_right _ (h))))))
  have hl := lv_entry ([.ref (ad 0), .int a1, .int a2]) (n := 3) (Nat.le_of_ble_eq_true rfl)
  rw [lg_entry_eq]
  generalize (lg_sl ([.ref (ad 0), .int a1, .int a2]) ++ List.replicate (3 - (lg_sl ([.ref (ad 0), .int a1, .int a2])).length) Slot.unset).toArray = ls at hl ⊢
  have hl : lv_has ls 3 [(0, .ref (ad 0)), (1, .int a1), (2, .int a2)] := hl
  have hP : va_P D vwCl (wC cI ad σ) s.heap := hP
  refine lv_iload_n hx hb dX7_storeAt_0 rfl (lv_at hl 1 rfl) ?_
  refine S_calli (As := [.int a1]) (rest := []) ⟨hx, hb, hml, hown, hts⟩ (c_X7_isRegister l a1 _ hw) (va_cwS 1 hts gX7_storeAt_X7_isRegister rfl rfl rfl (by decide +kernel) ⟨Nat.le_of_ble_eq_true rfl, Nat.le_of_ble_eq_true rfl⟩) rfl hl.1 rfl (Nat.le_of_ble_eq_true rfl) dX7_storeAt_1 ⟨Nat.zero_le _, Nat.zero_le _⟩ (fun x1 hw => ?_)
  refine lv_if_eq (tgt := 14) hx hb dX7_storeAt_4 (by decide) (fun c9 => ?_) (fun c9 => ?_)
  · have hw := hw.1 c9
    refine lv_ldc (v := -1000000001) hx hb hown (hts _ (List.mem_of_getElem? (i := 1) rfl)) dX7_storeAt_14 ?_
    exact G_iret hx hb hr hlocks hw hP hK hD hS dX7_storeAt_16
  · have hw := hw.2 c9
    refine lv_iload_n hx hb dX7_storeAt_7 rfl (lv_at hl 2 rfl) ?_
    refine S_calli (As := [.int a2]) (rest := []) ⟨hx, hb, hml, hown, hts⟩ (c_X7_isRegister l a2 _ hw) (va_cwS 1 hts gX7_storeAt_X7_isRegister rfl rfl rfl (by decide +kernel) ⟨Nat.le_of_ble_eq_true rfl, Nat.le_of_ble_eq_true rfl⟩) rfl hl.1 rfl (Nat.le_of_ble_eq_true rfl) dX7_storeAt_8 ⟨Nat.zero_le _, Nat.zero_le _⟩ (fun x2 hw => ?_)
    refine lv_if_ne (tgt := 17) hx hb dX7_storeAt_11 (by decide) (fun c9 => ?_) (fun c9 => ?_)
    · have hw := hw.1 c9
      refine lv_aload_n hx hb dX7_storeAt_17 rfl (lv_at hl 0 rfl) ?_
      refine lv_aload_n hx hb dX7_storeAt_18 rfl (lv_at hl 0 rfl) ?_
      refine lv_iload_n hx hb dX7_storeAt_19 rfl (lv_at hl 2 rfl) ?_
      refine G_calli (As := [.int a2]) (rest := [.ref (ad 0)]) ⟨hx, hb, hml, hown, hts⟩ hK hP hD hS 0 5 rfl rfl (c_X7_placeAt l D cI ad A σ a2 _ hw) (cwV 1 hts gX7_storeAt_X7_placeAt rfl rfl rfl (by decide +kernel) ⟨Nat.le_of_ble_eq_true rfl, Nat.le_of_ble_eq_true rfl⟩) rfl hl.1 rfl (Nat.le_of_ble_eq_true rfl) dX7_storeAt_20 ⟨Nat.zero_le _, Nat.zero_le _⟩ (fun x4 σ3 hw H locs hP hD hS => ?_)
      refine lv_aload_n hx hb dX7_storeAt_23 rfl (lv_at hl 0 rfl) ?_
      refine va_get (D := D) (ci := 5) (C := RX7) (T := TX7) (N := 12) hx hb hts hinX7 hown hK hP 0 rfl rfl 0 (by decide) (hts _ (List.mem_of_getElem? (i := 2) rfl)) (fun _ h9 => h9) rfl dX7_storeAt_24 ?_
      refine va_get (D := D) (ci := 3) (C := RX4) (T := TX4) (N := 2) hx hb hts hinX4 hown hK hP 1 rfl rfl 0 (by decide) (hts _ (List.mem_of_getElem? (i := 3) rfl)) (fun _ h9 => h9) rfl dX7_storeAt_27 ?_
      refine lv_iload_n hx hb dX7_storeAt_30 rfl (lv_at hl 1 rfl) ?_
      refine va_iald (D := D) hx hb hK hP 2 0 rfl rfl hw.1 dX7_storeAt_31 ?_
      have hw := hw.2
      refine G_callv (As := [.int x4, .int (σ3.2.1 0 a1.toNatClampNeg)]) (rest := []) ⟨hx, hb, hml, hown, hts⟩ hK hP hD hS 0 5 rfl rfl (c_X7_changeOctet l D cI ad A σ3 x4 (σ3.2.1 0 a1.toNatClampNeg) _ hw) (cwV 2 hts gX7_storeAt_X7_changeOctet rfl rfl rfl (by decide +kernel) ⟨Nat.le_of_ble_eq_true rfl, Nat.le_of_ble_eq_true rfl⟩) rfl hl.1 rfl (Nat.le_of_ble_eq_true rfl) dX7_storeAt_32 ⟨Nat.zero_le _, Nat.zero_le _⟩ (fun σ5 hw H locs hP hD hS => ?_)
      refine lv_aload_n hx hb dX7_storeAt_35 rfl (lv_at hl 0 rfl) ?_
      refine lv_bipush (v := 10) hx hb dX7_storeAt_36 (by decide) ?_
      refine lv_aload_n hx hb dX7_storeAt_38 rfl (lv_at hl 0 rfl) ?_
      refine lv_iload_n hx hb dX7_storeAt_39 rfl (lv_at hl 1 rfl) ?_
      refine G_calli (As := [.int a1]) (rest := [.int (10 : Int32), .ref (ad 0)]) ⟨hx, hb, hml, hown, hts⟩ hK hP hD hS 0 5 rfl rfl (c_X7_shadowOfRegister l D cI ad A σ5 a1 _ hw) (cwV 1 hts gX7_storeAt_X7_shadowOfRegister rfl rfl rfl (by decide +kernel) ⟨Nat.le_of_ble_eq_true rfl, Nat.le_of_ble_eq_true rfl⟩) rfl hl.1 rfl (Nat.le_of_ble_eq_true rfl) dX7_storeAt_40 ⟨Nat.zero_le _, Nat.zero_le _⟩ (fun x7 σ6 hw H locs hP hD hS => ?_)
      refine G_calli (As := [.int (10 : Int32), .int x7]) (rest := []) ⟨hx, hb, hml, hown, hts⟩ hK hP hD hS 0 5 rfl rfl (c_X7_tick l D cI ad A σ6 (10 : Int32) x7 _ hw) (cwV 2 hts gX7_storeAt_X7_tick rfl rfl rfl (by decide +kernel) ⟨Nat.le_of_ble_eq_true rfl, Nat.le_of_ble_eq_true rfl⟩) rfl hl.1 rfl (Nat.le_of_ble_eq_true rfl) dX7_storeAt_43 ⟨Nat.zero_le _, Nat.zero_le _⟩ (fun x9 σ8 hw H locs hP hD hS => ?_)
      exact G_iret hx hb hr hlocks hw hP hK hD hS dX7_storeAt_46
    · have hw := hw.2 c9
      refine lv_ldc (v := -1000000001) hx hb hown (hts _ (List.mem_of_getElem? (i := 1) rfl)) dX7_storeAt_14 ?_
      exact G_iret hx hb hr hlocks hw hP hK hD hS dX7_storeAt_16

def wp_X7_followRule (σ : St) (a1 : Int32) (a2 : Int32) (a3 : Int32) (a4 : Int32) (K : Int32 → St → Prop) : Prop :=
  vp_in a3 40 ∧ vp_in a4 40 ∧ wp_X6_cellBy a1 (σ.2.1 0 a3.toNatClampNeg) (σ.2.1 0 a4.toNatClampNeg) (fun x1 => wp_X7_changeRegister σ a2 x1 (fun σ2 => wp_X7_shadowOfRegister σ2 a2 (fun x4 σ3 => wp_X7_tick σ3 (4 : Int32) x4 (fun x6 σ5 => K x6 σ5))))
set_option maxHeartbeats 4000000 in
set_option maxRecDepth 100000 in
theorem c_X7_followRule (l : Launch) (D : va_G) (cI : ClassId) (ad : Nat → Nat) (A : Nat → Prop) (σ : St) (a1 : Int32) (a2 : Int32) (a3 : Int32) (a4 : Int32) (K : Int32 → St → Prop) (hw : wp_X7_followRule σ a1 a2 a3 a4 K) : Met l yX7_followRule wsX7_followRule ({ frames := 3, cells := 0, slots := 0, locals := 75 }) (va_Pc [.ref (ad 0), .int a1, .int a2, .int a3, .int a4] (GW D [(cI, FieldType.int)] (wC cI ad) A σ)) (va_Qi K (GW D [(cI, FieldType.int)] (wC cI ad) A) A) 0 0 A := by
  refine Met.ofW (cc := cX7_followRule) (maxL := 5) (ret := (some .int)) (by decide) rfl ?_
  intro p e s m args below meth c s₁ B hml hv
  obtain ⟨rfl, hP, hK, hD⟩ := hv
  have hx := B.exec
  have hb := B.bytes
  have hr := B.returns
  have hts := atoms_spec (ws := wsX7_followRule) B.pre
  have hown : s.vm.findClass RX7 = some m.cls := findClass_of_methodNamed B.named
  have hlocks := B.notSynchronized
  have hS : va_S A s.heap s.heap [] := va_S.rf
  have hinX1 : ∀ w ∈ wsX10, w ∈ wsX7_followRule := fun _ h => List.mem_cons_of_mem _ (List.mem_append_left _ (List.mem_append_right _ (h)))
  have hinX4 : ∀ w ∈ wsX40, w ∈ wsX7_followRule := fun _ h => List.mem_cons_of_mem _ (List.mem_append_left _ (List.mem_append_left _ (List.mem_append_right _ (h))))
  have hinX5 : ∀ w ∈ wsX50, w ∈ wsX7_followRule := fun _ h => List.mem_cons_of_mem _ (List.mem_append_right _ (h))
  have hinX7 : ∀ w ∈ wsX70, w ∈ wsX7_followRule := fun _ h => List.mem_cons_of_mem _ (List.mem_append_left _ (List.mem_append_left _ (List.mem_append_left _ (List.mem_append_right _ (h)))))
  have hl := lv_entry ([.ref (ad 0), .int a1, .int a2, .int a3, .int a4]) (n := 5) (Nat.le_of_ble_eq_true rfl)
  rw [lg_entry_eq]
  generalize (lg_sl ([.ref (ad 0), .int a1, .int a2, .int a3, .int a4]) ++ List.replicate (5 - (lg_sl ([.ref (ad 0), .int a1, .int a2, .int a3, .int a4])).length) Slot.unset).toArray = ls at hl ⊢
  have hl : lv_has ls 5 [(0, .ref (ad 0)), (1, .int a1), (2, .int a2), (3, .int a3), (4, .int a4)] := hl
  have hP : va_P D vwCl (wC cI ad σ) s.heap := hP
  refine lv_aload_n hx hb dX7_followRule_0 rfl (lv_at hl 0 rfl) ?_
  refine lv_iload_n hx hb dX7_followRule_1 rfl (lv_at hl 2 rfl) ?_
  refine lv_iload_n hx hb dX7_followRule_2 rfl (lv_at hl 1 rfl) ?_
  refine lv_aload_n hx hb dX7_followRule_3 rfl (lv_at hl 0 rfl) ?_
  refine va_get (D := D) (ci := 5) (C := RX7) (T := TX7) (N := 12) hx hb hts hinX7 hown hK hP 0 rfl rfl 0 (by decide) (hts _ (List.mem_of_getElem? (i := 1) rfl)) (fun _ h9 => h9) rfl dX7_followRule_4 ?_
  refine va_get (D := D) (ci := 3) (C := RX4) (T := TX4) (N := 2) hx hb hts hinX4 hown hK hP 1 rfl rfl 0 (by decide) (hts _ (List.mem_of_getElem? (i := 2) rfl)) (fun _ h9 => h9) rfl dX7_followRule_7 ?_
  refine lv_iload_n hx hb dX7_followRule_10 rfl (lv_at hl 3 rfl) ?_
  refine va_iald (D := D) hx hb hK hP 2 0 rfl rfl hw.1 dX7_followRule_11 ?_
  have hw := hw.2
  refine lv_aload_n hx hb dX7_followRule_12 rfl (lv_at hl 0 rfl) ?_
  refine va_get (D := D) (ci := 5) (C := RX7) (T := TX7) (N := 12) hx hb hts hinX7 hown hK hP 0 rfl rfl 0 (by decide) (hts _ (List.mem_of_getElem? (i := 1) rfl)) (fun _ h9 => h9) rfl dX7_followRule_13 ?_
  refine va_get (D := D) (ci := 3) (C := RX4) (T := TX4) (N := 2) hx hb hts hinX4 hown hK hP 1 rfl rfl 0 (by decide) (hts _ (List.mem_of_getElem? (i := 2) rfl)) (fun _ h9 => h9) rfl dX7_followRule_16 ?_
  refine lv_iload hx hb dX7_followRule_19 (lv_at hl 4 rfl) ?_
  refine va_iald (D := D) hx hb hK hP 2 0 rfl rfl hw.1 dX7_followRule_21 ?_
  have hw := hw.2
  refine S_calli (As := [.int a1, .int (σ.2.1 0 a3.toNatClampNeg), .int (σ.2.1 0 a4.toNatClampNeg)]) (rest := [.int a2, .ref (ad 0)]) ⟨hx, hb, hml, hown, hts⟩ (c_X6_cellBy l a1 (σ.2.1 0 a3.toNatClampNeg) (σ.2.1 0 a4.toNatClampNeg) _ hw) (va_cwS 3 hts gX7_followRule_X6_cellBy rfl rfl rfl (by decide +kernel) ⟨Nat.le_of_ble_eq_true rfl, Nat.le_of_ble_eq_true rfl⟩) rfl hl.1 rfl (Nat.le_of_ble_eq_true rfl) dX7_followRule_22 ⟨Nat.zero_le _, Nat.zero_le _⟩ (fun x1 hw => ?_)
  refine G_callv (As := [.int a2, .int x1]) (rest := []) ⟨hx, hb, hml, hown, hts⟩ hK hP hD hS 0 5 rfl rfl (c_X7_changeRegister l D cI ad A σ a2 x1 _ hw) (cwV 2 hts gX7_followRule_X7_changeRegister rfl rfl rfl (by decide +kernel) ⟨Nat.le_of_ble_eq_true rfl, Nat.le_of_ble_eq_true rfl⟩) rfl hl.1 rfl (Nat.le_of_ble_eq_true rfl) dX7_followRule_25 ⟨Nat.zero_le _, Nat.zero_le _⟩ (fun σ2 hw H locs hP hD hS => ?_)
  refine lv_aload_n hx hb dX7_followRule_28 rfl (lv_at hl 0 rfl) ?_
  refine lv_iconst (v := 4) hx hb dX7_followRule_29 (by decide) ?_
  refine lv_aload_n hx hb dX7_followRule_30 rfl (lv_at hl 0 rfl) ?_
  refine lv_iload_n hx hb dX7_followRule_31 rfl (lv_at hl 2 rfl) ?_
  refine G_calli (As := [.int a2]) (rest := [.int (4 : Int32), .ref (ad 0)]) ⟨hx, hb, hml, hown, hts⟩ hK hP hD hS 0 5 rfl rfl (c_X7_shadowOfRegister l D cI ad A σ2 a2 _ hw) (cwV 1 hts gX7_followRule_X7_shadowOfRegister rfl rfl rfl (by decide +kernel) ⟨Nat.le_of_ble_eq_true rfl, Nat.le_of_ble_eq_true rfl⟩) rfl hl.1 rfl (Nat.le_of_ble_eq_true rfl) dX7_followRule_32 ⟨Nat.zero_le _, Nat.zero_le _⟩ (fun x4 σ3 hw H locs hP hD hS => ?_)
  refine G_calli (As := [.int (4 : Int32), .int x4]) (rest := []) ⟨hx, hb, hml, hown, hts⟩ hK hP hD hS 0 5 rfl rfl (c_X7_tick l D cI ad A σ3 (4 : Int32) x4 _ hw) (cwV 2 hts gX7_followRule_X7_tick rfl rfl rfl (by decide +kernel) ⟨Nat.le_of_ble_eq_true rfl, Nat.le_of_ble_eq_true rfl⟩) rfl hl.1 rfl (Nat.le_of_ble_eq_true rfl) dX7_followRule_35 ⟨Nat.zero_le _, Nat.zero_le _⟩ (fun x6 σ5 hw H locs hP hD hS => ?_)
  exact G_iret hx hb hr hlocks hw hP hK hD hS dX7_followRule_38

def wp_X7_rule (σ : St) (a1 : Int32) (a2 : Int32) (a3 : Int32) (a4 : Int32) (K : Int32 → St → Prop) : Prop :=
  wp_X7_isRegister a2 (fun x1 => ((x1 = 0 → K (-1000000001 : Int32) σ) ∧ (¬ x1 = 0 → wp_X7_isRegister a3 (fun x2 => ((x2 = 0 → K (-1000000001 : Int32) σ) ∧ (¬ x2 = 0 → wp_X7_isRegister a4 (fun x3 => ((¬ x3 = 0 → wp_X7_isSort a1 (fun x4 => ((¬ x4 = 0 → vp_in a3 40 ∧ vp_in a4 40 ∧ wp_X6_slackOf a1 (σ.2.1 0 a3.toNatClampNeg) (σ.2.1 0 a4.toNatClampNeg) (fun x5 => ∀ σ6 : St, σ6 = sI σ 14 ((σ.1 14) + x5) → wp_X7_followRule σ6 a1 a2 a3 a4 (fun x8 σ7 => K x8 σ7))) ∧ (x4 = 0 → K (-1000000002 : Int32) σ)))) ∧ (x3 = 0 → K (-1000000001 : Int32) σ)))))))))
set_option maxHeartbeats 4000000 in
set_option maxRecDepth 100000 in
theorem c_X7_rule (l : Launch) (D : va_G) (cI : ClassId) (ad : Nat → Nat) (A : Nat → Prop) (σ : St) (a1 : Int32) (a2 : Int32) (a3 : Int32) (a4 : Int32) (K : Int32 → St → Prop) (hw : wp_X7_rule σ a1 a2 a3 a4 K) : Met l yX7_rule wsX7_rule ({ frames := 4, cells := 0, slots := 0, locals := 100 }) (va_Pc [.ref (ad 0), .int a1, .int a2, .int a3, .int a4] (GW D [(cI, FieldType.int)] (wC cI ad) A σ)) (va_Qi K (GW D [(cI, FieldType.int)] (wC cI ad) A) A) 0 0 A := by
  refine Met.ofW (cc := cX7_rule) (maxL := 5) (ret := (some .int)) (by decide) rfl ?_
  intro p e s m args below meth c s₁ B hml hv
  obtain ⟨rfl, hP, hK, hD⟩ := hv
  have hx := B.exec
  have hb := B.bytes
  have hr := B.returns
  have hts := atoms_spec (ws := wsX7_rule) B.pre
  have hown : s.vm.findClass RX7 = some m.cls := findClass_of_methodNamed B.named
  have hlocks := B.notSynchronized
  have hS : va_S A s.heap s.heap [] := va_S.rf
  have hinX1 : ∀ w ∈ wsX10, w ∈ wsX7_rule := fun _ h => List.mem_cons_of_mem _ (List.mem_append_left _ (List.mem_append_right _ (h)))
  have hinX4 : ∀ w ∈ wsX40, w ∈ wsX7_rule := fun _ h => List.mem_cons_of_mem _ (List.mem_append_left _ (List.mem_append_left _ (List.mem_append_right _ (h))))
  have hinX5 : ∀ w ∈ wsX50, w ∈ wsX7_rule := fun _ h => List.mem_cons_of_mem _ (List.mem_append_right _ (h))
  have hinX7 : ∀ w ∈ wsX70, w ∈ wsX7_rule := fun _ h => List.mem_cons_of_mem _ (List.mem_append_left _ (List.mem_append_left _ (List.mem_append_left _ (List.mem_append_right _ (h)))))
  have hl := lv_entry ([.ref (ad 0), .int a1, .int a2, .int a3, .int a4]) (n := 5) (Nat.le_of_ble_eq_true rfl)
  rw [lg_entry_eq]
  generalize (lg_sl ([.ref (ad 0), .int a1, .int a2, .int a3, .int a4]) ++ List.replicate (5 - (lg_sl ([.ref (ad 0), .int a1, .int a2, .int a3, .int a4])).length) Slot.unset).toArray = ls at hl ⊢
  have hl : lv_has ls 5 [(0, .ref (ad 0)), (1, .int a1), (2, .int a2), (3, .int a3), (4, .int a4)] := hl
  have hP : va_P D vwCl (wC cI ad σ) s.heap := hP
  refine lv_iload_n hx hb dX7_rule_0 rfl (lv_at hl 2 rfl) ?_
  refine S_calli (As := [.int a2]) (rest := []) ⟨hx, hb, hml, hown, hts⟩ (c_X7_isRegister l a2 _ hw) (va_cwS 1 hts gX7_rule_X7_isRegister rfl rfl rfl (by decide +kernel) ⟨Nat.le_of_ble_eq_true rfl, Nat.le_of_ble_eq_true rfl⟩) rfl hl.1 rfl (Nat.le_of_ble_eq_true rfl) dX7_rule_1 ⟨Nat.zero_le _, Nat.zero_le _⟩ (fun x1 hw => ?_)
  refine lv_if_eq (tgt := 22) hx hb dX7_rule_4 (by decide) (fun c9 => ?_) (fun c9 => ?_)
  · have hw := hw.1 c9
    refine lv_ldc (v := -1000000001) hx hb hown (hts _ (List.mem_of_getElem? (i := 1) rfl)) dX7_rule_22 ?_
    exact G_iret hx hb hr hlocks hw hP hK hD hS dX7_rule_24
  · have hw := hw.2 c9
    refine lv_iload_n hx hb dX7_rule_7 rfl (lv_at hl 3 rfl) ?_
    refine S_calli (As := [.int a3]) (rest := []) ⟨hx, hb, hml, hown, hts⟩ (c_X7_isRegister l a3 _ hw) (va_cwS 1 hts gX7_rule_X7_isRegister rfl rfl rfl (by decide +kernel) ⟨Nat.le_of_ble_eq_true rfl, Nat.le_of_ble_eq_true rfl⟩) rfl hl.1 rfl (Nat.le_of_ble_eq_true rfl) dX7_rule_8 ⟨Nat.zero_le _, Nat.zero_le _⟩ (fun x2 hw => ?_)
    refine lv_if_eq (tgt := 22) hx hb dX7_rule_11 (by decide) (fun c9 => ?_) (fun c9 => ?_)
    · have hw := hw.1 c9
      refine lv_ldc (v := -1000000001) hx hb hown (hts _ (List.mem_of_getElem? (i := 1) rfl)) dX7_rule_22 ?_
      exact G_iret hx hb hr hlocks hw hP hK hD hS dX7_rule_24
    · have hw := hw.2 c9
      refine lv_iload hx hb dX7_rule_14 (lv_at hl 4 rfl) ?_
      refine S_calli (As := [.int a4]) (rest := []) ⟨hx, hb, hml, hown, hts⟩ (c_X7_isRegister l a4 _ hw) (va_cwS 1 hts gX7_rule_X7_isRegister rfl rfl rfl (by decide +kernel) ⟨Nat.le_of_ble_eq_true rfl, Nat.le_of_ble_eq_true rfl⟩) rfl hl.1 rfl (Nat.le_of_ble_eq_true rfl) dX7_rule_16 ⟨Nat.zero_le _, Nat.zero_le _⟩ (fun x3 hw => ?_)
      refine lv_if_ne (tgt := 25) hx hb dX7_rule_19 (by decide) (fun c9 => ?_) (fun c9 => ?_)
      · have hw := hw.1 c9
        refine lv_iload_n hx hb dX7_rule_25 rfl (lv_at hl 1 rfl) ?_
        refine S_calli (As := [.int a1]) (rest := []) ⟨hx, hb, hml, hown, hts⟩ (c_X7_isSort l a1 _ hw) (va_cwS 1 hts gX7_rule_X7_isSort rfl rfl rfl (by decide +kernel) ⟨Nat.le_of_ble_eq_true rfl, Nat.le_of_ble_eq_true rfl⟩) rfl hl.1 rfl (Nat.le_of_ble_eq_true rfl) dX7_rule_26 ⟨Nat.zero_le _, Nat.zero_le _⟩ (fun x4 hw => ?_)
        refine lv_if_ne (tgt := 35) hx hb dX7_rule_29 (by decide) (fun c9 => ?_) (fun c9 => ?_)
        · have hw := hw.1 c9
          refine lv_aload_n hx hb dX7_rule_35 rfl (lv_at hl 0 rfl) ?_
          refine lv_dup hx hb dX7_rule_36 rfl ?_
          refine va_get (D := D) (ci := 5) (C := RX7) (T := TX7) (N := 12) hx hb hts hinX7 hown hK hP 0 rfl rfl 10 (by decide) (hts _ (List.mem_of_getElem? (i := 3) rfl)) (fun _ h9 => h9) rfl dX7_rule_37 ?_
          refine lv_iload_n hx hb dX7_rule_40 rfl (lv_at hl 1 rfl) ?_
          refine lv_aload_n hx hb dX7_rule_41 rfl (lv_at hl 0 rfl) ?_
          refine va_get (D := D) (ci := 5) (C := RX7) (T := TX7) (N := 12) hx hb hts hinX7 hown hK hP 0 rfl rfl 0 (by decide) (hts _ (List.mem_of_getElem? (i := 4) rfl)) (fun _ h9 => h9) rfl dX7_rule_42 ?_
          refine va_get (D := D) (ci := 3) (C := RX4) (T := TX4) (N := 2) hx hb hts hinX4 hown hK hP 1 rfl rfl 0 (by decide) (hts _ (List.mem_of_getElem? (i := 5) rfl)) (fun _ h9 => h9) rfl dX7_rule_45 ?_
          refine lv_iload_n hx hb dX7_rule_48 rfl (lv_at hl 3 rfl) ?_
          refine va_iald (D := D) hx hb hK hP 2 0 rfl rfl hw.1 dX7_rule_49 ?_
          have hw := hw.2
          refine lv_aload_n hx hb dX7_rule_50 rfl (lv_at hl 0 rfl) ?_
          refine va_get (D := D) (ci := 5) (C := RX7) (T := TX7) (N := 12) hx hb hts hinX7 hown hK hP 0 rfl rfl 0 (by decide) (hts _ (List.mem_of_getElem? (i := 4) rfl)) (fun _ h9 => h9) rfl dX7_rule_51 ?_
          refine va_get (D := D) (ci := 3) (C := RX4) (T := TX4) (N := 2) hx hb hts hinX4 hown hK hP 1 rfl rfl 0 (by decide) (hts _ (List.mem_of_getElem? (i := 5) rfl)) (fun _ h9 => h9) rfl dX7_rule_54 ?_
          refine lv_iload hx hb dX7_rule_57 (lv_at hl 4 rfl) ?_
          refine va_iald (D := D) hx hb hK hP 2 0 rfl rfl hw.1 dX7_rule_59 ?_
          have hw := hw.2
          refine S_calli (As := [.int a1, .int (σ.2.1 0 a3.toNatClampNeg), .int (σ.2.1 0 a4.toNatClampNeg)]) (rest := [.int (σ.1 14), .ref (ad 0)]) ⟨hx, hb, hml, hown, hts⟩ (c_X6_slackOf l a1 (σ.2.1 0 a3.toNatClampNeg) (σ.2.1 0 a4.toNatClampNeg) _ hw) (va_cwS 3 hts gX7_rule_X6_slackOf rfl rfl rfl (by decide +kernel) ⟨Nat.le_of_ble_eq_true rfl, Nat.le_of_ble_eq_true rfl⟩) rfl hl.1 rfl (Nat.le_of_ble_eq_true rfl) dX7_rule_60 ⟨Nat.zero_le _, Nat.zero_le _⟩ (fun x5 hw => ?_)
          refine lv_iadd hx hb dX7_rule_63 ?_
          refine va_put (D := D) (ci := 5) (ty := .int) (C := RX7) (T := TX7) (N := 12) hx hb hts hinX7 tyX7 tyX7_ok nmX7 hown hK hP hD hS 0 rfl rfl 10 (by decide) (hts _ (List.mem_of_getElem? (i := 3) rfl)) (fun _ h9 => h9) rfl (by decide +kernel) rfl rfl (Nat.le_of_ble_eq_true rfl) dX7_rule_64 (fun H locs hP hD hS => ?_)
          obtain ⟨σ6, eσ6⟩ : ∃ z : St, z = sI σ 14 ((σ.1 14) + x5) := ⟨_, rfl⟩
          have hP : va_P D vwCl (wC cI ad σ6) H := by rw [eσ6]; exact hP
          have hD : va_D A (wC cI ad σ6) := by rw [eσ6]; exact hD
          have hw := hw σ6 eσ6
          refine lv_aload_n hx hb dX7_rule_67 rfl (lv_at hl 0 rfl) ?_
          refine lv_iload_n hx hb dX7_rule_68 rfl (lv_at hl 1 rfl) ?_
          refine lv_iload_n hx hb dX7_rule_69 rfl (lv_at hl 2 rfl) ?_
          refine lv_iload_n hx hb dX7_rule_70 rfl (lv_at hl 3 rfl) ?_
          refine lv_iload hx hb dX7_rule_71 (lv_at hl 4 rfl) ?_
          refine G_calli (As := [.int a1, .int a2, .int a3, .int a4]) (rest := []) ⟨hx, hb, hml, hown, hts⟩ hK hP hD hS 0 5 rfl rfl (c_X7_followRule l D cI ad A σ6 a1 a2 a3 a4 _ hw) (cwV 4 hts gX7_rule_X7_followRule rfl rfl rfl (by decide +kernel) ⟨Nat.le_of_ble_eq_true rfl, Nat.le_of_ble_eq_true rfl⟩) rfl hl.1 rfl (Nat.le_of_ble_eq_true rfl) dX7_rule_73 ⟨Nat.zero_le _, Nat.zero_le _⟩ (fun x8 σ7 hw H locs hP hD hS => ?_)
          exact G_iret hx hb hr hlocks hw hP hK hD hS dX7_rule_76
        · have hw := hw.2 c9
          refine lv_ldc (v := -1000000002) hx hb hown (hts _ (List.mem_of_getElem? (i := 2) rfl)) dX7_rule_32 ?_
          exact G_iret hx hb hr hlocks hw hP hK hD hS dX7_rule_34
      · have hw := hw.2 c9
        refine lv_ldc (v := -1000000001) hx hb hown (hts _ (List.mem_of_getElem? (i := 1) rfl)) dX7_rule_22 ?_
        exact G_iret hx hb hr hlocks hw hP hK hD hS dX7_rule_24

def wp_X7_decide (σ : St) (a1 : Int32) (K : Int32 → St → Prop) : Prop :=
  wp_X7_isRegister a1 (fun x1 => ((¬ x1 = 0 → vp_in a1 40 ∧ ∀ x2 : Int32, x2 = σ.2.1 0 a1.toNatClampNeg → wp_X0_isDecided x2 (fun x3 => ((¬ x3 = 0 → wp_X0_valueOf x2 (fun x4 => ((x4 = 0 → wp_X7_tick σ (5 : Int32) (0 : Int32) (fun x6 σ5 => K x6 σ5)) ∧ (¬ x4 = 0 → wp_X7_tick σ (5 : Int32) (1 : Int32) (fun x8 σ7 => K x8 σ7))))) ∧ (x3 = 0 → wp_X0_fromOf x2 (fun x9 => wp_X2_add_11 σ (0 : Int32) (σ.1 13) x9 (fun σ10 => wp_X0_valueOf x2 (fun x11 => ((x11 = 0 → wp_X7_tick σ10 (5 : Int32) (0 : Int32) (fun x13 σ12 => K x13 σ12)) ∧ (¬ x11 = 0 → wp_X7_tick σ10 (5 : Int32) (1 : Int32) (fun x15 σ14 => K x15 σ14)))))))))) ∧ (x1 = 0 → K (-1000000001 : Int32) σ)))
set_option maxHeartbeats 4000000 in
set_option maxRecDepth 100000 in
theorem c_X7_decide (l : Launch) (D : va_G) (cI : ClassId) (ad : Nat → Nat) (A : Nat → Prop) (σ : St) (a1 : Int32) (K : Int32 → St → Prop) (hw : wp_X7_decide σ a1 K) : Met l yX7_decide wsX7_decide ({ frames := 3, cells := 0, slots := 0, locals := 66 }) (va_Pc [.ref (ad 0), .int a1] (GW D [(cI, FieldType.int)] (wC cI ad) A σ)) (va_Qi K (GW D [(cI, FieldType.int)] (wC cI ad) A) A) 0 0 A := by
  refine Met.ofW (cc := cX7_decide) (maxL := 3) (ret := (some .int)) (by decide) rfl ?_
  intro p e s m args below meth c s₁ B hml hv
  obtain ⟨rfl, hP, hK, hD⟩ := hv
  have hx := B.exec
  have hb := B.bytes
  have hr := B.returns
  have hts := atoms_spec (ws := wsX7_decide) B.pre
  have hown : s.vm.findClass RX7 = some m.cls := findClass_of_methodNamed B.named
  have hlocks := B.notSynchronized
  have hS : va_S A s.heap s.heap [] := va_S.rf
  have hinX2 : ∀ w ∈ wsX20, w ∈ wsX7_decide := fun _ h => List.mem_cons_of_mem _ (List.mem_append_left _ (List.mem_append_right _ (h)))
  have hinX4 : ∀ w ∈ wsX40, w ∈ wsX7_decide := fun _ h => List.mem_cons_of_mem _ (List.mem_append_left _ (List.mem_append_left _ (List.mem_append_right _ (h))))
  have hinX5 : ∀ w ∈ wsX50, w ∈ wsX7_decide := fun _ h => List.mem_cons_of_mem _ (List.mem_append_right _ (h))
  have hinX7 : ∀ w ∈ wsX70, w ∈ wsX7_decide := fun _ h => List.mem_cons_of_mem _ (List.mem_append_left _ (List.mem_append_left _ (List.mem_append_left _ (List.mem_append_right _ (h)))))
  have hl := lv_entry ([.ref (ad 0), .int a1]) (n := 3) (Nat.le_of_ble_eq_true rfl)
  rw [lg_entry_eq]
  generalize (lg_sl ([.ref (ad 0), .int a1]) ++ List.replicate (3 - (lg_sl ([.ref (ad 0), .int a1])).length) Slot.unset).toArray = ls at hl ⊢
  have hl : lv_has ls 3 [(0, .ref (ad 0)), (1, .int a1)] := hl
  have hP : va_P D vwCl (wC cI ad σ) s.heap := hP
  refine lv_iload_n hx hb dX7_decide_0 rfl (lv_at hl 1 rfl) ?_
  refine S_calli (As := [.int a1]) (rest := []) ⟨hx, hb, hml, hown, hts⟩ (c_X7_isRegister l a1 _ hw) (va_cwS 1 hts gX7_decide_X7_isRegister rfl rfl rfl (by decide +kernel) ⟨Nat.le_of_ble_eq_true rfl, Nat.le_of_ble_eq_true rfl⟩) rfl hl.1 rfl (Nat.le_of_ble_eq_true rfl) dX7_decide_1 ⟨Nat.zero_le _, Nat.zero_le _⟩ (fun x1 hw => ?_)
  refine lv_if_ne (tgt := 10) hx hb dX7_decide_4 (by decide) (fun c9 => ?_) (fun c9 => ?_)
  · have hw := hw.1 c9
    refine lv_aload_n hx hb dX7_decide_10 rfl (lv_at hl 0 rfl) ?_
    refine va_get (D := D) (ci := 5) (C := RX7) (T := TX7) (N := 12) hx hb hts hinX7 hown hK hP 0 rfl rfl 0 (by decide) (hts _ (List.mem_of_getElem? (i := 2) rfl)) (fun _ h9 => h9) rfl dX7_decide_11 ?_
    refine va_get (D := D) (ci := 3) (C := RX4) (T := TX4) (N := 2) hx hb hts hinX4 hown hK hP 1 rfl rfl 0 (by decide) (hts _ (List.mem_of_getElem? (i := 3) rfl)) (fun _ h9 => h9) rfl dX7_decide_14 ?_
    refine lv_iload_n hx hb dX7_decide_17 rfl (lv_at hl 1 rfl) ?_
    refine va_iald (D := D) hx hb hK hP 2 0 rfl rfl hw.1 dX7_decide_18 ?_
    have hw := hw.2
    refine lv_topi (fun x2 ex2 => ?_)
    have hw := hw x2 ex2
    refine lv_istore_n (lv' := [(2, .int x2), (0, .ref (ad 0)), (1, .int a1)]) hx hb dX7_decide_19 rfl hl (by decide) rfl (fun ls hl => ?_)
    refine lv_iload_n hx hb dX7_decide_20 rfl (lv_at hl 0 rfl) ?_
    refine S_calli (As := [.int x2]) (rest := []) ⟨hx, hb, hml, hown, hts⟩ (c_X0_isDecided l x2 _ hw) (va_cwS 1 hts gX7_decide_X0_isDecided rfl rfl rfl (by decide +kernel) ⟨Nat.le_of_ble_eq_true rfl, Nat.le_of_ble_eq_true rfl⟩) rfl hl.1 rfl (Nat.le_of_ble_eq_true rfl) dX7_decide_21 ⟨Nat.zero_le _, Nat.zero_le _⟩ (fun x3 hw => ?_)
    refine lv_if_ne (tgt := 43) hx hb dX7_decide_24 (by decide) (fun c9 => ?_) (fun c9 => ?_)
    · have hw := hw.1 c9
      refine lv_aload_n hx hb dX7_decide_43 rfl (lv_at hl 1 rfl) ?_
      refine lv_iconst (v := 5) hx hb dX7_decide_44 (by decide) ?_
      refine lv_iload_n hx hb dX7_decide_45 rfl (lv_at hl 0 rfl) ?_
      refine S_calli (As := [.int x2]) (rest := [.int (5 : Int32), .ref (ad 0)]) ⟨hx, hb, hml, hown, hts⟩ (c_X0_valueOf l x2 _ hw) (va_cwS 1 hts gX7_decide_X0_valueOf rfl rfl rfl (by decide +kernel) ⟨Nat.le_of_ble_eq_true rfl, Nat.le_of_ble_eq_true rfl⟩) rfl hl.1 rfl (Nat.le_of_ble_eq_true rfl) dX7_decide_46 ⟨Nat.zero_le _, Nat.zero_le _⟩ (fun x4 hw => ?_)
      refine lv_if_eq (tgt := 56) hx hb dX7_decide_49 (by decide) (fun c9 => ?_) (fun c9 => ?_)
      · have hw := hw.1 c9
        refine lv_iconst (v := 0) hx hb dX7_decide_56 (by decide) ?_
        refine G_calli (As := [.int (5 : Int32), .int (0 : Int32)]) (rest := []) ⟨hx, hb, hml, hown, hts⟩ hK hP hD hS 0 5 rfl rfl (c_X7_tick l D cI ad A σ (5 : Int32) (0 : Int32) _ hw) (cwV 2 hts gX7_decide_X7_tick rfl rfl rfl (by decide +kernel) ⟨Nat.le_of_ble_eq_true rfl, Nat.le_of_ble_eq_true rfl⟩) rfl hl.1 rfl (Nat.le_of_ble_eq_true rfl) dX7_decide_57 ⟨Nat.zero_le _, Nat.zero_le _⟩ (fun x6 σ5 hw H locs hP hD hS => ?_)
        exact G_iret hx hb hr hlocks hw hP hK hD hS dX7_decide_60
      · have hw := hw.2 c9
        refine lv_iconst (v := 1) hx hb dX7_decide_52 (by decide) ?_
        refine lv_goto (tgt := 57) hx hb dX7_decide_53 (by decide) ?_
        refine G_calli (As := [.int (5 : Int32), .int (1 : Int32)]) (rest := []) ⟨hx, hb, hml, hown, hts⟩ hK hP hD hS 0 5 rfl rfl (c_X7_tick l D cI ad A σ (5 : Int32) (1 : Int32) _ hw) (cwV 2 hts gX7_decide_X7_tick rfl rfl rfl (by decide +kernel) ⟨Nat.le_of_ble_eq_true rfl, Nat.le_of_ble_eq_true rfl⟩) rfl hl.1 rfl (Nat.le_of_ble_eq_true rfl) dX7_decide_57 ⟨Nat.zero_le _, Nat.zero_le _⟩ (fun x8 σ7 hw H locs hP hD hS => ?_)
        exact G_iret hx hb hr hlocks hw hP hK hD hS dX7_decide_60
    · have hw := hw.2 c9
      refine lv_aload_n hx hb dX7_decide_27 rfl (lv_at hl 1 rfl) ?_
      refine va_get (D := D) (ci := 5) (C := RX7) (T := TX7) (N := 12) hx hb hts hinX7 hown hK hP 0 rfl rfl 4 (by decide) (hts _ (List.mem_of_getElem? (i := 4) rfl)) (fun _ h9 => h9) rfl dX7_decide_28 ?_
      refine lv_iconst (v := 0) hx hb dX7_decide_31 (by decide) ?_
      refine lv_aload_n hx hb dX7_decide_32 rfl (lv_at hl 1 rfl) ?_
      refine va_get (D := D) (ci := 5) (C := RX7) (T := TX7) (N := 12) hx hb hts hinX7 hown hK hP 0 rfl rfl 9 (by decide) (hts _ (List.mem_of_getElem? (i := 5) rfl)) (fun _ h9 => h9) rfl dX7_decide_33 ?_
      refine lv_iload_n hx hb dX7_decide_36 rfl (lv_at hl 0 rfl) ?_
      refine S_calli (As := [.int x2]) (rest := [.int (σ.1 13), .int (0 : Int32), .ref (ad 11)]) ⟨hx, hb, hml, hown, hts⟩ (c_X0_fromOf l x2 _ hw) (va_cwS 1 hts gX7_decide_X0_fromOf rfl rfl rfl (by decide +kernel) ⟨Nat.le_of_ble_eq_true rfl, Nat.le_of_ble_eq_true rfl⟩) rfl hl.1 rfl (Nat.le_of_ble_eq_true rfl) dX7_decide_37 ⟨Nat.zero_le _, Nat.zero_le _⟩ (fun x9 hw => ?_)
      refine G_callv (As := [.int (0 : Int32), .int (σ.1 13), .int x9]) (rest := []) ⟨hx, hb, hml, hown, hts⟩ hK hP hD hS 11 1 rfl rfl (c_X2_add_11 l D cI ad A σ (0 : Int32) (σ.1 13) x9 _ hw) (cwV 3 hts gX7_decide_X2_add rfl rfl rfl (by decide +kernel) ⟨Nat.le_of_ble_eq_true rfl, Nat.le_of_ble_eq_true rfl⟩) rfl hl.1 rfl (Nat.le_of_ble_eq_true rfl) dX7_decide_40 ⟨Nat.zero_le _, Nat.zero_le _⟩ (fun σ10 hw H locs hP hD hS => ?_)
      refine lv_aload_n hx hb dX7_decide_43 rfl (lv_at hl 1 rfl) ?_
      refine lv_iconst (v := 5) hx hb dX7_decide_44 (by decide) ?_
      refine lv_iload_n hx hb dX7_decide_45 rfl (lv_at hl 0 rfl) ?_
      refine S_calli (As := [.int x2]) (rest := [.int (5 : Int32), .ref (ad 0)]) ⟨hx, hb, hml, hown, hts⟩ (c_X0_valueOf l x2 _ hw) (va_cwS 1 hts gX7_decide_X0_valueOf rfl rfl rfl (by decide +kernel) ⟨Nat.le_of_ble_eq_true rfl, Nat.le_of_ble_eq_true rfl⟩) rfl hl.1 rfl (Nat.le_of_ble_eq_true rfl) dX7_decide_46 ⟨Nat.zero_le _, Nat.zero_le _⟩ (fun x11 hw => ?_)
      refine lv_if_eq (tgt := 56) hx hb dX7_decide_49 (by decide) (fun c9 => ?_) (fun c9 => ?_)
      · have hw := hw.1 c9
        refine lv_iconst (v := 0) hx hb dX7_decide_56 (by decide) ?_
        refine G_calli (As := [.int (5 : Int32), .int (0 : Int32)]) (rest := []) ⟨hx, hb, hml, hown, hts⟩ hK hP hD hS 0 5 rfl rfl (c_X7_tick l D cI ad A σ10 (5 : Int32) (0 : Int32) _ hw) (cwV 2 hts gX7_decide_X7_tick rfl rfl rfl (by decide +kernel) ⟨Nat.le_of_ble_eq_true rfl, Nat.le_of_ble_eq_true rfl⟩) rfl hl.1 rfl (Nat.le_of_ble_eq_true rfl) dX7_decide_57 ⟨Nat.zero_le _, Nat.zero_le _⟩ (fun x13 σ12 hw H locs hP hD hS => ?_)
        exact G_iret hx hb hr hlocks hw hP hK hD hS dX7_decide_60
      · have hw := hw.2 c9
        refine lv_iconst (v := 1) hx hb dX7_decide_52 (by decide) ?_
        refine lv_goto (tgt := 57) hx hb dX7_decide_53 (by decide) ?_
        refine G_calli (As := [.int (5 : Int32), .int (1 : Int32)]) (rest := []) ⟨hx, hb, hml, hown, hts⟩ hK hP hD hS 0 5 rfl rfl (c_X7_tick l D cI ad A σ10 (5 : Int32) (1 : Int32) _ hw) (cwV 2 hts gX7_decide_X7_tick rfl rfl rfl (by decide +kernel) ⟨Nat.le_of_ble_eq_true rfl, Nat.le_of_ble_eq_true rfl⟩) rfl hl.1 rfl (Nat.le_of_ble_eq_true rfl) dX7_decide_57 ⟨Nat.zero_le _, Nat.zero_le _⟩ (fun x15 σ14 hw H locs hP hD hS => ?_)
        exact G_iret hx hb hr hlocks hw hP hK hD hS dX7_decide_60
  · have hw := hw.2 c9
    refine lv_ldc (v := -1000000001) hx hb hown (hts _ (List.mem_of_getElem? (i := 1) rfl)) dX7_decide_7 ?_
    exact G_iret hx hb hr hlocks hw hP hK hD hS dX7_decide_9

def wp_X3_isLet_7 (σ : St) (a1 : Int32) (K : Int32 → St → Prop) : Prop :=
  (((((σ.1 4) >>> (a1 &&& 31)) &&& (1 : Int32)) = 0 → K (0 : Int32) σ) ∧ (¬ (((σ.1 4) >>> (a1 &&& 31)) &&& (1 : Int32)) = 0 → K (1 : Int32) σ))
set_option maxHeartbeats 4000000 in
set_option maxRecDepth 100000 in
theorem c_X3_isLet_7 (l : Launch) (D : va_G) (cI : ClassId) (ad : Nat → Nat) (A : Nat → Prop) (σ : St) (a1 : Int32) (K : Int32 → St → Prop) (hw : wp_X3_isLet_7 σ a1 K) : Met l yX3_isLet wsX3_isLet ({ frames := 0, cells := 0, slots := 0, locals := 0 }) (va_Pc [.ref (ad 7), .int a1] (GW D [(cI, FieldType.int)] (wC cI ad) A σ)) (va_Qi K (GW D [(cI, FieldType.int)] (wC cI ad) A) A) 0 0 A := by
  refine Met.ofW (cc := cX3_isLet) (maxL := 2) (ret := (some .boolean)) (by decide) rfl ?_
  intro p e s m args below meth c s₁ B hml hv
  obtain ⟨rfl, hP, hK, hD⟩ := hv
  have hx := B.exec
  have hb := B.bytes
  have hr := B.returns
  have hts := atoms_spec (ws := wsX3_isLet) B.pre
  have hown : s.vm.findClass RX3 = some m.cls := findClass_of_methodNamed B.named
  have hlocks := B.notSynchronized
  have hS : va_S A s.heap s.heap [] := va_S.rf
  have hinX3 : ∀ w ∈ wsX30, w ∈ wsX3_isLet := fun _ h => List.mem_cons_of_mem _ (List.mem_append_right _ (h))
  have hl := lv_entry ([.ref (ad 7), .int a1]) (n := 2) (Nat.le_of_ble_eq_true rfl)
  rw [lg_entry_eq]
  generalize (lg_sl ([.ref (ad 7), .int a1]) ++ List.replicate (2 - (lg_sl ([.ref (ad 7), .int a1])).length) Slot.unset).toArray = ls at hl ⊢
  have hl : lv_has ls 2 [(0, .ref (ad 7)), (1, .int a1)] := hl
  have hP : va_P D vwCl (wC cI ad σ) s.heap := hP
  refine lv_aload_n hx hb dX3_isLet_0 rfl (lv_at hl 0 rfl) ?_
  refine va_get (D := D) (ci := 2) (C := RX3) (T := TX3) (N := 5) hx hb hts hinX3 hown hK hP 7 rfl rfl 4 (by decide) (hts _ (List.mem_of_getElem? (i := 1) rfl)) (fun _ h9 => h9) rfl dX3_isLet_1 ?_
  refine lv_iload_n hx hb dX3_isLet_4 rfl (lv_at hl 1 rfl) ?_
  refine lv_ishr hx hb dX3_isLet_5 ?_
  refine lv_iconst (v := 1) hx hb dX3_isLet_6 (by decide) ?_
  refine lv_iand hx hb dX3_isLet_7 ?_
  refine lv_if_eq (tgt := 15) hx hb dX3_isLet_8 (by decide) (fun c9 => ?_) (fun c9 => ?_)
  · have hw := hw.1 c9
    refine lv_iconst (v := 0) hx hb dX3_isLet_15 (by decide) ?_
    exact G_zret hx hb hr hlocks rfl hw hP hK hD hS dX3_isLet_16
  · have hw := hw.2 c9
    refine lv_iconst (v := 1) hx hb dX3_isLet_11 (by decide) ?_
    refine lv_goto (tgt := 16) hx hb dX3_isLet_12 (by decide) ?_
    exact G_zret hx hb hr hlocks rfl hw hP hK hD hS dX3_isLet_16

def wl_X3_anyIsLet_7_2 (K : Int32 → St → Prop) : Nat → Int32 → Int32 → Int32 → St → Prop
  | 0, _, _, _, _ => False
  | n + 1, v1, v2, v3, σ => (((v1 + v2) ≤ v3 → K (0 : Int32) σ) ∧ (¬ (v1 + v2) ≤ v3 → vp_in v3 32 ∧ ∀ x1 : Int32, x1 = σ.2.1 5 v3.toNatClampNeg → ((x1 = (-1 : Int32) → ∀ x2 : Int32, x2 = v3 + 1 → wl_X3_anyIsLet_7_2 K n v1 v2 x2 σ) ∧ (¬ x1 = (-1 : Int32) → wp_X3_isLet_7 σ x1 (fun x4 σ3 => ((x4 = 0 → ∀ x5 : Int32, x5 = v3 + 1 → wl_X3_anyIsLet_7_2 K n v1 v2 x5 σ3) ∧ (¬ x4 = 0 → K (1 : Int32) σ3)))))))
def wp_X3_anyIsLet_7 (σ : St) (a1 : Int32) (a2 : Int32) (K : Int32 → St → Prop) : Prop :=
  (∃ nn : Nat, wl_X3_anyIsLet_7_2 K nn a1 a2 a1 σ)
set_option maxHeartbeats 4000000 in
set_option maxRecDepth 100000 in
theorem c_X3_anyIsLet_7 (l : Launch) (D : va_G) (cI : ClassId) (ad : Nat → Nat) (A : Nat → Prop) (σ : St) (a1 : Int32) (a2 : Int32) (K : Int32 → St → Prop) (hw : wp_X3_anyIsLet_7 σ a1 a2 K) : Met l yX3_anyIsLet wsX3_anyIsLet ({ frames := 1, cells := 0, slots := 0, locals := 21 }) (va_Pc [.ref (ad 7), .int a1, .int a2] (GW D [(cI, FieldType.int)] (wC cI ad) A σ)) (va_Qi K (GW D [(cI, FieldType.int)] (wC cI ad) A) A) 0 0 A := by
  refine Met.ofW (cc := cX3_anyIsLet) (maxL := 5) (ret := (some .boolean)) (by decide) rfl ?_
  intro p e s m args below meth c s₁ B hml hv
  obtain ⟨rfl, hP, hK, hD⟩ := hv
  have hx := B.exec
  have hb := B.bytes
  have hr := B.returns
  have hts := atoms_spec (ws := wsX3_anyIsLet) B.pre
  have hown : s.vm.findClass RX3 = some m.cls := findClass_of_methodNamed B.named
  have hlocks := B.notSynchronized
  have hS : va_S A s.heap s.heap [] := va_S.rf
  have hinX3 : ∀ w ∈ wsX30, w ∈ wsX3_anyIsLet := fun _ h => List.mem_cons_of_mem _ (List.mem_append_right _ (h))
  have hwl_X3_anyIsLet_7_2 : ∀ (n : Nat) (v1 : Int32) (v2 : Int32) (v3 : Int32) (σ : St), wl_X3_anyIsLet_7_2 K n v1 v2 v3 σ → ∀ (H : Heap) (locs : List Loc), va_P D vwCl (wC cI ad σ) H → va_D A (wC cI ad σ) → va_S A s.heap H locs → ∀ ls : Array Slot, lv_has ls 5 [(0, .ref (ad 7)), (1, .int v1), (2, .int v2), (3, .int v3)] → W p l e (headSpec wsX3_anyIsLet ({ frames := 1, cells := 0, slots := 0, locals := 21 })).room s m ([.ref (ad 7), .int a1, .int a2] : List Value).toArray below meth c H locs 0 0 (MQ below (va_Qi K (GW D [(cI, FieldType.int)] (wC cI ad) A) A) ([.ref (ad 7), .int a1, .int a2] : List Value).toArray s 0 0 A) (F0 m 2 ls []) := by
    intro n
    induction n with
    | zero => intro v1 v2 v3 σ hw; exact hw.elim
    | succ n ih =>
      intro v1 v2 v3 σ hw H locs hP hD hS ls hl
      refine lv_iload_n hx hb dX3_anyIsLet_2 rfl (lv_at hl 3 rfl) ?_
      refine lv_iload_n hx hb dX3_anyIsLet_3 rfl (lv_at hl 1 rfl) ?_
      refine lv_iload_n hx hb dX3_anyIsLet_4 rfl (lv_at hl 2 rfl) ?_
      refine lv_iadd hx hb dX3_anyIsLet_5 ?_
      refine lv_icmp_ge (tgt := 40) hx hb dX3_anyIsLet_6 (by decide) (fun c9 => ?_) (fun c9 => ?_)
      · have hw := hw.1 c9
        refine lv_iconst (v := 0) hx hb dX3_anyIsLet_40 (by decide) ?_
        exact G_zret hx hb hr hlocks rfl hw hP hK hD hS dX3_anyIsLet_41
      · have hw := hw.2 c9
        refine lv_aload_n hx hb dX3_anyIsLet_9 rfl (lv_at hl 0 rfl) ?_
        refine va_get (D := D) (ci := 2) (C := RX3) (T := TX3) (N := 5) hx hb hts hinX3 hown hK hP 7 rfl rfl 2 (by decide) (hts _ (List.mem_of_getElem? (i := 1) rfl)) (fun _ h9 => h9) rfl dX3_anyIsLet_10 ?_
        refine lv_iload_n hx hb dX3_anyIsLet_13 rfl (lv_at hl 3 rfl) ?_
        refine va_iald (D := D) hx hb hK hP 10 0 rfl rfl hw.1 dX3_anyIsLet_14 ?_
        have hw := hw.2
        refine lv_topi (fun x1 ex1 => ?_)
        have hw := hw x1 ex1
        refine lv_istore (lv' := [(4, .int x1), (0, .ref (ad 7)), (1, .int v1), (2, .int v2), (3, .int v3)]) hx hb dX3_anyIsLet_15 hl (by decide) rfl (fun ls hl => ?_)
        refine lv_iload hx hb dX3_anyIsLet_17 (lv_at hl 0 rfl) ?_
        refine lv_iconst (v := -1) hx hb dX3_anyIsLet_19 (by decide) ?_
        refine lv_icmp_eq (tgt := 34) hx hb dX3_anyIsLet_20 (by decide) (fun c9 => ?_) (fun c9 => ?_)
        · have hw := hw.1 c9
          obtain ⟨x2, ex2⟩ : ∃ y : Int32, y = v3 + 1 := ⟨_, rfl⟩
          have hw := hw x2 ex2
          refine lv_iinc (v := x2) (lv' := [(3, .int x2), (4, .int x1), (0, .ref (ad 7)), (1, .int v1), (2, .int v2)]) hx hb dX3_anyIsLet_34 hl (k := 4) rfl (by rw [ex2]; rfl) (by decide) rfl (fun ls hl => ?_)
          refine lv_goto (tgt := 2) hx hb dX3_anyIsLet_37 (by decide) ?_
          exact ih v1 v2 x2 σ hw _ _ hP hD hS ls (lv_sub hl [2, 3, 4, 0] rfl)
        · have hw := hw.2 c9
          refine lv_aload_n hx hb dX3_anyIsLet_23 rfl (lv_at hl 1 rfl) ?_
          refine lv_iload hx hb dX3_anyIsLet_24 (lv_at hl 0 rfl) ?_
          refine G_calli (As := [.int x1]) (rest := []) ⟨hx, hb, hml, hown, hts⟩ hK hP hD hS 7 2 rfl rfl (c_X3_isLet_7 l D cI ad A σ x1 _ hw) (cwV 1 hts gX3_anyIsLet_X3_isLet rfl rfl rfl (by decide +kernel) ⟨Nat.le_of_ble_eq_true rfl, Nat.le_of_ble_eq_true rfl⟩) rfl hl.1 rfl (Nat.le_of_ble_eq_true rfl) dX3_anyIsLet_26 ⟨Nat.zero_le _, Nat.zero_le _⟩ (fun x4 σ3 hw H locs hP hD hS => ?_)
          refine lv_if_eq (tgt := 34) hx hb dX3_anyIsLet_29 (by decide) (fun c9 => ?_) (fun c9 => ?_)
          · have hw := hw.1 c9
            obtain ⟨x5, ex5⟩ : ∃ y : Int32, y = v3 + 1 := ⟨_, rfl⟩
            have hw := hw x5 ex5
            refine lv_iinc (v := x5) (lv' := [(3, .int x5), (4, .int x1), (0, .ref (ad 7)), (1, .int v1), (2, .int v2)]) hx hb dX3_anyIsLet_34 hl (k := 4) rfl (by rw [ex5]; rfl) (by decide) rfl (fun ls hl => ?_)
            refine lv_goto (tgt := 2) hx hb dX3_anyIsLet_37 (by decide) ?_
            exact ih v1 v2 x5 σ3 hw _ _ hP hD hS ls (lv_sub hl [2, 3, 4, 0] rfl)
          · have hw := hw.2 c9
            refine lv_iconst (v := 1) hx hb dX3_anyIsLet_32 (by decide) ?_
            exact G_zret hx hb hr hlocks rfl hw hP hK hD hS dX3_anyIsLet_33
  have hl := lv_entry ([.ref (ad 7), .int a1, .int a2]) (n := 5) (Nat.le_of_ble_eq_true rfl)
  rw [lg_entry_eq]
  generalize (lg_sl ([.ref (ad 7), .int a1, .int a2]) ++ List.replicate (5 - (lg_sl ([.ref (ad 7), .int a1, .int a2])).length) Slot.unset).toArray = ls at hl ⊢
  have hl : lv_has ls 5 [(0, .ref (ad 7)), (1, .int a1), (2, .int a2)] := hl
  have hP : va_P D vwCl (wC cI ad σ) s.heap := hP
  refine lv_iload_n hx hb dX3_anyIsLet_0 rfl (lv_at hl 1 rfl) ?_
  refine lv_istore_n (lv' := [(3, .int a1), (0, .ref (ad 7)), (1, .int a1), (2, .int a2)]) hx hb dX3_anyIsLet_1 rfl hl (by decide) rfl (fun ls hl => ?_)
  obtain ⟨nn, hw⟩ := hw
  exact hwl_X3_anyIsLet_7_2 nn a1 a2 a1 σ hw _ _ hP hD hS ls (lv_sub hl [1, 2, 3, 0] rfl)

def wl_X3_open_7_22 (K : Int32 → St → Prop) : Nat → Int32 → Int32 → Int32 → Int32 → St → Prop
  | 0, _, _, _, _, _ => False
  | n + 1, v1, v2, v3, v4, σ => (((v1 + v2) ≤ v4 → ∀ σ4 : St, σ4 = sI σ 4 ((σ.1 4) ||| ((1 : Int32) <<< (v3 &&& 31))) → ∀ σ5 : St, σ5 = sI σ4 3 ((σ4.1 3) + (1 : Int32)) → K v3 σ5) ∧ (¬ (v1 + v2) ≤ v4 → vp_in v4 32 ∧ ∀ σ6 : St, σ6 = sA σ 5 (upd (σ.2.1 5) v4.toNatClampNeg v3) → ∀ x7 : Int32, x7 = v4 + 1 → wl_X3_open_7_22 K n v1 v2 v3 x7 σ6))
def wp_X3_open_7 (σ : St) (a1 : Int32) (a2 : Int32) (K : Int32 → St → Prop) : Prop :=
  ∀ x1 : Int32, x1 = σ.1 3 → vp_in x1 12 ∧ ∀ σ2 : St, σ2 = sA σ 3 (upd (σ.2.1 3) x1.toNatClampNeg a1) → vp_in x1 12 ∧ ∀ σ3 : St, σ3 = sA σ2 4 (upd (σ2.2.1 4) x1.toNatClampNeg a2) → (∃ nn : Nat, wl_X3_open_7_22 K nn a1 a2 x1 a1 σ3)
set_option maxHeartbeats 4000000 in
set_option maxRecDepth 100000 in
theorem c_X3_open_7 (l : Launch) (D : va_G) (cI : ClassId) (ad : Nat → Nat) (A : Nat → Prop) (σ : St) (a1 : Int32) (a2 : Int32) (K : Int32 → St → Prop) (hw : wp_X3_open_7 σ a1 a2 K) : Met l yX3_open wsX3_open ({ frames := 0, cells := 0, slots := 0, locals := 0 }) (va_Pc [.ref (ad 7), .int a1, .int a2] (GW D [(cI, FieldType.int)] (wC cI ad) A σ)) (va_Qi K (GW D [(cI, FieldType.int)] (wC cI ad) A) A) 0 0 A := by
  refine Met.ofW (cc := cX3_open) (maxL := 5) (ret := (some .int)) (by decide) rfl ?_
  intro p e s m args below meth c s₁ B hml hv
  obtain ⟨rfl, hP, hK, hD⟩ := hv
  have hx := B.exec
  have hb := B.bytes
  have hr := B.returns
  have hts := atoms_spec (ws := wsX3_open) B.pre
  have hown : s.vm.findClass RX3 = some m.cls := findClass_of_methodNamed B.named
  have hlocks := B.notSynchronized
  have hS : va_S A s.heap s.heap [] := va_S.rf
  have hinX3 : ∀ w ∈ wsX30, w ∈ wsX3_open := fun _ h => List.mem_cons_of_mem _ (List.mem_append_right _ (h))
  have hwl_X3_open_7_22 : ∀ (n : Nat) (v1 : Int32) (v2 : Int32) (v3 : Int32) (v4 : Int32) (σ : St), wl_X3_open_7_22 K n v1 v2 v3 v4 σ → ∀ (H : Heap) (locs : List Loc), va_P D vwCl (wC cI ad σ) H → va_D A (wC cI ad σ) → va_S A s.heap H locs → ∀ ls : Array Slot, lv_has ls 5 [(0, .ref (ad 7)), (1, .int v1), (2, .int v2), (3, .int v3), (4, .int v4)] → W p l e (headSpec wsX3_open ({ frames := 0, cells := 0, slots := 0, locals := 0 })).room s m ([.ref (ad 7), .int a1, .int a2] : List Value).toArray below meth c H locs 0 0 (MQ below (va_Qi K (GW D [(cI, FieldType.int)] (wC cI ad) A) A) ([.ref (ad 7), .int a1, .int a2] : List Value).toArray s 0 0 A) (F0 m 22 ls []) := by
    intro n
    induction n with
    | zero => intro v1 v2 v3 v4 σ hw; exact hw.elim
    | succ n ih =>
      intro v1 v2 v3 v4 σ hw H locs hP hD hS ls hl
      refine lv_iload hx hb dX3_open_22 (lv_at hl 4 rfl) ?_
      refine lv_iload_n hx hb dX3_open_24 rfl (lv_at hl 1 rfl) ?_
      refine lv_iload_n hx hb dX3_open_25 rfl (lv_at hl 2 rfl) ?_
      refine lv_iadd hx hb dX3_open_26 ?_
      refine lv_icmp_ge (tgt := 44) hx hb dX3_open_27 (by decide) (fun c9 => ?_) (fun c9 => ?_)
      · have hw := hw.1 c9
        refine lv_aload_n hx hb dX3_open_44 rfl (lv_at hl 0 rfl) ?_
        refine lv_dup hx hb dX3_open_45 rfl ?_
        refine va_get (D := D) (ci := 2) (C := RX3) (T := TX3) (N := 5) hx hb hts hinX3 hown hK hP 7 rfl rfl 4 (by decide) (hts _ (List.mem_of_getElem? (i := 5) rfl)) (fun _ h9 => h9) rfl dX3_open_46 ?_
        refine lv_iconst (v := 1) hx hb dX3_open_49 (by decide) ?_
        refine lv_iload_n hx hb dX3_open_50 rfl (lv_at hl 3 rfl) ?_
        refine lv_ishl hx hb dX3_open_51 ?_
        refine lv_ior hx hb dX3_open_52 ?_
        refine va_put (D := D) (ci := 2) (ty := .int) (C := RX3) (T := TX3) (N := 5) hx hb hts hinX3 tyX3 tyX3_ok nmX3 hown hK hP hD hS 7 rfl rfl 4 (by decide) (hts _ (List.mem_of_getElem? (i := 5) rfl)) (fun _ h9 => h9) rfl (by decide +kernel) rfl rfl (Nat.le_of_ble_eq_true rfl) dX3_open_53 (fun H locs hP hD hS => ?_)
        obtain ⟨σ4, eσ4⟩ : ∃ z : St, z = sI σ 4 ((σ.1 4) ||| ((1 : Int32) <<< (v3 &&& 31))) := ⟨_, rfl⟩
        have hP : va_P D vwCl (wC cI ad σ4) H := by rw [eσ4]; exact hP
        have hD : va_D A (wC cI ad σ4) := by rw [eσ4]; exact hD
        have hw := hw σ4 eσ4
        refine lv_aload_n hx hb dX3_open_56 rfl (lv_at hl 0 rfl) ?_
        refine lv_dup hx hb dX3_open_57 rfl ?_
        refine va_get (D := D) (ci := 2) (C := RX3) (T := TX3) (N := 5) hx hb hts hinX3 hown hK hP 7 rfl rfl 3 (by decide) (hts _ (List.mem_of_getElem? (i := 1) rfl)) (fun _ h9 => h9) rfl dX3_open_58 ?_
        refine lv_iconst (v := 1) hx hb dX3_open_61 (by decide) ?_
        refine lv_iadd hx hb dX3_open_62 ?_
        refine va_put (D := D) (ci := 2) (ty := .int) (C := RX3) (T := TX3) (N := 5) hx hb hts hinX3 tyX3 tyX3_ok nmX3 hown hK hP hD hS 7 rfl rfl 3 (by decide) (hts _ (List.mem_of_getElem? (i := 1) rfl)) (fun _ h9 => h9) rfl (by decide +kernel) rfl rfl (Nat.le_of_ble_eq_true rfl) dX3_open_63 (fun H locs hP hD hS => ?_)
        obtain ⟨σ5, eσ5⟩ : ∃ z : St, z = sI σ4 3 ((σ4.1 3) + (1 : Int32)) := ⟨_, rfl⟩
        have hP : va_P D vwCl (wC cI ad σ5) H := by rw [eσ5]; exact hP
        have hD : va_D A (wC cI ad σ5) := by rw [eσ5]; exact hD
        have hw := hw σ5 eσ5
        refine lv_iload_n hx hb dX3_open_66 rfl (lv_at hl 3 rfl) ?_
        exact G_iret hx hb hr hlocks hw hP hK hD hS dX3_open_67
      · have hw := hw.2 c9
        refine lv_aload_n hx hb dX3_open_30 rfl (lv_at hl 0 rfl) ?_
        refine va_get (D := D) (ci := 2) (C := RX3) (T := TX3) (N := 5) hx hb hts hinX3 hown hK hP 7 rfl rfl 2 (by decide) (hts _ (List.mem_of_getElem? (i := 4) rfl)) (fun _ h9 => h9) rfl dX3_open_31 ?_
        refine lv_iload hx hb dX3_open_34 (lv_at hl 4 rfl) ?_
        refine lv_iload_n hx hb dX3_open_36 rfl (lv_at hl 3 rfl) ?_
        refine va_iast (D := D) hx hb hK hP hD hS 10 0 rfl rfl hw.1 dX3_open_37 (fun H locs hP hD hS => ?_)
        obtain ⟨σ6, eσ6⟩ : ∃ z : St, z = sA σ 5 (upd (σ.2.1 5) v4.toNatClampNeg v3) := ⟨_, rfl⟩
        have hP : va_P D vwCl (wC cI ad σ6) H := by rw [eσ6]; exact hP
        have hD : va_D A (wC cI ad σ6) := by rw [eσ6]; exact hD
        have hw := hw.2 σ6 eσ6
        obtain ⟨x7, ex7⟩ : ∃ y : Int32, y = v4 + 1 := ⟨_, rfl⟩
        have hw := hw x7 ex7
        refine lv_iinc (v := x7) (lv' := [(4, .int x7), (0, .ref (ad 7)), (1, .int v1), (2, .int v2), (3, .int v3)]) hx hb dX3_open_38 hl (k := 4) rfl (by rw [ex7]; rfl) (by decide) rfl (fun ls hl => ?_)
        refine lv_goto (tgt := 22) hx hb dX3_open_41 (by decide) ?_
        exact ih v1 v2 v3 x7 σ6 hw _ _ hP hD hS ls (lv_sub hl [1, 2, 3, 4, 0] rfl)
  have hl := lv_entry ([.ref (ad 7), .int a1, .int a2]) (n := 5) (Nat.le_of_ble_eq_true rfl)
  rw [lg_entry_eq]
  generalize (lg_sl ([.ref (ad 7), .int a1, .int a2]) ++ List.replicate (5 - (lg_sl ([.ref (ad 7), .int a1, .int a2])).length) Slot.unset).toArray = ls at hl ⊢
  have hl : lv_has ls 5 [(0, .ref (ad 7)), (1, .int a1), (2, .int a2)] := hl
  have hP : va_P D vwCl (wC cI ad σ) s.heap := hP
  refine lv_aload_n hx hb dX3_open_0 rfl (lv_at hl 0 rfl) ?_
  refine va_get (D := D) (ci := 2) (C := RX3) (T := TX3) (N := 5) hx hb hts hinX3 hown hK hP 7 rfl rfl 3 (by decide) (hts _ (List.mem_of_getElem? (i := 1) rfl)) (fun _ h9 => h9) rfl dX3_open_1 ?_
  refine lv_topi (fun x1 ex1 => ?_)
  have hw := hw x1 ex1
  refine lv_istore_n (lv' := [(3, .int x1), (0, .ref (ad 7)), (1, .int a1), (2, .int a2)]) hx hb dX3_open_4 rfl hl (by decide) rfl (fun ls hl => ?_)
  refine lv_aload_n hx hb dX3_open_5 rfl (lv_at hl 1 rfl) ?_
  refine va_get (D := D) (ci := 2) (C := RX3) (T := TX3) (N := 5) hx hb hts hinX3 hown hK hP 7 rfl rfl 0 (by decide) (hts _ (List.mem_of_getElem? (i := 2) rfl)) (fun _ h9 => h9) rfl dX3_open_6 ?_
  refine lv_iload_n hx hb dX3_open_9 rfl (lv_at hl 0 rfl) ?_
  refine lv_iload_n hx hb dX3_open_10 rfl (lv_at hl 2 rfl) ?_
  refine va_iast (D := D) hx hb hK hP hD hS 8 0 rfl rfl hw.1 dX3_open_11 (fun H locs hP hD hS => ?_)
  obtain ⟨σ2, eσ2⟩ : ∃ z : St, z = sA σ 3 (upd (σ.2.1 3) x1.toNatClampNeg a1) := ⟨_, rfl⟩
  have hP : va_P D vwCl (wC cI ad σ2) H := by rw [eσ2]; exact hP
  have hD : va_D A (wC cI ad σ2) := by rw [eσ2]; exact hD
  have hw := hw.2 σ2 eσ2
  refine lv_aload_n hx hb dX3_open_12 rfl (lv_at hl 1 rfl) ?_
  refine va_get (D := D) (ci := 2) (C := RX3) (T := TX3) (N := 5) hx hb hts hinX3 hown hK hP 7 rfl rfl 1 (by decide) (hts _ (List.mem_of_getElem? (i := 3) rfl)) (fun _ h9 => h9) rfl dX3_open_13 ?_
  refine lv_iload_n hx hb dX3_open_16 rfl (lv_at hl 0 rfl) ?_
  refine lv_iload_n hx hb dX3_open_17 rfl (lv_at hl 3 rfl) ?_
  refine va_iast (D := D) hx hb hK hP hD hS 9 0 rfl rfl hw.1 dX3_open_18 (fun H locs hP hD hS => ?_)
  obtain ⟨σ3, eσ3⟩ : ∃ z : St, z = sA σ2 4 (upd (σ2.2.1 4) x1.toNatClampNeg a2) := ⟨_, rfl⟩
  have hP : va_P D vwCl (wC cI ad σ3) H := by rw [eσ3]; exact hP
  have hD : va_D A (wC cI ad σ3) := by rw [eσ3]; exact hD
  have hw := hw.2 σ3 eσ3
  refine lv_iload_n hx hb dX3_open_19 rfl (lv_at hl 2 rfl) ?_
  refine lv_istore (lv' := [(4, .int a1), (3, .int x1), (0, .ref (ad 7)), (1, .int a1), (2, .int a2)]) hx hb dX3_open_20 hl (by decide) rfl (fun ls hl => ?_)
  obtain ⟨nn, hw⟩ := hw
  exact hwl_X3_open_7_22 nn a1 a2 x1 a1 σ3 hw _ _ hP hD hS ls (lv_sub hl [2, 3, 4, 1, 0] rfl)

def wp_X7_nextLot (σ : St) (K : Int32 → St → Prop) : Prop :=
  ∀ σ1 : St, σ1 = sI σ 12 (((((σ.1 12).toInt64) * (16807 : Int64)) - (((σ.1 12).toInt64) * (16807 : Int64)) / (2147483647 : Int64) * (2147483647 : Int64)).toInt32) → K (σ1.1 12) σ1
set_option maxHeartbeats 4000000 in
set_option maxRecDepth 100000 in
theorem c_X7_nextLot (l : Launch) (D : va_G) (cI : ClassId) (ad : Nat → Nat) (A : Nat → Prop) (σ : St) (K : Int32 → St → Prop) (hw : wp_X7_nextLot σ K) : Met l yX7_nextLot wsX7_nextLot ({ frames := 0, cells := 0, slots := 0, locals := 0 }) (va_Pc [.ref (ad 0)] (GW D [(cI, FieldType.int)] (wC cI ad) A σ)) (va_Qi K (GW D [(cI, FieldType.int)] (wC cI ad) A) A) 0 0 A := by
  refine Met.ofW (cc := cX7_nextLot) (maxL := 1) (ret := (some .int)) (by decide) rfl ?_
  intro p e s m args below meth c s₁ B hml hv
  obtain ⟨rfl, hP, hK, hD⟩ := hv
  have hx := B.exec
  have hb := B.bytes
  have hr := B.returns
  have hts := atoms_spec (ws := wsX7_nextLot) B.pre
  have hown : s.vm.findClass RX7 = some m.cls := findClass_of_methodNamed B.named
  have hlocks := B.notSynchronized
  have hS : va_S A s.heap s.heap [] := va_S.rf
  have hinX7 : ∀ w ∈ wsX70, w ∈ wsX7_nextLot := fun _ h => List.mem_cons_of_mem _ (List.mem_append_right _ (h))
  have hl := lv_entry ([.ref (ad 0)]) (n := 1) (Nat.le_of_ble_eq_true rfl)
  rw [lg_entry_eq]
  generalize (lg_sl ([.ref (ad 0)]) ++ List.replicate (1 - (lg_sl ([.ref (ad 0)])).length) Slot.unset).toArray = ls at hl ⊢
  have hl : lv_has ls 1 [(0, .ref (ad 0))] := hl
  have hP : va_P D vwCl (wC cI ad σ) s.heap := hP
  refine lv_aload_n hx hb dX7_nextLot_0 rfl (lv_at hl 0 rfl) ?_
  refine lv_aload_n hx hb dX7_nextLot_1 rfl (lv_at hl 0 rfl) ?_
  refine va_get (D := D) (ci := 5) (C := RX7) (T := TX7) (N := 12) hx hb hts hinX7 hown hK hP 0 rfl rfl 8 (by decide) (hts _ (List.mem_of_getElem? (i := 1) rfl)) (fun _ h9 => h9) rfl dX7_nextLot_2 ?_
  refine lv_i2l hx hb dX7_nextLot_5 rfl ?_
  refine lv_ldc2 (v := 16807) hx hb hown (hts _ (List.mem_of_getElem? (i := 2) rfl)) dX7_nextLot_6 ?_
  refine lv_lmul hx hb dX7_nextLot_9 ?_
  refine lv_ldc2 (v := 2147483647) hx hb hown (hts _ (List.mem_of_getElem? (i := 3) rfl)) dX7_nextLot_10 ?_
  refine lv_lrem hx hb dX7_nextLot_13 (by decide) ?_
  refine lv_l2i hx hb dX7_nextLot_14 rfl ?_
  refine va_put (D := D) (ci := 5) (ty := .int) (C := RX7) (T := TX7) (N := 12) hx hb hts hinX7 tyX7 tyX7_ok nmX7 hown hK hP hD hS 0 rfl rfl 8 (by decide) (hts _ (List.mem_of_getElem? (i := 1) rfl)) (fun _ h9 => h9) rfl (by decide +kernel) rfl rfl (Nat.le_of_ble_eq_true rfl) dX7_nextLot_15 (fun H locs hP hD hS => ?_)
  obtain ⟨σ1, eσ1⟩ : ∃ z : St, z = sI σ 12 (((((σ.1 12).toInt64) * (16807 : Int64)) - (((σ.1 12).toInt64) * (16807 : Int64)) / (2147483647 : Int64) * (2147483647 : Int64)).toInt32) := ⟨_, rfl⟩
  have hP : va_P D vwCl (wC cI ad σ1) H := by rw [eσ1]; exact hP
  have hD : va_D A (wC cI ad σ1) := by rw [eσ1]; exact hD
  have hw := hw σ1 eσ1
  refine lv_aload_n hx hb dX7_nextLot_18 rfl (lv_at hl 0 rfl) ?_
  refine va_get (D := D) (ci := 5) (C := RX7) (T := TX7) (N := 12) hx hb hts hinX7 hown hK hP 0 rfl rfl 8 (by decide) (hts _ (List.mem_of_getElem? (i := 1) rfl)) (fun _ h9 => h9) rfl dX7_nextLot_19 ?_
  exact G_iret hx hb hr hlocks hw hP hK hD hS dX7_nextLot_22

def wl_X7_let_72 (K : Int32 → St → Prop) : Nat → Int32 → Int32 → Int32 → Int32 → St → Prop
  | 0, _, _, _, _, _ => False
  | n + 1, v1, v2, v3, v4, σ => (((v1 + v2) ≤ v4 → wp_X7_octetSet v1 v2 (fun x6 => ∀ σ7 : St, σ7 = sI σ 0 ((σ.1 0) &&& (x6 ^^^ (-1 : Int32))) → wp_X7_tick σ7 (6 : Int32) v3 (fun x9 σ8 => K x9 σ8))) ∧ (¬ (v1 + v2) ≤ v4 → wp_X7_nextLot σ (fun x11 σ10 => wp_X0_of (x11 - x11 / (256 : Int32) * (256 : Int32)) (255 : Int32) ((1 : Int32) <<< (v3 &&& 31)) (fun x12 => vp_in ((8 : Int32) + v4) 40 ∧ ∀ σ13 : St, σ13 = sA σ10 0 (upd (σ10.2.1 0) ((8 : Int32) + v4).toNatClampNeg x12) → ∀ x14 : Int32, x14 = v4 + 1 → wl_X7_let_72 K n v1 v2 v3 x14 σ13))))
def wp_X7_let (σ : St) (a1 : Int32) (a2 : Int32) (K : Int32 → St → Prop) : Prop :=
  wp_X7_isOctet a1 (fun x1 => ((x1 = 0 → K (-1000000002 : Int32) σ) ∧ (¬ x1 = 0 → ((a2 < (1 : Int32) → K (-1000000002 : Int32) σ) ∧ (¬ a2 < (1 : Int32) → (((8 : Int32) < a2 → K (-1000000002 : Int32) σ) ∧ (¬ (8 : Int32) < a2 → (((a1 + a2) ≤ (32 : Int32) → wp_X3_anyIsLet_7 σ a1 a2 (fun x3 σ2 => ((x3 = 0 → (((σ2.1 3) < (12 : Int32) → wp_X3_open_7 σ2 a1 a2 (fun x5 σ4 => (∃ nn : Nat, wl_X7_let_72 K nn a1 a2 x5 a1 σ4))) ∧ (¬ (σ2.1 3) < (12 : Int32) → K (-1000000004 : Int32) σ2))) ∧ (¬ x3 = 0 → K (-1000000003 : Int32) σ2)))) ∧ (¬ (a1 + a2) ≤ (32 : Int32) → K (-1000000002 : Int32) σ)))))))))
set_option maxHeartbeats 4000000 in
set_option maxRecDepth 100000 in
theorem c_X7_let (l : Launch) (D : va_G) (cI : ClassId) (ad : Nat → Nat) (A : Nat → Prop) (σ : St) (a1 : Int32) (a2 : Int32) (K : Int32 → St → Prop) (hw : wp_X7_let σ a1 a2 K) : Met l yX7_let wsX7_let ({ frames := 3, cells := 0, slots := 0, locals := 66 }) (va_Pc [.ref (ad 0), .int a1, .int a2] (GW D [(cI, FieldType.int)] (wC cI ad) A σ)) (va_Qi K (GW D [(cI, FieldType.int)] (wC cI ad) A) A) 0 0 A := by
  refine Met.ofW (cc := cX7_let) (maxL := 5) (ret := (some .int)) (by decide) rfl ?_
  intro p e s m args below meth c s₁ B hml hv
  obtain ⟨rfl, hP, hK, hD⟩ := hv
  have hx := B.exec
  have hb := B.bytes
  have hr := B.returns
  have hts := atoms_spec (ws := wsX7_let) B.pre
  have hown : s.vm.findClass RX7 = some m.cls := findClass_of_methodNamed B.named
  have hlocks := B.notSynchronized
  have hS : va_S A s.heap s.heap [] := va_S.rf
  have hinX3 : ∀ w ∈ wsX30, w ∈ wsX7_let := fun _ h => List.mem_cons_of_mem _ (List.mem_append_left _ (List.mem_append_left _ (List.mem_append_right _ (h))))
  have hinX4 : ∀ w ∈ wsX40, w ∈ wsX7_let := fun _ h => List.mem_cons_of_mem _ (List.mem_append_left _ (List.mem_append_right _ (h)))
  have hinX5 : ∀ w ∈ wsX50, w ∈ wsX7_let := fun _ h => List.mem_cons_of_mem _ (List.mem_append_right _ (h))
  have hinX7 : ∀ w ∈ wsX70, w ∈ wsX7_let := fun _ h => List.mem_cons_of_mem _ (List.mem_append_left _ (List.mem_append_left _ (List.mem_append_left _ (List.mem_append_right _ (h)))))
  have hwl_X7_let_72 : ∀ (n : Nat) (v1 : Int32) (v2 : Int32) (v3 : Int32) (v4 : Int32) (σ : St), wl_X7_let_72 K n v1 v2 v3 v4 σ → ∀ (H : Heap) (locs : List Loc), va_P D vwCl (wC cI ad σ) H → va_D A (wC cI ad σ) → va_S A s.heap H locs → ∀ ls : Array Slot, lv_has ls 5 [(0, .ref (ad 0)), (1, .int v1), (2, .int v2), (3, .int v3), (4, .int v4)] → W p l e (headSpec wsX7_let ({ frames := 3, cells := 0, slots := 0, locals := 66 })).room s m ([.ref (ad 0), .int a1, .int a2] : List Value).toArray below meth c H locs 0 0 (MQ below (va_Qi K (GW D [(cI, FieldType.int)] (wC cI ad) A) A) ([.ref (ad 0), .int a1, .int a2] : List Value).toArray s 0 0 A) (F0 m 72 ls []) := by
    intro n
    induction n with
    | zero => intro v1 v2 v3 v4 σ hw; exact hw.elim
    | succ n ih =>
      intro v1 v2 v3 v4 σ hw H locs hP hD hS ls hl
      refine lv_iload hx hb dX7_let_72 (lv_at hl 4 rfl) ?_
      refine lv_iload_n hx hb dX7_let_74 rfl (lv_at hl 1 rfl) ?_
      refine lv_iload_n hx hb dX7_let_75 rfl (lv_at hl 2 rfl) ?_
      refine lv_iadd hx hb dX7_let_76 ?_
      refine lv_icmp_ge (tgt := 116) hx hb dX7_let_77 (by decide) (fun c9 => ?_) (fun c9 => ?_)
      · have hw := hw.1 c9
        refine lv_aload_n hx hb dX7_let_116 rfl (lv_at hl 0 rfl) ?_
        refine va_get (D := D) (ci := 5) (C := RX7) (T := TX7) (N := 12) hx hb hts hinX7 hown hK hP 0 rfl rfl 0 (by decide) (hts _ (List.mem_of_getElem? (i := 6) rfl)) (fun _ h9 => h9) rfl dX7_let_117 ?_
        refine lv_dup hx hb dX7_let_120 rfl ?_
        refine va_get (D := D) (ci := 3) (C := RX4) (T := TX4) (N := 2) hx hb hts hinX4 hown hK hP 1 rfl rfl 1 (by decide) (hts _ (List.mem_of_getElem? (i := 8) rfl)) (fun _ h9 => h9) rfl dX7_let_121 ?_
        refine lv_iload_n hx hb dX7_let_124 rfl (lv_at hl 1 rfl) ?_
        refine lv_iload_n hx hb dX7_let_125 rfl (lv_at hl 2 rfl) ?_
        refine S_calli (As := [.int v1, .int v2]) (rest := [.int (σ.1 0), .ref (ad 1)]) ⟨hx, hb, hml, hown, hts⟩ (c_X7_octetSet l v1 v2 _ hw) (va_cwS 2 hts gX7_let_X7_octetSet rfl rfl rfl (by decide +kernel) ⟨Nat.le_of_ble_eq_true rfl, Nat.le_of_ble_eq_true rfl⟩) rfl hl.1 rfl (Nat.le_of_ble_eq_true rfl) dX7_let_126 ⟨Nat.zero_le _, Nat.zero_le _⟩ (fun x6 hw => ?_)
        refine lv_iconst (v := -1) hx hb dX7_let_129 (by decide) ?_
        refine lv_ixor hx hb dX7_let_130 ?_
        refine lv_iand hx hb dX7_let_131 ?_
        refine va_put (D := D) (ci := 3) (ty := .int) (C := RX4) (T := TX4) (N := 2) hx hb hts hinX4 tyX4 tyX4_ok nmX4 hown hK hP hD hS 1 rfl rfl 1 (by decide) (hts _ (List.mem_of_getElem? (i := 8) rfl)) (fun _ h9 => h9) rfl (by decide +kernel) rfl rfl (Nat.le_of_ble_eq_true rfl) dX7_let_132 (fun H locs hP hD hS => ?_)
        obtain ⟨σ7, eσ7⟩ : ∃ z : St, z = sI σ 0 ((σ.1 0) &&& (x6 ^^^ (-1 : Int32))) := ⟨_, rfl⟩
        have hP : va_P D vwCl (wC cI ad σ7) H := by rw [eσ7]; exact hP
        have hD : va_D A (wC cI ad σ7) := by rw [eσ7]; exact hD
        have hw := hw σ7 eσ7
        refine lv_aload_n hx hb dX7_let_135 rfl (lv_at hl 0 rfl) ?_
        refine lv_bipush (v := 6) hx hb dX7_let_136 (by decide) ?_
        refine lv_iload_n hx hb dX7_let_138 rfl (lv_at hl 3 rfl) ?_
        refine G_calli (As := [.int (6 : Int32), .int v3]) (rest := []) ⟨hx, hb, hml, hown, hts⟩ hK hP hD hS 0 5 rfl rfl (c_X7_tick l D cI ad A σ7 (6 : Int32) v3 _ hw) (cwV 2 hts gX7_let_X7_tick rfl rfl rfl (by decide +kernel) ⟨Nat.le_of_ble_eq_true rfl, Nat.le_of_ble_eq_true rfl⟩) rfl hl.1 rfl (Nat.le_of_ble_eq_true rfl) dX7_let_139 ⟨Nat.zero_le _, Nat.zero_le _⟩ (fun x9 σ8 hw H locs hP hD hS => ?_)
        exact G_iret hx hb hr hlocks hw hP hK hD hS dX7_let_142
      · have hw := hw.2 c9
        refine lv_aload_n hx hb dX7_let_80 rfl (lv_at hl 0 rfl) ?_
        refine va_get (D := D) (ci := 5) (C := RX7) (T := TX7) (N := 12) hx hb hts hinX7 hown hK hP 0 rfl rfl 0 (by decide) (hts _ (List.mem_of_getElem? (i := 6) rfl)) (fun _ h9 => h9) rfl dX7_let_81 ?_
        refine va_get (D := D) (ci := 3) (C := RX4) (T := TX4) (N := 2) hx hb hts hinX4 hown hK hP 1 rfl rfl 0 (by decide) (hts _ (List.mem_of_getElem? (i := 7) rfl)) (fun _ h9 => h9) rfl dX7_let_84 ?_
        refine lv_bipush (v := 8) hx hb dX7_let_87 (by decide) ?_
        refine lv_iload hx hb dX7_let_89 (lv_at hl 4 rfl) ?_
        refine lv_iadd hx hb dX7_let_91 ?_
        refine lv_aload_n hx hb dX7_let_92 rfl (lv_at hl 0 rfl) ?_
        refine G_calli (As := []) (rest := [.int ((8 : Int32) + v4), .ref (ad 2)]) ⟨hx, hb, hml, hown, hts⟩ hK hP hD hS 0 5 rfl rfl (c_X7_nextLot l D cI ad A σ _ hw) (cwV 0 hts gX7_let_X7_nextLot rfl rfl rfl (by decide +kernel) ⟨Nat.le_of_ble_eq_true rfl, Nat.le_of_ble_eq_true rfl⟩) rfl hl.1 rfl (Nat.le_of_ble_eq_true rfl) dX7_let_93 ⟨Nat.zero_le _, Nat.zero_le _⟩ (fun x11 σ10 hw H locs hP hD hS => ?_)
        refine lv_sipush (v := 256) hx hb dX7_let_96 (by decide) ?_
        refine lv_irem hx hb dX7_let_99 (by decide) ?_
        refine lv_sipush (v := 255) hx hb dX7_let_100 (by decide) ?_
        refine lv_iconst (v := 1) hx hb dX7_let_103 (by decide) ?_
        refine lv_iload_n hx hb dX7_let_104 rfl (lv_at hl 3 rfl) ?_
        refine lv_ishl hx hb dX7_let_105 ?_
        refine S_calli (As := [.int (x11 - x11 / (256 : Int32) * (256 : Int32)), .int (255 : Int32), .int ((1 : Int32) <<< (v3 &&& 31))]) (rest := [.int ((8 : Int32) + v4), .ref (ad 2)]) ⟨hx, hb, hml, hown, hts⟩ (c_X0_of l (x11 - x11 / (256 : Int32) * (256 : Int32)) (255 : Int32) ((1 : Int32) <<< (v3 &&& 31)) _ hw) (va_cwS 3 hts gX7_let_X0_of rfl rfl rfl (by decide +kernel) ⟨Nat.le_of_ble_eq_true rfl, Nat.le_of_ble_eq_true rfl⟩) rfl hl.1 rfl (Nat.le_of_ble_eq_true rfl) dX7_let_106 ⟨Nat.zero_le _, Nat.zero_le _⟩ (fun x12 hw => ?_)
        refine va_iast (D := D) hx hb hK hP hD hS 2 0 rfl rfl hw.1 dX7_let_109 (fun H locs hP hD hS => ?_)
        obtain ⟨σ13, eσ13⟩ : ∃ z : St, z = sA σ10 0 (upd (σ10.2.1 0) ((8 : Int32) + v4).toNatClampNeg x12) := ⟨_, rfl⟩
        have hP : va_P D vwCl (wC cI ad σ13) H := by rw [eσ13]; exact hP
        have hD : va_D A (wC cI ad σ13) := by rw [eσ13]; exact hD
        have hw := hw.2 σ13 eσ13
        obtain ⟨x14, ex14⟩ : ∃ y : Int32, y = v4 + 1 := ⟨_, rfl⟩
        have hw := hw x14 ex14
        refine lv_iinc (v := x14) (lv' := [(4, .int x14), (0, .ref (ad 0)), (1, .int v1), (2, .int v2), (3, .int v3)]) hx hb dX7_let_110 hl (k := 4) rfl (by rw [ex14]; rfl) (by decide) rfl (fun ls hl => ?_)
        refine lv_goto (tgt := 72) hx hb dX7_let_113 (by decide) ?_
        exact ih v1 v2 v3 x14 σ13 hw _ _ hP hD hS ls (lv_sub hl [1, 2, 3, 4, 0] rfl)
  have hl := lv_entry ([.ref (ad 0), .int a1, .int a2]) (n := 5) (Nat.le_of_ble_eq_true rfl)
  rw [lg_entry_eq]
  generalize (lg_sl ([.ref (ad 0), .int a1, .int a2]) ++ List.replicate (5 - (lg_sl ([.ref (ad 0), .int a1, .int a2])).length) Slot.unset).toArray = ls at hl ⊢
  have hl : lv_has ls 5 [(0, .ref (ad 0)), (1, .int a1), (2, .int a2)] := hl
  have hP : va_P D vwCl (wC cI ad σ) s.heap := hP
  refine lv_iload_n hx hb dX7_let_0 rfl (lv_at hl 1 rfl) ?_
  refine S_calli (As := [.int a1]) (rest := []) ⟨hx, hb, hml, hown, hts⟩ (c_X7_isOctet l a1 _ hw) (va_cwS 1 hts gX7_let_X7_isOctet rfl rfl rfl (by decide +kernel) ⟨Nat.le_of_ble_eq_true rfl, Nat.le_of_ble_eq_true rfl⟩) rfl hl.1 rfl (Nat.le_of_ble_eq_true rfl) dX7_let_1 ⟨Nat.zero_le _, Nat.zero_le _⟩ (fun x1 hw => ?_)
  refine lv_if_eq (tgt := 26) hx hb dX7_let_4 (by decide) (fun c9 => ?_) (fun c9 => ?_)
  · have hw := hw.1 c9
    refine lv_ldc (v := -1000000002) hx hb hown (hts _ (List.mem_of_getElem? (i := 1) rfl)) dX7_let_26 ?_
    exact G_iret hx hb hr hlocks hw hP hK hD hS dX7_let_28
  · have hw := hw.2 c9
    refine lv_iload_n hx hb dX7_let_7 rfl (lv_at hl 2 rfl) ?_
    refine lv_iconst (v := 1) hx hb dX7_let_8 (by decide) ?_
    refine lv_icmp_lt (tgt := 26) hx hb dX7_let_9 (by decide) (fun c9 => ?_) (fun c9 => ?_)
    · have hw := hw.1 c9
      refine lv_ldc (v := -1000000002) hx hb hown (hts _ (List.mem_of_getElem? (i := 1) rfl)) dX7_let_26 ?_
      exact G_iret hx hb hr hlocks hw hP hK hD hS dX7_let_28
    · have hw := hw.2 c9
      refine lv_iload_n hx hb dX7_let_12 rfl (lv_at hl 2 rfl) ?_
      refine lv_bipush (v := 8) hx hb dX7_let_13 (by decide) ?_
      refine lv_icmp_gt (tgt := 26) hx hb dX7_let_15 (by decide) (fun c9 => ?_) (fun c9 => ?_)
      · have hw := hw.1 c9
        refine lv_ldc (v := -1000000002) hx hb hown (hts _ (List.mem_of_getElem? (i := 1) rfl)) dX7_let_26 ?_
        exact G_iret hx hb hr hlocks hw hP hK hD hS dX7_let_28
      · have hw := hw.2 c9
        refine lv_iload_n hx hb dX7_let_18 rfl (lv_at hl 1 rfl) ?_
        refine lv_iload_n hx hb dX7_let_19 rfl (lv_at hl 2 rfl) ?_
        refine lv_iadd hx hb dX7_let_20 ?_
        refine lv_bipush (v := 32) hx hb dX7_let_21 (by decide) ?_
        refine lv_icmp_le (tgt := 29) hx hb dX7_let_23 (by decide) (fun c9 => ?_) (fun c9 => ?_)
        · have hw := hw.1 c9
          refine lv_aload_n hx hb dX7_let_29 rfl (lv_at hl 0 rfl) ?_
          refine va_get (D := D) (ci := 5) (C := RX7) (T := TX7) (N := 12) hx hb hts hinX7 hown hK hP 0 rfl rfl 3 (by decide) (hts _ (List.mem_of_getElem? (i := 2) rfl)) (fun _ h9 => h9) rfl dX7_let_30 ?_
          refine lv_iload_n hx hb dX7_let_33 rfl (lv_at hl 1 rfl) ?_
          refine lv_iload_n hx hb dX7_let_34 rfl (lv_at hl 2 rfl) ?_
          refine G_calli (As := [.int a1, .int a2]) (rest := []) ⟨hx, hb, hml, hown, hts⟩ hK hP hD hS 7 2 rfl rfl (c_X3_anyIsLet_7 l D cI ad A σ a1 a2 _ hw) (cwV 2 hts gX7_let_X3_anyIsLet rfl rfl rfl (by decide +kernel) ⟨Nat.le_of_ble_eq_true rfl, Nat.le_of_ble_eq_true rfl⟩) rfl hl.1 rfl (Nat.le_of_ble_eq_true rfl) dX7_let_35 ⟨Nat.zero_le _, Nat.zero_le _⟩ (fun x3 σ2 hw H locs hP hD hS => ?_)
          refine lv_if_eq (tgt := 44) hx hb dX7_let_38 (by decide) (fun c9 => ?_) (fun c9 => ?_)
          · have hw := hw.1 c9
            refine lv_aload_n hx hb dX7_let_44 rfl (lv_at hl 0 rfl) ?_
            refine va_get (D := D) (ci := 5) (C := RX7) (T := TX7) (N := 12) hx hb hts hinX7 hown hK hP 0 rfl rfl 3 (by decide) (hts _ (List.mem_of_getElem? (i := 2) rfl)) (fun _ h9 => h9) rfl dX7_let_45 ?_
            refine va_get (D := D) (ci := 2) (C := RX3) (T := TX3) (N := 5) hx hb hts hinX3 hown hK hP 7 rfl rfl 3 (by decide) (hts _ (List.mem_of_getElem? (i := 4) rfl)) (fun _ h9 => h9) rfl dX7_let_48 ?_
            refine lv_bipush (v := 12) hx hb dX7_let_51 (by decide) ?_
            refine lv_icmp_lt (tgt := 59) hx hb dX7_let_53 (by decide) (fun c9 => ?_) (fun c9 => ?_)
            · have hw := hw.1 c9
              refine lv_aload_n hx hb dX7_let_59 rfl (lv_at hl 0 rfl) ?_
              refine va_get (D := D) (ci := 5) (C := RX7) (T := TX7) (N := 12) hx hb hts hinX7 hown hK hP 0 rfl rfl 3 (by decide) (hts _ (List.mem_of_getElem? (i := 2) rfl)) (fun _ h9 => h9) rfl dX7_let_60 ?_
              refine lv_iload_n hx hb dX7_let_63 rfl (lv_at hl 1 rfl) ?_
              refine lv_iload_n hx hb dX7_let_64 rfl (lv_at hl 2 rfl) ?_
              refine G_calli (As := [.int a1, .int a2]) (rest := []) ⟨hx, hb, hml, hown, hts⟩ hK hP hD hS 7 2 rfl rfl (c_X3_open_7 l D cI ad A σ2 a1 a2 _ hw) (cwV 2 hts gX7_let_X3_open rfl rfl rfl (by decide +kernel) ⟨Nat.le_of_ble_eq_true rfl, Nat.le_of_ble_eq_true rfl⟩) rfl hl.1 rfl (Nat.le_of_ble_eq_true rfl) dX7_let_65 ⟨Nat.zero_le _, Nat.zero_le _⟩ (fun x5 σ4 hw H locs hP hD hS => ?_)
              refine lv_istore_n (lv' := [(3, .int x5), (0, .ref (ad 0)), (1, .int a1), (2, .int a2)]) hx hb dX7_let_68 rfl hl (by decide) rfl (fun ls hl => ?_)
              refine lv_iload_n hx hb dX7_let_69 rfl (lv_at hl 2 rfl) ?_
              refine lv_istore (lv' := [(4, .int a1), (3, .int x5), (0, .ref (ad 0)), (1, .int a1), (2, .int a2)]) hx hb dX7_let_70 hl (by decide) rfl (fun ls hl => ?_)
              obtain ⟨nn, hw⟩ := hw
              exact hwl_X7_let_72 nn a1 a2 x5 a1 σ4 hw _ _ hP hD hS ls (lv_sub hl [2, 3, 4, 1, 0] rfl)
            · have hw := hw.2 c9
              refine lv_ldc (v := -1000000004) hx hb hown (hts _ (List.mem_of_getElem? (i := 5) rfl)) dX7_let_56 ?_
              exact G_iret hx hb hr hlocks hw hP hK hD hS dX7_let_58
          · have hw := hw.2 c9
            refine lv_ldc (v := -1000000003) hx hb hown (hts _ (List.mem_of_getElem? (i := 3) rfl)) dX7_let_41 ?_
            exact G_iret hx hb hr hlocks hw hP hK hD hS dX7_let_43
        · have hw := hw.2 c9
          refine lv_ldc (v := -1000000002) hx hb hown (hts _ (List.mem_of_getElem? (i := 1) rfl)) dX7_let_26 ?_
          exact G_iret hx hb hr hlocks hw hP hK hD hS dX7_let_28

def wp_X3_close_7 (σ : St) (a1 : Int32) (K : St → Prop) : Prop :=
  ∀ σ1 : St, σ1 = sI σ 4 ((σ.1 4) &&& (((1 : Int32) <<< (a1 &&& 31)) ^^^ (-1 : Int32))) → K σ1
set_option maxHeartbeats 4000000 in
set_option maxRecDepth 100000 in
theorem c_X3_close_7 (l : Launch) (D : va_G) (cI : ClassId) (ad : Nat → Nat) (A : Nat → Prop) (σ : St) (a1 : Int32) (K : St → Prop) (hw : wp_X3_close_7 σ a1 K) : Met l yX3_close wsX3_close ({ frames := 0, cells := 0, slots := 0, locals := 0 }) (va_Pc [.ref (ad 7), .int a1] (GW D [(cI, FieldType.int)] (wC cI ad) A σ)) (va_Qv K (GW D [(cI, FieldType.int)] (wC cI ad) A) A) 0 0 A := by
  refine Met.ofW (cc := cX3_close) (maxL := 2) (ret := none) (by decide) rfl ?_
  intro p e s m args below meth c s₁ B hml hv
  obtain ⟨rfl, hP, hK, hD⟩ := hv
  have hx := B.exec
  have hb := B.bytes
  have hr := B.returns
  have hts := atoms_spec (ws := wsX3_close) B.pre
  have hown : s.vm.findClass RX3 = some m.cls := findClass_of_methodNamed B.named
  have hlocks := B.notSynchronized
  have hS : va_S A s.heap s.heap [] := va_S.rf
  have hinX3 : ∀ w ∈ wsX30, w ∈ wsX3_close := fun _ h => List.mem_cons_of_mem _ (List.mem_append_right _ (h))
  have hl := lv_entry ([.ref (ad 7), .int a1]) (n := 2) (Nat.le_of_ble_eq_true rfl)
  rw [lg_entry_eq]
  generalize (lg_sl ([.ref (ad 7), .int a1]) ++ List.replicate (2 - (lg_sl ([.ref (ad 7), .int a1])).length) Slot.unset).toArray = ls at hl ⊢
  have hl : lv_has ls 2 [(0, .ref (ad 7)), (1, .int a1)] := hl
  have hP : va_P D vwCl (wC cI ad σ) s.heap := hP
  refine lv_aload_n hx hb dX3_close_0 rfl (lv_at hl 0 rfl) ?_
  refine lv_dup hx hb dX3_close_1 rfl ?_
  refine va_get (D := D) (ci := 2) (C := RX3) (T := TX3) (N := 5) hx hb hts hinX3 hown hK hP 7 rfl rfl 4 (by decide) (hts _ (List.mem_of_getElem? (i := 1) rfl)) (fun _ h9 => h9) rfl dX3_close_2 ?_
  refine lv_iconst (v := 1) hx hb dX3_close_5 (by decide) ?_
  refine lv_iload_n hx hb dX3_close_6 rfl (lv_at hl 1 rfl) ?_
  refine lv_ishl hx hb dX3_close_7 ?_
  refine lv_iconst (v := -1) hx hb dX3_close_8 (by decide) ?_
  refine lv_ixor hx hb dX3_close_9 ?_
  refine lv_iand hx hb dX3_close_10 ?_
  refine va_put (D := D) (ci := 2) (ty := .int) (C := RX3) (T := TX3) (N := 5) hx hb hts hinX3 tyX3 tyX3_ok nmX3 hown hK hP hD hS 7 rfl rfl 4 (by decide) (hts _ (List.mem_of_getElem? (i := 1) rfl)) (fun _ h9 => h9) rfl (by decide +kernel) rfl rfl (Nat.le_of_ble_eq_true rfl) dX3_close_11 (fun H locs hP hD hS => ?_)
  obtain ⟨σ1, eσ1⟩ : ∃ z : St, z = sI σ 4 ((σ.1 4) &&& (((1 : Int32) <<< (a1 &&& 31)) ^^^ (-1 : Int32))) := ⟨_, rfl⟩
  have hP : va_P D vwCl (wC cI ad σ1) H := by rw [eσ1]; exact hP
  have hD : va_D A (wC cI ad σ1) := by rw [eσ1]; exact hD
  have hw := hw σ1 eσ1
  exact G_vret hx hb hr hlocks hw hP hK hD hS dX3_close_14

def wp_X7_giveBack (σ : St) (a1 : Int32) (K : Int32 → St → Prop) : Prop :=
  wp_X3_has_7 σ a1 (fun x2 σ1 => ((¬ x2 = 0 → wp_X3_isLet_7 σ1 a1 (fun x4 σ3 => ((¬ x4 = 0 → wp_X3_close_7 σ3 a1 (fun σ5 => vp_in a1 12 ∧ vp_in a1 12 ∧ wp_X7_octetSet (σ5.2.1 3 a1.toNatClampNeg) (σ5.2.1 4 a1.toNatClampNeg) (fun x6 => ∀ σ7 : St, σ7 = sI σ5 0 ((σ5.1 0) ||| x6) → wp_J6_bitCount_0f7a4 (σ7.1 4) (fun x8 => wp_X7_tick σ7 (7 : Int32) x8 (fun x10 σ9 => K x10 σ9))))) ∧ (x4 = 0 → K (-1000000003 : Int32) σ3)))) ∧ (x2 = 0 → K (-1000000001 : Int32) σ1)))
set_option maxHeartbeats 4000000 in
set_option maxRecDepth 100000 in
theorem c_X7_giveBack (l : Launch) (D : va_G) (cI : ClassId) (ad : Nat → Nat) (A : Nat → Prop) (σ : St) (a1 : Int32) (K : Int32 → St → Prop) (hw : wp_X7_giveBack σ a1 K) : Met l yX7_giveBack wsX7_giveBack ({ frames := 3, cells := 0, slots := 0, locals := 66 }) (va_Pc [.ref (ad 0), .int a1] (GW D [(cI, FieldType.int)] (wC cI ad) A σ)) (va_Qi K (GW D [(cI, FieldType.int)] (wC cI ad) A) A) 0 0 A := by
  refine Met.ofW (cc := cX7_giveBack) (maxL := 2) (ret := (some .int)) (by decide) rfl ?_
  intro p e s m args below meth c s₁ B hml hv
  obtain ⟨rfl, hP, hK, hD⟩ := hv
  have hx := B.exec
  have hb := B.bytes
  have hr := B.returns
  have hts := atoms_spec (ws := wsX7_giveBack) B.pre
  have hown : s.vm.findClass RX7 = some m.cls := findClass_of_methodNamed B.named
  have hlocks := B.notSynchronized
  have hS : va_S A s.heap s.heap [] := va_S.rf
  have hinX3 : ∀ w ∈ wsX30, w ∈ wsX7_giveBack := fun _ h => List.mem_cons_of_mem _ (List.mem_append_left _ (List.mem_append_right _ (h)))
  have hinX4 : ∀ w ∈ wsX40, w ∈ wsX7_giveBack := fun _ h => List.mem_cons_of_mem _ (List.mem_append_left _ (List.mem_append_left _ (List.mem_append_right _ (h))))
  have hinX5 : ∀ w ∈ wsX50, w ∈ wsX7_giveBack := fun _ h => List.mem_cons_of_mem _ (List.mem_append_right _ (h))
  have hinX7 : ∀ w ∈ wsX70, w ∈ wsX7_giveBack := fun _ h => List.mem_cons_of_mem _ (List.mem_append_left _ (List.mem_append_left _ (List.mem_append_left _ (List.mem_append_right _ (h)))))
  have hl := lv_entry ([.ref (ad 0), .int a1]) (n := 2) (Nat.le_of_ble_eq_true rfl)
  rw [lg_entry_eq]
  generalize (lg_sl ([.ref (ad 0), .int a1]) ++ List.replicate (2 - (lg_sl ([.ref (ad 0), .int a1])).length) Slot.unset).toArray = ls at hl ⊢
  have hl : lv_has ls 2 [(0, .ref (ad 0)), (1, .int a1)] := hl
  have hP : va_P D vwCl (wC cI ad σ) s.heap := hP
  refine lv_aload_n hx hb dX7_giveBack_0 rfl (lv_at hl 0 rfl) ?_
  refine va_get (D := D) (ci := 5) (C := RX7) (T := TX7) (N := 12) hx hb hts hinX7 hown hK hP 0 rfl rfl 3 (by decide) (hts _ (List.mem_of_getElem? (i := 1) rfl)) (fun _ h9 => h9) rfl dX7_giveBack_1 ?_
  refine lv_iload_n hx hb dX7_giveBack_4 rfl (lv_at hl 1 rfl) ?_
  refine G_calli (As := [.int a1]) (rest := []) ⟨hx, hb, hml, hown, hts⟩ hK hP hD hS 7 2 rfl rfl (c_X3_has_7 l D cI ad A σ a1 _ hw) (cwV 1 hts gX7_giveBack_X3_has rfl rfl rfl (by decide +kernel) ⟨Nat.le_of_ble_eq_true rfl, Nat.le_of_ble_eq_true rfl⟩) rfl hl.1 rfl (Nat.le_of_ble_eq_true rfl) dX7_giveBack_5 ⟨Nat.zero_le _, Nat.zero_le _⟩ (fun x2 σ1 hw H locs hP hD hS => ?_)
  refine lv_if_ne (tgt := 14) hx hb dX7_giveBack_8 (by decide) (fun c9 => ?_) (fun c9 => ?_)
  · have hw := hw.1 c9
    refine lv_aload_n hx hb dX7_giveBack_14 rfl (lv_at hl 0 rfl) ?_
    refine va_get (D := D) (ci := 5) (C := RX7) (T := TX7) (N := 12) hx hb hts hinX7 hown hK hP 0 rfl rfl 3 (by decide) (hts _ (List.mem_of_getElem? (i := 1) rfl)) (fun _ h9 => h9) rfl dX7_giveBack_15 ?_
    refine lv_iload_n hx hb dX7_giveBack_18 rfl (lv_at hl 1 rfl) ?_
    refine G_calli (As := [.int a1]) (rest := []) ⟨hx, hb, hml, hown, hts⟩ hK hP hD hS 7 2 rfl rfl (c_X3_isLet_7 l D cI ad A σ1 a1 _ hw) (cwV 1 hts gX7_giveBack_X3_isLet rfl rfl rfl (by decide +kernel) ⟨Nat.le_of_ble_eq_true rfl, Nat.le_of_ble_eq_true rfl⟩) rfl hl.1 rfl (Nat.le_of_ble_eq_true rfl) dX7_giveBack_19 ⟨Nat.zero_le _, Nat.zero_le _⟩ (fun x4 σ3 hw H locs hP hD hS => ?_)
    refine lv_if_ne (tgt := 28) hx hb dX7_giveBack_22 (by decide) (fun c9 => ?_) (fun c9 => ?_)
    · have hw := hw.1 c9
      refine lv_aload_n hx hb dX7_giveBack_28 rfl (lv_at hl 0 rfl) ?_
      refine va_get (D := D) (ci := 5) (C := RX7) (T := TX7) (N := 12) hx hb hts hinX7 hown hK hP 0 rfl rfl 3 (by decide) (hts _ (List.mem_of_getElem? (i := 1) rfl)) (fun _ h9 => h9) rfl dX7_giveBack_29 ?_
      refine lv_iload_n hx hb dX7_giveBack_32 rfl (lv_at hl 1 rfl) ?_
      refine G_callv (As := [.int a1]) (rest := []) ⟨hx, hb, hml, hown, hts⟩ hK hP hD hS 7 2 rfl rfl (c_X3_close_7 l D cI ad A σ3 a1 _ hw) (cwV 1 hts gX7_giveBack_X3_close rfl rfl rfl (by decide +kernel) ⟨Nat.le_of_ble_eq_true rfl, Nat.le_of_ble_eq_true rfl⟩) rfl hl.1 rfl (Nat.le_of_ble_eq_true rfl) dX7_giveBack_33 ⟨Nat.zero_le _, Nat.zero_le _⟩ (fun σ5 hw H locs hP hD hS => ?_)
      refine lv_aload_n hx hb dX7_giveBack_36 rfl (lv_at hl 0 rfl) ?_
      refine va_get (D := D) (ci := 5) (C := RX7) (T := TX7) (N := 12) hx hb hts hinX7 hown hK hP 0 rfl rfl 0 (by decide) (hts _ (List.mem_of_getElem? (i := 4) rfl)) (fun _ h9 => h9) rfl dX7_giveBack_37 ?_
      refine lv_dup hx hb dX7_giveBack_40 rfl ?_
      refine va_get (D := D) (ci := 3) (C := RX4) (T := TX4) (N := 2) hx hb hts hinX4 hown hK hP 1 rfl rfl 1 (by decide) (hts _ (List.mem_of_getElem? (i := 5) rfl)) (fun _ h9 => h9) rfl dX7_giveBack_41 ?_
      refine lv_aload_n hx hb dX7_giveBack_44 rfl (lv_at hl 0 rfl) ?_
      refine va_get (D := D) (ci := 5) (C := RX7) (T := TX7) (N := 12) hx hb hts hinX7 hown hK hP 0 rfl rfl 3 (by decide) (hts _ (List.mem_of_getElem? (i := 1) rfl)) (fun _ h9 => h9) rfl dX7_giveBack_45 ?_
      refine va_get (D := D) (ci := 2) (C := RX3) (T := TX3) (N := 5) hx hb hts hinX3 hown hK hP 7 rfl rfl 0 (by decide) (hts _ (List.mem_of_getElem? (i := 6) rfl)) (fun _ h9 => h9) rfl dX7_giveBack_48 ?_
      refine lv_iload_n hx hb dX7_giveBack_51 rfl (lv_at hl 1 rfl) ?_
      refine va_iald (D := D) hx hb hK hP 8 0 rfl rfl hw.1 dX7_giveBack_52 ?_
      have hw := hw.2
      refine lv_aload_n hx hb dX7_giveBack_53 rfl (lv_at hl 0 rfl) ?_
      refine va_get (D := D) (ci := 5) (C := RX7) (T := TX7) (N := 12) hx hb hts hinX7 hown hK hP 0 rfl rfl 3 (by decide) (hts _ (List.mem_of_getElem? (i := 1) rfl)) (fun _ h9 => h9) rfl dX7_giveBack_54 ?_
      refine va_get (D := D) (ci := 2) (C := RX3) (T := TX3) (N := 5) hx hb hts hinX3 hown hK hP 7 rfl rfl 1 (by decide) (hts _ (List.mem_of_getElem? (i := 7) rfl)) (fun _ h9 => h9) rfl dX7_giveBack_57 ?_
      refine lv_iload_n hx hb dX7_giveBack_60 rfl (lv_at hl 1 rfl) ?_
      refine va_iald (D := D) hx hb hK hP 9 0 rfl rfl hw.1 dX7_giveBack_61 ?_
      have hw := hw.2
      refine S_calli (As := [.int (σ5.2.1 3 a1.toNatClampNeg), .int (σ5.2.1 4 a1.toNatClampNeg)]) (rest := [.int (σ5.1 0), .ref (ad 1)]) ⟨hx, hb, hml, hown, hts⟩ (c_X7_octetSet l (σ5.2.1 3 a1.toNatClampNeg) (σ5.2.1 4 a1.toNatClampNeg) _ hw) (va_cwS 2 hts gX7_giveBack_X7_octetSet rfl rfl rfl (by decide +kernel) ⟨Nat.le_of_ble_eq_true rfl, Nat.le_of_ble_eq_true rfl⟩) rfl hl.1 rfl (Nat.le_of_ble_eq_true rfl) dX7_giveBack_62 ⟨Nat.zero_le _, Nat.zero_le _⟩ (fun x6 hw => ?_)
      refine lv_ior hx hb dX7_giveBack_65 ?_
      refine va_put (D := D) (ci := 3) (ty := .int) (C := RX4) (T := TX4) (N := 2) hx hb hts hinX4 tyX4 tyX4_ok nmX4 hown hK hP hD hS 1 rfl rfl 1 (by decide) (hts _ (List.mem_of_getElem? (i := 5) rfl)) (fun _ h9 => h9) rfl (by decide +kernel) rfl rfl (Nat.le_of_ble_eq_true rfl) dX7_giveBack_66 (fun H locs hP hD hS => ?_)
      obtain ⟨σ7, eσ7⟩ : ∃ z : St, z = sI σ5 0 ((σ5.1 0) ||| x6) := ⟨_, rfl⟩
      have hP : va_P D vwCl (wC cI ad σ7) H := by rw [eσ7]; exact hP
      have hD : va_D A (wC cI ad σ7) := by rw [eσ7]; exact hD
      have hw := hw σ7 eσ7
      refine lv_aload_n hx hb dX7_giveBack_69 rfl (lv_at hl 0 rfl) ?_
      refine lv_bipush (v := 7) hx hb dX7_giveBack_70 (by decide) ?_
      refine lv_aload_n hx hb dX7_giveBack_72 rfl (lv_at hl 0 rfl) ?_
      refine va_get (D := D) (ci := 5) (C := RX7) (T := TX7) (N := 12) hx hb hts hinX7 hown hK hP 0 rfl rfl 3 (by decide) (hts _ (List.mem_of_getElem? (i := 1) rfl)) (fun _ h9 => h9) rfl dX7_giveBack_73 ?_
      refine va_get (D := D) (ci := 2) (C := RX3) (T := TX3) (N := 5) hx hb hts hinX3 hown hK hP 7 rfl rfl 4 (by decide) (hts _ (List.mem_of_getElem? (i := 8) rfl)) (fun _ h9 => h9) rfl dX7_giveBack_76 ?_
      refine S_calli (As := [.int (σ7.1 4)]) (rest := [.int (7 : Int32), .ref (ad 0)]) ⟨hx, hb, hml, hown, hts⟩ (c_J6_bitCount_0f7a4 l (σ7.1 4) _ hw) (va_cwS 1 hts gX7_giveBack_J6_bitCount_0f7a4 rfl rfl rfl (by decide +kernel) ⟨Nat.le_of_ble_eq_true rfl, Nat.le_of_ble_eq_true rfl⟩) rfl hl.1 rfl (Nat.le_of_ble_eq_true rfl) dX7_giveBack_79 ⟨Nat.zero_le _, Nat.zero_le _⟩ (fun x8 hw => ?_)
      refine G_calli (As := [.int (7 : Int32), .int x8]) (rest := []) ⟨hx, hb, hml, hown, hts⟩ hK hP hD hS 0 5 rfl rfl (c_X7_tick l D cI ad A σ7 (7 : Int32) x8 _ hw) (cwV 2 hts gX7_giveBack_X7_tick rfl rfl rfl (by decide +kernel) ⟨Nat.le_of_ble_eq_true rfl, Nat.le_of_ble_eq_true rfl⟩) rfl hl.1 rfl (Nat.le_of_ble_eq_true rfl) dX7_giveBack_82 ⟨Nat.zero_le _, Nat.zero_le _⟩ (fun x10 σ9 hw H locs hP hD hS => ?_)
      exact G_iret hx hb hr hlocks hw hP hK hD hS dX7_giveBack_85
    · have hw := hw.2 c9
      refine lv_ldc (v := -1000000003) hx hb hown (hts _ (List.mem_of_getElem? (i := 3) rfl)) dX7_giveBack_25 ?_
      exact G_iret hx hb hr hlocks hw hP hK hD hS dX7_giveBack_27
  · have hw := hw.2 c9
    refine lv_ldc (v := -1000000001) hx hb hown (hts _ (List.mem_of_getElem? (i := 2) rfl)) dX7_giveBack_11 ?_
    exact G_iret hx hb hr hlocks hw hP hK hD hS dX7_giveBack_13

def wp_X7_doByLots (σ : St) (K : St → Prop) : Prop :=
  wp_X7_nextLot σ (fun x2 σ1 => ∀ x3 : Int32, x3 = x2 - x2 / (4 : Int32) * (4 : Int32) → ((¬ x3 = 0 → ((¬ x3 = (1 : Int32) → ((¬ x3 = (2 : Int32) → wp_X7_nextLot σ1 (fun x5 σ4 => wp_X7_decide σ4 (x5 - x5 / (8 : Int32) * (8 : Int32)) (fun x7 σ6 => K σ6))) ∧ (x3 = (2 : Int32) → wp_X7_nextLot σ1 (fun x9 σ8 => ∀ x10 : Int32, x10 = x9 - x9 / (8 : Int32) * (8 : Int32) → wp_X7_nextLot σ8 (fun x12 σ11 => wp_X7_store σ11 x10 (x12 - x12 / (32 : Int32) * (32 : Int32)) (fun x14 σ13 => K σ13)))))) ∧ (x3 = (1 : Int32) → wp_X7_nextLot σ1 (fun x16 σ15 => ∀ x17 : Int32, x17 = x16 - x16 / (8 : Int32) * (8 : Int32) → wp_X7_nextLot σ15 (fun x19 σ18 => wp_X7_load σ18 x17 (x19 - x19 / (32 : Int32) * (32 : Int32)) (fun x21 σ20 => K σ20)))))) ∧ (x3 = 0 → wp_X7_nextLot σ1 (fun x23 σ22 => ∀ x24 : Int32, x24 = x23 - x23 / (7 : Int32) * (7 : Int32) → wp_X7_nextLot σ22 (fun x26 σ25 => ∀ x27 : Int32, x27 = x26 - x26 / (8 : Int32) * (8 : Int32) → wp_X7_nextLot σ25 (fun x29 σ28 => ∀ x30 : Int32, x30 = x29 - x29 / (8 : Int32) * (8 : Int32) → wp_X7_nextLot σ28 (fun x32 σ31 => wp_X7_followRule σ31 x24 x27 x30 (x32 - x32 / (8 : Int32) * (8 : Int32)) (fun x34 σ33 => K σ33))))))))
set_option maxHeartbeats 4000000 in
set_option maxRecDepth 100000 in
theorem c_X7_doByLots (l : Launch) (D : va_G) (cI : ClassId) (ad : Nat → Nat) (A : Nat → Prop) (σ : St) (K : St → Prop) (hw : wp_X7_doByLots σ K) : Met l yX7_doByLots wsX7_doByLots ({ frames := 4, cells := 0, slots := 0, locals := 99 }) (va_Pc [.ref (ad 0)] (GW D [(cI, FieldType.int)] (wC cI ad) A σ)) (va_Qv K (GW D [(cI, FieldType.int)] (wC cI ad) A) A) 0 0 A := by
  refine Met.ofW (cc := cX7_doByLots) (maxL := 5) (ret := none) (by decide) rfl ?_
  intro p e s m args below meth c s₁ B hml hv
  obtain ⟨rfl, hP, hK, hD⟩ := hv
  have hx := B.exec
  have hb := B.bytes
  have hr := B.returns
  have hts := atoms_spec (ws := wsX7_doByLots) B.pre
  have hown : s.vm.findClass RX7 = some m.cls := findClass_of_methodNamed B.named
  have hlocks := B.notSynchronized
  have hS : va_S A s.heap s.heap [] := va_S.rf
  have hinX1 : ∀ w ∈ wsX10, w ∈ wsX7_doByLots := fun _ h => List.mem_cons_of_mem _ (List.mem_append_left _ (List.mem_append_left _ (List.mem_append_left _ (List.mem_append_right _ (h)))))
  have hinX2 : ∀ w ∈ wsX20, w ∈ wsX7_doByLots := fun _ h => List.mem_cons_of_mem _ (List.mem_append_right _ (h))
  have hinX3 : ∀ w ∈ wsX30, w ∈ wsX7_doByLots := fun _ h => List.mem_cons_of_mem _ (List.mem_append_left _ (List.mem_append_right _ (h)))
  have hinX4 : ∀ w ∈ wsX40, w ∈ wsX7_doByLots := fun _ h => List.mem_cons_of_mem _ (List.mem_append_left _ (List.mem_append_left _ (List.mem_append_left _ (List.mem_append_left _ (List.mem_append_right _ (h))))))
  have hinX5 : ∀ w ∈ wsX50, w ∈ wsX7_doByLots := fun _ h => List.mem_cons_of_mem _ (List.mem_append_left _ (List.mem_append_left _ (List.mem_append_right _ (h))))
  have hinX7 : ∀ w ∈ wsX70, w ∈ wsX7_doByLots := fun _ h => List.mem_cons_of_mem _ (List.mem_append_left _ (List.mem_append_left _ (List.mem_append_left _ (List.mem_append_left _ (List.mem_append_left _ (List.mem_append_right _ (h)))))))
  have hl := lv_entry ([.ref (ad 0)]) (n := 5) (Nat.le_of_ble_eq_true rfl)
  rw [lg_entry_eq]
  generalize (lg_sl ([.ref (ad 0)]) ++ List.replicate (5 - (lg_sl ([.ref (ad 0)])).length) Slot.unset).toArray = ls at hl ⊢
  have hl : lv_has ls 5 [(0, .ref (ad 0))] := hl
  have hP : va_P D vwCl (wC cI ad σ) s.heap := hP
  refine lv_aload_n hx hb dX7_doByLots_0 rfl (lv_at hl 0 rfl) ?_
  refine G_calli (As := []) (rest := []) ⟨hx, hb, hml, hown, hts⟩ hK hP hD hS 0 5 rfl rfl (c_X7_nextLot l D cI ad A σ _ hw) (cwV 0 hts gX7_doByLots_X7_nextLot rfl rfl rfl (by decide +kernel) ⟨Nat.le_of_ble_eq_true rfl, Nat.le_of_ble_eq_true rfl⟩) rfl hl.1 rfl (Nat.le_of_ble_eq_true rfl) dX7_doByLots_1 ⟨Nat.zero_le _, Nat.zero_le _⟩ (fun x2 σ1 hw H locs hP hD hS => ?_)
  refine lv_iconst (v := 4) hx hb dX7_doByLots_4 (by decide) ?_
  refine lv_irem hx hb dX7_doByLots_5 (by decide) ?_
  refine lv_topi (fun x3 ex3 => ?_)
  have hw := hw x3 ex3
  refine lv_istore_n (lv' := [(1, .int x3), (0, .ref (ad 0))]) hx hb dX7_doByLots_6 rfl hl (by decide) rfl (fun ls hl => ?_)
  refine lv_iload_n hx hb dX7_doByLots_7 rfl (lv_at hl 0 rfl) ?_
  refine lv_if_ne (tgt := 55) hx hb dX7_doByLots_8 (by decide) (fun c9 => ?_) (fun c9 => ?_)
  · have hw := hw.1 c9
    refine lv_iload_n hx hb dX7_doByLots_55 rfl (lv_at hl 0 rfl) ?_
    refine lv_iconst (v := 1) hx hb dX7_doByLots_56 (by decide) ?_
    refine lv_icmp_ne (tgt := 84) hx hb dX7_doByLots_57 (by decide) (fun c9 => ?_) (fun c9 => ?_)
    · have hw := hw.1 c9
      refine lv_iload_n hx hb dX7_doByLots_84 rfl (lv_at hl 0 rfl) ?_
      refine lv_iconst (v := 2) hx hb dX7_doByLots_85 (by decide) ?_
      refine lv_icmp_ne (tgt := 113) hx hb dX7_doByLots_86 (by decide) (fun c9 => ?_) (fun c9 => ?_)
      · have hw := hw.1 c9
        refine lv_aload_n hx hb dX7_doByLots_113 rfl (lv_at hl 1 rfl) ?_
        refine lv_aload_n hx hb dX7_doByLots_114 rfl (lv_at hl 1 rfl) ?_
        refine G_calli (As := []) (rest := [.ref (ad 0)]) ⟨hx, hb, hml, hown, hts⟩ hK hP hD hS 0 5 rfl rfl (c_X7_nextLot l D cI ad A σ1 _ hw) (cwV 0 hts gX7_doByLots_X7_nextLot rfl rfl rfl (by decide +kernel) ⟨Nat.le_of_ble_eq_true rfl, Nat.le_of_ble_eq_true rfl⟩) rfl hl.1 rfl (Nat.le_of_ble_eq_true rfl) dX7_doByLots_115 ⟨Nat.zero_le _, Nat.zero_le _⟩ (fun x5 σ4 hw H locs hP hD hS => ?_)
        refine lv_bipush (v := 8) hx hb dX7_doByLots_118 (by decide) ?_
        refine lv_irem hx hb dX7_doByLots_120 (by decide) ?_
        refine G_calli (As := [.int (x5 - x5 / (8 : Int32) * (8 : Int32))]) (rest := []) ⟨hx, hb, hml, hown, hts⟩ hK hP hD hS 0 5 rfl rfl (c_X7_decide l D cI ad A σ4 (x5 - x5 / (8 : Int32) * (8 : Int32)) _ hw) (cwV 1 hts gX7_doByLots_X7_decide rfl rfl rfl (by decide +kernel) ⟨Nat.le_of_ble_eq_true rfl, Nat.le_of_ble_eq_true rfl⟩) rfl hl.1 rfl (Nat.le_of_ble_eq_true rfl) dX7_doByLots_121 ⟨Nat.zero_le _, Nat.zero_le _⟩ (fun x7 σ6 hw H locs hP hD hS => ?_)
        refine lv_pop hx hb dX7_doByLots_124 rfl ?_
        exact G_vret hx hb hr hlocks hw hP hK hD hS dX7_doByLots_125
      · have hw := hw.2 c9
        refine lv_aload_n hx hb dX7_doByLots_89 rfl (lv_at hl 1 rfl) ?_
        refine G_calli (As := []) (rest := []) ⟨hx, hb, hml, hown, hts⟩ hK hP hD hS 0 5 rfl rfl (c_X7_nextLot l D cI ad A σ1 _ hw) (cwV 0 hts gX7_doByLots_X7_nextLot rfl rfl rfl (by decide +kernel) ⟨Nat.le_of_ble_eq_true rfl, Nat.le_of_ble_eq_true rfl⟩) rfl hl.1 rfl (Nat.le_of_ble_eq_true rfl) dX7_doByLots_90 ⟨Nat.zero_le _, Nat.zero_le _⟩ (fun x9 σ8 hw H locs hP hD hS => ?_)
        refine lv_bipush (v := 8) hx hb dX7_doByLots_93 (by decide) ?_
        refine lv_irem hx hb dX7_doByLots_95 (by decide) ?_
        refine lv_topi (fun x10 ex10 => ?_)
        have hw := hw x10 ex10
        refine lv_istore_n (lv' := [(2, .int x10), (1, .int x3), (0, .ref (ad 0))]) hx hb dX7_doByLots_96 rfl hl (by decide) rfl (fun ls hl => ?_)
        refine lv_aload_n hx hb dX7_doByLots_97 rfl (lv_at hl 2 rfl) ?_
        refine lv_iload_n hx hb dX7_doByLots_98 rfl (lv_at hl 0 rfl) ?_
        refine lv_aload_n hx hb dX7_doByLots_99 rfl (lv_at hl 2 rfl) ?_
        refine G_calli (As := []) (rest := [.int x10, .ref (ad 0)]) ⟨hx, hb, hml, hown, hts⟩ hK hP hD hS 0 5 rfl rfl (c_X7_nextLot l D cI ad A σ8 _ hw) (cwV 0 hts gX7_doByLots_X7_nextLot rfl rfl rfl (by decide +kernel) ⟨Nat.le_of_ble_eq_true rfl, Nat.le_of_ble_eq_true rfl⟩) rfl hl.1 rfl (Nat.le_of_ble_eq_true rfl) dX7_doByLots_100 ⟨Nat.zero_le _, Nat.zero_le _⟩ (fun x12 σ11 hw H locs hP hD hS => ?_)
        refine lv_bipush (v := 32) hx hb dX7_doByLots_103 (by decide) ?_
        refine lv_irem hx hb dX7_doByLots_105 (by decide) ?_
        refine G_calli (As := [.int x10, .int (x12 - x12 / (32 : Int32) * (32 : Int32))]) (rest := []) ⟨hx, hb, hml, hown, hts⟩ hK hP hD hS 0 5 rfl rfl (c_X7_store l D cI ad A σ11 x10 (x12 - x12 / (32 : Int32) * (32 : Int32)) _ hw) (cwV 2 hts gX7_doByLots_X7_store rfl rfl rfl (by decide +kernel) ⟨Nat.le_of_ble_eq_true rfl, Nat.le_of_ble_eq_true rfl⟩) rfl hl.1 rfl (Nat.le_of_ble_eq_true rfl) dX7_doByLots_106 ⟨Nat.zero_le _, Nat.zero_le _⟩ (fun x14 σ13 hw H locs hP hD hS => ?_)
        refine lv_pop hx hb dX7_doByLots_109 rfl ?_
        refine lv_goto (tgt := 125) hx hb dX7_doByLots_110 (by decide) ?_
        exact G_vret hx hb hr hlocks hw hP hK hD hS dX7_doByLots_125
    · have hw := hw.2 c9
      refine lv_aload_n hx hb dX7_doByLots_60 rfl (lv_at hl 1 rfl) ?_
      refine G_calli (As := []) (rest := []) ⟨hx, hb, hml, hown, hts⟩ hK hP hD hS 0 5 rfl rfl (c_X7_nextLot l D cI ad A σ1 _ hw) (cwV 0 hts gX7_doByLots_X7_nextLot rfl rfl rfl (by decide +kernel) ⟨Nat.le_of_ble_eq_true rfl, Nat.le_of_ble_eq_true rfl⟩) rfl hl.1 rfl (Nat.le_of_ble_eq_true rfl) dX7_doByLots_61 ⟨Nat.zero_le _, Nat.zero_le _⟩ (fun x16 σ15 hw H locs hP hD hS => ?_)
      refine lv_bipush (v := 8) hx hb dX7_doByLots_64 (by decide) ?_
      refine lv_irem hx hb dX7_doByLots_66 (by decide) ?_
      refine lv_topi (fun x17 ex17 => ?_)
      have hw := hw x17 ex17
      refine lv_istore_n (lv' := [(2, .int x17), (1, .int x3), (0, .ref (ad 0))]) hx hb dX7_doByLots_67 rfl hl (by decide) rfl (fun ls hl => ?_)
      refine lv_aload_n hx hb dX7_doByLots_68 rfl (lv_at hl 2 rfl) ?_
      refine lv_iload_n hx hb dX7_doByLots_69 rfl (lv_at hl 0 rfl) ?_
      refine lv_aload_n hx hb dX7_doByLots_70 rfl (lv_at hl 2 rfl) ?_
      refine G_calli (As := []) (rest := [.int x17, .ref (ad 0)]) ⟨hx, hb, hml, hown, hts⟩ hK hP hD hS 0 5 rfl rfl (c_X7_nextLot l D cI ad A σ15 _ hw) (cwV 0 hts gX7_doByLots_X7_nextLot rfl rfl rfl (by decide +kernel) ⟨Nat.le_of_ble_eq_true rfl, Nat.le_of_ble_eq_true rfl⟩) rfl hl.1 rfl (Nat.le_of_ble_eq_true rfl) dX7_doByLots_71 ⟨Nat.zero_le _, Nat.zero_le _⟩ (fun x19 σ18 hw H locs hP hD hS => ?_)
      refine lv_bipush (v := 32) hx hb dX7_doByLots_74 (by decide) ?_
      refine lv_irem hx hb dX7_doByLots_76 (by decide) ?_
      refine G_calli (As := [.int x17, .int (x19 - x19 / (32 : Int32) * (32 : Int32))]) (rest := []) ⟨hx, hb, hml, hown, hts⟩ hK hP hD hS 0 5 rfl rfl (c_X7_load l D cI ad A σ18 x17 (x19 - x19 / (32 : Int32) * (32 : Int32)) _ hw) (cwV 2 hts gX7_doByLots_X7_load rfl rfl rfl (by decide +kernel) ⟨Nat.le_of_ble_eq_true rfl, Nat.le_of_ble_eq_true rfl⟩) rfl hl.1 rfl (Nat.le_of_ble_eq_true rfl) dX7_doByLots_77 ⟨Nat.zero_le _, Nat.zero_le _⟩ (fun x21 σ20 hw H locs hP hD hS => ?_)
      refine lv_pop hx hb dX7_doByLots_80 rfl ?_
      refine lv_goto (tgt := 125) hx hb dX7_doByLots_81 (by decide) ?_
      exact G_vret hx hb hr hlocks hw hP hK hD hS dX7_doByLots_125
  · have hw := hw.2 c9
    refine lv_aload_n hx hb dX7_doByLots_11 rfl (lv_at hl 1 rfl) ?_
    refine G_calli (As := []) (rest := []) ⟨hx, hb, hml, hown, hts⟩ hK hP hD hS 0 5 rfl rfl (c_X7_nextLot l D cI ad A σ1 _ hw) (cwV 0 hts gX7_doByLots_X7_nextLot rfl rfl rfl (by decide +kernel) ⟨Nat.le_of_ble_eq_true rfl, Nat.le_of_ble_eq_true rfl⟩) rfl hl.1 rfl (Nat.le_of_ble_eq_true rfl) dX7_doByLots_12 ⟨Nat.zero_le _, Nat.zero_le _⟩ (fun x23 σ22 hw H locs hP hD hS => ?_)
    refine lv_bipush (v := 7) hx hb dX7_doByLots_15 (by decide) ?_
    refine lv_irem hx hb dX7_doByLots_17 (by decide) ?_
    refine lv_topi (fun x24 ex24 => ?_)
    have hw := hw x24 ex24
    refine lv_istore_n (lv' := [(2, .int x24), (1, .int x3), (0, .ref (ad 0))]) hx hb dX7_doByLots_18 rfl hl (by decide) rfl (fun ls hl => ?_)
    refine lv_aload_n hx hb dX7_doByLots_19 rfl (lv_at hl 2 rfl) ?_
    refine G_calli (As := []) (rest := []) ⟨hx, hb, hml, hown, hts⟩ hK hP hD hS 0 5 rfl rfl (c_X7_nextLot l D cI ad A σ22 _ hw) (cwV 0 hts gX7_doByLots_X7_nextLot rfl rfl rfl (by decide +kernel) ⟨Nat.le_of_ble_eq_true rfl, Nat.le_of_ble_eq_true rfl⟩) rfl hl.1 rfl (Nat.le_of_ble_eq_true rfl) dX7_doByLots_20 ⟨Nat.zero_le _, Nat.zero_le _⟩ (fun x26 σ25 hw H locs hP hD hS => ?_)
    refine lv_bipush (v := 8) hx hb dX7_doByLots_23 (by decide) ?_
    refine lv_irem hx hb dX7_doByLots_25 (by decide) ?_
    refine lv_topi (fun x27 ex27 => ?_)
    have hw := hw x27 ex27
    refine lv_istore_n (lv' := [(3, .int x27), (2, .int x24), (1, .int x3), (0, .ref (ad 0))]) hx hb dX7_doByLots_26 rfl hl (by decide) rfl (fun ls hl => ?_)
    refine lv_aload_n hx hb dX7_doByLots_27 rfl (lv_at hl 3 rfl) ?_
    refine G_calli (As := []) (rest := []) ⟨hx, hb, hml, hown, hts⟩ hK hP hD hS 0 5 rfl rfl (c_X7_nextLot l D cI ad A σ25 _ hw) (cwV 0 hts gX7_doByLots_X7_nextLot rfl rfl rfl (by decide +kernel) ⟨Nat.le_of_ble_eq_true rfl, Nat.le_of_ble_eq_true rfl⟩) rfl hl.1 rfl (Nat.le_of_ble_eq_true rfl) dX7_doByLots_28 ⟨Nat.zero_le _, Nat.zero_le _⟩ (fun x29 σ28 hw H locs hP hD hS => ?_)
    refine lv_bipush (v := 8) hx hb dX7_doByLots_31 (by decide) ?_
    refine lv_irem hx hb dX7_doByLots_33 (by decide) ?_
    refine lv_topi (fun x30 ex30 => ?_)
    have hw := hw x30 ex30
    refine lv_istore (lv' := [(4, .int x30), (3, .int x27), (2, .int x24), (1, .int x3), (0, .ref (ad 0))]) hx hb dX7_doByLots_34 hl (by decide) rfl (fun ls hl => ?_)
    refine lv_aload_n hx hb dX7_doByLots_36 rfl (lv_at hl 4 rfl) ?_
    refine lv_iload_n hx hb dX7_doByLots_37 rfl (lv_at hl 2 rfl) ?_
    refine lv_iload_n hx hb dX7_doByLots_38 rfl (lv_at hl 1 rfl) ?_
    refine lv_iload hx hb dX7_doByLots_39 (lv_at hl 0 rfl) ?_
    refine lv_aload_n hx hb dX7_doByLots_41 rfl (lv_at hl 4 rfl) ?_
    refine G_calli (As := []) (rest := [.int x30, .int x27, .int x24, .ref (ad 0)]) ⟨hx, hb, hml, hown, hts⟩ hK hP hD hS 0 5 rfl rfl (c_X7_nextLot l D cI ad A σ28 _ hw) (cwV 0 hts gX7_doByLots_X7_nextLot rfl rfl rfl (by decide +kernel) ⟨Nat.le_of_ble_eq_true rfl, Nat.le_of_ble_eq_true rfl⟩) rfl hl.1 rfl (Nat.le_of_ble_eq_true rfl) dX7_doByLots_42 ⟨Nat.zero_le _, Nat.zero_le _⟩ (fun x32 σ31 hw H locs hP hD hS => ?_)
    refine lv_bipush (v := 8) hx hb dX7_doByLots_45 (by decide) ?_
    refine lv_irem hx hb dX7_doByLots_47 (by decide) ?_
    refine G_calli (As := [.int x24, .int x27, .int x30, .int (x32 - x32 / (8 : Int32) * (8 : Int32))]) (rest := []) ⟨hx, hb, hml, hown, hts⟩ hK hP hD hS 0 5 rfl rfl (c_X7_followRule l D cI ad A σ31 x24 x27 x30 (x32 - x32 / (8 : Int32) * (8 : Int32)) _ hw) (cwV 4 hts gX7_doByLots_X7_followRule rfl rfl rfl (by decide +kernel) ⟨Nat.le_of_ble_eq_true rfl, Nat.le_of_ble_eq_true rfl⟩) rfl hl.1 rfl (Nat.le_of_ble_eq_true rfl) dX7_doByLots_48 ⟨Nat.zero_le _, Nat.zero_le _⟩ (fun x34 σ33 hw H locs hP hD hS => ?_)
    refine lv_pop hx hb dX7_doByLots_51 rfl ?_
    refine lv_goto (tgt := 125) hx hb dX7_doByLots_52 (by decide) ?_
    exact G_vret hx hb hr hlocks hw hP hK hD hS dX7_doByLots_125

def wl_X7_drift_16 (K : Int32 → St → Prop) : Nat → Int32 → Int32 → St → Prop
  | 0, _, _, _ => False
  | n + 1, v1, v2, σ => ((v1 ≤ v2 → K (σ.1 5) σ) ∧ (¬ v1 ≤ v2 → wp_X7_doByLots σ (fun σ1 => ∀ x2 : Int32, x2 = v2 + 1 → wl_X7_drift_16 K n v1 x2 σ1)))
def wp_X7_drift (σ : St) (a1 : Int32) (K : Int32 → St → Prop) : Prop :=
  ((a1 < (1 : Int32) → K (-1000000002 : Int32) σ) ∧ (¬ a1 < (1 : Int32) → ((a1 ≤ (40 : Int32) → (∃ nn : Nat, wl_X7_drift_16 K nn a1 (0 : Int32) σ)) ∧ (¬ a1 ≤ (40 : Int32) → K (-1000000002 : Int32) σ))))
set_option maxHeartbeats 4000000 in
set_option maxRecDepth 100000 in
theorem c_X7_drift (l : Launch) (D : va_G) (cI : ClassId) (ad : Nat → Nat) (A : Nat → Prop) (σ : St) (a1 : Int32) (K : Int32 → St → Prop) (hw : wp_X7_drift σ a1 K) : Met l yX7_drift wsX7_drift ({ frames := 5, cells := 0, slots := 0, locals := 123 }) (va_Pc [.ref (ad 0), .int a1] (GW D [(cI, FieldType.int)] (wC cI ad) A σ)) (va_Qi K (GW D [(cI, FieldType.int)] (wC cI ad) A) A) 0 0 A := by
  refine Met.ofW (cc := cX7_drift) (maxL := 3) (ret := (some .int)) (by decide) rfl ?_
  intro p e s m args below meth c s₁ B hml hv
  obtain ⟨rfl, hP, hK, hD⟩ := hv
  have hx := B.exec
  have hb := B.bytes
  have hr := B.returns
  have hts := atoms_spec (ws := wsX7_drift) B.pre
  have hown : s.vm.findClass RX7 = some m.cls := findClass_of_methodNamed B.named
  have hlocks := B.notSynchronized
  have hS : va_S A s.heap s.heap [] := va_S.rf
  have hinX1 : ∀ w ∈ wsX10, w ∈ wsX7_drift := fun _ h => List.mem_cons_of_mem _ (List.mem_append_left _ (List.mem_append_left _ (List.mem_append_right _ (h))))
  have hinX2 : ∀ w ∈ wsX20, w ∈ wsX7_drift := fun _ h => List.mem_cons_of_mem _ (List.mem_append_left _ (List.mem_append_left _ (List.mem_append_left _ (List.mem_append_left _ (List.mem_append_right _ (h))))))
  have hinX3 : ∀ w ∈ wsX30, w ∈ wsX7_drift := fun _ h => List.mem_cons_of_mem _ (List.mem_append_right _ (h))
  have hinX4 : ∀ w ∈ wsX40, w ∈ wsX7_drift := fun _ h => List.mem_cons_of_mem _ (List.mem_append_left _ (List.mem_append_left _ (List.mem_append_left _ (List.mem_append_right _ (h)))))
  have hinX5 : ∀ w ∈ wsX50, w ∈ wsX7_drift := fun _ h => List.mem_cons_of_mem _ (List.mem_append_left _ (List.mem_append_right _ (h)))
  have hinX7 : ∀ w ∈ wsX70, w ∈ wsX7_drift := fun _ h => List.mem_cons_of_mem _ (List.mem_append_left _ (List.mem_append_left _ (List.mem_append_left _ (List.mem_append_left _ (List.mem_append_left _ (List.mem_append_right _ (h)))))))
  have hwl_X7_drift_16 : ∀ (n : Nat) (v1 : Int32) (v2 : Int32) (σ : St), wl_X7_drift_16 K n v1 v2 σ → ∀ (H : Heap) (locs : List Loc), va_P D vwCl (wC cI ad σ) H → va_D A (wC cI ad σ) → va_S A s.heap H locs → ∀ ls : Array Slot, lv_has ls 3 [(0, .ref (ad 0)), (1, .int v1), (2, .int v2)] → W p l e (headSpec wsX7_drift ({ frames := 5, cells := 0, slots := 0, locals := 123 })).room s m ([.ref (ad 0), .int a1] : List Value).toArray below meth c H locs 0 0 (MQ below (va_Qi K (GW D [(cI, FieldType.int)] (wC cI ad) A) A) ([.ref (ad 0), .int a1] : List Value).toArray s 0 0 A) (F0 m 16 ls []) := by
    intro n
    induction n with
    | zero => intro v1 v2 σ hw; exact hw.elim
    | succ n ih =>
      intro v1 v2 σ hw H locs hP hD hS ls hl
      refine lv_iload_n hx hb dX7_drift_16 rfl (lv_at hl 2 rfl) ?_
      refine lv_iload_n hx hb dX7_drift_17 rfl (lv_at hl 1 rfl) ?_
      refine lv_icmp_ge (tgt := 31) hx hb dX7_drift_18 (by decide) (fun c9 => ?_) (fun c9 => ?_)
      · have hw := hw.1 c9
        refine lv_aload_n hx hb dX7_drift_31 rfl (lv_at hl 0 rfl) ?_
        refine va_get (D := D) (ci := 5) (C := RX7) (T := TX7) (N := 12) hx hb hts hinX7 hown hK hP 0 rfl rfl 4 (by decide) (hts _ (List.mem_of_getElem? (i := 2) rfl)) (fun _ h9 => h9) rfl dX7_drift_32 ?_
        refine va_get (D := D) (ci := 1) (C := RX2) (T := TX2) (N := 5) hx hb hts hinX2 hown hK hP 11 rfl rfl 3 (by decide) (hts _ (List.mem_of_getElem? (i := 3) rfl)) (fun _ h9 => h9) rfl dX7_drift_35 ?_
        exact G_iret hx hb hr hlocks hw hP hK hD hS dX7_drift_38
      · have hw := hw.2 c9
        refine lv_aload_n hx hb dX7_drift_21 rfl (lv_at hl 0 rfl) ?_
        refine G_callv (As := []) (rest := []) ⟨hx, hb, hml, hown, hts⟩ hK hP hD hS 0 5 rfl rfl (c_X7_doByLots l D cI ad A σ _ hw) (cwV 0 hts gX7_drift_X7_doByLots rfl rfl rfl (by decide +kernel) ⟨Nat.le_of_ble_eq_true rfl, Nat.le_of_ble_eq_true rfl⟩) rfl hl.1 rfl (Nat.le_of_ble_eq_true rfl) dX7_drift_22 ⟨Nat.zero_le _, Nat.zero_le _⟩ (fun σ1 hw H locs hP hD hS => ?_)
        obtain ⟨x2, ex2⟩ : ∃ y : Int32, y = v2 + 1 := ⟨_, rfl⟩
        have hw := hw x2 ex2
        refine lv_iinc (v := x2) (lv' := [(2, .int x2), (0, .ref (ad 0)), (1, .int v1)]) hx hb dX7_drift_25 hl (k := 2) rfl (by rw [ex2]; rfl) (by decide) rfl (fun ls hl => ?_)
        refine lv_goto (tgt := 16) hx hb dX7_drift_28 (by decide) ?_
        exact ih v1 x2 σ1 hw _ _ hP hD hS ls (lv_sub hl [1, 2, 0] rfl)
  have hl := lv_entry ([.ref (ad 0), .int a1]) (n := 3) (Nat.le_of_ble_eq_true rfl)
  rw [lg_entry_eq]
  generalize (lg_sl ([.ref (ad 0), .int a1]) ++ List.replicate (3 - (lg_sl ([.ref (ad 0), .int a1])).length) Slot.unset).toArray = ls at hl ⊢
  have hl : lv_has ls 3 [(0, .ref (ad 0)), (1, .int a1)] := hl
  have hP : va_P D vwCl (wC cI ad σ) s.heap := hP
  refine lv_iload_n hx hb dX7_drift_0 rfl (lv_at hl 1 rfl) ?_
  refine lv_iconst (v := 1) hx hb dX7_drift_1 (by decide) ?_
  refine lv_icmp_lt (tgt := 11) hx hb dX7_drift_2 (by decide) (fun c9 => ?_) (fun c9 => ?_)
  · have hw := hw.1 c9
    refine lv_ldc (v := -1000000002) hx hb hown (hts _ (List.mem_of_getElem? (i := 1) rfl)) dX7_drift_11 ?_
    exact G_iret hx hb hr hlocks hw hP hK hD hS dX7_drift_13
  · have hw := hw.2 c9
    refine lv_iload_n hx hb dX7_drift_5 rfl (lv_at hl 1 rfl) ?_
    refine lv_bipush (v := 40) hx hb dX7_drift_6 (by decide) ?_
    refine lv_icmp_le (tgt := 14) hx hb dX7_drift_8 (by decide) (fun c9 => ?_) (fun c9 => ?_)
    · have hw := hw.1 c9
      refine lv_iconst (v := 0) hx hb dX7_drift_14 (by decide) ?_
      refine lv_istore_n (lv' := [(2, .int (0 : Int32)), (0, .ref (ad 0)), (1, .int a1)]) hx hb dX7_drift_15 rfl hl (by decide) rfl (fun ls hl => ?_)
      obtain ⟨nn, hw⟩ := hw
      exact hwl_X7_drift_16 nn a1 (0 : Int32) σ hw _ _ hP hD hS ls (lv_sub hl [1, 2, 0] rfl)
    · have hw := hw.2 c9
      refine lv_ldc (v := -1000000002) hx hb hown (hts _ (List.mem_of_getElem? (i := 1) rfl)) dX7_drift_11 ?_
      exact G_iret hx hb hr hlocks hw hP hK hD hS dX7_drift_13

def wp_X7_lot (σ : St) (a1 : Int32) (K : Int32 → St → Prop) : Prop :=
  ((a1 < (1 : Int32) → K (-1000000002 : Int32) σ) ∧ (¬ a1 < (1 : Int32) → ((a1 < (2147483647 : Int32) → ∀ x1 : Int32, x1 = σ.1 12 → ∀ σ2 : St, σ2 = sI σ 12 a1 → K x1 σ2) ∧ (¬ a1 < (2147483647 : Int32) → K (-1000000002 : Int32) σ))))
set_option maxHeartbeats 4000000 in
set_option maxRecDepth 100000 in
theorem c_X7_lot (l : Launch) (D : va_G) (cI : ClassId) (ad : Nat → Nat) (A : Nat → Prop) (σ : St) (a1 : Int32) (K : Int32 → St → Prop) (hw : wp_X7_lot σ a1 K) : Met l yX7_lot wsX7_lot ({ frames := 0, cells := 0, slots := 0, locals := 0 }) (va_Pc [.ref (ad 0), .int a1] (GW D [(cI, FieldType.int)] (wC cI ad) A σ)) (va_Qi K (GW D [(cI, FieldType.int)] (wC cI ad) A) A) 0 0 A := by
  refine Met.ofW (cc := cX7_lot) (maxL := 3) (ret := (some .int)) (by decide) rfl ?_
  intro p e s m args below meth c s₁ B hml hv
  obtain ⟨rfl, hP, hK, hD⟩ := hv
  have hx := B.exec
  have hb := B.bytes
  have hr := B.returns
  have hts := atoms_spec (ws := wsX7_lot) B.pre
  have hown : s.vm.findClass RX7 = some m.cls := findClass_of_methodNamed B.named
  have hlocks := B.notSynchronized
  have hS : va_S A s.heap s.heap [] := va_S.rf
  have hinX7 : ∀ w ∈ wsX70, w ∈ wsX7_lot := fun _ h => List.mem_cons_of_mem _ (List.mem_append_right _ (h))
  have hl := lv_entry ([.ref (ad 0), .int a1]) (n := 3) (Nat.le_of_ble_eq_true rfl)
  rw [lg_entry_eq]
  generalize (lg_sl ([.ref (ad 0), .int a1]) ++ List.replicate (3 - (lg_sl ([.ref (ad 0), .int a1])).length) Slot.unset).toArray = ls at hl ⊢
  have hl : lv_has ls 3 [(0, .ref (ad 0)), (1, .int a1)] := hl
  have hP : va_P D vwCl (wC cI ad σ) s.heap := hP
  refine lv_iload_n hx hb dX7_lot_0 rfl (lv_at hl 1 rfl) ?_
  refine lv_iconst (v := 1) hx hb dX7_lot_1 (by decide) ?_
  refine lv_icmp_lt (tgt := 11) hx hb dX7_lot_2 (by decide) (fun c9 => ?_) (fun c9 => ?_)
  · have hw := hw.1 c9
    refine lv_ldc (v := -1000000002) hx hb hown (hts _ (List.mem_of_getElem? (i := 2) rfl)) dX7_lot_11 ?_
    exact G_iret hx hb hr hlocks hw hP hK hD hS dX7_lot_13
  · have hw := hw.2 c9
    refine lv_iload_n hx hb dX7_lot_5 rfl (lv_at hl 1 rfl) ?_
    refine lv_ldc (v := 2147483647) hx hb hown (hts _ (List.mem_of_getElem? (i := 1) rfl)) dX7_lot_6 ?_
    refine lv_icmp_lt (tgt := 14) hx hb dX7_lot_8 (by decide) (fun c9 => ?_) (fun c9 => ?_)
    · have hw := hw.1 c9
      refine lv_aload_n hx hb dX7_lot_14 rfl (lv_at hl 0 rfl) ?_
      refine va_get (D := D) (ci := 5) (C := RX7) (T := TX7) (N := 12) hx hb hts hinX7 hown hK hP 0 rfl rfl 8 (by decide) (hts _ (List.mem_of_getElem? (i := 3) rfl)) (fun _ h9 => h9) rfl dX7_lot_15 ?_
      refine lv_topi (fun x1 ex1 => ?_)
      have hw := hw x1 ex1
      refine lv_istore_n (lv' := [(2, .int x1), (0, .ref (ad 0)), (1, .int a1)]) hx hb dX7_lot_18 rfl hl (by decide) rfl (fun ls hl => ?_)
      refine lv_aload_n hx hb dX7_lot_19 rfl (lv_at hl 1 rfl) ?_
      refine lv_iload_n hx hb dX7_lot_20 rfl (lv_at hl 2 rfl) ?_
      refine va_put (D := D) (ci := 5) (ty := .int) (C := RX7) (T := TX7) (N := 12) hx hb hts hinX7 tyX7 tyX7_ok nmX7 hown hK hP hD hS 0 rfl rfl 8 (by decide) (hts _ (List.mem_of_getElem? (i := 3) rfl)) (fun _ h9 => h9) rfl (by decide +kernel) rfl rfl (Nat.le_of_ble_eq_true rfl) dX7_lot_21 (fun H locs hP hD hS => ?_)
      obtain ⟨σ2, eσ2⟩ : ∃ z : St, z = sI σ 12 a1 := ⟨_, rfl⟩
      have hP : va_P D vwCl (wC cI ad σ2) H := by rw [eσ2]; exact hP
      have hD : va_D A (wC cI ad σ2) := by rw [eσ2]; exact hD
      have hw := hw σ2 eσ2
      refine lv_iload_n hx hb dX7_lot_24 rfl (lv_at hl 0 rfl) ?_
      exact G_iret hx hb hr hlocks hw hP hK hD hS dX7_lot_25
    · have hw := hw.2 c9
      refine lv_ldc (v := -1000000002) hx hb hown (hts _ (List.mem_of_getElem? (i := 2) rfl)) dX7_lot_11 ?_
      exact G_iret hx hb hr hlocks hw hP hK hD hS dX7_lot_13

def wp_X1_takeBackLatest_19_2 (σ : St) (K : St → Prop) : Prop :=
  ∀ σ1 : St, σ1 = sI σ 10 (((σ.1 10) - (1 : Int32)) &&& (31 : Int32)) → vp_in (σ1.1 10) 32 ∧ vp_in (σ1.1 10) 32 ∧ vp_in (σ1.2.1 12 (σ1.1 10).toNatClampNeg) 40 ∧ ∀ σ2 : St, σ2 = sA σ1 0 (upd (σ1.2.1 0) (σ1.2.1 12 (σ1.1 10).toNatClampNeg).toNatClampNeg (σ1.2.1 13 (σ1.1 10).toNatClampNeg)) → ∀ σ3 : St, σ3 = sI σ2 9 ((σ2.1 9) - (1 : Int32)) → K σ3
set_option maxHeartbeats 4000000 in
set_option maxRecDepth 100000 in
theorem c_X1_takeBackLatest_19_2 (l : Launch) (D : va_G) (cI : ClassId) (ad : Nat → Nat) (A : Nat → Prop) (σ : St) (K : St → Prop) (hw : wp_X1_takeBackLatest_19_2 σ K) : Met l yX1_takeBackLatest wsX1_takeBackLatest ({ frames := 0, cells := 0, slots := 0, locals := 0 }) (va_Pc [.ref (ad 19), .ref (ad 2)] (GW D [(cI, FieldType.int)] (wC cI ad) A σ)) (va_Qv K (GW D [(cI, FieldType.int)] (wC cI ad) A) A) 0 0 A := by
  refine Met.ofW (cc := cX1_takeBackLatest) (maxL := 2) (ret := none) (by decide) rfl ?_
  intro p e s m args below meth c s₁ B hml hv
  obtain ⟨rfl, hP, hK, hD⟩ := hv
  have hx := B.exec
  have hb := B.bytes
  have hr := B.returns
  have hts := atoms_spec (ws := wsX1_takeBackLatest) B.pre
  have hown : s.vm.findClass RX1 = some m.cls := findClass_of_methodNamed B.named
  have hlocks := B.notSynchronized
  have hS : va_S A s.heap s.heap [] := va_S.rf
  have hinX1 : ∀ w ∈ wsX10, w ∈ wsX1_takeBackLatest := fun _ h => List.mem_cons_of_mem _ (List.mem_append_right _ (h))
  have hl := lv_entry ([.ref (ad 19), .ref (ad 2)]) (n := 2) (Nat.le_of_ble_eq_true rfl)
  rw [lg_entry_eq]
  generalize (lg_sl ([.ref (ad 19), .ref (ad 2)]) ++ List.replicate (2 - (lg_sl ([.ref (ad 19), .ref (ad 2)])).length) Slot.unset).toArray = ls at hl ⊢
  have hl : lv_has ls 2 [(0, .ref (ad 19)), (1, .ref (ad 2))] := hl
  have hP : va_P D vwCl (wC cI ad σ) s.heap := hP
  refine lv_aload_n hx hb dX1_takeBackLatest_0 rfl (lv_at hl 0 rfl) ?_
  refine lv_aload_n hx hb dX1_takeBackLatest_1 rfl (lv_at hl 0 rfl) ?_
  refine va_get (D := D) (ci := 0) (C := RX1) (T := TX1) (N := 4) hx hb hts hinX1 hown hK hP 19 rfl rfl 3 (by decide) (hts _ (List.mem_of_getElem? (i := 1) rfl)) (fun _ h9 => h9) rfl dX1_takeBackLatest_2 ?_
  refine lv_iconst (v := 1) hx hb dX1_takeBackLatest_5 (by decide) ?_
  refine lv_isub hx hb dX1_takeBackLatest_6 ?_
  refine lv_bipush (v := 31) hx hb dX1_takeBackLatest_7 (by decide) ?_
  refine lv_iand hx hb dX1_takeBackLatest_9 ?_
  refine va_put (D := D) (ci := 0) (ty := .int) (C := RX1) (T := TX1) (N := 4) hx hb hts hinX1 tyX1 tyX1_ok nmX1 hown hK hP hD hS 19 rfl rfl 3 (by decide) (hts _ (List.mem_of_getElem? (i := 1) rfl)) (fun _ h9 => h9) rfl (by decide +kernel) rfl rfl (Nat.le_of_ble_eq_true rfl) dX1_takeBackLatest_10 (fun H locs hP hD hS => ?_)
  obtain ⟨σ1, eσ1⟩ : ∃ z : St, z = sI σ 10 (((σ.1 10) - (1 : Int32)) &&& (31 : Int32)) := ⟨_, rfl⟩
  have hP : va_P D vwCl (wC cI ad σ1) H := by rw [eσ1]; exact hP
  have hD : va_D A (wC cI ad σ1) := by rw [eσ1]; exact hD
  have hw := hw σ1 eσ1
  refine lv_aload_n hx hb dX1_takeBackLatest_13 rfl (lv_at hl 1 rfl) ?_
  refine lv_aload_n hx hb dX1_takeBackLatest_14 rfl (lv_at hl 0 rfl) ?_
  refine va_get (D := D) (ci := 0) (C := RX1) (T := TX1) (N := 4) hx hb hts hinX1 hown hK hP 19 rfl rfl 0 (by decide) (hts _ (List.mem_of_getElem? (i := 2) rfl)) (fun _ h9 => h9) rfl dX1_takeBackLatest_15 ?_
  refine lv_aload_n hx hb dX1_takeBackLatest_18 rfl (lv_at hl 0 rfl) ?_
  refine va_get (D := D) (ci := 0) (C := RX1) (T := TX1) (N := 4) hx hb hts hinX1 hown hK hP 19 rfl rfl 3 (by decide) (hts _ (List.mem_of_getElem? (i := 1) rfl)) (fun _ h9 => h9) rfl dX1_takeBackLatest_19 ?_
  refine va_iald (D := D) hx hb hK hP 20 0 rfl rfl hw.1 dX1_takeBackLatest_22 ?_
  have hw := hw.2
  refine lv_aload_n hx hb dX1_takeBackLatest_23 rfl (lv_at hl 0 rfl) ?_
  refine va_get (D := D) (ci := 0) (C := RX1) (T := TX1) (N := 4) hx hb hts hinX1 hown hK hP 19 rfl rfl 1 (by decide) (hts _ (List.mem_of_getElem? (i := 3) rfl)) (fun _ h9 => h9) rfl dX1_takeBackLatest_24 ?_
  refine lv_aload_n hx hb dX1_takeBackLatest_27 rfl (lv_at hl 0 rfl) ?_
  refine va_get (D := D) (ci := 0) (C := RX1) (T := TX1) (N := 4) hx hb hts hinX1 hown hK hP 19 rfl rfl 3 (by decide) (hts _ (List.mem_of_getElem? (i := 1) rfl)) (fun _ h9 => h9) rfl dX1_takeBackLatest_28 ?_
  refine va_iald (D := D) hx hb hK hP 21 0 rfl rfl hw.1 dX1_takeBackLatest_31 ?_
  have hw := hw.2
  refine va_iast (D := D) hx hb hK hP hD hS 2 0 rfl rfl hw.1 dX1_takeBackLatest_32 (fun H locs hP hD hS => ?_)
  obtain ⟨σ2, eσ2⟩ : ∃ z : St, z = sA σ1 0 (upd (σ1.2.1 0) (σ1.2.1 12 (σ1.1 10).toNatClampNeg).toNatClampNeg (σ1.2.1 13 (σ1.1 10).toNatClampNeg)) := ⟨_, rfl⟩
  have hP : va_P D vwCl (wC cI ad σ2) H := by rw [eσ2]; exact hP
  have hD : va_D A (wC cI ad σ2) := by rw [eσ2]; exact hD
  have hw := hw.2 σ2 eσ2
  refine lv_aload_n hx hb dX1_takeBackLatest_33 rfl (lv_at hl 0 rfl) ?_
  refine lv_dup hx hb dX1_takeBackLatest_34 rfl ?_
  refine va_get (D := D) (ci := 0) (C := RX1) (T := TX1) (N := 4) hx hb hts hinX1 hown hK hP 19 rfl rfl 2 (by decide) (hts _ (List.mem_of_getElem? (i := 4) rfl)) (fun _ h9 => h9) rfl dX1_takeBackLatest_35 ?_
  refine lv_iconst (v := 1) hx hb dX1_takeBackLatest_38 (by decide) ?_
  refine lv_isub hx hb dX1_takeBackLatest_39 ?_
  refine va_put (D := D) (ci := 0) (ty := .int) (C := RX1) (T := TX1) (N := 4) hx hb hts hinX1 tyX1 tyX1_ok nmX1 hown hK hP hD hS 19 rfl rfl 2 (by decide) (hts _ (List.mem_of_getElem? (i := 4) rfl)) (fun _ h9 => h9) rfl (by decide +kernel) rfl rfl (Nat.le_of_ble_eq_true rfl) dX1_takeBackLatest_40 (fun H locs hP hD hS => ?_)
  obtain ⟨σ3, eσ3⟩ : ∃ z : St, z = sI σ2 9 ((σ2.1 9) - (1 : Int32)) := ⟨_, rfl⟩
  have hP : va_P D vwCl (wC cI ad σ3) H := by rw [eσ3]; exact hP
  have hD : va_D A (wC cI ad σ3) := by rw [eσ3]; exact hD
  have hw := hw σ3 eσ3
  exact G_vret hx hb hr hlocks hw hP hK hD hS dX1_takeBackLatest_43

def wp_X7_undo (σ : St) (K : Int32 → St → Prop) : Prop :=
  ((¬ (σ.1 9) = 0 → wp_X1_takeBackLatest_19_2 σ (fun σ1 => K (σ1.1 9) σ1)) ∧ ((σ.1 9) = 0 → K (-1000000003 : Int32) σ))
set_option maxHeartbeats 4000000 in
set_option maxRecDepth 100000 in
theorem c_X7_undo (l : Launch) (D : va_G) (cI : ClassId) (ad : Nat → Nat) (A : Nat → Prop) (σ : St) (K : Int32 → St → Prop) (hw : wp_X7_undo σ K) : Met l yX7_undo wsX7_undo ({ frames := 1, cells := 0, slots := 0, locals := 21 }) (va_Pc [.ref (ad 0)] (GW D [(cI, FieldType.int)] (wC cI ad) A σ)) (va_Qi K (GW D [(cI, FieldType.int)] (wC cI ad) A) A) 0 0 A := by
  refine Met.ofW (cc := cX7_undo) (maxL := 1) (ret := (some .int)) (by decide) rfl ?_
  intro p e s m args below meth c s₁ B hml hv
  obtain ⟨rfl, hP, hK, hD⟩ := hv
  have hx := B.exec
  have hb := B.bytes
  have hr := B.returns
  have hts := atoms_spec (ws := wsX7_undo) B.pre
  have hown : s.vm.findClass RX7 = some m.cls := findClass_of_methodNamed B.named
  have hlocks := B.notSynchronized
  have hS : va_S A s.heap s.heap [] := va_S.rf
  have hinX1 : ∀ w ∈ wsX10, w ∈ wsX7_undo := fun _ h => List.mem_cons_of_mem _ (List.mem_append_left _ (List.mem_append_right _ (h)))
  have hinX4 : ∀ w ∈ wsX40, w ∈ wsX7_undo := fun _ h => List.mem_cons_of_mem _ (List.mem_append_right _ (h))
  have hinX7 : ∀ w ∈ wsX70, w ∈ wsX7_undo := fun _ h => List.mem_cons_of_mem _ (List.mem_append_left _ (List.mem_append_left _ (List.mem_append_right _ (h))))
  have hl := lv_entry ([.ref (ad 0)]) (n := 1) (Nat.le_of_ble_eq_true rfl)
  rw [lg_entry_eq]
  generalize (lg_sl ([.ref (ad 0)]) ++ List.replicate (1 - (lg_sl ([.ref (ad 0)])).length) Slot.unset).toArray = ls at hl ⊢
  have hl : lv_has ls 1 [(0, .ref (ad 0))] := hl
  have hP : va_P D vwCl (wC cI ad σ) s.heap := hP
  refine lv_aload_n hx hb dX7_undo_0 rfl (lv_at hl 0 rfl) ?_
  refine va_get (D := D) (ci := 5) (C := RX7) (T := TX7) (N := 12) hx hb hts hinX7 hown hK hP 0 rfl rfl 6 (by decide) (hts _ (List.mem_of_getElem? (i := 1) rfl)) (fun _ h9 => h9) rfl dX7_undo_1 ?_
  refine va_get (D := D) (ci := 0) (C := RX1) (T := TX1) (N := 4) hx hb hts hinX1 hown hK hP 19 rfl rfl 2 (by decide) (hts _ (List.mem_of_getElem? (i := 2) rfl)) (fun _ h9 => h9) rfl dX7_undo_4 ?_
  refine lv_if_ne (tgt := 13) hx hb dX7_undo_7 (by decide) (fun c9 => ?_) (fun c9 => ?_)
  · have hw := hw.1 c9
    refine lv_aload_n hx hb dX7_undo_13 rfl (lv_at hl 0 rfl) ?_
    refine va_get (D := D) (ci := 5) (C := RX7) (T := TX7) (N := 12) hx hb hts hinX7 hown hK hP 0 rfl rfl 6 (by decide) (hts _ (List.mem_of_getElem? (i := 1) rfl)) (fun _ h9 => h9) rfl dX7_undo_14 ?_
    refine lv_aload_n hx hb dX7_undo_17 rfl (lv_at hl 0 rfl) ?_
    refine va_get (D := D) (ci := 5) (C := RX7) (T := TX7) (N := 12) hx hb hts hinX7 hown hK hP 0 rfl rfl 0 (by decide) (hts _ (List.mem_of_getElem? (i := 4) rfl)) (fun _ h9 => h9) rfl dX7_undo_18 ?_
    refine va_get (D := D) (ci := 3) (C := RX4) (T := TX4) (N := 2) hx hb hts hinX4 hown hK hP 1 rfl rfl 0 (by decide) (hts _ (List.mem_of_getElem? (i := 5) rfl)) (fun _ h9 => h9) rfl dX7_undo_21 ?_
    refine G_callv (As := [.ref (ad 2)]) (rest := []) ⟨hx, hb, hml, hown, hts⟩ hK hP hD hS 19 0 rfl rfl (c_X1_takeBackLatest_19_2 l D cI ad A σ _ hw) (cwV 1 hts gX7_undo_X1_takeBackLatest rfl rfl rfl (by decide +kernel) ⟨Nat.le_of_ble_eq_true rfl, Nat.le_of_ble_eq_true rfl⟩) rfl hl.1 rfl (Nat.le_of_ble_eq_true rfl) dX7_undo_24 ⟨Nat.zero_le _, Nat.zero_le _⟩ (fun σ1 hw H locs hP hD hS => ?_)
    refine lv_aload_n hx hb dX7_undo_27 rfl (lv_at hl 0 rfl) ?_
    refine va_get (D := D) (ci := 5) (C := RX7) (T := TX7) (N := 12) hx hb hts hinX7 hown hK hP 0 rfl rfl 6 (by decide) (hts _ (List.mem_of_getElem? (i := 1) rfl)) (fun _ h9 => h9) rfl dX7_undo_28 ?_
    refine va_get (D := D) (ci := 0) (C := RX1) (T := TX1) (N := 4) hx hb hts hinX1 hown hK hP 19 rfl rfl 2 (by decide) (hts _ (List.mem_of_getElem? (i := 2) rfl)) (fun _ h9 => h9) rfl dX7_undo_31 ?_
    exact G_iret hx hb hr hlocks hw hP hK hD hS dX7_undo_34
  · have hw := hw.2 c9
    refine lv_ldc (v := -1000000003) hx hb hown (hts _ (List.mem_of_getElem? (i := 3) rfl)) dX7_undo_10 ?_
    exact G_iret hx hb hr hlocks hw hP hK hD hS dX7_undo_12

def wl_X4_unknownBits_1_5 (K : Int32 → St → Prop) : Nat → Int32 → Int32 → Int32 → Int32 → St → Prop
  | 0, _, _, _, _, _ => False
  | n + 1, v1, v2, v3, v4, σ => ((v2 ≤ v4 → K v3 σ) ∧ (¬ v2 ≤ v4 → vp_in v4 40 ∧ wp_X0_shadowOf (σ.2.1 0 v4.toNatClampNeg) (fun x1 => wp_J6_bitCount_0f7a4 x1 (fun x2 => ∀ x3 : Int32, x3 = v3 + x2 → ∀ x4 : Int32, x4 = v4 + 1 → wl_X4_unknownBits_1_5 K n v1 v2 x3 x4 σ))))
def wp_X4_unknownBits_1 (σ : St) (a1 : Int32) (a2 : Int32) (K : Int32 → St → Prop) : Prop :=
  (∃ nn : Nat, wl_X4_unknownBits_1_5 K nn a1 a2 (0 : Int32) a1 σ)
set_option maxHeartbeats 4000000 in
set_option maxRecDepth 100000 in
theorem c_X4_unknownBits_1 (l : Launch) (D : va_G) (cI : ClassId) (ad : Nat → Nat) (A : Nat → Prop) (σ : St) (a1 : Int32) (a2 : Int32) (K : Int32 → St → Prop) (hw : wp_X4_unknownBits_1 σ a1 a2 K) : Met l yX4_unknownBits wsX4_unknownBits ({ frames := 1, cells := 0, slots := 0, locals := 20 }) (va_Pc [.ref (ad 1), .int a1, .int a2] (GW D [(cI, FieldType.int)] (wC cI ad) A σ)) (va_Qi K (GW D [(cI, FieldType.int)] (wC cI ad) A) A) 0 0 A := by
  refine Met.ofW (cc := cX4_unknownBits) (maxL := 5) (ret := (some .int)) (by decide) rfl ?_
  intro p e s m args below meth c s₁ B hml hv
  obtain ⟨rfl, hP, hK, hD⟩ := hv
  have hx := B.exec
  have hb := B.bytes
  have hr := B.returns
  have hts := atoms_spec (ws := wsX4_unknownBits) B.pre
  have hown : s.vm.findClass RX4 = some m.cls := findClass_of_methodNamed B.named
  have hlocks := B.notSynchronized
  have hS : va_S A s.heap s.heap [] := va_S.rf
  have hinX4 : ∀ w ∈ wsX40, w ∈ wsX4_unknownBits := fun _ h => List.mem_cons_of_mem _ (List.mem_append_right _ (h))
  have hwl_X4_unknownBits_1_5 : ∀ (n : Nat) (v1 : Int32) (v2 : Int32) (v3 : Int32) (v4 : Int32) (σ : St), wl_X4_unknownBits_1_5 K n v1 v2 v3 v4 σ → ∀ (H : Heap) (locs : List Loc), va_P D vwCl (wC cI ad σ) H → va_D A (wC cI ad σ) → va_S A s.heap H locs → ∀ ls : Array Slot, lv_has ls 5 [(0, .ref (ad 1)), (1, .int v1), (2, .int v2), (3, .int v3), (4, .int v4)] → W p l e (headSpec wsX4_unknownBits ({ frames := 1, cells := 0, slots := 0, locals := 20 })).room s m ([.ref (ad 1), .int a1, .int a2] : List Value).toArray below meth c H locs 0 0 (MQ below (va_Qi K (GW D [(cI, FieldType.int)] (wC cI ad) A) A) ([.ref (ad 1), .int a1, .int a2] : List Value).toArray s 0 0 A) (F0 m 5 ls []) := by
    intro n
    induction n with
    | zero => intro v1 v2 v3 v4 σ hw; exact hw.elim
    | succ n ih =>
      intro v1 v2 v3 v4 σ hw H locs hP hD hS ls hl
      refine lv_iload hx hb dX4_unknownBits_5 (lv_at hl 4 rfl) ?_
      refine lv_iload_n hx hb dX4_unknownBits_7 rfl (lv_at hl 2 rfl) ?_
      refine lv_icmp_ge (tgt := 33) hx hb dX4_unknownBits_8 (by decide) (fun c9 => ?_) (fun c9 => ?_)
      · have hw := hw.1 c9
        refine lv_iload_n hx hb dX4_unknownBits_33 rfl (lv_at hl 3 rfl) ?_
        exact G_iret hx hb hr hlocks hw hP hK hD hS dX4_unknownBits_34
      · have hw := hw.2 c9
        refine lv_iload_n hx hb dX4_unknownBits_11 rfl (lv_at hl 3 rfl) ?_
        refine lv_aload_n hx hb dX4_unknownBits_12 rfl (lv_at hl 0 rfl) ?_
        refine va_get (D := D) (ci := 3) (C := RX4) (T := TX4) (N := 2) hx hb hts hinX4 hown hK hP 1 rfl rfl 0 (by decide) (hts _ (List.mem_of_getElem? (i := 1) rfl)) (fun _ h9 => h9) rfl dX4_unknownBits_13 ?_
        refine lv_iload hx hb dX4_unknownBits_16 (lv_at hl 4 rfl) ?_
        refine va_iald (D := D) hx hb hK hP 2 0 rfl rfl hw.1 dX4_unknownBits_18 ?_
        have hw := hw.2
        refine S_calli (As := [.int (σ.2.1 0 v4.toNatClampNeg)]) (rest := [.int v3]) ⟨hx, hb, hml, hown, hts⟩ (c_X0_shadowOf l (σ.2.1 0 v4.toNatClampNeg) _ hw) (va_cwS 1 hts gX4_unknownBits_X0_shadowOf rfl rfl rfl (by decide +kernel) ⟨Nat.le_of_ble_eq_true rfl, Nat.le_of_ble_eq_true rfl⟩) rfl hl.1 rfl (Nat.le_of_ble_eq_true rfl) dX4_unknownBits_19 ⟨Nat.zero_le _, Nat.zero_le _⟩ (fun x1 hw => ?_)
        refine S_calli (As := [.int x1]) (rest := [.int v3]) ⟨hx, hb, hml, hown, hts⟩ (c_J6_bitCount_0f7a4 l x1 _ hw) (va_cwS 1 hts gX4_unknownBits_J6_bitCount_0f7a4 rfl rfl rfl (by decide +kernel) ⟨Nat.le_of_ble_eq_true rfl, Nat.le_of_ble_eq_true rfl⟩) rfl hl.1 rfl (Nat.le_of_ble_eq_true rfl) dX4_unknownBits_22 ⟨Nat.zero_le _, Nat.zero_le _⟩ (fun x2 hw => ?_)
        refine lv_iadd hx hb dX4_unknownBits_25 ?_
        refine lv_topi (fun x3 ex3 => ?_)
        have hw := hw x3 ex3
        refine lv_istore_n (lv' := [(3, .int x3), (0, .ref (ad 1)), (1, .int v1), (2, .int v2), (4, .int v4)]) hx hb dX4_unknownBits_26 rfl hl (by decide) rfl (fun ls hl => ?_)
        obtain ⟨x4, ex4⟩ : ∃ y : Int32, y = v4 + 1 := ⟨_, rfl⟩
        have hw := hw x4 ex4
        refine lv_iinc (v := x4) (lv' := [(4, .int x4), (3, .int x3), (0, .ref (ad 1)), (1, .int v1), (2, .int v2)]) hx hb dX4_unknownBits_27 hl (k := 4) rfl (by rw [ex4]; rfl) (by decide) rfl (fun ls hl => ?_)
        refine lv_goto (tgt := 5) hx hb dX4_unknownBits_30 (by decide) ?_
        exact ih v1 v2 x3 x4 σ hw _ _ hP hD hS ls (lv_sub hl [2, 3, 4, 1, 0] rfl)
  have hl := lv_entry ([.ref (ad 1), .int a1, .int a2]) (n := 5) (Nat.le_of_ble_eq_true rfl)
  rw [lg_entry_eq]
  generalize (lg_sl ([.ref (ad 1), .int a1, .int a2]) ++ List.replicate (5 - (lg_sl ([.ref (ad 1), .int a1, .int a2])).length) Slot.unset).toArray = ls at hl ⊢
  have hl : lv_has ls 5 [(0, .ref (ad 1)), (1, .int a1), (2, .int a2)] := hl
  have hP : va_P D vwCl (wC cI ad σ) s.heap := hP
  refine lv_iconst (v := 0) hx hb dX4_unknownBits_0 (by decide) ?_
  refine lv_istore_n (lv' := [(3, .int (0 : Int32)), (0, .ref (ad 1)), (1, .int a1), (2, .int a2)]) hx hb dX4_unknownBits_1 rfl hl (by decide) rfl (fun ls hl => ?_)
  refine lv_iload_n hx hb dX4_unknownBits_2 rfl (lv_at hl 2 rfl) ?_
  refine lv_istore (lv' := [(4, .int a1), (3, .int (0 : Int32)), (0, .ref (ad 1)), (1, .int a1), (2, .int a2)]) hx hb dX4_unknownBits_3 hl (by decide) rfl (fun ls hl => ?_)
  obtain ⟨nn, hw⟩ := hw
  exact hwl_X4_unknownBits_1_5 nn a1 a2 (0 : Int32) a1 σ hw _ _ hP hD hS ls (lv_sub hl [2, 3, 4, 1, 0] rfl)

def wp_X7_told (σ : St) (a1 : Int32) (K : Int32 → St → Prop) : Prop :=
  ((a1 = (0 : Int32) → K (σ.1 13) σ) ∧ (¬ a1 = (0 : Int32) → ((a1 = (1 : Int32) → K (σ.1 5) σ) ∧ (¬ a1 = (1 : Int32) → ((a1 = (2 : Int32) → K (σ.1 6) σ) ∧ (¬ a1 = (2 : Int32) → ((a1 = (3 : Int32) → K (σ.1 14) σ) ∧ (¬ a1 = (3 : Int32) → ((a1 = (4 : Int32) → K (σ.1 3) σ) ∧ (¬ a1 = (4 : Int32) → ((a1 = (5 : Int32) → K (σ.1 4) σ) ∧ (¬ a1 = (5 : Int32) → ((a1 = (6 : Int32) → wp_J6_bitCount_0f7a4 (σ.1 0) (fun x1 => K x1 σ)) ∧ (¬ a1 = (6 : Int32) → ((a1 = (7 : Int32) → K (σ.1 7) σ) ∧ (¬ a1 = (7 : Int32) → ((a1 = (8 : Int32) → wp_X4_unknownBits_1 σ (0 : Int32) (8 : Int32) (fun x3 σ2 => K x3 σ2)) ∧ (¬ a1 = (8 : Int32) → ((a1 = (9 : Int32) → wp_X4_unknownBits_1 σ (8 : Int32) (40 : Int32) (fun x5 σ4 => K x5 σ4)) ∧ (¬ a1 = (9 : Int32) → ((a1 = (10 : Int32) → K (σ.1 12) σ) ∧ (¬ a1 = (10 : Int32) → ((a1 = (11 : Int32) → K (σ.1 9) σ) ∧ (¬ a1 = (11 : Int32) → K (-1000000002 : Int32) σ))))))))))))))))))))))))
set_option maxHeartbeats 4000000 in
set_option maxRecDepth 100000 in
theorem c_X7_told (l : Launch) (D : va_G) (cI : ClassId) (ad : Nat → Nat) (A : Nat → Prop) (σ : St) (a1 : Int32) (K : Int32 → St → Prop) (hw : wp_X7_told σ a1 K) : Met l yX7_told wsX7_told ({ frames := 2, cells := 0, slots := 0, locals := 44 }) (va_Pc [.ref (ad 0), .int a1] (GW D [(cI, FieldType.int)] (wC cI ad) A σ)) (va_Qi K (GW D [(cI, FieldType.int)] (wC cI ad) A) A) 0 0 A := by
  refine Met.ofW (cc := cX7_told) (maxL := 2) (ret := (some .int)) (by decide) rfl ?_
  intro p e s m args below meth c s₁ B hml hv
  obtain ⟨rfl, hP, hK, hD⟩ := hv
  have hx := B.exec
  have hb := B.bytes
  have hr := B.returns
  have hts := atoms_spec (ws := wsX7_told) B.pre
  have hown : s.vm.findClass RX7 = some m.cls := findClass_of_methodNamed B.named
  have hlocks := B.notSynchronized
  have hS : va_S A s.heap s.heap [] := va_S.rf
  have hinX1 : ∀ w ∈ wsX10, w ∈ wsX7_told := fun _ h => List.mem_cons_of_mem _ (List.mem_append_right _ (h))
  have hinX2 : ∀ w ∈ wsX20, w ∈ wsX7_told := fun _ h => List.mem_cons_of_mem _ (List.mem_append_left _ (List.mem_append_left _ (List.mem_append_left _ (List.mem_append_left _ (List.mem_append_right _ (h))))))
  have hinX3 : ∀ w ∈ wsX30, w ∈ wsX7_told := fun _ h => List.mem_cons_of_mem _ (List.mem_append_left _ (List.mem_append_left _ (List.mem_append_left _ (List.mem_append_right _ (h)))))
  have hinX4 : ∀ w ∈ wsX40, w ∈ wsX7_told := fun _ h => List.mem_cons_of_mem _ (List.mem_append_left _ (List.mem_append_left _ (List.mem_append_right _ (h))))
  have hinX5 : ∀ w ∈ wsX50, w ∈ wsX7_told := fun _ h => List.mem_cons_of_mem _ (List.mem_append_left _ (List.mem_append_right _ (h)))
  have hinX7 : ∀ w ∈ wsX70, w ∈ wsX7_told := fun _ h => List.mem_cons_of_mem _ (List.mem_append_left _ (List.mem_append_left _ (List.mem_append_left _ (List.mem_append_left _ (List.mem_append_left _ (List.mem_append_right _ (h)))))))
  have hl := lv_entry ([.ref (ad 0), .int a1]) (n := 2) (Nat.le_of_ble_eq_true rfl)
  rw [lg_entry_eq]
  generalize (lg_sl ([.ref (ad 0), .int a1]) ++ List.replicate (2 - (lg_sl ([.ref (ad 0), .int a1])).length) Slot.unset).toArray = ls at hl ⊢
  have hl : lv_has ls 2 [(0, .ref (ad 0)), (1, .int a1)] := hl
  have hP : va_P D vwCl (wC cI ad σ) s.heap := hP
  refine lv_iload_n hx hb dX7_told_0 rfl (lv_at hl 1 rfl) ?_
  by_cases q0 : a1 = (0 : Int32)
  · have hw := hw.1 q0
    refine lv_tableIn (off := 63) (tgt := 64) hx hb dX7_told_1 (by rw [q0]; decide) (by rw [q0]; decide) (by rw [q0]; rfl) (by decide) ?_
    refine lv_aload_n hx hb dX7_told_64 rfl (lv_at hl 0 rfl) ?_
    refine va_get (D := D) (ci := 5) (C := RX7) (T := TX7) (N := 12) hx hb hts hinX7 hown hK hP 0 rfl rfl 9 (by decide) (hts _ (List.mem_of_getElem? (i := 1) rfl)) (fun _ h9 => h9) rfl dX7_told_65 ?_
    exact G_iret hx hb hr hlocks hw hP hK hD hS dX7_told_68
  · have hw := hw.2 q0
    by_cases q1 : a1 = (1 : Int32)
    · have hw := hw.1 q1
      refine lv_tableIn (off := 68) (tgt := 69) hx hb dX7_told_1 (by rw [q1]; decide) (by rw [q1]; decide) (by rw [q1]; rfl) (by decide) ?_
      refine lv_aload_n hx hb dX7_told_69 rfl (lv_at hl 0 rfl) ?_
      refine va_get (D := D) (ci := 5) (C := RX7) (T := TX7) (N := 12) hx hb hts hinX7 hown hK hP 0 rfl rfl 4 (by decide) (hts _ (List.mem_of_getElem? (i := 2) rfl)) (fun _ h9 => h9) rfl dX7_told_70 ?_
      refine va_get (D := D) (ci := 1) (C := RX2) (T := TX2) (N := 5) hx hb hts hinX2 hown hK hP 11 rfl rfl 3 (by decide) (hts _ (List.mem_of_getElem? (i := 3) rfl)) (fun _ h9 => h9) rfl dX7_told_73 ?_
      exact G_iret hx hb hr hlocks hw hP hK hD hS dX7_told_76
    · have hw := hw.2 q1
      by_cases q2 : a1 = (2 : Int32)
      · have hw := hw.1 q2
        refine lv_tableIn (off := 76) (tgt := 77) hx hb dX7_told_1 (by rw [q2]; decide) (by rw [q2]; decide) (by rw [q2]; rfl) (by decide) ?_
        refine lv_aload_n hx hb dX7_told_77 rfl (lv_at hl 0 rfl) ?_
        refine va_get (D := D) (ci := 5) (C := RX7) (T := TX7) (N := 12) hx hb hts hinX7 hown hK hP 0 rfl rfl 4 (by decide) (hts _ (List.mem_of_getElem? (i := 2) rfl)) (fun _ h9 => h9) rfl dX7_told_78 ?_
        refine va_get (D := D) (ci := 1) (C := RX2) (T := TX2) (N := 5) hx hb hts hinX2 hown hK hP 11 rfl rfl 4 (by decide) (hts _ (List.mem_of_getElem? (i := 4) rfl)) (fun _ h9 => h9) rfl dX7_told_81 ?_
        exact G_iret hx hb hr hlocks hw hP hK hD hS dX7_told_84
      · have hw := hw.2 q2
        by_cases q3 : a1 = (3 : Int32)
        · have hw := hw.1 q3
          refine lv_tableIn (off := 84) (tgt := 85) hx hb dX7_told_1 (by rw [q3]; decide) (by rw [q3]; decide) (by rw [q3]; rfl) (by decide) ?_
          refine lv_aload_n hx hb dX7_told_85 rfl (lv_at hl 0 rfl) ?_
          refine va_get (D := D) (ci := 5) (C := RX7) (T := TX7) (N := 12) hx hb hts hinX7 hown hK hP 0 rfl rfl 10 (by decide) (hts _ (List.mem_of_getElem? (i := 5) rfl)) (fun _ h9 => h9) rfl dX7_told_86 ?_
          exact G_iret hx hb hr hlocks hw hP hK hD hS dX7_told_89
        · have hw := hw.2 q3
          by_cases q4 : a1 = (4 : Int32)
          · have hw := hw.1 q4
            refine lv_tableIn (off := 89) (tgt := 90) hx hb dX7_told_1 (by rw [q4]; decide) (by rw [q4]; decide) (by rw [q4]; rfl) (by decide) ?_
            refine lv_aload_n hx hb dX7_told_90 rfl (lv_at hl 0 rfl) ?_
            refine va_get (D := D) (ci := 5) (C := RX7) (T := TX7) (N := 12) hx hb hts hinX7 hown hK hP 0 rfl rfl 3 (by decide) (hts _ (List.mem_of_getElem? (i := 6) rfl)) (fun _ h9 => h9) rfl dX7_told_91 ?_
            refine va_get (D := D) (ci := 2) (C := RX3) (T := TX3) (N := 5) hx hb hts hinX3 hown hK hP 7 rfl rfl 3 (by decide) (hts _ (List.mem_of_getElem? (i := 7) rfl)) (fun _ h9 => h9) rfl dX7_told_94 ?_
            exact G_iret hx hb hr hlocks hw hP hK hD hS dX7_told_97
          · have hw := hw.2 q4
            by_cases q5 : a1 = (5 : Int32)
            · have hw := hw.1 q5
              refine lv_tableIn (off := 97) (tgt := 98) hx hb dX7_told_1 (by rw [q5]; decide) (by rw [q5]; decide) (by rw [q5]; rfl) (by decide) ?_
              refine lv_aload_n hx hb dX7_told_98 rfl (lv_at hl 0 rfl) ?_
              refine va_get (D := D) (ci := 5) (C := RX7) (T := TX7) (N := 12) hx hb hts hinX7 hown hK hP 0 rfl rfl 3 (by decide) (hts _ (List.mem_of_getElem? (i := 6) rfl)) (fun _ h9 => h9) rfl dX7_told_99 ?_
              refine va_get (D := D) (ci := 2) (C := RX3) (T := TX3) (N := 5) hx hb hts hinX3 hown hK hP 7 rfl rfl 4 (by decide) (hts _ (List.mem_of_getElem? (i := 8) rfl)) (fun _ h9 => h9) rfl dX7_told_102 ?_
              exact G_iret hx hb hr hlocks hw hP hK hD hS dX7_told_105
            · have hw := hw.2 q5
              by_cases q6 : a1 = (6 : Int32)
              · have hw := hw.1 q6
                refine lv_tableIn (off := 105) (tgt := 106) hx hb dX7_told_1 (by rw [q6]; decide) (by rw [q6]; decide) (by rw [q6]; rfl) (by decide) ?_
                refine lv_aload_n hx hb dX7_told_106 rfl (lv_at hl 0 rfl) ?_
                refine va_get (D := D) (ci := 5) (C := RX7) (T := TX7) (N := 12) hx hb hts hinX7 hown hK hP 0 rfl rfl 0 (by decide) (hts _ (List.mem_of_getElem? (i := 9) rfl)) (fun _ h9 => h9) rfl dX7_told_107 ?_
                refine va_get (D := D) (ci := 3) (C := RX4) (T := TX4) (N := 2) hx hb hts hinX4 hown hK hP 1 rfl rfl 1 (by decide) (hts _ (List.mem_of_getElem? (i := 10) rfl)) (fun _ h9 => h9) rfl dX7_told_110 ?_
                refine S_calli (As := [.int (σ.1 0)]) (rest := []) ⟨hx, hb, hml, hown, hts⟩ (c_J6_bitCount_0f7a4 l (σ.1 0) _ hw) (va_cwS 1 hts gX7_told_J6_bitCount_0f7a4 rfl rfl rfl (by decide +kernel) ⟨Nat.le_of_ble_eq_true rfl, Nat.le_of_ble_eq_true rfl⟩) rfl hl.1 rfl (Nat.le_of_ble_eq_true rfl) dX7_told_113 ⟨Nat.zero_le _, Nat.zero_le _⟩ (fun x1 hw => ?_)
                exact G_iret hx hb hr hlocks hw hP hK hD hS dX7_told_116
              · have hw := hw.2 q6
                by_cases q7 : a1 = (7 : Int32)
                · have hw := hw.1 q7
                  refine lv_tableIn (off := 116) (tgt := 117) hx hb dX7_told_1 (by rw [q7]; decide) (by rw [q7]; decide) (by rw [q7]; rfl) (by decide) ?_
                  refine lv_aload_n hx hb dX7_told_117 rfl (lv_at hl 0 rfl) ?_
                  refine va_get (D := D) (ci := 5) (C := RX7) (T := TX7) (N := 12) hx hb hts hinX7 hown hK hP 0 rfl rfl 5 (by decide) (hts _ (List.mem_of_getElem? (i := 11) rfl)) (fun _ h9 => h9) rfl dX7_told_118 ?_
                  refine va_get (D := D) (ci := 4) (C := RX5) (T := TX5) (N := 5) hx hb hts hinX5 hown hK hP 15 rfl rfl 3 (by decide) (hts _ (List.mem_of_getElem? (i := 12) rfl)) (fun _ h9 => h9) rfl dX7_told_121 ?_
                  exact G_iret hx hb hr hlocks hw hP hK hD hS dX7_told_124
                · have hw := hw.2 q7
                  by_cases q8 : a1 = (8 : Int32)
                  · have hw := hw.1 q8
                    refine lv_tableIn (off := 124) (tgt := 125) hx hb dX7_told_1 (by rw [q8]; decide) (by rw [q8]; decide) (by rw [q8]; rfl) (by decide) ?_
                    refine lv_aload_n hx hb dX7_told_125 rfl (lv_at hl 0 rfl) ?_
                    refine va_get (D := D) (ci := 5) (C := RX7) (T := TX7) (N := 12) hx hb hts hinX7 hown hK hP 0 rfl rfl 0 (by decide) (hts _ (List.mem_of_getElem? (i := 9) rfl)) (fun _ h9 => h9) rfl dX7_told_126 ?_
                    refine lv_iconst (v := 0) hx hb dX7_told_129 (by decide) ?_
                    refine lv_bipush (v := 8) hx hb dX7_told_130 (by decide) ?_
                    refine G_calli (As := [.int (0 : Int32), .int (8 : Int32)]) (rest := []) ⟨hx, hb, hml, hown, hts⟩ hK hP hD hS 1 3 rfl rfl (c_X4_unknownBits_1 l D cI ad A σ (0 : Int32) (8 : Int32) _ hw) (cwV 2 hts gX7_told_X4_unknownBits rfl rfl rfl (by decide +kernel) ⟨Nat.le_of_ble_eq_true rfl, Nat.le_of_ble_eq_true rfl⟩) rfl hl.1 rfl (Nat.le_of_ble_eq_true rfl) dX7_told_132 ⟨Nat.zero_le _, Nat.zero_le _⟩ (fun x3 σ2 hw H locs hP hD hS => ?_)
                    exact G_iret hx hb hr hlocks hw hP hK hD hS dX7_told_135
                  · have hw := hw.2 q8
                    by_cases q9 : a1 = (9 : Int32)
                    · have hw := hw.1 q9
                      refine lv_tableIn (off := 135) (tgt := 136) hx hb dX7_told_1 (by rw [q9]; decide) (by rw [q9]; decide) (by rw [q9]; rfl) (by decide) ?_
                      refine lv_aload_n hx hb dX7_told_136 rfl (lv_at hl 0 rfl) ?_
                      refine va_get (D := D) (ci := 5) (C := RX7) (T := TX7) (N := 12) hx hb hts hinX7 hown hK hP 0 rfl rfl 0 (by decide) (hts _ (List.mem_of_getElem? (i := 9) rfl)) (fun _ h9 => h9) rfl dX7_told_137 ?_
                      refine lv_bipush (v := 8) hx hb dX7_told_140 (by decide) ?_
                      refine lv_bipush (v := 40) hx hb dX7_told_142 (by decide) ?_
                      refine G_calli (As := [.int (8 : Int32), .int (40 : Int32)]) (rest := []) ⟨hx, hb, hml, hown, hts⟩ hK hP hD hS 1 3 rfl rfl (c_X4_unknownBits_1 l D cI ad A σ (8 : Int32) (40 : Int32) _ hw) (cwV 2 hts gX7_told_X4_unknownBits rfl rfl rfl (by decide +kernel) ⟨Nat.le_of_ble_eq_true rfl, Nat.le_of_ble_eq_true rfl⟩) rfl hl.1 rfl (Nat.le_of_ble_eq_true rfl) dX7_told_144 ⟨Nat.zero_le _, Nat.zero_le _⟩ (fun x5 σ4 hw H locs hP hD hS => ?_)
                      exact G_iret hx hb hr hlocks hw hP hK hD hS dX7_told_147
                    · have hw := hw.2 q9
                      by_cases q10 : a1 = (10 : Int32)
                      · have hw := hw.1 q10
                        refine lv_tableIn (off := 147) (tgt := 148) hx hb dX7_told_1 (by rw [q10]; decide) (by rw [q10]; decide) (by rw [q10]; rfl) (by decide) ?_
                        refine lv_aload_n hx hb dX7_told_148 rfl (lv_at hl 0 rfl) ?_
                        refine va_get (D := D) (ci := 5) (C := RX7) (T := TX7) (N := 12) hx hb hts hinX7 hown hK hP 0 rfl rfl 8 (by decide) (hts _ (List.mem_of_getElem? (i := 13) rfl)) (fun _ h9 => h9) rfl dX7_told_149 ?_
                        exact G_iret hx hb hr hlocks hw hP hK hD hS dX7_told_152
                      · have hw := hw.2 q10
                        by_cases q11 : a1 = (11 : Int32)
                        · have hw := hw.1 q11
                          refine lv_tableIn (off := 152) (tgt := 153) hx hb dX7_told_1 (by rw [q11]; decide) (by rw [q11]; decide) (by rw [q11]; rfl) (by decide) ?_
                          refine lv_aload_n hx hb dX7_told_153 rfl (lv_at hl 0 rfl) ?_
                          refine va_get (D := D) (ci := 5) (C := RX7) (T := TX7) (N := 12) hx hb hts hinX7 hown hK hP 0 rfl rfl 6 (by decide) (hts _ (List.mem_of_getElem? (i := 14) rfl)) (fun _ h9 => h9) rfl dX7_told_154 ?_
                          refine va_get (D := D) (ci := 0) (C := RX1) (T := TX1) (N := 4) hx hb hts hinX1 hown hK hP 19 rfl rfl 2 (by decide) (hts _ (List.mem_of_getElem? (i := 15) rfl)) (fun _ h9 => h9) rfl dX7_told_157 ?_
                          exact G_iret hx hb hr hlocks hw hP hK hD hS dX7_told_160
                        · have hw := hw.2 q11
                          have r0 := lv_neT q0 (a := 0) (by decide)
                          have r1 := lv_neT q1 (a := 1) (by decide)
                          have r2 := lv_neT q2 (a := 2) (by decide)
                          have r3 := lv_neT q3 (a := 3) (by decide)
                          have r4 := lv_neT q4 (a := 4) (by decide)
                          have r5 := lv_neT q5 (a := 5) (by decide)
                          have r6 := lv_neT q6 (a := 6) (by decide)
                          have r7 := lv_neT q7 (a := 7) (by decide)
                          have r8 := lv_neT q8 (a := 8) (by decide)
                          have r9 := lv_neT q9 (a := 9) (by decide)
                          have r10 := lv_neT q10 (a := 10) (by decide)
                          have r11 := lv_neT q11 (a := 11) (by decide)
                          refine lv_tableOut (tgt := 161) hx hb dX7_told_1 (by omega) (by decide) ?_
                          refine lv_ldc (v := -1000000002) hx hb hown (hts _ (List.mem_of_getElem? (i := 16) rfl)) dX7_told_161 ?_
                          exact G_iret hx hb hr hlocks hw hP hK hD hS dX7_told_163

def wp_X7_mark (σ : St) (K : Int64 → St → Prop) : Prop :=
  K (σ.2.2) σ
set_option maxHeartbeats 4000000 in
set_option maxRecDepth 100000 in
theorem c_X7_mark (l : Launch) (D : va_G) (cI : ClassId) (ad : Nat → Nat) (A : Nat → Prop) (σ : St) (K : Int64 → St → Prop) (hw : wp_X7_mark σ K) : Met l yX7_mark wsX7_mark ({ frames := 0, cells := 0, slots := 0, locals := 0 }) (va_Pc [.ref (ad 0)] (GW D [(cI, FieldType.int)] (wC cI ad) A σ)) (va_Ql K (GW D [(cI, FieldType.int)] (wC cI ad) A) A) 0 0 A := by
  refine Met.ofW (cc := cX7_mark) (maxL := 1) (ret := (some .long)) (by decide) rfl ?_
  intro p e s m args below meth c s₁ B hml hv
  obtain ⟨rfl, hP, hK, hD⟩ := hv
  have hx := B.exec
  have hb := B.bytes
  have hr := B.returns
  have hts := atoms_spec (ws := wsX7_mark) B.pre
  have hown : s.vm.findClass RX7 = some m.cls := findClass_of_methodNamed B.named
  have hlocks := B.notSynchronized
  have hS : va_S A s.heap s.heap [] := va_S.rf
  have hinX7 : ∀ w ∈ wsX70, w ∈ wsX7_mark := fun _ h => List.mem_cons_of_mem _ (List.mem_append_right _ (h))
  have hl := lv_entry ([.ref (ad 0)]) (n := 1) (Nat.le_of_ble_eq_true rfl)
  rw [lg_entry_eq]
  generalize (lg_sl ([.ref (ad 0)]) ++ List.replicate (1 - (lg_sl ([.ref (ad 0)])).length) Slot.unset).toArray = ls at hl ⊢
  have hl : lv_has ls 1 [(0, .ref (ad 0))] := hl
  have hP : va_P D vwCl (wC cI ad σ) s.heap := hP
  refine lv_aload_n hx hb dX7_mark_0 rfl (lv_at hl 0 rfl) ?_
  refine va_get (D := D) (ci := 5) (C := RX7) (T := TX7) (N := 12) hx hb hts hinX7 hown hK hP 0 rfl rfl 11 (by decide) (hts _ (List.mem_of_getElem? (i := 1) rfl)) (fun _ h9 => h9) rfl dX7_mark_1 ?_
  exact G_lret hx hb hr hlocks hw hP hK hD hS dX7_mark_4

def wp_X7_register (σ : St) (a1 : Int32) (a2 : Int32) (K : Int32 → St → Prop) : Prop :=
  wp_X7_isRegister a1 (fun x1 => ((¬ x1 = 0 → vp_in a1 40 ∧ ∀ x2 : Int32, x2 = σ.2.1 0 a1.toNatClampNeg → ((a2 = (0 : Int32) → wp_X0_valueOf x2 (fun x3 => K x3 σ)) ∧ (¬ a2 = (0 : Int32) → ((a2 = (1 : Int32) → wp_X0_shadowOf x2 (fun x4 => K x4 σ)) ∧ (¬ a2 = (1 : Int32) → ((a2 = (2 : Int32) → wp_X0_fromOf x2 (fun x5 => K x5 σ)) ∧ (¬ a2 = (2 : Int32) → ((a2 = (3 : Int32) → wp_X0_leastOf x2 (fun x6 => K x6 σ)) ∧ (¬ a2 = (3 : Int32) → ((a2 = (4 : Int32) → wp_X0_mostOf x2 (fun x7 => K x7 σ)) ∧ (¬ a2 = (4 : Int32) → ((a2 = (5 : Int32) → wp_X0_shadowOf x2 (fun x8 => wp_J6_bitCount_0f7a4 x8 (fun x9 => K ((1 : Int32) <<< (x9 &&& 31)) σ))) ∧ (¬ a2 = (5 : Int32) → ((a2 = (6 : Int32) → wp_X0_isDecided x2 (fun x10 => ((x10 = 0 → K (0 : Int32) σ) ∧ (¬ x10 = 0 → K (1 : Int32) σ)))) ∧ (¬ a2 = (6 : Int32) → K (-1000000002 : Int32) σ))))))))))))))) ∧ (x1 = 0 → K (-1000000001 : Int32) σ)))
set_option maxHeartbeats 4000000 in
set_option maxRecDepth 100000 in
theorem c_X7_register (l : Launch) (D : va_G) (cI : ClassId) (ad : Nat → Nat) (A : Nat → Prop) (σ : St) (a1 : Int32) (a2 : Int32) (K : Int32 → St → Prop) (hw : wp_X7_register σ a1 a2 K) : Met l yX7_register wsX7_register ({ frames := 3, cells := 0, slots := 0, locals := 60 }) (va_Pc [.ref (ad 0), .int a1, .int a2] (GW D [(cI, FieldType.int)] (wC cI ad) A σ)) (va_Qi K (GW D [(cI, FieldType.int)] (wC cI ad) A) A) 0 0 A := by
  refine Met.ofW (cc := cX7_register) (maxL := 4) (ret := (some .int)) (by decide) rfl ?_
  intro p e s m args below meth c s₁ B hml hv
  obtain ⟨rfl, hP, hK, hD⟩ := hv
  have hx := B.exec
  have hb := B.bytes
  have hr := B.returns
  have hts := atoms_spec (ws := wsX7_register) B.pre
  have hown : s.vm.findClass RX7 = some m.cls := findClass_of_methodNamed B.named
  have hlocks := B.notSynchronized
  have hS : va_S A s.heap s.heap [] := va_S.rf
  have hinX4 : ∀ w ∈ wsX40, w ∈ wsX7_register := fun _ h => List.mem_cons_of_mem _ (List.mem_append_right _ (h))
  have hinX7 : ∀ w ∈ wsX70, w ∈ wsX7_register := fun _ h => List.mem_cons_of_mem _ (List.mem_append_left _ (List.mem_append_right _ (h)))
  have hl := lv_entry ([.ref (ad 0), .int a1, .int a2]) (n := 4) (Nat.le_of_ble_eq_true rfl)
  rw [lg_entry_eq]
  generalize (lg_sl ([.ref (ad 0), .int a1, .int a2]) ++ List.replicate (4 - (lg_sl ([.ref (ad 0), .int a1, .int a2])).length) Slot.unset).toArray = ls at hl ⊢
  have hl : lv_has ls 4 [(0, .ref (ad 0)), (1, .int a1), (2, .int a2)] := hl
  have hP : va_P D vwCl (wC cI ad σ) s.heap := hP
  refine lv_iload_n hx hb dX7_register_0 rfl (lv_at hl 1 rfl) ?_
  refine S_calli (As := [.int a1]) (rest := []) ⟨hx, hb, hml, hown, hts⟩ (c_X7_isRegister l a1 _ hw) (va_cwS 1 hts gX7_register_X7_isRegister rfl rfl rfl (by decide +kernel) ⟨Nat.le_of_ble_eq_true rfl, Nat.le_of_ble_eq_true rfl⟩) rfl hl.1 rfl (Nat.le_of_ble_eq_true rfl) dX7_register_1 ⟨Nat.zero_le _, Nat.zero_le _⟩ (fun x1 hw => ?_)
  refine lv_if_ne (tgt := 10) hx hb dX7_register_4 (by decide) (fun c9 => ?_) (fun c9 => ?_)
  · have hw := hw.1 c9
    refine lv_aload_n hx hb dX7_register_10 rfl (lv_at hl 0 rfl) ?_
    refine va_get (D := D) (ci := 5) (C := RX7) (T := TX7) (N := 12) hx hb hts hinX7 hown hK hP 0 rfl rfl 0 (by decide) (hts _ (List.mem_of_getElem? (i := 2) rfl)) (fun _ h9 => h9) rfl dX7_register_11 ?_
    refine va_get (D := D) (ci := 3) (C := RX4) (T := TX4) (N := 2) hx hb hts hinX4 hown hK hP 1 rfl rfl 0 (by decide) (hts _ (List.mem_of_getElem? (i := 3) rfl)) (fun _ h9 => h9) rfl dX7_register_14 ?_
    refine lv_iload_n hx hb dX7_register_17 rfl (lv_at hl 1 rfl) ?_
    refine va_iald (D := D) hx hb hK hP 2 0 rfl rfl hw.1 dX7_register_18 ?_
    have hw := hw.2
    refine lv_topi (fun x2 ex2 => ?_)
    have hw := hw x2 ex2
    refine lv_istore_n (lv' := [(3, .int x2), (0, .ref (ad 0)), (1, .int a1), (2, .int a2)]) hx hb dX7_register_19 rfl hl (by decide) rfl (fun ls hl => ?_)
    refine lv_iload_n hx hb dX7_register_20 rfl (lv_at hl 3 rfl) ?_
    by_cases q0 : a2 = (0 : Int32)
    · have hw := hw.1 q0
      refine lv_tableIn (off := 43) (tgt := 64) hx hb dX7_register_21 (by rw [q0]; decide) (by rw [q0]; decide) (by rw [q0]; rfl) (by decide) ?_
      refine lv_iload_n hx hb dX7_register_64 rfl (lv_at hl 0 rfl) ?_
      refine S_calli (As := [.int x2]) (rest := []) ⟨hx, hb, hml, hown, hts⟩ (c_X0_valueOf l x2 _ hw) (va_cwS 1 hts gX7_register_X0_valueOf rfl rfl rfl (by decide +kernel) ⟨Nat.le_of_ble_eq_true rfl, Nat.le_of_ble_eq_true rfl⟩) rfl hl.1 rfl (Nat.le_of_ble_eq_true rfl) dX7_register_65 ⟨Nat.zero_le _, Nat.zero_le _⟩ (fun x3 hw => ?_)
      exact G_iret hx hb hr hlocks hw hP hK hD hS dX7_register_68
    · have hw := hw.2 q0
      by_cases q1 : a2 = (1 : Int32)
      · have hw := hw.1 q1
        refine lv_tableIn (off := 48) (tgt := 69) hx hb dX7_register_21 (by rw [q1]; decide) (by rw [q1]; decide) (by rw [q1]; rfl) (by decide) ?_
        refine lv_iload_n hx hb dX7_register_69 rfl (lv_at hl 0 rfl) ?_
        refine S_calli (As := [.int x2]) (rest := []) ⟨hx, hb, hml, hown, hts⟩ (c_X0_shadowOf l x2 _ hw) (va_cwS 1 hts gX7_register_X0_shadowOf rfl rfl rfl (by decide +kernel) ⟨Nat.le_of_ble_eq_true rfl, Nat.le_of_ble_eq_true rfl⟩) rfl hl.1 rfl (Nat.le_of_ble_eq_true rfl) dX7_register_70 ⟨Nat.zero_le _, Nat.zero_le _⟩ (fun x4 hw => ?_)
        exact G_iret hx hb hr hlocks hw hP hK hD hS dX7_register_73
      · have hw := hw.2 q1
        by_cases q2 : a2 = (2 : Int32)
        · have hw := hw.1 q2
          refine lv_tableIn (off := 53) (tgt := 74) hx hb dX7_register_21 (by rw [q2]; decide) (by rw [q2]; decide) (by rw [q2]; rfl) (by decide) ?_
          refine lv_iload_n hx hb dX7_register_74 rfl (lv_at hl 0 rfl) ?_
          refine S_calli (As := [.int x2]) (rest := []) ⟨hx, hb, hml, hown, hts⟩ (c_X0_fromOf l x2 _ hw) (va_cwS 1 hts gX7_register_X0_fromOf rfl rfl rfl (by decide +kernel) ⟨Nat.le_of_ble_eq_true rfl, Nat.le_of_ble_eq_true rfl⟩) rfl hl.1 rfl (Nat.le_of_ble_eq_true rfl) dX7_register_75 ⟨Nat.zero_le _, Nat.zero_le _⟩ (fun x5 hw => ?_)
          exact G_iret hx hb hr hlocks hw hP hK hD hS dX7_register_78
        · have hw := hw.2 q2
          by_cases q3 : a2 = (3 : Int32)
          · have hw := hw.1 q3
            refine lv_tableIn (off := 58) (tgt := 79) hx hb dX7_register_21 (by rw [q3]; decide) (by rw [q3]; decide) (by rw [q3]; rfl) (by decide) ?_
            refine lv_iload_n hx hb dX7_register_79 rfl (lv_at hl 0 rfl) ?_
            refine S_calli (As := [.int x2]) (rest := []) ⟨hx, hb, hml, hown, hts⟩ (c_X0_leastOf l x2 _ hw) (va_cwS 1 hts gX7_register_X0_leastOf rfl rfl rfl (by decide +kernel) ⟨Nat.le_of_ble_eq_true rfl, Nat.le_of_ble_eq_true rfl⟩) rfl hl.1 rfl (Nat.le_of_ble_eq_true rfl) dX7_register_80 ⟨Nat.zero_le _, Nat.zero_le _⟩ (fun x6 hw => ?_)
            exact G_iret hx hb hr hlocks hw hP hK hD hS dX7_register_83
          · have hw := hw.2 q3
            by_cases q4 : a2 = (4 : Int32)
            · have hw := hw.1 q4
              refine lv_tableIn (off := 63) (tgt := 84) hx hb dX7_register_21 (by rw [q4]; decide) (by rw [q4]; decide) (by rw [q4]; rfl) (by decide) ?_
              refine lv_iload_n hx hb dX7_register_84 rfl (lv_at hl 0 rfl) ?_
              refine S_calli (As := [.int x2]) (rest := []) ⟨hx, hb, hml, hown, hts⟩ (c_X0_mostOf l x2 _ hw) (va_cwS 1 hts gX7_register_X0_mostOf rfl rfl rfl (by decide +kernel) ⟨Nat.le_of_ble_eq_true rfl, Nat.le_of_ble_eq_true rfl⟩) rfl hl.1 rfl (Nat.le_of_ble_eq_true rfl) dX7_register_85 ⟨Nat.zero_le _, Nat.zero_le _⟩ (fun x7 hw => ?_)
              exact G_iret hx hb hr hlocks hw hP hK hD hS dX7_register_88
            · have hw := hw.2 q4
              by_cases q5 : a2 = (5 : Int32)
              · have hw := hw.1 q5
                refine lv_tableIn (off := 68) (tgt := 89) hx hb dX7_register_21 (by rw [q5]; decide) (by rw [q5]; decide) (by rw [q5]; rfl) (by decide) ?_
                refine lv_iconst (v := 1) hx hb dX7_register_89 (by decide) ?_
                refine lv_iload_n hx hb dX7_register_90 rfl (lv_at hl 0 rfl) ?_
                refine S_calli (As := [.int x2]) (rest := [.int (1 : Int32)]) ⟨hx, hb, hml, hown, hts⟩ (c_X0_shadowOf l x2 _ hw) (va_cwS 1 hts gX7_register_X0_shadowOf rfl rfl rfl (by decide +kernel) ⟨Nat.le_of_ble_eq_true rfl, Nat.le_of_ble_eq_true rfl⟩) rfl hl.1 rfl (Nat.le_of_ble_eq_true rfl) dX7_register_91 ⟨Nat.zero_le _, Nat.zero_le _⟩ (fun x8 hw => ?_)
                refine S_calli (As := [.int x8]) (rest := [.int (1 : Int32)]) ⟨hx, hb, hml, hown, hts⟩ (c_J6_bitCount_0f7a4 l x8 _ hw) (va_cwS 1 hts gX7_register_J6_bitCount_0f7a4 rfl rfl rfl (by decide +kernel) ⟨Nat.le_of_ble_eq_true rfl, Nat.le_of_ble_eq_true rfl⟩) rfl hl.1 rfl (Nat.le_of_ble_eq_true rfl) dX7_register_94 ⟨Nat.zero_le _, Nat.zero_le _⟩ (fun x9 hw => ?_)
                refine lv_ishl hx hb dX7_register_97 ?_
                exact G_iret hx hb hr hlocks hw hP hK hD hS dX7_register_98
              · have hw := hw.2 q5
                by_cases q6 : a2 = (6 : Int32)
                · have hw := hw.1 q6
                  refine lv_tableIn (off := 78) (tgt := 99) hx hb dX7_register_21 (by rw [q6]; decide) (by rw [q6]; decide) (by rw [q6]; rfl) (by decide) ?_
                  refine lv_iload_n hx hb dX7_register_99 rfl (lv_at hl 0 rfl) ?_
                  refine S_calli (As := [.int x2]) (rest := []) ⟨hx, hb, hml, hown, hts⟩ (c_X0_isDecided l x2 _ hw) (va_cwS 1 hts gX7_register_X0_isDecided rfl rfl rfl (by decide +kernel) ⟨Nat.le_of_ble_eq_true rfl, Nat.le_of_ble_eq_true rfl⟩) rfl hl.1 rfl (Nat.le_of_ble_eq_true rfl) dX7_register_100 ⟨Nat.zero_le _, Nat.zero_le _⟩ (fun x10 hw => ?_)
                  refine lv_if_eq (tgt := 110) hx hb dX7_register_103 (by decide) (fun c9 => ?_) (fun c9 => ?_)
                  · have hw := hw.1 c9
                    refine lv_iconst (v := 0) hx hb dX7_register_110 (by decide) ?_
                    exact G_iret hx hb hr hlocks hw hP hK hD hS dX7_register_111
                  · have hw := hw.2 c9
                    refine lv_iconst (v := 1) hx hb dX7_register_106 (by decide) ?_
                    refine lv_goto (tgt := 111) hx hb dX7_register_107 (by decide) ?_
                    exact G_iret hx hb hr hlocks hw hP hK hD hS dX7_register_111
                · have hw := hw.2 q6
                  have r0 := lv_neT q0 (a := 0) (by decide)
                  have r1 := lv_neT q1 (a := 1) (by decide)
                  have r2 := lv_neT q2 (a := 2) (by decide)
                  have r3 := lv_neT q3 (a := 3) (by decide)
                  have r4 := lv_neT q4 (a := 4) (by decide)
                  have r5 := lv_neT q5 (a := 5) (by decide)
                  have r6 := lv_neT q6 (a := 6) (by decide)
                  refine lv_tableOut (tgt := 112) hx hb dX7_register_21 (by omega) (by decide) ?_
                  refine lv_ldc (v := -1000000002) hx hb hown (hts _ (List.mem_of_getElem? (i := 4) rfl)) dX7_register_112 ?_
                  exact G_iret hx hb hr hlocks hw hP hK hD hS dX7_register_114
  · have hw := hw.2 c9
    refine lv_ldc (v := -1000000001) hx hb hown (hts _ (List.mem_of_getElem? (i := 1) rfl)) dX7_register_7 ?_
    exact G_iret hx hb hr hlocks hw hP hK hD hS dX7_register_9
