def wp_X8_ruleNow (σ : St) (a1 : Int32) (a2 : Int32) (a3 : Int32) (a4 : Int32) (a5 : Int32) (K : Int32 → St → Prop) : Prop :=
  vp_in a3 40 ∧ vp_in a3 40 ∧ vp_in a4 40 ∧ vp_in a4 40 ∧ wp_X8_shadowBy a1 (σ.2.1 0 a3.toNatClampNeg) (σ.2.1 1 a3.toNatClampNeg) (σ.2.1 0 a4.toNatClampNeg) (σ.2.1 1 a4.toNatClampNeg) (fun x1 => vp_in a3 40 ∧ vp_in a4 40 ∧ wp_X8_valueBy a1 (σ.2.1 0 a3.toNatClampNeg) (σ.2.1 0 a4.toNatClampNeg) (fun x2 => ((a5 = 0 → ∀ σ3 : St, σ3 = sI σ 4 ((σ.1 4) + (0 : Int32)) → vp_in a3 40 ∧ vp_in a4 40 ∧ wp_X8_become σ3 a2 x2 x1 ((σ3.2.1 2 a3.toNatClampNeg) ||| (σ3.2.1 2 a4.toNatClampNeg)) (fun x5 σ4 => K x5 σ4)) ∧ (¬ a5 = 0 → vp_in a3 40 ∧ vp_in a3 40 ∧ vp_in a4 40 ∧ vp_in a4 40 ∧ wp_X8_exactBy a1 (σ.2.1 0 a3.toNatClampNeg) (σ.2.1 1 a3.toNatClampNeg) (σ.2.1 0 a4.toNatClampNeg) (σ.2.1 1 a4.toNatClampNeg) (fun x6 => wp_X8_bits (x1 &&& (x6 ^^^ (-1 : Int32))) (fun x7 => ∀ σ8 : St, σ8 = sI σ 4 ((σ.1 4) + x7) → vp_in a3 40 ∧ vp_in a4 40 ∧ wp_X8_become σ8 a2 x2 x1 ((σ8.2.1 2 a3.toNatClampNeg) ||| (σ8.2.1 2 a4.toNatClampNeg)) (fun x10 σ9 => K x10 σ9)))))))
set_option maxHeartbeats 4000000 in
set_option maxRecDepth 100000 in
theorem c_X8_ruleNow (l : Launch) (D : va_G) (cI cZ : ClassId) (ad : Nat → Nat) (A : Nat → Prop) (σ : St) (a1 : Int32) (a2 : Int32) (a3 : Int32) (a4 : Int32) (a5 : Int32) (K : Int32 → St → Prop) (hw : wp_X8_ruleNow σ a1 a2 a3 a4 a5 K) : Met l yX8_ruleNow wsX8_ruleNow ({ frames := 2, cells := 0, slots := 0, locals := 51 }) (va_Pc [.ref (ad 0), .int a1, .int a2, .int a3, .int a4, .int a5] (GW D [(cI, FieldType.int), (cZ, FieldType.boolean)] (wM cI cZ ad) A σ)) (va_Qi K (GW D [(cI, FieldType.int), (cZ, FieldType.boolean)] (wM cI cZ ad) A) A) 0 0 A := by
  refine Met.ofW (cc := cX8_ruleNow) (maxL := 8) (ret := (some .int)) (by decide) rfl ?_
  intro p e s m args below meth c s₁ B hml hv
  obtain ⟨rfl, hP, hK, hD⟩ := hv
  have hx := B.exec
  have hb := B.bytes
  have hr := B.returns
  have hts := atoms_spec (ws := wsX8_ruleNow) B.pre
  have hown : s.vm.findClass RX8 = some m.cls := findClass_of_methodNamed B.named
  have hlocks := B.notSynchronized
  have hS : va_S A s.heap s.heap [] := va_S.rf
  have hinX8 : ∀ w ∈ wsX80, w ∈ wsX8_ruleNow := fun _ h => List.mem_cons_of_mem _ (List.mem_append_right _ (h))
  have hl := lv_entry ([.ref (ad 0), .int a1, .int a2, .int a3, .int a4, .int a5]) (n := 8) (Nat.le_of_ble_eq_true rfl)
  rw [lg_entry_eq]
  generalize (lg_sl ([.ref (ad 0), .int a1, .int a2, .int a3, .int a4, .int a5]) ++ List.replicate (8 - (lg_sl ([.ref (ad 0), .int a1, .int a2, .int a3, .int a4, .int a5])).length) Slot.unset).toArray = ls at hl ⊢
  have hl : lv_has ls 8 [(0, .ref (ad 0)), (1, .int a1), (2, .int a2), (3, .int a3), (4, .int a4), (5, .int a5)] := hl
  have hP : va_P D vwCl (wM cI cZ ad σ) s.heap := hP
  refine lv_iload_n hx hb dX8_ruleNow_0 rfl (lv_at hl 1 rfl) ?_
  refine lv_aload_n hx hb dX8_ruleNow_1 rfl (lv_at hl 0 rfl) ?_
  refine va_get (D := D) (ci := 6) (C := RX8) (T := TX8) (N := 28) hx hb hts hinX8 hown hK hP 0 rfl rfl 0 (by decide) (hts _ (List.mem_of_getElem? (i := 1) rfl)) (fun _ h9 => h9) rfl dX8_ruleNow_2 ?_
  refine lv_iload_n hx hb dX8_ruleNow_5 rfl (lv_at hl 3 rfl) ?_
  refine va_iald (D := D) hx hb hK hP 1 0 rfl rfl hw.1 dX8_ruleNow_6 ?_
  have hw := hw.2
  refine lv_aload_n hx hb dX8_ruleNow_7 rfl (lv_at hl 0 rfl) ?_
  refine va_get (D := D) (ci := 6) (C := RX8) (T := TX8) (N := 28) hx hb hts hinX8 hown hK hP 0 rfl rfl 1 (by decide) (hts _ (List.mem_of_getElem? (i := 2) rfl)) (fun _ h9 => h9) rfl dX8_ruleNow_8 ?_
  refine lv_iload_n hx hb dX8_ruleNow_11 rfl (lv_at hl 3 rfl) ?_
  refine va_iald (D := D) hx hb hK hP 2 0 rfl rfl hw.1 dX8_ruleNow_12 ?_
  have hw := hw.2
  refine lv_aload_n hx hb dX8_ruleNow_13 rfl (lv_at hl 0 rfl) ?_
  refine va_get (D := D) (ci := 6) (C := RX8) (T := TX8) (N := 28) hx hb hts hinX8 hown hK hP 0 rfl rfl 0 (by decide) (hts _ (List.mem_of_getElem? (i := 1) rfl)) (fun _ h9 => h9) rfl dX8_ruleNow_14 ?_
  refine lv_iload hx hb dX8_ruleNow_17 (lv_at hl 4 rfl) ?_
  refine va_iald (D := D) hx hb hK hP 1 0 rfl rfl hw.1 dX8_ruleNow_19 ?_
  have hw := hw.2
  refine lv_aload_n hx hb dX8_ruleNow_20 rfl (lv_at hl 0 rfl) ?_
  refine va_get (D := D) (ci := 6) (C := RX8) (T := TX8) (N := 28) hx hb hts hinX8 hown hK hP 0 rfl rfl 1 (by decide) (hts _ (List.mem_of_getElem? (i := 2) rfl)) (fun _ h9 => h9) rfl dX8_ruleNow_21 ?_
  refine lv_iload hx hb dX8_ruleNow_24 (lv_at hl 4 rfl) ?_
  refine va_iald (D := D) hx hb hK hP 2 0 rfl rfl hw.1 dX8_ruleNow_26 ?_
  have hw := hw.2
  refine S_calli (As := [.int a1, .int (σ.2.1 0 a3.toNatClampNeg), .int (σ.2.1 1 a3.toNatClampNeg), .int (σ.2.1 0 a4.toNatClampNeg), .int (σ.2.1 1 a4.toNatClampNeg)]) (rest := []) ⟨hx, hb, hml, hown, hts⟩ (c_X8_shadowBy l a1 (σ.2.1 0 a3.toNatClampNeg) (σ.2.1 1 a3.toNatClampNeg) (σ.2.1 0 a4.toNatClampNeg) (σ.2.1 1 a4.toNatClampNeg) _ hw) (va_cwS 5 hts gX8_ruleNow_X8_shadowBy rfl rfl rfl (by decide +kernel) ⟨Nat.le_of_ble_eq_true rfl, Nat.le_of_ble_eq_true rfl⟩) rfl hl.1 rfl (Nat.le_of_ble_eq_true rfl) dX8_ruleNow_27 ⟨Nat.zero_le _, Nat.zero_le _⟩ (fun x1 hw => ?_)
  refine lv_istore (lv' := [(6, .int x1), (0, .ref (ad 0)), (1, .int a1), (2, .int a2), (3, .int a3), (4, .int a4), (5, .int a5)]) hx hb dX8_ruleNow_30 hl (by decide) rfl (fun ls hl => ?_)
  refine lv_iload_n hx hb dX8_ruleNow_32 rfl (lv_at hl 2 rfl) ?_
  refine lv_aload_n hx hb dX8_ruleNow_33 rfl (lv_at hl 1 rfl) ?_
  refine va_get (D := D) (ci := 6) (C := RX8) (T := TX8) (N := 28) hx hb hts hinX8 hown hK hP 0 rfl rfl 0 (by decide) (hts _ (List.mem_of_getElem? (i := 1) rfl)) (fun _ h9 => h9) rfl dX8_ruleNow_34 ?_
  refine lv_iload_n hx hb dX8_ruleNow_37 rfl (lv_at hl 4 rfl) ?_
  refine va_iald (D := D) hx hb hK hP 1 0 rfl rfl hw.1 dX8_ruleNow_38 ?_
  have hw := hw.2
  refine lv_aload_n hx hb dX8_ruleNow_39 rfl (lv_at hl 1 rfl) ?_
  refine va_get (D := D) (ci := 6) (C := RX8) (T := TX8) (N := 28) hx hb hts hinX8 hown hK hP 0 rfl rfl 0 (by decide) (hts _ (List.mem_of_getElem? (i := 1) rfl)) (fun _ h9 => h9) rfl dX8_ruleNow_40 ?_
  refine lv_iload hx hb dX8_ruleNow_43 (lv_at hl 5 rfl) ?_
  refine va_iald (D := D) hx hb hK hP 1 0 rfl rfl hw.1 dX8_ruleNow_45 ?_
  have hw := hw.2
  refine S_calli (As := [.int a1, .int (σ.2.1 0 a3.toNatClampNeg), .int (σ.2.1 0 a4.toNatClampNeg)]) (rest := []) ⟨hx, hb, hml, hown, hts⟩ (c_X8_valueBy l a1 (σ.2.1 0 a3.toNatClampNeg) (σ.2.1 0 a4.toNatClampNeg) _ hw) (va_cwS 3 hts gX8_ruleNow_X8_valueBy rfl rfl rfl (by decide +kernel) ⟨Nat.le_of_ble_eq_true rfl, Nat.le_of_ble_eq_true rfl⟩) rfl hl.1 rfl (Nat.le_of_ble_eq_true rfl) dX8_ruleNow_46 ⟨Nat.zero_le _, Nat.zero_le _⟩ (fun x2 hw => ?_)
  refine lv_istore (lv' := [(7, .int x2), (6, .int x1), (0, .ref (ad 0)), (1, .int a1), (2, .int a2), (3, .int a3), (4, .int a4), (5, .int a5)]) hx hb dX8_ruleNow_49 hl (by decide) rfl (fun ls hl => ?_)
  refine lv_aload_n hx hb dX8_ruleNow_51 rfl (lv_at hl 2 rfl) ?_
  refine lv_dup hx hb dX8_ruleNow_52 rfl ?_
  refine va_get (D := D) (ci := 6) (C := RX8) (T := TX8) (N := 28) hx hb hts hinX8 hown hK hP 0 rfl rfl 15 (by decide) (hts _ (List.mem_of_getElem? (i := 3) rfl)) (fun _ h9 => h9) rfl dX8_ruleNow_53 ?_
  refine lv_iload hx hb dX8_ruleNow_56 (lv_at hl 7 rfl) ?_
  refine lv_if_eq (tgt := 102) hx hb dX8_ruleNow_58 (by decide) (fun c9 => ?_) (fun c9 => ?_)
  · have hw := hw.1 c9
    refine lv_iconst (v := 0) hx hb dX8_ruleNow_102 (by decide) ?_
    refine lv_iadd hx hb dX8_ruleNow_103 ?_
    refine va_put (D := D) (ci := 6) (ty := .int) (C := RX8) (T := TX8) (N := 28) hx hb hts hinX8 tyX8 tyX8_ok nmX8 hown hK hP hD hS 0 rfl rfl 15 (by decide) (hts _ (List.mem_of_getElem? (i := 3) rfl)) (fun _ h9 => h9) rfl (by decide +kernel) rfl rfl (Nat.le_of_ble_eq_true rfl) dX8_ruleNow_104 (fun H locs hP hD hS => ?_)
    obtain ⟨σ3, eσ3⟩ : ∃ z : St, z = sI σ 4 ((σ.1 4) + (0 : Int32)) := ⟨_, rfl⟩
    have hP : va_P D vwCl (wM cI cZ ad σ3) H := by rw [eσ3]; exact hP
    have hD : va_D A (wM cI cZ ad σ3) := by rw [eσ3]; exact hD
    have hw := hw σ3 eσ3
    refine lv_aload_n hx hb dX8_ruleNow_107 rfl (lv_at hl 2 rfl) ?_
    refine lv_iload_n hx hb dX8_ruleNow_108 rfl (lv_at hl 4 rfl) ?_
    refine lv_iload hx hb dX8_ruleNow_109 (lv_at hl 0 rfl) ?_
    refine lv_iload hx hb dX8_ruleNow_111 (lv_at hl 1 rfl) ?_
    refine lv_aload_n hx hb dX8_ruleNow_113 rfl (lv_at hl 2 rfl) ?_
    refine va_get (D := D) (ci := 6) (C := RX8) (T := TX8) (N := 28) hx hb hts hinX8 hown hK hP 0 rfl rfl 2 (by decide) (hts _ (List.mem_of_getElem? (i := 4) rfl)) (fun _ h9 => h9) rfl dX8_ruleNow_114 ?_
    refine lv_iload_n hx hb dX8_ruleNow_117 rfl (lv_at hl 5 rfl) ?_
    refine va_iald (D := D) hx hb hK hP 3 0 rfl rfl hw.1 dX8_ruleNow_118 ?_
    have hw := hw.2
    refine lv_aload_n hx hb dX8_ruleNow_119 rfl (lv_at hl 2 rfl) ?_
    refine va_get (D := D) (ci := 6) (C := RX8) (T := TX8) (N := 28) hx hb hts hinX8 hown hK hP 0 rfl rfl 2 (by decide) (hts _ (List.mem_of_getElem? (i := 4) rfl)) (fun _ h9 => h9) rfl dX8_ruleNow_120 ?_
    refine lv_iload hx hb dX8_ruleNow_123 (lv_at hl 6 rfl) ?_
    refine va_iald (D := D) hx hb hK hP 3 0 rfl rfl hw.1 dX8_ruleNow_125 ?_
    have hw := hw.2
    refine lv_ior hx hb dX8_ruleNow_126 ?_
    refine G_calli (As := [.int a2, .int x2, .int x1, .int ((σ3.2.1 2 a3.toNatClampNeg) ||| (σ3.2.1 2 a4.toNatClampNeg))]) (rest := []) ⟨hx, hb, hml, hown, hts⟩ hK hP hD hS 0 6 rfl rfl (c_X8_become l D cI cZ ad A σ3 a2 x2 x1 ((σ3.2.1 2 a3.toNatClampNeg) ||| (σ3.2.1 2 a4.toNatClampNeg)) _ hw) (cwV 4 hts gX8_ruleNow_X8_become rfl rfl rfl (by decide +kernel) ⟨Nat.le_of_ble_eq_true rfl, Nat.le_of_ble_eq_true rfl⟩) rfl hl.1 rfl (Nat.le_of_ble_eq_true rfl) dX8_ruleNow_127 ⟨Nat.zero_le _, Nat.zero_le _⟩ (fun x5 σ4 hw H locs hP hD hS => ?_)
    exact G_iret hx hb hr hlocks hw hP hK hD hS dX8_ruleNow_130
  · have hw := hw.2 c9
    refine lv_iload hx hb dX8_ruleNow_61 (lv_at hl 1 rfl) ?_
    refine lv_iload_n hx hb dX8_ruleNow_63 rfl (lv_at hl 3 rfl) ?_
    refine lv_aload_n hx hb dX8_ruleNow_64 rfl (lv_at hl 2 rfl) ?_
    refine va_get (D := D) (ci := 6) (C := RX8) (T := TX8) (N := 28) hx hb hts hinX8 hown hK hP 0 rfl rfl 0 (by decide) (hts _ (List.mem_of_getElem? (i := 1) rfl)) (fun _ h9 => h9) rfl dX8_ruleNow_65 ?_
    refine lv_iload_n hx hb dX8_ruleNow_68 rfl (lv_at hl 5 rfl) ?_
    refine va_iald (D := D) hx hb hK hP 1 0 rfl rfl hw.1 dX8_ruleNow_69 ?_
    have hw := hw.2
    refine lv_aload_n hx hb dX8_ruleNow_70 rfl (lv_at hl 2 rfl) ?_
    refine va_get (D := D) (ci := 6) (C := RX8) (T := TX8) (N := 28) hx hb hts hinX8 hown hK hP 0 rfl rfl 1 (by decide) (hts _ (List.mem_of_getElem? (i := 2) rfl)) (fun _ h9 => h9) rfl dX8_ruleNow_71 ?_
    refine lv_iload_n hx hb dX8_ruleNow_74 rfl (lv_at hl 5 rfl) ?_
    refine va_iald (D := D) hx hb hK hP 2 0 rfl rfl hw.1 dX8_ruleNow_75 ?_
    have hw := hw.2
    refine lv_aload_n hx hb dX8_ruleNow_76 rfl (lv_at hl 2 rfl) ?_
    refine va_get (D := D) (ci := 6) (C := RX8) (T := TX8) (N := 28) hx hb hts hinX8 hown hK hP 0 rfl rfl 0 (by decide) (hts _ (List.mem_of_getElem? (i := 1) rfl)) (fun _ h9 => h9) rfl dX8_ruleNow_77 ?_
    refine lv_iload hx hb dX8_ruleNow_80 (lv_at hl 6 rfl) ?_
    refine va_iald (D := D) hx hb hK hP 1 0 rfl rfl hw.1 dX8_ruleNow_82 ?_
    have hw := hw.2
    refine lv_aload_n hx hb dX8_ruleNow_83 rfl (lv_at hl 2 rfl) ?_
    refine va_get (D := D) (ci := 6) (C := RX8) (T := TX8) (N := 28) hx hb hts hinX8 hown hK hP 0 rfl rfl 1 (by decide) (hts _ (List.mem_of_getElem? (i := 2) rfl)) (fun _ h9 => h9) rfl dX8_ruleNow_84 ?_
    refine lv_iload hx hb dX8_ruleNow_87 (lv_at hl 6 rfl) ?_
    refine va_iald (D := D) hx hb hK hP 2 0 rfl rfl hw.1 dX8_ruleNow_89 ?_
    have hw := hw.2
    refine S_calli (As := [.int a1, .int (σ.2.1 0 a3.toNatClampNeg), .int (σ.2.1 1 a3.toNatClampNeg), .int (σ.2.1 0 a4.toNatClampNeg), .int (σ.2.1 1 a4.toNatClampNeg)]) (rest := [.int x1, .int (σ.1 4), .ref (ad 0)]) ⟨hx, hb, hml, hown, hts⟩ (c_X8_exactBy l a1 (σ.2.1 0 a3.toNatClampNeg) (σ.2.1 1 a3.toNatClampNeg) (σ.2.1 0 a4.toNatClampNeg) (σ.2.1 1 a4.toNatClampNeg) _ hw) (va_cwS 5 hts gX8_ruleNow_X8_exactBy rfl rfl rfl (by decide +kernel) ⟨Nat.le_of_ble_eq_true rfl, Nat.le_of_ble_eq_true rfl⟩) rfl hl.1 rfl (Nat.le_of_ble_eq_true rfl) dX8_ruleNow_90 ⟨Nat.zero_le _, Nat.zero_le _⟩ (fun x6 hw => ?_)
    refine lv_iconst (v := -1) hx hb dX8_ruleNow_93 (by decide) ?_
    refine lv_ixor hx hb dX8_ruleNow_94 ?_
    refine lv_iand hx hb dX8_ruleNow_95 ?_
    refine S_calli (As := [.int (x1 &&& (x6 ^^^ (-1 : Int32)))]) (rest := [.int (σ.1 4), .ref (ad 0)]) ⟨hx, hb, hml, hown, hts⟩ (c_X8_bits l (x1 &&& (x6 ^^^ (-1 : Int32))) _ hw) (va_cwS 1 hts gX8_ruleNow_X8_bits rfl rfl rfl (by decide +kernel) ⟨Nat.le_of_ble_eq_true rfl, Nat.le_of_ble_eq_true rfl⟩) rfl hl.1 rfl (Nat.le_of_ble_eq_true rfl) dX8_ruleNow_96 ⟨Nat.zero_le _, Nat.zero_le _⟩ (fun x7 hw => ?_)
    refine lv_goto (tgt := 103) hx hb dX8_ruleNow_99 (by decide) ?_
    refine lv_iadd hx hb dX8_ruleNow_103 ?_
    refine va_put (D := D) (ci := 6) (ty := .int) (C := RX8) (T := TX8) (N := 28) hx hb hts hinX8 tyX8 tyX8_ok nmX8 hown hK hP hD hS 0 rfl rfl 15 (by decide) (hts _ (List.mem_of_getElem? (i := 3) rfl)) (fun _ h9 => h9) rfl (by decide +kernel) rfl rfl (Nat.le_of_ble_eq_true rfl) dX8_ruleNow_104 (fun H locs hP hD hS => ?_)
    obtain ⟨σ8, eσ8⟩ : ∃ z : St, z = sI σ 4 ((σ.1 4) + x7) := ⟨_, rfl⟩
    have hP : va_P D vwCl (wM cI cZ ad σ8) H := by rw [eσ8]; exact hP
    have hD : va_D A (wM cI cZ ad σ8) := by rw [eσ8]; exact hD
    have hw := hw σ8 eσ8
    refine lv_aload_n hx hb dX8_ruleNow_107 rfl (lv_at hl 2 rfl) ?_
    refine lv_iload_n hx hb dX8_ruleNow_108 rfl (lv_at hl 4 rfl) ?_
    refine lv_iload hx hb dX8_ruleNow_109 (lv_at hl 0 rfl) ?_
    refine lv_iload hx hb dX8_ruleNow_111 (lv_at hl 1 rfl) ?_
    refine lv_aload_n hx hb dX8_ruleNow_113 rfl (lv_at hl 2 rfl) ?_
    refine va_get (D := D) (ci := 6) (C := RX8) (T := TX8) (N := 28) hx hb hts hinX8 hown hK hP 0 rfl rfl 2 (by decide) (hts _ (List.mem_of_getElem? (i := 4) rfl)) (fun _ h9 => h9) rfl dX8_ruleNow_114 ?_
    refine lv_iload_n hx hb dX8_ruleNow_117 rfl (lv_at hl 5 rfl) ?_
    refine va_iald (D := D) hx hb hK hP 3 0 rfl rfl hw.1 dX8_ruleNow_118 ?_
    have hw := hw.2
    refine lv_aload_n hx hb dX8_ruleNow_119 rfl (lv_at hl 2 rfl) ?_
    refine va_get (D := D) (ci := 6) (C := RX8) (T := TX8) (N := 28) hx hb hts hinX8 hown hK hP 0 rfl rfl 2 (by decide) (hts _ (List.mem_of_getElem? (i := 4) rfl)) (fun _ h9 => h9) rfl dX8_ruleNow_120 ?_
    refine lv_iload hx hb dX8_ruleNow_123 (lv_at hl 6 rfl) ?_
    refine va_iald (D := D) hx hb hK hP 3 0 rfl rfl hw.1 dX8_ruleNow_125 ?_
    have hw := hw.2
    refine lv_ior hx hb dX8_ruleNow_126 ?_
    refine G_calli (As := [.int a2, .int x2, .int x1, .int ((σ8.2.1 2 a3.toNatClampNeg) ||| (σ8.2.1 2 a4.toNatClampNeg))]) (rest := []) ⟨hx, hb, hml, hown, hts⟩ hK hP hD hS 0 6 rfl rfl (c_X8_become l D cI cZ ad A σ8 a2 x2 x1 ((σ8.2.1 2 a3.toNatClampNeg) ||| (σ8.2.1 2 a4.toNatClampNeg)) _ hw) (cwV 4 hts gX8_ruleNow_X8_become rfl rfl rfl (by decide +kernel) ⟨Nat.le_of_ble_eq_true rfl, Nat.le_of_ble_eq_true rfl⟩) rfl hl.1 rfl (Nat.le_of_ble_eq_true rfl) dX8_ruleNow_127 ⟨Nat.zero_le _, Nat.zero_le _⟩ (fun x10 σ9 hw H locs hP hD hS => ?_)
    exact G_iret hx hb hr hlocks hw hP hK hD hS dX8_ruleNow_130

def wp_X8_rule (σ : St) (a1 : Int32) (a2 : Int32) (a3 : Int32) (a4 : Int32) (K : Int32 → St → Prop) : Prop :=
  wp_X8_isRegister a2 (fun x1 => ((x1 = 0 → K (-1000000001 : Int32) σ) ∧ (¬ x1 = 0 → wp_X8_isRegister a3 (fun x2 => ((x2 = 0 → K (-1000000001 : Int32) σ) ∧ (¬ x2 = 0 → wp_X8_isRegister a4 (fun x3 => ((¬ x3 = 0 → wp_X8_in (a1.toInt64) (0 : Int64) (6 : Int64) (fun x4 => ((¬ x4 = 0 → wp_X8_ruleNow σ a1 a2 a3 a4 (1 : Int32) (fun x6 σ5 => wp_X8_tick σ5 (4 : Int32) x6 (fun x8 σ7 => K x8 σ7))) ∧ (x4 = 0 → K (-1000000002 : Int32) σ)))) ∧ (x3 = 0 → K (-1000000001 : Int32) σ)))))))))
set_option maxHeartbeats 4000000 in
set_option maxRecDepth 100000 in
theorem c_X8_rule (l : Launch) (D : va_G) (cI cZ : ClassId) (ad : Nat → Nat) (A : Nat → Prop) (σ : St) (a1 : Int32) (a2 : Int32) (a3 : Int32) (a4 : Int32) (K : Int32 → St → Prop) (hw : wp_X8_rule σ a1 a2 a3 a4 K) : Met l yX8_rule wsX8_rule ({ frames := 3, cells := 0, slots := 0, locals := 78 }) (va_Pc [.ref (ad 0), .int a1, .int a2, .int a3, .int a4] (GW D [(cI, FieldType.int), (cZ, FieldType.boolean)] (wM cI cZ ad) A σ)) (va_Qi K (GW D [(cI, FieldType.int), (cZ, FieldType.boolean)] (wM cI cZ ad) A) A) 0 0 A := by
  refine Met.ofW (cc := cX8_rule) (maxL := 5) (ret := (some .int)) (by decide) rfl ?_
  intro p e s m args below meth c s₁ B hml hv
  obtain ⟨rfl, hP, hK, hD⟩ := hv
  have hx := B.exec
  have hb := B.bytes
  have hr := B.returns
  have hts := atoms_spec (ws := wsX8_rule) B.pre
  have hown : s.vm.findClass RX8 = some m.cls := findClass_of_methodNamed B.named
  have hlocks := B.notSynchronized
  have hS : va_S A s.heap s.heap [] := va_S.rf
  have hinX8 : ∀ w ∈ wsX80, w ∈ wsX8_rule := fun _ h => List.mem_cons_of_mem _ (List.mem_append_right _ (h))
  have hl := lv_entry ([.ref (ad 0), .int a1, .int a2, .int a3, .int a4]) (n := 5) (Nat.le_of_ble_eq_true rfl)
  rw [lg_entry_eq]
  generalize (lg_sl ([.ref (ad 0), .int a1, .int a2, .int a3, .int a4]) ++ List.replicate (5 - (lg_sl ([.ref (ad 0), .int a1, .int a2, .int a3, .int a4])).length) Slot.unset).toArray = ls at hl ⊢
  have hl : lv_has ls 5 [(0, .ref (ad 0)), (1, .int a1), (2, .int a2), (3, .int a3), (4, .int a4)] := hl
  have hP : va_P D vwCl (wM cI cZ ad σ) s.heap := hP
  refine lv_iload_n hx hb dX8_rule_0 rfl (lv_at hl 2 rfl) ?_
  refine S_calli (As := [.int a2]) (rest := []) ⟨hx, hb, hml, hown, hts⟩ (c_X8_isRegister l a2 _ hw) (va_cwS 1 hts gX8_rule_X8_isRegister rfl rfl rfl (by decide +kernel) ⟨Nat.le_of_ble_eq_true rfl, Nat.le_of_ble_eq_true rfl⟩) rfl hl.1 rfl (Nat.le_of_ble_eq_true rfl) dX8_rule_1 ⟨Nat.zero_le _, Nat.zero_le _⟩ (fun x1 hw => ?_)
  refine lv_if_eq (tgt := 22) hx hb dX8_rule_4 (by decide) (fun c9 => ?_) (fun c9 => ?_)
  · have hw := hw.1 c9
    refine lv_ldc (v := -1000000001) hx hb hown (hts _ (List.mem_of_getElem? (i := 1) rfl)) dX8_rule_22 ?_
    exact G_iret hx hb hr hlocks hw hP hK hD hS dX8_rule_24
  · have hw := hw.2 c9
    refine lv_iload_n hx hb dX8_rule_7 rfl (lv_at hl 3 rfl) ?_
    refine S_calli (As := [.int a3]) (rest := []) ⟨hx, hb, hml, hown, hts⟩ (c_X8_isRegister l a3 _ hw) (va_cwS 1 hts gX8_rule_X8_isRegister rfl rfl rfl (by decide +kernel) ⟨Nat.le_of_ble_eq_true rfl, Nat.le_of_ble_eq_true rfl⟩) rfl hl.1 rfl (Nat.le_of_ble_eq_true rfl) dX8_rule_8 ⟨Nat.zero_le _, Nat.zero_le _⟩ (fun x2 hw => ?_)
    refine lv_if_eq (tgt := 22) hx hb dX8_rule_11 (by decide) (fun c9 => ?_) (fun c9 => ?_)
    · have hw := hw.1 c9
      refine lv_ldc (v := -1000000001) hx hb hown (hts _ (List.mem_of_getElem? (i := 1) rfl)) dX8_rule_22 ?_
      exact G_iret hx hb hr hlocks hw hP hK hD hS dX8_rule_24
    · have hw := hw.2 c9
      refine lv_iload hx hb dX8_rule_14 (lv_at hl 4 rfl) ?_
      refine S_calli (As := [.int a4]) (rest := []) ⟨hx, hb, hml, hown, hts⟩ (c_X8_isRegister l a4 _ hw) (va_cwS 1 hts gX8_rule_X8_isRegister rfl rfl rfl (by decide +kernel) ⟨Nat.le_of_ble_eq_true rfl, Nat.le_of_ble_eq_true rfl⟩) rfl hl.1 rfl (Nat.le_of_ble_eq_true rfl) dX8_rule_16 ⟨Nat.zero_le _, Nat.zero_le _⟩ (fun x3 hw => ?_)
      refine lv_if_ne (tgt := 25) hx hb dX8_rule_19 (by decide) (fun c9 => ?_) (fun c9 => ?_)
      · have hw := hw.1 c9
        refine lv_iload_n hx hb dX8_rule_25 rfl (lv_at hl 1 rfl) ?_
        refine lv_i2l hx hb dX8_rule_26 rfl ?_
        refine lv_lconst (v := 0) hx hb dX8_rule_27 (by decide) ?_
        refine lv_ldc2 (v := 6) hx hb hown (hts _ (List.mem_of_getElem? (i := 2) rfl)) dX8_rule_28 ?_
        refine S_calli (As := [.long (a1.toInt64), .long (0 : Int64), .long (6 : Int64)]) (rest := []) ⟨hx, hb, hml, hown, hts⟩ (c_X8_in l (a1.toInt64) (0 : Int64) (6 : Int64) _ hw) (va_cwS 3 hts gX8_rule_X8_in rfl rfl rfl (by decide +kernel) ⟨Nat.le_of_ble_eq_true rfl, Nat.le_of_ble_eq_true rfl⟩) rfl hl.1 rfl (Nat.le_of_ble_eq_true rfl) dX8_rule_31 ⟨Nat.zero_le _, Nat.zero_le _⟩ (fun x4 hw => ?_)
        refine lv_if_ne (tgt := 40) hx hb dX8_rule_34 (by decide) (fun c9 => ?_) (fun c9 => ?_)
        · have hw := hw.1 c9
          refine lv_aload_n hx hb dX8_rule_40 rfl (lv_at hl 0 rfl) ?_
          refine lv_iconst (v := 4) hx hb dX8_rule_41 (by decide) ?_
          refine lv_aload_n hx hb dX8_rule_42 rfl (lv_at hl 0 rfl) ?_
          refine lv_iload_n hx hb dX8_rule_43 rfl (lv_at hl 1 rfl) ?_
          refine lv_iload_n hx hb dX8_rule_44 rfl (lv_at hl 2 rfl) ?_
          refine lv_iload_n hx hb dX8_rule_45 rfl (lv_at hl 3 rfl) ?_
          refine lv_iload hx hb dX8_rule_46 (lv_at hl 4 rfl) ?_
          refine lv_iconst (v := 1) hx hb dX8_rule_48 (by decide) ?_
          refine G_calli (As := [.int a1, .int a2, .int a3, .int a4, .int (1 : Int32)]) (rest := [.int (4 : Int32), .ref (ad 0)]) ⟨hx, hb, hml, hown, hts⟩ hK hP hD hS 0 6 rfl rfl (c_X8_ruleNow l D cI cZ ad A σ a1 a2 a3 a4 (1 : Int32) _ hw) (cwV 5 hts gX8_rule_X8_ruleNow rfl rfl rfl (by decide +kernel) ⟨Nat.le_of_ble_eq_true rfl, Nat.le_of_ble_eq_true rfl⟩) rfl hl.1 rfl (Nat.le_of_ble_eq_true rfl) dX8_rule_49 ⟨Nat.zero_le _, Nat.zero_le _⟩ (fun x6 σ5 hw H locs hP hD hS => ?_)
          refine G_calli (As := [.int (4 : Int32), .int x6]) (rest := []) ⟨hx, hb, hml, hown, hts⟩ hK hP hD hS 0 6 rfl rfl (c_X8_tick l D cI cZ ad A σ5 (4 : Int32) x6 _ hw) (cwV 2 hts gX8_rule_X8_tick rfl rfl rfl (by decide +kernel) ⟨Nat.le_of_ble_eq_true rfl, Nat.le_of_ble_eq_true rfl⟩) rfl hl.1 rfl (Nat.le_of_ble_eq_true rfl) dX8_rule_52 ⟨Nat.zero_le _, Nat.zero_le _⟩ (fun x8 σ7 hw H locs hP hD hS => ?_)
          exact G_iret hx hb hr hlocks hw hP hK hD hS dX8_rule_55
        · have hw := hw.2 c9
          refine lv_ldc (v := -1000000002) hx hb hown (hts _ (List.mem_of_getElem? (i := 3) rfl)) dX8_rule_37 ?_
          exact G_iret hx hb hr hlocks hw hP hK hD hS dX8_rule_39
      · have hw := hw.2 c9
        refine lv_ldc (v := -1000000001) hx hb hown (hts _ (List.mem_of_getElem? (i := 1) rfl)) dX8_rule_22 ?_
        exact G_iret hx hb hr hlocks hw hP hK hD hS dX8_rule_24

def wp_X8_isDecided (σ : St) (a1 : Int32) (K : Int32 → St → Prop) : Prop :=
  vp_in a1 40 ∧ (((σ.2.1 1 a1.toNatClampNeg) = 0 → K (1 : Int32) σ) ∧ (¬ (σ.2.1 1 a1.toNatClampNeg) = 0 → vp_in a1 40 ∧ vp_in a1 40 ∧ ((((σ.2.1 0 a1.toNatClampNeg) &&& ((σ.2.1 1 a1.toNatClampNeg) ^^^ (-1 : Int32))) = 0 → K (0 : Int32) σ) ∧ (¬ ((σ.2.1 0 a1.toNatClampNeg) &&& ((σ.2.1 1 a1.toNatClampNeg) ^^^ (-1 : Int32))) = 0 → K (1 : Int32) σ))))
set_option maxHeartbeats 4000000 in
set_option maxRecDepth 100000 in
theorem c_X8_isDecided (l : Launch) (D : va_G) (cI cZ : ClassId) (ad : Nat → Nat) (A : Nat → Prop) (σ : St) (a1 : Int32) (K : Int32 → St → Prop) (hw : wp_X8_isDecided σ a1 K) : Met l yX8_isDecided wsX8_isDecided ({ frames := 0, cells := 0, slots := 0, locals := 0 }) (va_Pc [.ref (ad 0), .int a1] (GW D [(cI, FieldType.int), (cZ, FieldType.boolean)] (wM cI cZ ad) A σ)) (va_Qi K (GW D [(cI, FieldType.int), (cZ, FieldType.boolean)] (wM cI cZ ad) A) A) 0 0 A := by
  refine Met.ofW (cc := cX8_isDecided) (maxL := 2) (ret := (some .boolean)) (by decide) rfl ?_
  intro p e s m args below meth c s₁ B hml hv
  obtain ⟨rfl, hP, hK, hD⟩ := hv
  have hx := B.exec
  have hb := B.bytes
  have hr := B.returns
  have hts := atoms_spec (ws := wsX8_isDecided) B.pre
  have hown : s.vm.findClass RX8 = some m.cls := findClass_of_methodNamed B.named
  have hlocks := B.notSynchronized
  have hS : va_S A s.heap s.heap [] := va_S.rf
  have hinX8 : ∀ w ∈ wsX80, w ∈ wsX8_isDecided := fun _ h => List.mem_cons_of_mem _ (List.mem_append_right _ (h))
  have hl := lv_entry ([.ref (ad 0), .int a1]) (n := 2) (Nat.le_of_ble_eq_true rfl)
  rw [lg_entry_eq]
  generalize (lg_sl ([.ref (ad 0), .int a1]) ++ List.replicate (2 - (lg_sl ([.ref (ad 0), .int a1])).length) Slot.unset).toArray = ls at hl ⊢
  have hl : lv_has ls 2 [(0, .ref (ad 0)), (1, .int a1)] := hl
  have hP : va_P D vwCl (wM cI cZ ad σ) s.heap := hP
  refine lv_aload_n hx hb dX8_isDecided_0 rfl (lv_at hl 0 rfl) ?_
  refine va_get (D := D) (ci := 6) (C := RX8) (T := TX8) (N := 28) hx hb hts hinX8 hown hK hP 0 rfl rfl 1 (by decide) (hts _ (List.mem_of_getElem? (i := 1) rfl)) (fun _ h9 => h9) rfl dX8_isDecided_1 ?_
  refine lv_iload_n hx hb dX8_isDecided_4 rfl (lv_at hl 1 rfl) ?_
  refine va_iald (D := D) hx hb hK hP 2 0 rfl rfl hw.1 dX8_isDecided_5 ?_
  have hw := hw.2
  refine lv_if_eq (tgt := 27) hx hb dX8_isDecided_6 (by decide) (fun c9 => ?_) (fun c9 => ?_)
  · have hw := hw.1 c9
    refine lv_iconst (v := 1) hx hb dX8_isDecided_27 (by decide) ?_
    refine lv_goto (tgt := 32) hx hb dX8_isDecided_28 (by decide) ?_
    exact G_zret hx hb hr hlocks rfl hw hP hK hD hS dX8_isDecided_32
  · have hw := hw.2 c9
    refine lv_aload_n hx hb dX8_isDecided_9 rfl (lv_at hl 0 rfl) ?_
    refine va_get (D := D) (ci := 6) (C := RX8) (T := TX8) (N := 28) hx hb hts hinX8 hown hK hP 0 rfl rfl 0 (by decide) (hts _ (List.mem_of_getElem? (i := 2) rfl)) (fun _ h9 => h9) rfl dX8_isDecided_10 ?_
    refine lv_iload_n hx hb dX8_isDecided_13 rfl (lv_at hl 1 rfl) ?_
    refine va_iald (D := D) hx hb hK hP 1 0 rfl rfl hw.1 dX8_isDecided_14 ?_
    have hw := hw.2
    refine lv_aload_n hx hb dX8_isDecided_15 rfl (lv_at hl 0 rfl) ?_
    refine va_get (D := D) (ci := 6) (C := RX8) (T := TX8) (N := 28) hx hb hts hinX8 hown hK hP 0 rfl rfl 1 (by decide) (hts _ (List.mem_of_getElem? (i := 1) rfl)) (fun _ h9 => h9) rfl dX8_isDecided_16 ?_
    refine lv_iload_n hx hb dX8_isDecided_19 rfl (lv_at hl 1 rfl) ?_
    refine va_iald (D := D) hx hb hK hP 2 0 rfl rfl hw.1 dX8_isDecided_20 ?_
    have hw := hw.2
    refine lv_iconst (v := -1) hx hb dX8_isDecided_21 (by decide) ?_
    refine lv_ixor hx hb dX8_isDecided_22 ?_
    refine lv_iand hx hb dX8_isDecided_23 ?_
    refine lv_if_eq (tgt := 31) hx hb dX8_isDecided_24 (by decide) (fun c9 => ?_) (fun c9 => ?_)
    · have hw := hw.1 c9
      refine lv_iconst (v := 0) hx hb dX8_isDecided_31 (by decide) ?_
      exact G_zret hx hb hr hlocks rfl hw hP hK hD hS dX8_isDecided_32
    · have hw := hw.2 c9
      refine lv_iconst (v := 1) hx hb dX8_isDecided_27 (by decide) ?_
      refine lv_goto (tgt := 32) hx hb dX8_isDecided_28 (by decide) ?_
      exact G_zret hx hb hr hlocks rfl hw hP hK hD hS dX8_isDecided_32

def wp_X8_decideNow (σ : St) (a1 : Int32) (K : Int32 → St → Prop) : Prop :=
  wp_X8_isDecided σ a1 (fun x2 σ1 => ((¬ x2 = 0 → vp_in a1 40 ∧ ((¬ (σ1.2.1 0 a1.toNatClampNeg) = 0 → K (1 : Int32) σ1) ∧ ((σ1.2.1 0 a1.toNatClampNeg) = 0 → K (0 : Int32) σ1))) ∧ (x2 = 0 → vp_in a1 40 ∧ wp_X8_cries σ1 (0 : Int32) (σ1.2.1 2 a1.toNatClampNeg) (fun σ3 => vp_in a1 40 ∧ ((¬ (σ3.2.1 0 a1.toNatClampNeg) = 0 → K (1 : Int32) σ3) ∧ ((σ3.2.1 0 a1.toNatClampNeg) = 0 → K (0 : Int32) σ3))))))
set_option maxHeartbeats 4000000 in
set_option maxRecDepth 100000 in
theorem c_X8_decideNow (l : Launch) (D : va_G) (cI cZ : ClassId) (ad : Nat → Nat) (A : Nat → Prop) (σ : St) (a1 : Int32) (K : Int32 → St → Prop) (hw : wp_X8_decideNow σ a1 K) : Met l yX8_decideNow wsX8_decideNow ({ frames := 1, cells := 0, slots := 0, locals := 22 }) (va_Pc [.ref (ad 0), .int a1] (GW D [(cI, FieldType.int), (cZ, FieldType.boolean)] (wM cI cZ ad) A σ)) (va_Qi K (GW D [(cI, FieldType.int), (cZ, FieldType.boolean)] (wM cI cZ ad) A) A) 0 0 A := by
  refine Met.ofW (cc := cX8_decideNow) (maxL := 2) (ret := (some .int)) (by decide) rfl ?_
  intro p e s m args below meth c s₁ B hml hv
  obtain ⟨rfl, hP, hK, hD⟩ := hv
  have hx := B.exec
  have hb := B.bytes
  have hr := B.returns
  have hts := atoms_spec (ws := wsX8_decideNow) B.pre
  have hown : s.vm.findClass RX8 = some m.cls := findClass_of_methodNamed B.named
  have hlocks := B.notSynchronized
  have hS : va_S A s.heap s.heap [] := va_S.rf
  have hinX8 : ∀ w ∈ wsX80, w ∈ wsX8_decideNow := fun _ h => List.mem_cons_of_mem _ (List.mem_append_right _ (h))
  have hl := lv_entry ([.ref (ad 0), .int a1]) (n := 2) (Nat.le_of_ble_eq_true rfl)
  rw [lg_entry_eq]
  generalize (lg_sl ([.ref (ad 0), .int a1]) ++ List.replicate (2 - (lg_sl ([.ref (ad 0), .int a1])).length) Slot.unset).toArray = ls at hl ⊢
  have hl : lv_has ls 2 [(0, .ref (ad 0)), (1, .int a1)] := hl
  have hP : va_P D vwCl (wM cI cZ ad σ) s.heap := hP
  refine lv_aload_n hx hb dX8_decideNow_0 rfl (lv_at hl 0 rfl) ?_
  refine lv_iload_n hx hb dX8_decideNow_1 rfl (lv_at hl 1 rfl) ?_
  refine G_calli (As := [.int a1]) (rest := []) ⟨hx, hb, hml, hown, hts⟩ hK hP hD hS 0 6 rfl rfl (c_X8_isDecided l D cI cZ ad A σ a1 _ hw) (cwV 1 hts gX8_decideNow_X8_isDecided rfl rfl rfl (by decide +kernel) ⟨Nat.le_of_ble_eq_true rfl, Nat.le_of_ble_eq_true rfl⟩) rfl hl.1 rfl (Nat.le_of_ble_eq_true rfl) dX8_decideNow_2 ⟨Nat.zero_le _, Nat.zero_le _⟩ (fun x2 σ1 hw H locs hP hD hS => ?_)
  refine lv_if_ne (tgt := 19) hx hb dX8_decideNow_5 (by decide) (fun c9 => ?_) (fun c9 => ?_)
  · have hw := hw.1 c9
    refine lv_aload_n hx hb dX8_decideNow_19 rfl (lv_at hl 0 rfl) ?_
    refine va_get (D := D) (ci := 6) (C := RX8) (T := TX8) (N := 28) hx hb hts hinX8 hown hK hP 0 rfl rfl 0 (by decide) (hts _ (List.mem_of_getElem? (i := 2) rfl)) (fun _ h9 => h9) rfl dX8_decideNow_20 ?_
    refine lv_iload_n hx hb dX8_decideNow_23 rfl (lv_at hl 1 rfl) ?_
    refine va_iald (D := D) hx hb hK hP 1 0 rfl rfl hw.1 dX8_decideNow_24 ?_
    have hw := hw.2
    refine lv_if_ne (tgt := 32) hx hb dX8_decideNow_25 (by decide) (fun c9 => ?_) (fun c9 => ?_)
    · have hw := hw.1 c9
      refine lv_iconst (v := 1) hx hb dX8_decideNow_32 (by decide) ?_
      exact G_iret hx hb hr hlocks hw hP hK hD hS dX8_decideNow_33
    · have hw := hw.2 c9
      refine lv_iconst (v := 0) hx hb dX8_decideNow_28 (by decide) ?_
      refine lv_goto (tgt := 33) hx hb dX8_decideNow_29 (by decide) ?_
      exact G_iret hx hb hr hlocks hw hP hK hD hS dX8_decideNow_33
  · have hw := hw.2 c9
    refine lv_aload_n hx hb dX8_decideNow_8 rfl (lv_at hl 0 rfl) ?_
    refine lv_iconst (v := 0) hx hb dX8_decideNow_9 (by decide) ?_
    refine lv_aload_n hx hb dX8_decideNow_10 rfl (lv_at hl 0 rfl) ?_
    refine va_get (D := D) (ci := 6) (C := RX8) (T := TX8) (N := 28) hx hb hts hinX8 hown hK hP 0 rfl rfl 2 (by decide) (hts _ (List.mem_of_getElem? (i := 1) rfl)) (fun _ h9 => h9) rfl dX8_decideNow_11 ?_
    refine lv_iload_n hx hb dX8_decideNow_14 rfl (lv_at hl 1 rfl) ?_
    refine va_iald (D := D) hx hb hK hP 3 0 rfl rfl hw.1 dX8_decideNow_15 ?_
    have hw := hw.2
    refine G_callv (As := [.int (0 : Int32), .int (σ1.2.1 2 a1.toNatClampNeg)]) (rest := []) ⟨hx, hb, hml, hown, hts⟩ hK hP hD hS 0 6 rfl rfl (c_X8_cries l D cI cZ ad A σ1 (0 : Int32) (σ1.2.1 2 a1.toNatClampNeg) _ hw) (cwV 2 hts gX8_decideNow_X8_cries rfl rfl rfl (by decide +kernel) ⟨Nat.le_of_ble_eq_true rfl, Nat.le_of_ble_eq_true rfl⟩) rfl hl.1 rfl (Nat.le_of_ble_eq_true rfl) dX8_decideNow_16 ⟨Nat.zero_le _, Nat.zero_le _⟩ (fun σ3 hw H locs hP hD hS => ?_)
    refine lv_aload_n hx hb dX8_decideNow_19 rfl (lv_at hl 0 rfl) ?_
    refine va_get (D := D) (ci := 6) (C := RX8) (T := TX8) (N := 28) hx hb hts hinX8 hown hK hP 0 rfl rfl 0 (by decide) (hts _ (List.mem_of_getElem? (i := 2) rfl)) (fun _ h9 => h9) rfl dX8_decideNow_20 ?_
    refine lv_iload_n hx hb dX8_decideNow_23 rfl (lv_at hl 1 rfl) ?_
    refine va_iald (D := D) hx hb hK hP 1 0 rfl rfl hw.1 dX8_decideNow_24 ?_
    have hw := hw.2
    refine lv_if_ne (tgt := 32) hx hb dX8_decideNow_25 (by decide) (fun c9 => ?_) (fun c9 => ?_)
    · have hw := hw.1 c9
      refine lv_iconst (v := 1) hx hb dX8_decideNow_32 (by decide) ?_
      exact G_iret hx hb hr hlocks hw hP hK hD hS dX8_decideNow_33
    · have hw := hw.2 c9
      refine lv_iconst (v := 0) hx hb dX8_decideNow_28 (by decide) ?_
      refine lv_goto (tgt := 33) hx hb dX8_decideNow_29 (by decide) ?_
      exact G_iret hx hb hr hlocks hw hP hK hD hS dX8_decideNow_33

def wp_X8_decide (σ : St) (a1 : Int32) (K : Int32 → St → Prop) : Prop :=
  wp_X8_isRegister a1 (fun x1 => ((x1 = 0 → K (-1000000001 : Int32) σ) ∧ (¬ x1 = 0 → wp_X8_decideNow σ a1 (fun x3 σ2 => wp_X8_tick σ2 (5 : Int32) x3 (fun x5 σ4 => K x5 σ4)))))
set_option maxHeartbeats 4000000 in
set_option maxRecDepth 100000 in
theorem c_X8_decide (l : Launch) (D : va_G) (cI cZ : ClassId) (ad : Nat → Nat) (A : Nat → Prop) (σ : St) (a1 : Int32) (K : Int32 → St → Prop) (hw : wp_X8_decide σ a1 K) : Met l yX8_decide wsX8_decide ({ frames := 2, cells := 0, slots := 0, locals := 45 }) (va_Pc [.ref (ad 0), .int a1] (GW D [(cI, FieldType.int), (cZ, FieldType.boolean)] (wM cI cZ ad) A σ)) (va_Qi K (GW D [(cI, FieldType.int), (cZ, FieldType.boolean)] (wM cI cZ ad) A) A) 0 0 A := by
  refine Met.ofW (cc := cX8_decide) (maxL := 2) (ret := (some .int)) (by decide) rfl ?_
  intro p e s m args below meth c s₁ B hml hv
  obtain ⟨rfl, hP, hK, hD⟩ := hv
  have hx := B.exec
  have hb := B.bytes
  have hr := B.returns
  have hts := atoms_spec (ws := wsX8_decide) B.pre
  have hown : s.vm.findClass RX8 = some m.cls := findClass_of_methodNamed B.named
  have hlocks := B.notSynchronized
  have hS : va_S A s.heap s.heap [] := va_S.rf
  have hinX8 : ∀ w ∈ wsX80, w ∈ wsX8_decide := fun _ h => List.mem_cons_of_mem _ (List.mem_append_right _ (h))
  have hl := lv_entry ([.ref (ad 0), .int a1]) (n := 2) (Nat.le_of_ble_eq_true rfl)
  rw [lg_entry_eq]
  generalize (lg_sl ([.ref (ad 0), .int a1]) ++ List.replicate (2 - (lg_sl ([.ref (ad 0), .int a1])).length) Slot.unset).toArray = ls at hl ⊢
  have hl : lv_has ls 2 [(0, .ref (ad 0)), (1, .int a1)] := hl
  have hP : va_P D vwCl (wM cI cZ ad σ) s.heap := hP
  refine lv_iload_n hx hb dX8_decide_0 rfl (lv_at hl 1 rfl) ?_
  refine S_calli (As := [.int a1]) (rest := []) ⟨hx, hb, hml, hown, hts⟩ (c_X8_isRegister l a1 _ hw) (va_cwS 1 hts gX8_decide_X8_isRegister rfl rfl rfl (by decide +kernel) ⟨Nat.le_of_ble_eq_true rfl, Nat.le_of_ble_eq_true rfl⟩) rfl hl.1 rfl (Nat.le_of_ble_eq_true rfl) dX8_decide_1 ⟨Nat.zero_le _, Nat.zero_le _⟩ (fun x1 hw => ?_)
  refine lv_if_eq (tgt := 20) hx hb dX8_decide_4 (by decide) (fun c9 => ?_) (fun c9 => ?_)
  · have hw := hw.1 c9
    refine lv_ldc (v := -1000000001) hx hb hown (hts _ (List.mem_of_getElem? (i := 1) rfl)) dX8_decide_20 ?_
    exact G_iret hx hb hr hlocks hw hP hK hD hS dX8_decide_22
  · have hw := hw.2 c9
    refine lv_aload_n hx hb dX8_decide_7 rfl (lv_at hl 0 rfl) ?_
    refine lv_iconst (v := 5) hx hb dX8_decide_8 (by decide) ?_
    refine lv_aload_n hx hb dX8_decide_9 rfl (lv_at hl 0 rfl) ?_
    refine lv_iload_n hx hb dX8_decide_10 rfl (lv_at hl 1 rfl) ?_
    refine G_calli (As := [.int a1]) (rest := [.int (5 : Int32), .ref (ad 0)]) ⟨hx, hb, hml, hown, hts⟩ hK hP hD hS 0 6 rfl rfl (c_X8_decideNow l D cI cZ ad A σ a1 _ hw) (cwV 1 hts gX8_decide_X8_decideNow rfl rfl rfl (by decide +kernel) ⟨Nat.le_of_ble_eq_true rfl, Nat.le_of_ble_eq_true rfl⟩) rfl hl.1 rfl (Nat.le_of_ble_eq_true rfl) dX8_decide_11 ⟨Nat.zero_le _, Nat.zero_le _⟩ (fun x3 σ2 hw H locs hP hD hS => ?_)
    refine G_calli (As := [.int (5 : Int32), .int x3]) (rest := []) ⟨hx, hb, hml, hown, hts⟩ hK hP hD hS 0 6 rfl rfl (c_X8_tick l D cI cZ ad A σ2 (5 : Int32) x3 _ hw) (cwV 2 hts gX8_decide_X8_tick rfl rfl rfl (by decide +kernel) ⟨Nat.le_of_ble_eq_true rfl, Nat.le_of_ble_eq_true rfl⟩) rfl hl.1 rfl (Nat.le_of_ble_eq_true rfl) dX8_decide_14 ⟨Nat.zero_le _, Nat.zero_le _⟩ (fun x5 σ4 hw H locs hP hD hS => ?_)
    refine lv_goto (tgt := 22) hx hb dX8_decide_17 (by decide) ?_
    exact G_iret hx hb hr hlocks hw hP hK hD hS dX8_decide_22

def wp_X8_lotBy (σ : St) (a1 : Int32) (K : Int32 → St → Prop) : Prop :=
  ∀ σ1 : St, σ1 = sI σ 1 (((((σ.1 1).toInt64) * (16807 : Int64)) - (((σ.1 1).toInt64) * (16807 : Int64)) / (2147483647 : Int64) * (2147483647 : Int64)).toInt32) → ¬ a1 = 0 ∧ K ((σ1.1 1) - (σ1.1 1) / a1 * a1) σ1
set_option maxHeartbeats 4000000 in
set_option maxRecDepth 100000 in
theorem c_X8_lotBy (l : Launch) (D : va_G) (cI cZ : ClassId) (ad : Nat → Nat) (A : Nat → Prop) (σ : St) (a1 : Int32) (K : Int32 → St → Prop) (hw : wp_X8_lotBy σ a1 K) : Met l yX8_lotBy wsX8_lotBy ({ frames := 0, cells := 0, slots := 0, locals := 0 }) (va_Pc [.ref (ad 0), .int a1] (GW D [(cI, FieldType.int), (cZ, FieldType.boolean)] (wM cI cZ ad) A σ)) (va_Qi K (GW D [(cI, FieldType.int), (cZ, FieldType.boolean)] (wM cI cZ ad) A) A) 0 0 A := by
  refine Met.ofW (cc := cX8_lotBy) (maxL := 2) (ret := (some .int)) (by decide) rfl ?_
  intro p e s m args below meth c s₁ B hml hv
  obtain ⟨rfl, hP, hK, hD⟩ := hv
  have hx := B.exec
  have hb := B.bytes
  have hr := B.returns
  have hts := atoms_spec (ws := wsX8_lotBy) B.pre
  have hown : s.vm.findClass RX8 = some m.cls := findClass_of_methodNamed B.named
  have hlocks := B.notSynchronized
  have hS : va_S A s.heap s.heap [] := va_S.rf
  have hinX8 : ∀ w ∈ wsX80, w ∈ wsX8_lotBy := fun _ h => List.mem_cons_of_mem _ (List.mem_append_right _ (h))
  have hl := lv_entry ([.ref (ad 0), .int a1]) (n := 2) (Nat.le_of_ble_eq_true rfl)
  rw [lg_entry_eq]
  generalize (lg_sl ([.ref (ad 0), .int a1]) ++ List.replicate (2 - (lg_sl ([.ref (ad 0), .int a1])).length) Slot.unset).toArray = ls at hl ⊢
  have hl : lv_has ls 2 [(0, .ref (ad 0)), (1, .int a1)] := hl
  have hP : va_P D vwCl (wM cI cZ ad σ) s.heap := hP
  refine lv_aload_n hx hb dX8_lotBy_0 rfl (lv_at hl 0 rfl) ?_
  refine lv_aload_n hx hb dX8_lotBy_1 rfl (lv_at hl 0 rfl) ?_
  refine va_get (D := D) (ci := 6) (C := RX8) (T := TX8) (N := 28) hx hb hts hinX8 hown hK hP 0 rfl rfl 9 (by decide) (hts _ (List.mem_of_getElem? (i := 1) rfl)) (fun _ h9 => h9) rfl dX8_lotBy_2 ?_
  refine lv_i2l hx hb dX8_lotBy_5 rfl ?_
  refine lv_ldc2 (v := 16807) hx hb hown (hts _ (List.mem_of_getElem? (i := 2) rfl)) dX8_lotBy_6 ?_
  refine lv_lmul hx hb dX8_lotBy_9 ?_
  refine lv_ldc2 (v := 2147483647) hx hb hown (hts _ (List.mem_of_getElem? (i := 3) rfl)) dX8_lotBy_10 ?_
  refine lv_lrem hx hb dX8_lotBy_13 (by decide) ?_
  refine lv_l2i hx hb dX8_lotBy_14 rfl ?_
  refine va_put (D := D) (ci := 6) (ty := .int) (C := RX8) (T := TX8) (N := 28) hx hb hts hinX8 tyX8 tyX8_ok nmX8 hown hK hP hD hS 0 rfl rfl 9 (by decide) (hts _ (List.mem_of_getElem? (i := 1) rfl)) (fun _ h9 => h9) rfl (by decide +kernel) rfl rfl (Nat.le_of_ble_eq_true rfl) dX8_lotBy_15 (fun H locs hP hD hS => ?_)
  obtain ⟨σ1, eσ1⟩ : ∃ z : St, z = sI σ 1 (((((σ.1 1).toInt64) * (16807 : Int64)) - (((σ.1 1).toInt64) * (16807 : Int64)) / (2147483647 : Int64) * (2147483647 : Int64)).toInt32) := ⟨_, rfl⟩
  have hP : va_P D vwCl (wM cI cZ ad σ1) H := by rw [eσ1]; exact hP
  have hD : va_D A (wM cI cZ ad σ1) := by rw [eσ1]; exact hD
  have hw := hw σ1 eσ1
  refine lv_aload_n hx hb dX8_lotBy_18 rfl (lv_at hl 0 rfl) ?_
  refine va_get (D := D) (ci := 6) (C := RX8) (T := TX8) (N := 28) hx hb hts hinX8 hown hK hP 0 rfl rfl 9 (by decide) (hts _ (List.mem_of_getElem? (i := 1) rfl)) (fun _ h9 => h9) rfl dX8_lotBy_19 ?_
  refine lv_iload_n hx hb dX8_lotBy_22 rfl (lv_at hl 1 rfl) ?_
  have hne := hw.1
  have hw := hw.2
  refine lv_irem hx hb dX8_lotBy_23 hne ?_
  exact G_iret hx hb hr hlocks hw hP hK hD hS dX8_lotBy_24

def wl_X8_let_84 (K : Int32 → St → Prop) : Nat → Int32 → Int32 → Int32 → St → Prop
  | 0, _, _, _, _ => False
  | n + 1, v1, v2, v3, σ => (((v1 + v2) ≤ v3 → vp_in (σ.1 0) 12 ∧ ∀ σ3 : St, σ3 = sA σ 5 (upd (σ.2.1 5) (σ.1 0).toNatClampNeg v1) → vp_in (σ3.1 0) 12 ∧ ∀ σ4 : St, σ4 = sA σ3 6 (upd (σ3.2.1 6) (σ3.1 0).toNatClampNeg v2) → vp_in (σ4.1 0) 12 ∧ ∀ σ5 : St, σ5 = sA σ4 7 (upd (σ4.2.1 7) (σ4.1 0).toNatClampNeg (vp_nar .boolean (1 : Int32))) → ∀ σ6 : St, σ6 = sI σ5 0 ((σ5.1 0) + (1 : Int32)) → wp_X8_tick σ6 (6 : Int32) ((σ6.1 0) - (1 : Int32)) (fun x8 σ7 => K x8 σ7)) ∧ (¬ (v1 + v2) ≤ v3 → wp_X8_lotBy σ (256 : Int32) (fun x10 σ9 => vp_in ((8 : Int32) + v3) 40 ∧ ∀ σ11 : St, σ11 = sA σ9 0 (upd (σ9.2.1 0) ((8 : Int32) + v3).toNatClampNeg x10) → vp_in ((8 : Int32) + v3) 40 ∧ ∀ σ12 : St, σ12 = sA σ11 1 (upd (σ11.2.1 1) ((8 : Int32) + v3).toNatClampNeg (255 : Int32)) → vp_in ((8 : Int32) + v3) 40 ∧ ∀ σ13 : St, σ13 = sA σ12 2 (upd (σ12.2.1 2) ((8 : Int32) + v3).toNatClampNeg ((1 : Int32) <<< ((σ12.1 0) &&& 31))) → vp_in v3 32 ∧ ∀ σ14 : St, σ14 = sA σ13 3 (upd (σ13.2.1 3) v3.toNatClampNeg (vp_nar .boolean (0 : Int32))) → vp_in v3 32 ∧ ∀ σ15 : St, σ15 = sA σ14 4 (upd (σ14.2.1 4) v3.toNatClampNeg (σ14.1 0)) → ∀ x16 : Int32, x16 = v3 + 1 → wl_X8_let_84 K n v1 v2 x16 σ15)))
def wl_X8_let_31 (K : Int32 → St → Prop) : Nat → Int32 → Int32 → Int32 → St → Prop
  | 0, _, _, _, _ => False
  | n + 1, v1, v2, v3, σ => (((v1 + v2) ≤ v3 → ((¬ (σ.1 0) = (12 : Int32) → (∃ nn : Nat, wl_X8_let_84 K nn v1 v2 v1 σ)) ∧ ((σ.1 0) = (12 : Int32) → K (-1000000004 : Int32) σ))) ∧ (¬ (v1 + v2) ≤ v3 → vp_in v3 32 ∧ (((σ.2.1 4 v3.toNatClampNeg) < 0 → ∀ x17 : Int32, x17 = v3 + 1 → wl_X8_let_31 K n v1 v2 x17 σ) ∧ (¬ (σ.2.1 4 v3.toNatClampNeg) < 0 → vp_in v3 32 ∧ vp_in (σ.2.1 4 v3.toNatClampNeg) 12 ∧ (((σ.2.1 7 (σ.2.1 4 v3.toNatClampNeg).toNatClampNeg) = 0 → ∀ x18 : Int32, x18 = v3 + 1 → wl_X8_let_31 K n v1 v2 x18 σ) ∧ (¬ (σ.2.1 7 (σ.2.1 4 v3.toNatClampNeg).toNatClampNeg) = 0 → K (-1000000003 : Int32) σ))))))
def wp_X8_let (σ : St) (a1 : Int32) (a2 : Int32) (K : Int32 → St → Prop) : Prop :=
  wp_X8_in (a2.toInt64) (1 : Int64) (8 : Int64) (fun x1 => ((x1 = 0 → K (-1000000002 : Int32) σ) ∧ (¬ x1 = 0 → wp_X8_in (a1.toInt64) (0 : Int64) (((32 : Int32) - a2).toInt64) (fun x2 => ((¬ x2 = 0 → (∃ nn : Nat, wl_X8_let_31 K nn a1 a2 a1 σ)) ∧ (x2 = 0 → K (-1000000002 : Int32) σ))))))
set_option maxHeartbeats 4000000 in
set_option maxRecDepth 100000 in
theorem c_X8_let (l : Launch) (D : va_G) (cI cZ : ClassId) (ad : Nat → Nat) (A : Nat → Prop) (σ : St) (a1 : Int32) (a2 : Int32) (K : Int32 → St → Prop) (hw : wp_X8_let σ a1 a2 K) : Met l yX8_let wsX8_let ({ frames := 1, cells := 0, slots := 0, locals := 25 }) (va_Pc [.ref (ad 0), .int a1, .int a2] (GW D [(cI, FieldType.int), (cZ, FieldType.boolean)] (wM cI cZ ad) A σ)) (va_Qi K (GW D [(cI, FieldType.int), (cZ, FieldType.boolean)] (wM cI cZ ad) A) A) 0 0 A := by
  refine Met.ofW (cc := cX8_let) (maxL := 4) (ret := (some .int)) (by decide) rfl ?_
  intro p e s m args below meth c s₁ B hml hv
  obtain ⟨rfl, hP, hK, hD⟩ := hv
  have hx := B.exec
  have hb := B.bytes
  have hr := B.returns
  have hts := atoms_spec (ws := wsX8_let) B.pre
  have hown : s.vm.findClass RX8 = some m.cls := findClass_of_methodNamed B.named
  have hlocks := B.notSynchronized
  have hS : va_S A s.heap s.heap [] := va_S.rf
  have hinX8 : ∀ w ∈ wsX80, w ∈ wsX8_let := fun _ h => List.mem_cons_of_mem _ (List.mem_append_right _ (h))
  have hwl_X8_let_84 : ∀ (n : Nat) (v1 : Int32) (v2 : Int32) (v3 : Int32) (σ : St), wl_X8_let_84 K n v1 v2 v3 σ → ∀ (H : Heap) (locs : List Loc), va_P D vwCl (wM cI cZ ad σ) H → va_D A (wM cI cZ ad σ) → va_S A s.heap H locs → ∀ ls : Array Slot, lv_has ls 4 [(0, .ref (ad 0)), (1, .int v1), (2, .int v2), (3, .int v3)] → W p l e (headSpec wsX8_let ({ frames := 1, cells := 0, slots := 0, locals := 25 })).room s m ([.ref (ad 0), .int a1, .int a2] : List Value).toArray below meth c H locs 0 0 (MQ below (va_Qi K (GW D [(cI, FieldType.int), (cZ, FieldType.boolean)] (wM cI cZ ad) A) A) ([.ref (ad 0), .int a1, .int a2] : List Value).toArray s 0 0 A) (F0 m 84 ls []) := by
    intro n
    induction n with
    | zero => intro v1 v2 v3 σ hw; exact hw.elim
    | succ n ih =>
      intro v1 v2 v3 σ hw H locs hP hD hS ls hl
      refine lv_iload_n hx hb dX8_let_84 rfl (lv_at hl 3 rfl) ?_
      refine lv_iload_n hx hb dX8_let_85 rfl (lv_at hl 1 rfl) ?_
      refine lv_iload_n hx hb dX8_let_86 rfl (lv_at hl 2 rfl) ?_
      refine lv_iadd hx hb dX8_let_87 ?_
      refine lv_icmp_ge (tgt := 157) hx hb dX8_let_88 (by decide) (fun c9 => ?_) (fun c9 => ?_)
      · have hw := hw.1 c9
        refine lv_aload_n hx hb dX8_let_157 rfl (lv_at hl 0 rfl) ?_
        refine va_get (D := D) (ci := 6) (C := RX8) (T := TX8) (N := 28) hx hb hts hinX8 hown hK hP 0 rfl rfl 6 (by decide) (hts _ (List.mem_of_getElem? (i := 12) rfl)) (fun _ h9 => h9) rfl dX8_let_158 ?_
        refine lv_aload_n hx hb dX8_let_161 rfl (lv_at hl 0 rfl) ?_
        refine va_get (D := D) (ci := 6) (C := RX8) (T := TX8) (N := 28) hx hb hts hinX8 hown hK hP 0 rfl rfl 5 (by decide) (hts _ (List.mem_of_getElem? (i := 6) rfl)) (fun _ h9 => h9) rfl dX8_let_162 ?_
        refine lv_iload_n hx hb dX8_let_165 rfl (lv_at hl 1 rfl) ?_
        refine va_iast (D := D) hx hb hK hP hD hS 6 0 rfl rfl hw.1 dX8_let_166 (fun H locs hP hD hS => ?_)
        obtain ⟨σ3, eσ3⟩ : ∃ z : St, z = sA σ 5 (upd (σ.2.1 5) (σ.1 0).toNatClampNeg v1) := ⟨_, rfl⟩
        have hP : va_P D vwCl (wM cI cZ ad σ3) H := by rw [eσ3]; exact hP
        have hD : va_D A (wM cI cZ ad σ3) := by rw [eσ3]; exact hD
        have hw := hw.2 σ3 eσ3
        refine lv_aload_n hx hb dX8_let_167 rfl (lv_at hl 0 rfl) ?_
        refine va_get (D := D) (ci := 6) (C := RX8) (T := TX8) (N := 28) hx hb hts hinX8 hown hK hP 0 rfl rfl 7 (by decide) (hts _ (List.mem_of_getElem? (i := 13) rfl)) (fun _ h9 => h9) rfl dX8_let_168 ?_
        refine lv_aload_n hx hb dX8_let_171 rfl (lv_at hl 0 rfl) ?_
        refine va_get (D := D) (ci := 6) (C := RX8) (T := TX8) (N := 28) hx hb hts hinX8 hown hK hP 0 rfl rfl 5 (by decide) (hts _ (List.mem_of_getElem? (i := 6) rfl)) (fun _ h9 => h9) rfl dX8_let_172 ?_
        refine lv_iload_n hx hb dX8_let_175 rfl (lv_at hl 2 rfl) ?_
        refine va_iast (D := D) hx hb hK hP hD hS 7 0 rfl rfl hw.1 dX8_let_176 (fun H locs hP hD hS => ?_)
        obtain ⟨σ4, eσ4⟩ : ∃ z : St, z = sA σ3 6 (upd (σ3.2.1 6) (σ3.1 0).toNatClampNeg v2) := ⟨_, rfl⟩
        have hP : va_P D vwCl (wM cI cZ ad σ4) H := by rw [eσ4]; exact hP
        have hD : va_D A (wM cI cZ ad σ4) := by rw [eσ4]; exact hD
        have hw := hw.2 σ4 eσ4
        refine lv_aload_n hx hb dX8_let_177 rfl (lv_at hl 0 rfl) ?_
        refine va_get (D := D) (ci := 6) (C := RX8) (T := TX8) (N := 28) hx hb hts hinX8 hown hK hP 0 rfl rfl 8 (by decide) (hts _ (List.mem_of_getElem? (i := 4) rfl)) (fun _ h9 => h9) rfl dX8_let_178 ?_
        refine lv_aload_n hx hb dX8_let_181 rfl (lv_at hl 0 rfl) ?_
        refine va_get (D := D) (ci := 6) (C := RX8) (T := TX8) (N := 28) hx hb hts hinX8 hown hK hP 0 rfl rfl 5 (by decide) (hts _ (List.mem_of_getElem? (i := 6) rfl)) (fun _ h9 => h9) rfl dX8_let_182 ?_
        refine lv_iconst (v := 1) hx hb dX8_let_185 (by decide) ?_
        refine va_zast (D := D) hx hb hK hP hD hS 8 1 rfl rfl hw.1 dX8_let_186 (fun H locs hP hD hS => ?_)
        obtain ⟨σ5, eσ5⟩ : ∃ z : St, z = sA σ4 7 (upd (σ4.2.1 7) (σ4.1 0).toNatClampNeg (vp_nar .boolean (1 : Int32))) := ⟨_, rfl⟩
        have hP : va_P D vwCl (wM cI cZ ad σ5) H := by rw [eσ5]; exact hP
        have hD : va_D A (wM cI cZ ad σ5) := by rw [eσ5]; exact hD
        have hw := hw.2 σ5 eσ5
        refine lv_aload_n hx hb dX8_let_187 rfl (lv_at hl 0 rfl) ?_
        refine lv_dup hx hb dX8_let_188 rfl ?_
        refine va_get (D := D) (ci := 6) (C := RX8) (T := TX8) (N := 28) hx hb hts hinX8 hown hK hP 0 rfl rfl 5 (by decide) (hts _ (List.mem_of_getElem? (i := 6) rfl)) (fun _ h9 => h9) rfl dX8_let_189 ?_
        refine lv_iconst (v := 1) hx hb dX8_let_192 (by decide) ?_
        refine lv_iadd hx hb dX8_let_193 ?_
        refine va_put (D := D) (ci := 6) (ty := .int) (C := RX8) (T := TX8) (N := 28) hx hb hts hinX8 tyX8 tyX8_ok nmX8 hown hK hP hD hS 0 rfl rfl 5 (by decide) (hts _ (List.mem_of_getElem? (i := 6) rfl)) (fun _ h9 => h9) rfl (by decide +kernel) rfl rfl (Nat.le_of_ble_eq_true rfl) dX8_let_194 (fun H locs hP hD hS => ?_)
        obtain ⟨σ6, eσ6⟩ : ∃ z : St, z = sI σ5 0 ((σ5.1 0) + (1 : Int32)) := ⟨_, rfl⟩
        have hP : va_P D vwCl (wM cI cZ ad σ6) H := by rw [eσ6]; exact hP
        have hD : va_D A (wM cI cZ ad σ6) := by rw [eσ6]; exact hD
        have hw := hw σ6 eσ6
        refine lv_aload_n hx hb dX8_let_197 rfl (lv_at hl 0 rfl) ?_
        refine lv_bipush (v := 6) hx hb dX8_let_198 (by decide) ?_
        refine lv_aload_n hx hb dX8_let_200 rfl (lv_at hl 0 rfl) ?_
        refine va_get (D := D) (ci := 6) (C := RX8) (T := TX8) (N := 28) hx hb hts hinX8 hown hK hP 0 rfl rfl 5 (by decide) (hts _ (List.mem_of_getElem? (i := 6) rfl)) (fun _ h9 => h9) rfl dX8_let_201 ?_
        refine lv_iconst (v := 1) hx hb dX8_let_204 (by decide) ?_
        refine lv_isub hx hb dX8_let_205 ?_
        refine G_calli (As := [.int (6 : Int32), .int ((σ6.1 0) - (1 : Int32))]) (rest := []) ⟨hx, hb, hml, hown, hts⟩ hK hP hD hS 0 6 rfl rfl (c_X8_tick l D cI cZ ad A σ6 (6 : Int32) ((σ6.1 0) - (1 : Int32)) _ hw) (cwV 2 hts gX8_let_X8_tick rfl rfl rfl (by decide +kernel) ⟨Nat.le_of_ble_eq_true rfl, Nat.le_of_ble_eq_true rfl⟩) rfl hl.1 rfl (Nat.le_of_ble_eq_true rfl) dX8_let_206 ⟨Nat.zero_le _, Nat.zero_le _⟩ (fun x8 σ7 hw H locs hP hD hS => ?_)
        exact G_iret hx hb hr hlocks hw hP hK hD hS dX8_let_209
      · have hw := hw.2 c9
        refine lv_aload_n hx hb dX8_let_91 rfl (lv_at hl 0 rfl) ?_
        refine va_get (D := D) (ci := 6) (C := RX8) (T := TX8) (N := 28) hx hb hts hinX8 hown hK hP 0 rfl rfl 0 (by decide) (hts _ (List.mem_of_getElem? (i := 8) rfl)) (fun _ h9 => h9) rfl dX8_let_92 ?_
        refine lv_bipush (v := 8) hx hb dX8_let_95 (by decide) ?_
        refine lv_iload_n hx hb dX8_let_97 rfl (lv_at hl 3 rfl) ?_
        refine lv_iadd hx hb dX8_let_98 ?_
        refine lv_aload_n hx hb dX8_let_99 rfl (lv_at hl 0 rfl) ?_
        refine lv_sipush (v := 256) hx hb dX8_let_100 (by decide) ?_
        refine G_calli (As := [.int (256 : Int32)]) (rest := [.int ((8 : Int32) + v3), .ref (ad 1)]) ⟨hx, hb, hml, hown, hts⟩ hK hP hD hS 0 6 rfl rfl (c_X8_lotBy l D cI cZ ad A σ (256 : Int32) _ hw) (cwV 1 hts gX8_let_X8_lotBy rfl rfl rfl (by decide +kernel) ⟨Nat.le_of_ble_eq_true rfl, Nat.le_of_ble_eq_true rfl⟩) rfl hl.1 rfl (Nat.le_of_ble_eq_true rfl) dX8_let_103 ⟨Nat.zero_le _, Nat.zero_le _⟩ (fun x10 σ9 hw H locs hP hD hS => ?_)
        refine va_iast (D := D) hx hb hK hP hD hS 1 0 rfl rfl hw.1 dX8_let_106 (fun H locs hP hD hS => ?_)
        obtain ⟨σ11, eσ11⟩ : ∃ z : St, z = sA σ9 0 (upd (σ9.2.1 0) ((8 : Int32) + v3).toNatClampNeg x10) := ⟨_, rfl⟩
        have hP : va_P D vwCl (wM cI cZ ad σ11) H := by rw [eσ11]; exact hP
        have hD : va_D A (wM cI cZ ad σ11) := by rw [eσ11]; exact hD
        have hw := hw.2 σ11 eσ11
        refine lv_aload_n hx hb dX8_let_107 rfl (lv_at hl 0 rfl) ?_
        refine va_get (D := D) (ci := 6) (C := RX8) (T := TX8) (N := 28) hx hb hts hinX8 hown hK hP 0 rfl rfl 1 (by decide) (hts _ (List.mem_of_getElem? (i := 9) rfl)) (fun _ h9 => h9) rfl dX8_let_108 ?_
        refine lv_bipush (v := 8) hx hb dX8_let_111 (by decide) ?_
        refine lv_iload_n hx hb dX8_let_113 rfl (lv_at hl 3 rfl) ?_
        refine lv_iadd hx hb dX8_let_114 ?_
        refine lv_sipush (v := 255) hx hb dX8_let_115 (by decide) ?_
        refine va_iast (D := D) hx hb hK hP hD hS 2 0 rfl rfl hw.1 dX8_let_118 (fun H locs hP hD hS => ?_)
        obtain ⟨σ12, eσ12⟩ : ∃ z : St, z = sA σ11 1 (upd (σ11.2.1 1) ((8 : Int32) + v3).toNatClampNeg (255 : Int32)) := ⟨_, rfl⟩
        have hP : va_P D vwCl (wM cI cZ ad σ12) H := by rw [eσ12]; exact hP
        have hD : va_D A (wM cI cZ ad σ12) := by rw [eσ12]; exact hD
        have hw := hw.2 σ12 eσ12
        refine lv_aload_n hx hb dX8_let_119 rfl (lv_at hl 0 rfl) ?_
        refine va_get (D := D) (ci := 6) (C := RX8) (T := TX8) (N := 28) hx hb hts hinX8 hown hK hP 0 rfl rfl 2 (by decide) (hts _ (List.mem_of_getElem? (i := 10) rfl)) (fun _ h9 => h9) rfl dX8_let_120 ?_
        refine lv_bipush (v := 8) hx hb dX8_let_123 (by decide) ?_
        refine lv_iload_n hx hb dX8_let_125 rfl (lv_at hl 3 rfl) ?_
        refine lv_iadd hx hb dX8_let_126 ?_
        refine lv_iconst (v := 1) hx hb dX8_let_127 (by decide) ?_
        refine lv_aload_n hx hb dX8_let_128 rfl (lv_at hl 0 rfl) ?_
        refine va_get (D := D) (ci := 6) (C := RX8) (T := TX8) (N := 28) hx hb hts hinX8 hown hK hP 0 rfl rfl 5 (by decide) (hts _ (List.mem_of_getElem? (i := 6) rfl)) (fun _ h9 => h9) rfl dX8_let_129 ?_
        refine lv_ishl hx hb dX8_let_132 ?_
        refine va_iast (D := D) hx hb hK hP hD hS 3 0 rfl rfl hw.1 dX8_let_133 (fun H locs hP hD hS => ?_)
        obtain ⟨σ13, eσ13⟩ : ∃ z : St, z = sA σ12 2 (upd (σ12.2.1 2) ((8 : Int32) + v3).toNatClampNeg ((1 : Int32) <<< ((σ12.1 0) &&& 31))) := ⟨_, rfl⟩
        have hP : va_P D vwCl (wM cI cZ ad σ13) H := by rw [eσ13]; exact hP
        have hD : va_D A (wM cI cZ ad σ13) := by rw [eσ13]; exact hD
        have hw := hw.2 σ13 eσ13
        refine lv_aload_n hx hb dX8_let_134 rfl (lv_at hl 0 rfl) ?_
        refine va_get (D := D) (ci := 6) (C := RX8) (T := TX8) (N := 28) hx hb hts hinX8 hown hK hP 0 rfl rfl 3 (by decide) (hts _ (List.mem_of_getElem? (i := 11) rfl)) (fun _ h9 => h9) rfl dX8_let_135 ?_
        refine lv_iload_n hx hb dX8_let_138 rfl (lv_at hl 3 rfl) ?_
        refine lv_iconst (v := 0) hx hb dX8_let_139 (by decide) ?_
        refine va_zast (D := D) hx hb hK hP hD hS 4 1 rfl rfl hw.1 dX8_let_140 (fun H locs hP hD hS => ?_)
        obtain ⟨σ14, eσ14⟩ : ∃ z : St, z = sA σ13 3 (upd (σ13.2.1 3) v3.toNatClampNeg (vp_nar .boolean (0 : Int32))) := ⟨_, rfl⟩
        have hP : va_P D vwCl (wM cI cZ ad σ14) H := by rw [eσ14]; exact hP
        have hD : va_D A (wM cI cZ ad σ14) := by rw [eσ14]; exact hD
        have hw := hw.2 σ14 eσ14
        refine lv_aload_n hx hb dX8_let_141 rfl (lv_at hl 0 rfl) ?_
        refine va_get (D := D) (ci := 6) (C := RX8) (T := TX8) (N := 28) hx hb hts hinX8 hown hK hP 0 rfl rfl 4 (by decide) (hts _ (List.mem_of_getElem? (i := 3) rfl)) (fun _ h9 => h9) rfl dX8_let_142 ?_
        refine lv_iload_n hx hb dX8_let_145 rfl (lv_at hl 3 rfl) ?_
        refine lv_aload_n hx hb dX8_let_146 rfl (lv_at hl 0 rfl) ?_
        refine va_get (D := D) (ci := 6) (C := RX8) (T := TX8) (N := 28) hx hb hts hinX8 hown hK hP 0 rfl rfl 5 (by decide) (hts _ (List.mem_of_getElem? (i := 6) rfl)) (fun _ h9 => h9) rfl dX8_let_147 ?_
        refine va_iast (D := D) hx hb hK hP hD hS 5 0 rfl rfl hw.1 dX8_let_150 (fun H locs hP hD hS => ?_)
        obtain ⟨σ15, eσ15⟩ : ∃ z : St, z = sA σ14 4 (upd (σ14.2.1 4) v3.toNatClampNeg (σ14.1 0)) := ⟨_, rfl⟩
        have hP : va_P D vwCl (wM cI cZ ad σ15) H := by rw [eσ15]; exact hP
        have hD : va_D A (wM cI cZ ad σ15) := by rw [eσ15]; exact hD
        have hw := hw.2 σ15 eσ15
        obtain ⟨x16, ex16⟩ : ∃ y : Int32, y = v3 + 1 := ⟨_, rfl⟩
        have hw := hw x16 ex16
        refine lv_iinc (v := x16) (lv' := [(3, .int x16), (0, .ref (ad 0)), (1, .int v1), (2, .int v2)]) hx hb dX8_let_151 hl (k := 3) rfl (by rw [ex16]; rfl) (by decide) rfl (fun ls hl => ?_)
        refine lv_goto (tgt := 84) hx hb dX8_let_154 (by decide) ?_
        exact ih v1 v2 x16 σ15 hw _ _ hP hD hS ls (lv_sub hl [1, 2, 3, 0] rfl)
  have hwl_X8_let_31 : ∀ (n : Nat) (v1 : Int32) (v2 : Int32) (v3 : Int32) (σ : St), wl_X8_let_31 K n v1 v2 v3 σ → ∀ (H : Heap) (locs : List Loc), va_P D vwCl (wM cI cZ ad σ) H → va_D A (wM cI cZ ad σ) → va_S A s.heap H locs → ∀ ls : Array Slot, lv_has ls 4 [(0, .ref (ad 0)), (1, .int v1), (2, .int v2), (3, .int v3)] → W p l e (headSpec wsX8_let ({ frames := 1, cells := 0, slots := 0, locals := 25 })).room s m ([.ref (ad 0), .int a1, .int a2] : List Value).toArray below meth c H locs 0 0 (MQ below (va_Qi K (GW D [(cI, FieldType.int), (cZ, FieldType.boolean)] (wM cI cZ ad) A) A) ([.ref (ad 0), .int a1, .int a2] : List Value).toArray s 0 0 A) (F0 m 31 ls []) := by
    intro n
    induction n with
    | zero => intro v1 v2 v3 σ hw; exact hw.elim
    | succ n ih =>
      intro v1 v2 v3 σ hw H locs hP hD hS ls hl
      refine lv_iload_n hx hb dX8_let_31 rfl (lv_at hl 3 rfl) ?_
      refine lv_iload_n hx hb dX8_let_32 rfl (lv_at hl 1 rfl) ?_
      refine lv_iload_n hx hb dX8_let_33 rfl (lv_at hl 2 rfl) ?_
      refine lv_iadd hx hb dX8_let_34 ?_
      refine lv_icmp_ge (tgt := 70) hx hb dX8_let_35 (by decide) (fun c9 => ?_) (fun c9 => ?_)
      · have hw := hw.1 c9
        refine lv_aload_n hx hb dX8_let_70 rfl (lv_at hl 0 rfl) ?_
        refine va_get (D := D) (ci := 6) (C := RX8) (T := TX8) (N := 28) hx hb hts hinX8 hown hK hP 0 rfl rfl 5 (by decide) (hts _ (List.mem_of_getElem? (i := 6) rfl)) (fun _ h9 => h9) rfl dX8_let_71 ?_
        refine lv_bipush (v := 12) hx hb dX8_let_74 (by decide) ?_
        refine lv_icmp_ne (tgt := 82) hx hb dX8_let_76 (by decide) (fun c9 => ?_) (fun c9 => ?_)
        · have hw := hw.1 c9
          refine lv_iload_n hx hb dX8_let_82 rfl (lv_at hl 1 rfl) ?_
          refine lv_istore_n (lv' := [(3, .int v1), (0, .ref (ad 0)), (1, .int v1), (2, .int v2)]) hx hb dX8_let_83 rfl hl (by decide) rfl (fun ls hl => ?_)
          obtain ⟨nn, hw⟩ := hw
          exact hwl_X8_let_84 nn v1 v2 v1 σ hw _ _ hP hD hS ls (lv_sub hl [1, 2, 3, 0] rfl)
        · have hw := hw.2 c9
          refine lv_ldc (v := -1000000004) hx hb hown (hts _ (List.mem_of_getElem? (i := 7) rfl)) dX8_let_79 ?_
          exact G_iret hx hb hr hlocks hw hP hK hD hS dX8_let_81
      · have hw := hw.2 c9
        refine lv_aload_n hx hb dX8_let_38 rfl (lv_at hl 0 rfl) ?_
        refine va_get (D := D) (ci := 6) (C := RX8) (T := TX8) (N := 28) hx hb hts hinX8 hown hK hP 0 rfl rfl 4 (by decide) (hts _ (List.mem_of_getElem? (i := 3) rfl)) (fun _ h9 => h9) rfl dX8_let_39 ?_
        refine lv_iload_n hx hb dX8_let_42 rfl (lv_at hl 3 rfl) ?_
        refine va_iald (D := D) hx hb hK hP 5 0 rfl rfl hw.1 dX8_let_43 ?_
        have hw := hw.2
        refine lv_if_lt (tgt := 64) hx hb dX8_let_44 (by decide) (fun c9 => ?_) (fun c9 => ?_)
        · have hw := hw.1 c9
          obtain ⟨x17, ex17⟩ : ∃ y : Int32, y = v3 + 1 := ⟨_, rfl⟩
          have hw := hw x17 ex17
          refine lv_iinc (v := x17) (lv' := [(3, .int x17), (0, .ref (ad 0)), (1, .int v1), (2, .int v2)]) hx hb dX8_let_64 hl (k := 3) rfl (by rw [ex17]; rfl) (by decide) rfl (fun ls hl => ?_)
          refine lv_goto (tgt := 31) hx hb dX8_let_67 (by decide) ?_
          exact ih v1 v2 x17 σ hw _ _ hP hD hS ls (lv_sub hl [1, 2, 3, 0] rfl)
        · have hw := hw.2 c9
          refine lv_aload_n hx hb dX8_let_47 rfl (lv_at hl 0 rfl) ?_
          refine va_get (D := D) (ci := 6) (C := RX8) (T := TX8) (N := 28) hx hb hts hinX8 hown hK hP 0 rfl rfl 8 (by decide) (hts _ (List.mem_of_getElem? (i := 4) rfl)) (fun _ h9 => h9) rfl dX8_let_48 ?_
          refine lv_aload_n hx hb dX8_let_51 rfl (lv_at hl 0 rfl) ?_
          refine va_get (D := D) (ci := 6) (C := RX8) (T := TX8) (N := 28) hx hb hts hinX8 hown hK hP 0 rfl rfl 4 (by decide) (hts _ (List.mem_of_getElem? (i := 3) rfl)) (fun _ h9 => h9) rfl dX8_let_52 ?_
          refine lv_iload_n hx hb dX8_let_55 rfl (lv_at hl 3 rfl) ?_
          refine va_iald (D := D) hx hb hK hP 5 0 rfl rfl hw.1 dX8_let_56 ?_
          have hw := hw.2
          refine va_zald (D := D) hx hb hK hP 8 1 rfl rfl hw.1 dX8_let_57 ?_
          have hw := hw.2
          refine lv_if_eq (tgt := 64) hx hb dX8_let_58 (by decide) (fun c9 => ?_) (fun c9 => ?_)
          · have hw := hw.1 c9
            obtain ⟨x18, ex18⟩ : ∃ y : Int32, y = v3 + 1 := ⟨_, rfl⟩
            have hw := hw x18 ex18
            refine lv_iinc (v := x18) (lv' := [(3, .int x18), (0, .ref (ad 0)), (1, .int v1), (2, .int v2)]) hx hb dX8_let_64 hl (k := 3) rfl (by rw [ex18]; rfl) (by decide) rfl (fun ls hl => ?_)
            refine lv_goto (tgt := 31) hx hb dX8_let_67 (by decide) ?_
            exact ih v1 v2 x18 σ hw _ _ hP hD hS ls (lv_sub hl [1, 2, 3, 0] rfl)
          · have hw := hw.2 c9
            refine lv_ldc (v := -1000000003) hx hb hown (hts _ (List.mem_of_getElem? (i := 5) rfl)) dX8_let_61 ?_
            exact G_iret hx hb hr hlocks hw hP hK hD hS dX8_let_63
  have hl := lv_entry ([.ref (ad 0), .int a1, .int a2]) (n := 4) (Nat.le_of_ble_eq_true rfl)
  rw [lg_entry_eq]
  generalize (lg_sl ([.ref (ad 0), .int a1, .int a2]) ++ List.replicate (4 - (lg_sl ([.ref (ad 0), .int a1, .int a2])).length) Slot.unset).toArray = ls at hl ⊢
  have hl : lv_has ls 4 [(0, .ref (ad 0)), (1, .int a1), (2, .int a2)] := hl
  have hP : va_P D vwCl (wM cI cZ ad σ) s.heap := hP
  refine lv_iload_n hx hb dX8_let_0 rfl (lv_at hl 2 rfl) ?_
  refine lv_i2l hx hb dX8_let_1 rfl ?_
  refine lv_lconst (v := 1) hx hb dX8_let_2 (by decide) ?_
  refine lv_ldc2 (v := 8) hx hb hown (hts _ (List.mem_of_getElem? (i := 1) rfl)) dX8_let_3 ?_
  refine S_calli (As := [.long (a2.toInt64), .long (1 : Int64), .long (8 : Int64)]) (rest := []) ⟨hx, hb, hml, hown, hts⟩ (c_X8_in l (a2.toInt64) (1 : Int64) (8 : Int64) _ hw) (va_cwS 3 hts gX8_let_X8_in rfl rfl rfl (by decide +kernel) ⟨Nat.le_of_ble_eq_true rfl, Nat.le_of_ble_eq_true rfl⟩) rfl hl.1 rfl (Nat.le_of_ble_eq_true rfl) dX8_let_6 ⟨Nat.zero_le _, Nat.zero_le _⟩ (fun x1 hw => ?_)
  refine lv_if_eq (tgt := 26) hx hb dX8_let_9 (by decide) (fun c9 => ?_) (fun c9 => ?_)
  · have hw := hw.1 c9
    refine lv_ldc (v := -1000000002) hx hb hown (hts _ (List.mem_of_getElem? (i := 2) rfl)) dX8_let_26 ?_
    exact G_iret hx hb hr hlocks hw hP hK hD hS dX8_let_28
  · have hw := hw.2 c9
    refine lv_iload_n hx hb dX8_let_12 rfl (lv_at hl 1 rfl) ?_
    refine lv_i2l hx hb dX8_let_13 rfl ?_
    refine lv_lconst (v := 0) hx hb dX8_let_14 (by decide) ?_
    refine lv_bipush (v := 32) hx hb dX8_let_15 (by decide) ?_
    refine lv_iload_n hx hb dX8_let_17 rfl (lv_at hl 2 rfl) ?_
    refine lv_isub hx hb dX8_let_18 ?_
    refine lv_i2l hx hb dX8_let_19 rfl ?_
    refine S_calli (As := [.long (a1.toInt64), .long (0 : Int64), .long (((32 : Int32) - a2).toInt64)]) (rest := []) ⟨hx, hb, hml, hown, hts⟩ (c_X8_in l (a1.toInt64) (0 : Int64) (((32 : Int32) - a2).toInt64) _ hw) (va_cwS 3 hts gX8_let_X8_in rfl rfl rfl (by decide +kernel) ⟨Nat.le_of_ble_eq_true rfl, Nat.le_of_ble_eq_true rfl⟩) rfl hl.1 rfl (Nat.le_of_ble_eq_true rfl) dX8_let_20 ⟨Nat.zero_le _, Nat.zero_le _⟩ (fun x2 hw => ?_)
    refine lv_if_ne (tgt := 29) hx hb dX8_let_23 (by decide) (fun c9 => ?_) (fun c9 => ?_)
    · have hw := hw.1 c9
      refine lv_iload_n hx hb dX8_let_29 rfl (lv_at hl 1 rfl) ?_
      refine lv_istore_n (lv' := [(3, .int a1), (0, .ref (ad 0)), (1, .int a1), (2, .int a2)]) hx hb dX8_let_30 rfl hl (by decide) rfl (fun ls hl => ?_)
      obtain ⟨nn, hw⟩ := hw
      exact hwl_X8_let_31 nn a1 a2 a1 σ hw _ _ hP hD hS ls (lv_sub hl [1, 2, 3, 0] rfl)
    · have hw := hw.2 c9
      refine lv_ldc (v := -1000000002) hx hb hown (hts _ (List.mem_of_getElem? (i := 2) rfl)) dX8_let_26 ?_
      exact G_iret hx hb hr hlocks hw hP hK hD hS dX8_let_28

def wl_X8_letOnes_4 (K : Int32 → St → Prop) : Nat → Int32 → Int32 → St → Prop
  | 0, _, _, _ => False
  | n + 1, v1, v2, σ => (((σ.1 0) ≤ v2 → K v1 σ) ∧ (¬ (σ.1 0) ≤ v2 → vp_in v2 12 ∧ (((σ.2.1 7 v2.toNatClampNeg) = 0 → ∀ x1 : Int32, x1 = v1 ||| (0 : Int32) → ∀ x2 : Int32, x2 = v2 + 1 → wl_X8_letOnes_4 K n x1 x2 σ) ∧ (¬ (σ.2.1 7 v2.toNatClampNeg) = 0 → ∀ x3 : Int32, x3 = v1 ||| ((1 : Int32) <<< (v2 &&& 31)) → ∀ x4 : Int32, x4 = v2 + 1 → wl_X8_letOnes_4 K n x3 x4 σ))))
def wp_X8_letOnes (σ : St) (K : Int32 → St → Prop) : Prop :=
  (∃ nn : Nat, wl_X8_letOnes_4 K nn (0 : Int32) (0 : Int32) σ)
set_option maxHeartbeats 4000000 in
set_option maxRecDepth 100000 in
theorem c_X8_letOnes (l : Launch) (D : va_G) (cI cZ : ClassId) (ad : Nat → Nat) (A : Nat → Prop) (σ : St) (K : Int32 → St → Prop) (hw : wp_X8_letOnes σ K) : Met l yX8_letOnes wsX8_letOnes ({ frames := 0, cells := 0, slots := 0, locals := 0 }) (va_Pc [.ref (ad 0)] (GW D [(cI, FieldType.int), (cZ, FieldType.boolean)] (wM cI cZ ad) A σ)) (va_Qi K (GW D [(cI, FieldType.int), (cZ, FieldType.boolean)] (wM cI cZ ad) A) A) 0 0 A := by
  refine Met.ofW (cc := cX8_letOnes) (maxL := 3) (ret := (some .int)) (by decide) rfl ?_
  intro p e s m args below meth c s₁ B hml hv
  obtain ⟨rfl, hP, hK, hD⟩ := hv
  have hx := B.exec
  have hb := B.bytes
  have hr := B.returns
  have hts := atoms_spec (ws := wsX8_letOnes) B.pre
  have hown : s.vm.findClass RX8 = some m.cls := findClass_of_methodNamed B.named
  have hlocks := B.notSynchronized
  have hS : va_S A s.heap s.heap [] := va_S.rf
  have hinX8 : ∀ w ∈ wsX80, w ∈ wsX8_letOnes := fun _ h => List.mem_cons_of_mem _ (List.mem_append_right _ (h))
  have hwl_X8_letOnes_4 : ∀ (n : Nat) (v1 : Int32) (v2 : Int32) (σ : St), wl_X8_letOnes_4 K n v1 v2 σ → ∀ (H : Heap) (locs : List Loc), va_P D vwCl (wM cI cZ ad σ) H → va_D A (wM cI cZ ad σ) → va_S A s.heap H locs → ∀ ls : Array Slot, lv_has ls 3 [(0, .ref (ad 0)), (1, .int v1), (2, .int v2)] → W p l e (headSpec wsX8_letOnes ({ frames := 0, cells := 0, slots := 0, locals := 0 })).room s m ([.ref (ad 0)] : List Value).toArray below meth c H locs 0 0 (MQ below (va_Qi K (GW D [(cI, FieldType.int), (cZ, FieldType.boolean)] (wM cI cZ ad) A) A) ([.ref (ad 0)] : List Value).toArray s 0 0 A) (F0 m 4 ls []) := by
    intro n
    induction n with
    | zero => intro v1 v2 σ hw; exact hw.elim
    | succ n ih =>
      intro v1 v2 σ hw H locs hP hD hS ls hl
      refine lv_iload_n hx hb dX8_letOnes_4 rfl (lv_at hl 2 rfl) ?_
      refine lv_aload_n hx hb dX8_letOnes_5 rfl (lv_at hl 0 rfl) ?_
      refine va_get (D := D) (ci := 6) (C := RX8) (T := TX8) (N := 28) hx hb hts hinX8 hown hK hP 0 rfl rfl 5 (by decide) (hts _ (List.mem_of_getElem? (i := 1) rfl)) (fun _ h9 => h9) rfl dX8_letOnes_6 ?_
      refine lv_icmp_ge (tgt := 37) hx hb dX8_letOnes_9 (by decide) (fun c9 => ?_) (fun c9 => ?_)
      · have hw := hw.1 c9
        refine lv_iload_n hx hb dX8_letOnes_37 rfl (lv_at hl 1 rfl) ?_
        exact G_iret hx hb hr hlocks hw hP hK hD hS dX8_letOnes_38
      · have hw := hw.2 c9
        refine lv_iload_n hx hb dX8_letOnes_12 rfl (lv_at hl 1 rfl) ?_
        refine lv_aload_n hx hb dX8_letOnes_13 rfl (lv_at hl 0 rfl) ?_
        refine va_get (D := D) (ci := 6) (C := RX8) (T := TX8) (N := 28) hx hb hts hinX8 hown hK hP 0 rfl rfl 8 (by decide) (hts _ (List.mem_of_getElem? (i := 2) rfl)) (fun _ h9 => h9) rfl dX8_letOnes_14 ?_
        refine lv_iload_n hx hb dX8_letOnes_17 rfl (lv_at hl 2 rfl) ?_
        refine va_zald (D := D) hx hb hK hP 8 1 rfl rfl hw.1 dX8_letOnes_18 ?_
        have hw := hw.2
        refine lv_if_eq (tgt := 28) hx hb dX8_letOnes_19 (by decide) (fun c9 => ?_) (fun c9 => ?_)
        · have hw := hw.1 c9
          refine lv_iconst (v := 0) hx hb dX8_letOnes_28 (by decide) ?_
          refine lv_ior hx hb dX8_letOnes_29 ?_
          refine lv_topi (fun x1 ex1 => ?_)
          have hw := hw x1 ex1
          refine lv_istore_n (lv' := [(1, .int x1), (0, .ref (ad 0)), (2, .int v2)]) hx hb dX8_letOnes_30 rfl hl (by decide) rfl (fun ls hl => ?_)
          obtain ⟨x2, ex2⟩ : ∃ y : Int32, y = v2 + 1 := ⟨_, rfl⟩
          have hw := hw x2 ex2
          refine lv_iinc (v := x2) (lv' := [(2, .int x2), (1, .int x1), (0, .ref (ad 0))]) hx hb dX8_letOnes_31 hl (k := 2) rfl (by rw [ex2]; rfl) (by decide) rfl (fun ls hl => ?_)
          refine lv_goto (tgt := 4) hx hb dX8_letOnes_34 (by decide) ?_
          exact ih x1 x2 σ hw _ _ hP hD hS ls (lv_sub hl [2, 1, 0] rfl)
        · have hw := hw.2 c9
          refine lv_iconst (v := 1) hx hb dX8_letOnes_22 (by decide) ?_
          refine lv_iload_n hx hb dX8_letOnes_23 rfl (lv_at hl 2 rfl) ?_
          refine lv_ishl hx hb dX8_letOnes_24 ?_
          refine lv_goto (tgt := 29) hx hb dX8_letOnes_25 (by decide) ?_
          refine lv_ior hx hb dX8_letOnes_29 ?_
          refine lv_topi (fun x3 ex3 => ?_)
          have hw := hw x3 ex3
          refine lv_istore_n (lv' := [(1, .int x3), (0, .ref (ad 0)), (2, .int v2)]) hx hb dX8_letOnes_30 rfl hl (by decide) rfl (fun ls hl => ?_)
          obtain ⟨x4, ex4⟩ : ∃ y : Int32, y = v2 + 1 := ⟨_, rfl⟩
          have hw := hw x4 ex4
          refine lv_iinc (v := x4) (lv' := [(2, .int x4), (1, .int x3), (0, .ref (ad 0))]) hx hb dX8_letOnes_31 hl (k := 2) rfl (by rw [ex4]; rfl) (by decide) rfl (fun ls hl => ?_)
          refine lv_goto (tgt := 4) hx hb dX8_letOnes_34 (by decide) ?_
          exact ih x3 x4 σ hw _ _ hP hD hS ls (lv_sub hl [2, 1, 0] rfl)
  have hl := lv_entry ([.ref (ad 0)]) (n := 3) (Nat.le_of_ble_eq_true rfl)
  rw [lg_entry_eq]
  generalize (lg_sl ([.ref (ad 0)]) ++ List.replicate (3 - (lg_sl ([.ref (ad 0)])).length) Slot.unset).toArray = ls at hl ⊢
  have hl : lv_has ls 3 [(0, .ref (ad 0))] := hl
  have hP : va_P D vwCl (wM cI cZ ad σ) s.heap := hP
  refine lv_iconst (v := 0) hx hb dX8_letOnes_0 (by decide) ?_
  refine lv_istore_n (lv' := [(1, .int (0 : Int32)), (0, .ref (ad 0))]) hx hb dX8_letOnes_1 rfl hl (by decide) rfl (fun ls hl => ?_)
  refine lv_iconst (v := 0) hx hb dX8_letOnes_2 (by decide) ?_
  refine lv_istore_n (lv' := [(2, .int (0 : Int32)), (1, .int (0 : Int32)), (0, .ref (ad 0))]) hx hb dX8_letOnes_3 rfl hl (by decide) rfl (fun ls hl => ?_)
  obtain ⟨nn, hw⟩ := hw
  exact hwl_X8_letOnes_4 nn (0 : Int32) (0 : Int32) σ hw _ _ hP hD hS ls (lv_sub hl [2, 1, 0] rfl)

def wl_X8_giveBack_37 (K : Int32 → St → Prop) : Nat → Int32 → Int32 → St → Prop
  | 0, _, _, _ => False
  | n + 1, v1, v2, σ => vp_in v1 12 ∧ vp_in v1 12 ∧ ((((σ.2.1 5 v1.toNatClampNeg) + (σ.2.1 6 v1.toNatClampNeg)) ≤ v2 → wp_X8_letOnes σ (fun x6 σ5 => wp_X8_bits x6 (fun x7 => wp_X8_tick σ5 (7 : Int32) x7 (fun x9 σ8 => K x9 σ8)))) ∧ (¬ ((σ.2.1 5 v1.toNatClampNeg) + (σ.2.1 6 v1.toNatClampNeg)) ≤ v2 → vp_in v2 32 ∧ ∀ σ10 : St, σ10 = sA σ 3 (upd (σ.2.1 3) v2.toNatClampNeg (vp_nar .boolean (1 : Int32))) → ∀ x11 : Int32, x11 = v2 + 1 → wl_X8_giveBack_37 K n v1 x11 σ10))
def wp_X8_giveBack (σ : St) (a1 : Int32) (K : Int32 → St → Prop) : Prop :=
  wp_X8_isGround σ a1 (fun x2 σ1 => ((¬ x2 = 0 → vp_in a1 12 ∧ ((¬ (σ1.2.1 7 a1.toNatClampNeg) = 0 → vp_in a1 12 ∧ ∀ σ3 : St, σ3 = sA σ1 7 (upd (σ1.2.1 7) a1.toNatClampNeg (vp_nar .boolean (0 : Int32))) → vp_in a1 12 ∧ ∀ x4 : Int32, x4 = σ3.2.1 5 a1.toNatClampNeg → (∃ nn : Nat, wl_X8_giveBack_37 K nn a1 x4 σ3)) ∧ ((σ1.2.1 7 a1.toNatClampNeg) = 0 → K (-1000000003 : Int32) σ1))) ∧ (x2 = 0 → K (-1000000001 : Int32) σ1)))
set_option maxHeartbeats 4000000 in
set_option maxRecDepth 100000 in
theorem c_X8_giveBack (l : Launch) (D : va_G) (cI cZ : ClassId) (ad : Nat → Nat) (A : Nat → Prop) (σ : St) (a1 : Int32) (K : Int32 → St → Prop) (hw : wp_X8_giveBack σ a1 K) : Met l yX8_giveBack wsX8_giveBack ({ frames := 2, cells := 0, slots := 0, locals := 46 }) (va_Pc [.ref (ad 0), .int a1] (GW D [(cI, FieldType.int), (cZ, FieldType.boolean)] (wM cI cZ ad) A σ)) (va_Qi K (GW D [(cI, FieldType.int), (cZ, FieldType.boolean)] (wM cI cZ ad) A) A) 0 0 A := by
  refine Met.ofW (cc := cX8_giveBack) (maxL := 3) (ret := (some .int)) (by decide) rfl ?_
  intro p e s m args below meth c s₁ B hml hv
  obtain ⟨rfl, hP, hK, hD⟩ := hv
  have hx := B.exec
  have hb := B.bytes
  have hr := B.returns
  have hts := atoms_spec (ws := wsX8_giveBack) B.pre
  have hown : s.vm.findClass RX8 = some m.cls := findClass_of_methodNamed B.named
  have hlocks := B.notSynchronized
  have hS : va_S A s.heap s.heap [] := va_S.rf
  have hinX8 : ∀ w ∈ wsX80, w ∈ wsX8_giveBack := fun _ h => List.mem_cons_of_mem _ (List.mem_append_right _ (h))
  have hwl_X8_giveBack_37 : ∀ (n : Nat) (v1 : Int32) (v2 : Int32) (σ : St), wl_X8_giveBack_37 K n v1 v2 σ → ∀ (H : Heap) (locs : List Loc), va_P D vwCl (wM cI cZ ad σ) H → va_D A (wM cI cZ ad σ) → va_S A s.heap H locs → ∀ ls : Array Slot, lv_has ls 3 [(0, .ref (ad 0)), (1, .int v1), (2, .int v2)] → W p l e (headSpec wsX8_giveBack ({ frames := 2, cells := 0, slots := 0, locals := 46 })).room s m ([.ref (ad 0), .int a1] : List Value).toArray below meth c H locs 0 0 (MQ below (va_Qi K (GW D [(cI, FieldType.int), (cZ, FieldType.boolean)] (wM cI cZ ad) A) A) ([.ref (ad 0), .int a1] : List Value).toArray s 0 0 A) (F0 m 37 ls []) := by
    intro n
    induction n with
    | zero => intro v1 v2 σ hw; exact hw.elim
    | succ n ih =>
      intro v1 v2 σ hw H locs hP hD hS ls hl
      refine lv_iload_n hx hb dX8_giveBack_37 rfl (lv_at hl 2 rfl) ?_
      refine lv_aload_n hx hb dX8_giveBack_38 rfl (lv_at hl 0 rfl) ?_
      refine va_get (D := D) (ci := 6) (C := RX8) (T := TX8) (N := 28) hx hb hts hinX8 hown hK hP 0 rfl rfl 6 (by decide) (hts _ (List.mem_of_getElem? (i := 4) rfl)) (fun _ h9 => h9) rfl dX8_giveBack_39 ?_
      refine lv_iload_n hx hb dX8_giveBack_42 rfl (lv_at hl 1 rfl) ?_
      refine va_iald (D := D) hx hb hK hP 6 0 rfl rfl hw.1 dX8_giveBack_43 ?_
      have hw := hw.2
      refine lv_aload_n hx hb dX8_giveBack_44 rfl (lv_at hl 0 rfl) ?_
      refine va_get (D := D) (ci := 6) (C := RX8) (T := TX8) (N := 28) hx hb hts hinX8 hown hK hP 0 rfl rfl 7 (by decide) (hts _ (List.mem_of_getElem? (i := 5) rfl)) (fun _ h9 => h9) rfl dX8_giveBack_45 ?_
      refine lv_iload_n hx hb dX8_giveBack_48 rfl (lv_at hl 1 rfl) ?_
      refine va_iald (D := D) hx hb hK hP 7 0 rfl rfl hw.1 dX8_giveBack_49 ?_
      have hw := hw.2
      refine lv_iadd hx hb dX8_giveBack_50 ?_
      refine lv_icmp_ge (tgt := 67) hx hb dX8_giveBack_51 (by decide) (fun c9 => ?_) (fun c9 => ?_)
      · have hw := hw.1 c9
        refine lv_aload_n hx hb dX8_giveBack_67 rfl (lv_at hl 0 rfl) ?_
        refine lv_bipush (v := 7) hx hb dX8_giveBack_68 (by decide) ?_
        refine lv_aload_n hx hb dX8_giveBack_70 rfl (lv_at hl 0 rfl) ?_
        refine G_calli (As := []) (rest := [.int (7 : Int32), .ref (ad 0)]) ⟨hx, hb, hml, hown, hts⟩ hK hP hD hS 0 6 rfl rfl (c_X8_letOnes l D cI cZ ad A σ _ hw) (cwV 0 hts gX8_giveBack_X8_letOnes rfl rfl rfl (by decide +kernel) ⟨Nat.le_of_ble_eq_true rfl, Nat.le_of_ble_eq_true rfl⟩) rfl hl.1 rfl (Nat.le_of_ble_eq_true rfl) dX8_giveBack_71 ⟨Nat.zero_le _, Nat.zero_le _⟩ (fun x6 σ5 hw H locs hP hD hS => ?_)
        refine S_calli (As := [.int x6]) (rest := [.int (7 : Int32), .ref (ad 0)]) ⟨hx, hb, hml, hown, hts⟩ (c_X8_bits l x6 _ hw) (va_cwS 1 hts gX8_giveBack_X8_bits rfl rfl rfl (by decide +kernel) ⟨Nat.le_of_ble_eq_true rfl, Nat.le_of_ble_eq_true rfl⟩) rfl hl.1 rfl (Nat.le_of_ble_eq_true rfl) dX8_giveBack_74 ⟨Nat.zero_le _, Nat.zero_le _⟩ (fun x7 hw => ?_)
        refine G_calli (As := [.int (7 : Int32), .int x7]) (rest := []) ⟨hx, hb, hml, hown, hts⟩ hK hP hD hS 0 6 rfl rfl (c_X8_tick l D cI cZ ad A σ5 (7 : Int32) x7 _ hw) (cwV 2 hts gX8_giveBack_X8_tick rfl rfl rfl (by decide +kernel) ⟨Nat.le_of_ble_eq_true rfl, Nat.le_of_ble_eq_true rfl⟩) rfl hl.1 rfl (Nat.le_of_ble_eq_true rfl) dX8_giveBack_77 ⟨Nat.zero_le _, Nat.zero_le _⟩ (fun x9 σ8 hw H locs hP hD hS => ?_)
        exact G_iret hx hb hr hlocks hw hP hK hD hS dX8_giveBack_80
      · have hw := hw.2 c9
        refine lv_aload_n hx hb dX8_giveBack_54 rfl (lv_at hl 0 rfl) ?_
        refine va_get (D := D) (ci := 6) (C := RX8) (T := TX8) (N := 28) hx hb hts hinX8 hown hK hP 0 rfl rfl 3 (by decide) (hts _ (List.mem_of_getElem? (i := 6) rfl)) (fun _ h9 => h9) rfl dX8_giveBack_55 ?_
        refine lv_iload_n hx hb dX8_giveBack_58 rfl (lv_at hl 2 rfl) ?_
        refine lv_iconst (v := 1) hx hb dX8_giveBack_59 (by decide) ?_
        refine va_zast (D := D) hx hb hK hP hD hS 4 1 rfl rfl hw.1 dX8_giveBack_60 (fun H locs hP hD hS => ?_)
        obtain ⟨σ10, eσ10⟩ : ∃ z : St, z = sA σ 3 (upd (σ.2.1 3) v2.toNatClampNeg (vp_nar .boolean (1 : Int32))) := ⟨_, rfl⟩
        have hP : va_P D vwCl (wM cI cZ ad σ10) H := by rw [eσ10]; exact hP
        have hD : va_D A (wM cI cZ ad σ10) := by rw [eσ10]; exact hD
        have hw := hw.2 σ10 eσ10
        obtain ⟨x11, ex11⟩ : ∃ y : Int32, y = v2 + 1 := ⟨_, rfl⟩
        have hw := hw x11 ex11
        refine lv_iinc (v := x11) (lv' := [(2, .int x11), (0, .ref (ad 0)), (1, .int v1)]) hx hb dX8_giveBack_61 hl (k := 2) rfl (by rw [ex11]; rfl) (by decide) rfl (fun ls hl => ?_)
        refine lv_goto (tgt := 37) hx hb dX8_giveBack_64 (by decide) ?_
        exact ih v1 x11 σ10 hw _ _ hP hD hS ls (lv_sub hl [1, 2, 0] rfl)
  have hl := lv_entry ([.ref (ad 0), .int a1]) (n := 3) (Nat.le_of_ble_eq_true rfl)
  rw [lg_entry_eq]
  generalize (lg_sl ([.ref (ad 0), .int a1]) ++ List.replicate (3 - (lg_sl ([.ref (ad 0), .int a1])).length) Slot.unset).toArray = ls at hl ⊢
  have hl : lv_has ls 3 [(0, .ref (ad 0)), (1, .int a1)] := hl
  have hP : va_P D vwCl (wM cI cZ ad σ) s.heap := hP
  refine lv_aload_n hx hb dX8_giveBack_0 rfl (lv_at hl 0 rfl) ?_
  refine lv_iload_n hx hb dX8_giveBack_1 rfl (lv_at hl 1 rfl) ?_
  refine G_calli (As := [.int a1]) (rest := []) ⟨hx, hb, hml, hown, hts⟩ hK hP hD hS 0 6 rfl rfl (c_X8_isGround l D cI cZ ad A σ a1 _ hw) (cwV 1 hts gX8_giveBack_X8_isGround rfl rfl rfl (by decide +kernel) ⟨Nat.le_of_ble_eq_true rfl, Nat.le_of_ble_eq_true rfl⟩) rfl hl.1 rfl (Nat.le_of_ble_eq_true rfl) dX8_giveBack_2 ⟨Nat.zero_le _, Nat.zero_le _⟩ (fun x2 σ1 hw H locs hP hD hS => ?_)
  refine lv_if_ne (tgt := 11) hx hb dX8_giveBack_5 (by decide) (fun c9 => ?_) (fun c9 => ?_)
  · have hw := hw.1 c9
    refine lv_aload_n hx hb dX8_giveBack_11 rfl (lv_at hl 0 rfl) ?_
    refine va_get (D := D) (ci := 6) (C := RX8) (T := TX8) (N := 28) hx hb hts hinX8 hown hK hP 0 rfl rfl 8 (by decide) (hts _ (List.mem_of_getElem? (i := 2) rfl)) (fun _ h9 => h9) rfl dX8_giveBack_12 ?_
    refine lv_iload_n hx hb dX8_giveBack_15 rfl (lv_at hl 1 rfl) ?_
    refine va_zald (D := D) hx hb hK hP 8 1 rfl rfl hw.1 dX8_giveBack_16 ?_
    have hw := hw.2
    refine lv_if_ne (tgt := 23) hx hb dX8_giveBack_17 (by decide) (fun c9 => ?_) (fun c9 => ?_)
    · have hw := hw.1 c9
      refine lv_aload_n hx hb dX8_giveBack_23 rfl (lv_at hl 0 rfl) ?_
      refine va_get (D := D) (ci := 6) (C := RX8) (T := TX8) (N := 28) hx hb hts hinX8 hown hK hP 0 rfl rfl 8 (by decide) (hts _ (List.mem_of_getElem? (i := 2) rfl)) (fun _ h9 => h9) rfl dX8_giveBack_24 ?_
      refine lv_iload_n hx hb dX8_giveBack_27 rfl (lv_at hl 1 rfl) ?_
      refine lv_iconst (v := 0) hx hb dX8_giveBack_28 (by decide) ?_
      refine va_zast (D := D) hx hb hK hP hD hS 8 1 rfl rfl hw.1 dX8_giveBack_29 (fun H locs hP hD hS => ?_)
      obtain ⟨σ3, eσ3⟩ : ∃ z : St, z = sA σ1 7 (upd (σ1.2.1 7) a1.toNatClampNeg (vp_nar .boolean (0 : Int32))) := ⟨_, rfl⟩
      have hP : va_P D vwCl (wM cI cZ ad σ3) H := by rw [eσ3]; exact hP
      have hD : va_D A (wM cI cZ ad σ3) := by rw [eσ3]; exact hD
      have hw := hw.2 σ3 eσ3
      refine lv_aload_n hx hb dX8_giveBack_30 rfl (lv_at hl 0 rfl) ?_
      refine va_get (D := D) (ci := 6) (C := RX8) (T := TX8) (N := 28) hx hb hts hinX8 hown hK hP 0 rfl rfl 6 (by decide) (hts _ (List.mem_of_getElem? (i := 4) rfl)) (fun _ h9 => h9) rfl dX8_giveBack_31 ?_
      refine lv_iload_n hx hb dX8_giveBack_34 rfl (lv_at hl 1 rfl) ?_
      refine va_iald (D := D) hx hb hK hP 6 0 rfl rfl hw.1 dX8_giveBack_35 ?_
      have hw := hw.2
      refine lv_topi (fun x4 ex4 => ?_)
      have hw := hw x4 ex4
      refine lv_istore_n (lv' := [(2, .int x4), (0, .ref (ad 0)), (1, .int a1)]) hx hb dX8_giveBack_36 rfl hl (by decide) rfl (fun ls hl => ?_)
      obtain ⟨nn, hw⟩ := hw
      exact hwl_X8_giveBack_37 nn a1 x4 σ3 hw _ _ hP hD hS ls (lv_sub hl [1, 2, 0] rfl)
    · have hw := hw.2 c9
      refine lv_ldc (v := -1000000003) hx hb hown (hts _ (List.mem_of_getElem? (i := 3) rfl)) dX8_giveBack_20 ?_
      exact G_iret hx hb hr hlocks hw hP hK hD hS dX8_giveBack_22
  · have hw := hw.2 c9
    refine lv_ldc (v := -1000000001) hx hb hown (hts _ (List.mem_of_getElem? (i := 1) rfl)) dX8_giveBack_8 ?_
    exact G_iret hx hb hr hlocks hw hP hK hD hS dX8_giveBack_10

def wp_X8_doByLots (σ : St) (K : St → Prop) : Prop :=
  wp_X8_lotBy σ (4 : Int32) (fun x2 σ1 => ((¬ x2 = 0 → (((3 : Int32) ≤ x2 → wp_X8_lotBy σ1 (8 : Int32) (fun x4 σ3 => wp_X8_decide σ3 x4 (fun x6 σ5 => K σ5))) ∧ (¬ (3 : Int32) ≤ x2 → wp_X8_lotBy σ1 (8 : Int32) (fun x8 σ7 => wp_X8_lotBy σ7 (32 : Int32) (fun x10 σ9 => ((¬ x2 = (1 : Int32) → wp_X8_store σ9 x8 x10 (fun x12 σ11 => K σ11)) ∧ (x2 = (1 : Int32) → wp_X8_load σ9 x8 x10 (fun x14 σ13 => K σ13)))))))) ∧ (x2 = 0 → wp_X8_lotBy σ1 (7 : Int32) (fun x16 σ15 => wp_X8_lotBy σ15 (8 : Int32) (fun x18 σ17 => wp_X8_lotBy σ17 (8 : Int32) (fun x20 σ19 => wp_X8_lotBy σ19 (8 : Int32) (fun x22 σ21 => wp_X8_ruleNow σ21 x16 x18 x20 x22 (0 : Int32) (fun x24 σ23 => wp_X8_tick σ23 (4 : Int32) x24 (fun x26 σ25 => K σ25)))))))))
set_option maxHeartbeats 4000000 in
set_option maxRecDepth 100000 in
theorem c_X8_doByLots (l : Launch) (D : va_G) (cI cZ : ClassId) (ad : Nat → Nat) (A : Nat → Prop) (σ : St) (K : St → Prop) (hw : wp_X8_doByLots σ K) : Met l yX8_doByLots wsX8_doByLots ({ frames := 4, cells := 0, slots := 0, locals := 91 }) (va_Pc [.ref (ad 0)] (GW D [(cI, FieldType.int), (cZ, FieldType.boolean)] (wM cI cZ ad) A σ)) (va_Qv K (GW D [(cI, FieldType.int), (cZ, FieldType.boolean)] (wM cI cZ ad) A) A) 0 0 A := by
  refine Met.ofW (cc := cX8_doByLots) (maxL := 7) (ret := none) (by decide) rfl ?_
  intro p e s m args below meth c s₁ B hml hv
  obtain ⟨rfl, hP, hK, hD⟩ := hv
  have hx := B.exec
  have hb := B.bytes
  have hr := B.returns
  have hts := atoms_spec (ws := wsX8_doByLots) B.pre
  have hown : s.vm.findClass RX8 = some m.cls := findClass_of_methodNamed B.named
  have hlocks := B.notSynchronized
  have hS : va_S A s.heap s.heap [] := va_S.rf
  have hinX8 : ∀ w ∈ wsX80, w ∈ wsX8_doByLots := fun _ h => List.mem_cons_of_mem _ (List.mem_append_right _ (h))
  have hl := lv_entry ([.ref (ad 0)]) (n := 7) (Nat.le_of_ble_eq_true rfl)
  rw [lg_entry_eq]
  generalize (lg_sl ([.ref (ad 0)]) ++ List.replicate (7 - (lg_sl ([.ref (ad 0)])).length) Slot.unset).toArray = ls at hl ⊢
  have hl : lv_has ls 7 [(0, .ref (ad 0))] := hl
  have hP : va_P D vwCl (wM cI cZ ad σ) s.heap := hP
  refine lv_aload_n hx hb dX8_doByLots_0 rfl (lv_at hl 0 rfl) ?_
  refine lv_iconst (v := 4) hx hb dX8_doByLots_1 (by decide) ?_
  refine G_calli (As := [.int (4 : Int32)]) (rest := []) ⟨hx, hb, hml, hown, hts⟩ hK hP hD hS 0 6 rfl rfl (c_X8_lotBy l D cI cZ ad A σ (4 : Int32) _ hw) (cwV 1 hts gX8_doByLots_X8_lotBy rfl rfl rfl (by decide +kernel) ⟨Nat.le_of_ble_eq_true rfl, Nat.le_of_ble_eq_true rfl⟩) rfl hl.1 rfl (Nat.le_of_ble_eq_true rfl) dX8_doByLots_2 ⟨Nat.zero_le _, Nat.zero_le _⟩ (fun x2 σ1 hw H locs hP hD hS => ?_)
  refine lv_istore_n (lv' := [(1, .int x2), (0, .ref (ad 0))]) hx hb dX8_doByLots_5 rfl hl (by decide) rfl (fun ls hl => ?_)
  refine lv_iload_n hx hb dX8_doByLots_6 rfl (lv_at hl 0 rfl) ?_
  refine lv_if_ne (tgt := 61) hx hb dX8_doByLots_7 (by decide) (fun c9 => ?_) (fun c9 => ?_)
  · have hw := hw.1 c9
    refine lv_iload_n hx hb dX8_doByLots_61 rfl (lv_at hl 0 rfl) ?_
    refine lv_iconst (v := 3) hx hb dX8_doByLots_62 (by decide) ?_
    refine lv_icmp_ge (tgt := 105) hx hb dX8_doByLots_63 (by decide) (fun c9 => ?_) (fun c9 => ?_)
    · have hw := hw.1 c9
      refine lv_aload_n hx hb dX8_doByLots_105 rfl (lv_at hl 1 rfl) ?_
      refine lv_aload_n hx hb dX8_doByLots_106 rfl (lv_at hl 1 rfl) ?_
      refine lv_bipush (v := 8) hx hb dX8_doByLots_107 (by decide) ?_
      refine G_calli (As := [.int (8 : Int32)]) (rest := [.ref (ad 0)]) ⟨hx, hb, hml, hown, hts⟩ hK hP hD hS 0 6 rfl rfl (c_X8_lotBy l D cI cZ ad A σ1 (8 : Int32) _ hw) (cwV 1 hts gX8_doByLots_X8_lotBy rfl rfl rfl (by decide +kernel) ⟨Nat.le_of_ble_eq_true rfl, Nat.le_of_ble_eq_true rfl⟩) rfl hl.1 rfl (Nat.le_of_ble_eq_true rfl) dX8_doByLots_109 ⟨Nat.zero_le _, Nat.zero_le _⟩ (fun x4 σ3 hw H locs hP hD hS => ?_)
      refine G_calli (As := [.int x4]) (rest := []) ⟨hx, hb, hml, hown, hts⟩ hK hP hD hS 0 6 rfl rfl (c_X8_decide l D cI cZ ad A σ3 x4 _ hw) (cwV 1 hts gX8_doByLots_X8_decide rfl rfl rfl (by decide +kernel) ⟨Nat.le_of_ble_eq_true rfl, Nat.le_of_ble_eq_true rfl⟩) rfl hl.1 rfl (Nat.le_of_ble_eq_true rfl) dX8_doByLots_112 ⟨Nat.zero_le _, Nat.zero_le _⟩ (fun x6 σ5 hw H locs hP hD hS => ?_)
      refine lv_istore_n (lv' := [(2, .int x6), (1, .int x2), (0, .ref (ad 0))]) hx hb dX8_doByLots_115 rfl hl (by decide) rfl (fun ls hl => ?_)
      exact G_vret hx hb hr hlocks hw hP hK hD hS dX8_doByLots_116
    · have hw := hw.2 c9
      refine lv_aload_n hx hb dX8_doByLots_66 rfl (lv_at hl 1 rfl) ?_
      refine lv_bipush (v := 8) hx hb dX8_doByLots_67 (by decide) ?_
      refine G_calli (As := [.int (8 : Int32)]) (rest := []) ⟨hx, hb, hml, hown, hts⟩ hK hP hD hS 0 6 rfl rfl (c_X8_lotBy l D cI cZ ad A σ1 (8 : Int32) _ hw) (cwV 1 hts gX8_doByLots_X8_lotBy rfl rfl rfl (by decide +kernel) ⟨Nat.le_of_ble_eq_true rfl, Nat.le_of_ble_eq_true rfl⟩) rfl hl.1 rfl (Nat.le_of_ble_eq_true rfl) dX8_doByLots_69 ⟨Nat.zero_le _, Nat.zero_le _⟩ (fun x8 σ7 hw H locs hP hD hS => ?_)
      refine lv_istore_n (lv' := [(2, .int x8), (1, .int x2), (0, .ref (ad 0))]) hx hb dX8_doByLots_72 rfl hl (by decide) rfl (fun ls hl => ?_)
      refine lv_aload_n hx hb dX8_doByLots_73 rfl (lv_at hl 2 rfl) ?_
      refine lv_bipush (v := 32) hx hb dX8_doByLots_74 (by decide) ?_
      refine G_calli (As := [.int (32 : Int32)]) (rest := []) ⟨hx, hb, hml, hown, hts⟩ hK hP hD hS 0 6 rfl rfl (c_X8_lotBy l D cI cZ ad A σ7 (32 : Int32) _ hw) (cwV 1 hts gX8_doByLots_X8_lotBy rfl rfl rfl (by decide +kernel) ⟨Nat.le_of_ble_eq_true rfl, Nat.le_of_ble_eq_true rfl⟩) rfl hl.1 rfl (Nat.le_of_ble_eq_true rfl) dX8_doByLots_76 ⟨Nat.zero_le _, Nat.zero_le _⟩ (fun x10 σ9 hw H locs hP hD hS => ?_)
      refine lv_istore_n (lv' := [(3, .int x10), (2, .int x8), (1, .int x2), (0, .ref (ad 0))]) hx hb dX8_doByLots_79 rfl hl (by decide) rfl (fun ls hl => ?_)
      refine lv_iload_n hx hb dX8_doByLots_80 rfl (lv_at hl 2 rfl) ?_
      refine lv_iconst (v := 1) hx hb dX8_doByLots_81 (by decide) ?_
      refine lv_icmp_ne (tgt := 94) hx hb dX8_doByLots_82 (by decide) (fun c9 => ?_) (fun c9 => ?_)
      · have hw := hw.1 c9
        refine lv_aload_n hx hb dX8_doByLots_94 rfl (lv_at hl 3 rfl) ?_
        refine lv_iload_n hx hb dX8_doByLots_95 rfl (lv_at hl 1 rfl) ?_
        refine lv_iload_n hx hb dX8_doByLots_96 rfl (lv_at hl 0 rfl) ?_
        refine G_calli (As := [.int x8, .int x10]) (rest := []) ⟨hx, hb, hml, hown, hts⟩ hK hP hD hS 0 6 rfl rfl (c_X8_store l D cI cZ ad A σ9 x8 x10 _ hw) (cwV 2 hts gX8_doByLots_X8_store rfl rfl rfl (by decide +kernel) ⟨Nat.le_of_ble_eq_true rfl, Nat.le_of_ble_eq_true rfl⟩) rfl hl.1 rfl (Nat.le_of_ble_eq_true rfl) dX8_doByLots_97 ⟨Nat.zero_le _, Nat.zero_le _⟩ (fun x12 σ11 hw H locs hP hD hS => ?_)
        refine lv_istore (lv' := [(4, .int x12), (3, .int x10), (2, .int x8), (1, .int x2), (0, .ref (ad 0))]) hx hb dX8_doByLots_100 hl (by decide) rfl (fun ls hl => ?_)
        refine lv_goto (tgt := 116) hx hb dX8_doByLots_102 (by decide) ?_
        exact G_vret hx hb hr hlocks hw hP hK hD hS dX8_doByLots_116
      · have hw := hw.2 c9
        refine lv_aload_n hx hb dX8_doByLots_85 rfl (lv_at hl 3 rfl) ?_
        refine lv_iload_n hx hb dX8_doByLots_86 rfl (lv_at hl 1 rfl) ?_
        refine lv_iload_n hx hb dX8_doByLots_87 rfl (lv_at hl 0 rfl) ?_
        refine G_calli (As := [.int x8, .int x10]) (rest := []) ⟨hx, hb, hml, hown, hts⟩ hK hP hD hS 0 6 rfl rfl (c_X8_load l D cI cZ ad A σ9 x8 x10 _ hw) (cwV 2 hts gX8_doByLots_X8_load rfl rfl rfl (by decide +kernel) ⟨Nat.le_of_ble_eq_true rfl, Nat.le_of_ble_eq_true rfl⟩) rfl hl.1 rfl (Nat.le_of_ble_eq_true rfl) dX8_doByLots_88 ⟨Nat.zero_le _, Nat.zero_le _⟩ (fun x14 σ13 hw H locs hP hD hS => ?_)
        refine lv_goto (tgt := 100) hx hb dX8_doByLots_91 (by decide) ?_
        refine lv_istore (lv' := [(4, .int x14), (3, .int x10), (2, .int x8), (1, .int x2), (0, .ref (ad 0))]) hx hb dX8_doByLots_100 hl (by decide) rfl (fun ls hl => ?_)
        refine lv_goto (tgt := 116) hx hb dX8_doByLots_102 (by decide) ?_
        exact G_vret hx hb hr hlocks hw hP hK hD hS dX8_doByLots_116
  · have hw := hw.2 c9
    refine lv_aload_n hx hb dX8_doByLots_10 rfl (lv_at hl 1 rfl) ?_
    refine lv_bipush (v := 7) hx hb dX8_doByLots_11 (by decide) ?_
    refine G_calli (As := [.int (7 : Int32)]) (rest := []) ⟨hx, hb, hml, hown, hts⟩ hK hP hD hS 0 6 rfl rfl (c_X8_lotBy l D cI cZ ad A σ1 (7 : Int32) _ hw) (cwV 1 hts gX8_doByLots_X8_lotBy rfl rfl rfl (by decide +kernel) ⟨Nat.le_of_ble_eq_true rfl, Nat.le_of_ble_eq_true rfl⟩) rfl hl.1 rfl (Nat.le_of_ble_eq_true rfl) dX8_doByLots_13 ⟨Nat.zero_le _, Nat.zero_le _⟩ (fun x16 σ15 hw H locs hP hD hS => ?_)
    refine lv_istore_n (lv' := [(2, .int x16), (1, .int x2), (0, .ref (ad 0))]) hx hb dX8_doByLots_16 rfl hl (by decide) rfl (fun ls hl => ?_)
    refine lv_aload_n hx hb dX8_doByLots_17 rfl (lv_at hl 2 rfl) ?_
    refine lv_bipush (v := 8) hx hb dX8_doByLots_18 (by decide) ?_
    refine G_calli (As := [.int (8 : Int32)]) (rest := []) ⟨hx, hb, hml, hown, hts⟩ hK hP hD hS 0 6 rfl rfl (c_X8_lotBy l D cI cZ ad A σ15 (8 : Int32) _ hw) (cwV 1 hts gX8_doByLots_X8_lotBy rfl rfl rfl (by decide +kernel) ⟨Nat.le_of_ble_eq_true rfl, Nat.le_of_ble_eq_true rfl⟩) rfl hl.1 rfl (Nat.le_of_ble_eq_true rfl) dX8_doByLots_20 ⟨Nat.zero_le _, Nat.zero_le _⟩ (fun x18 σ17 hw H locs hP hD hS => ?_)
    refine lv_istore_n (lv' := [(3, .int x18), (2, .int x16), (1, .int x2), (0, .ref (ad 0))]) hx hb dX8_doByLots_23 rfl hl (by decide) rfl (fun ls hl => ?_)
    refine lv_aload_n hx hb dX8_doByLots_24 rfl (lv_at hl 3 rfl) ?_
    refine lv_bipush (v := 8) hx hb dX8_doByLots_25 (by decide) ?_
    refine G_calli (As := [.int (8 : Int32)]) (rest := []) ⟨hx, hb, hml, hown, hts⟩ hK hP hD hS 0 6 rfl rfl (c_X8_lotBy l D cI cZ ad A σ17 (8 : Int32) _ hw) (cwV 1 hts gX8_doByLots_X8_lotBy rfl rfl rfl (by decide +kernel) ⟨Nat.le_of_ble_eq_true rfl, Nat.le_of_ble_eq_true rfl⟩) rfl hl.1 rfl (Nat.le_of_ble_eq_true rfl) dX8_doByLots_27 ⟨Nat.zero_le _, Nat.zero_le _⟩ (fun x20 σ19 hw H locs hP hD hS => ?_)
    refine lv_istore (lv' := [(4, .int x20), (3, .int x18), (2, .int x16), (1, .int x2), (0, .ref (ad 0))]) hx hb dX8_doByLots_30 hl (by decide) rfl (fun ls hl => ?_)
    refine lv_aload_n hx hb dX8_doByLots_32 rfl (lv_at hl 4 rfl) ?_
    refine lv_bipush (v := 8) hx hb dX8_doByLots_33 (by decide) ?_
    refine G_calli (As := [.int (8 : Int32)]) (rest := []) ⟨hx, hb, hml, hown, hts⟩ hK hP hD hS 0 6 rfl rfl (c_X8_lotBy l D cI cZ ad A σ19 (8 : Int32) _ hw) (cwV 1 hts gX8_doByLots_X8_lotBy rfl rfl rfl (by decide +kernel) ⟨Nat.le_of_ble_eq_true rfl, Nat.le_of_ble_eq_true rfl⟩) rfl hl.1 rfl (Nat.le_of_ble_eq_true rfl) dX8_doByLots_35 ⟨Nat.zero_le _, Nat.zero_le _⟩ (fun x22 σ21 hw H locs hP hD hS => ?_)
    refine lv_istore (lv' := [(5, .int x22), (4, .int x20), (3, .int x18), (2, .int x16), (1, .int x2), (0, .ref (ad 0))]) hx hb dX8_doByLots_38 hl (by decide) rfl (fun ls hl => ?_)
    refine lv_aload_n hx hb dX8_doByLots_40 rfl (lv_at hl 5 rfl) ?_
    refine lv_iconst (v := 4) hx hb dX8_doByLots_41 (by decide) ?_
    refine lv_aload_n hx hb dX8_doByLots_42 rfl (lv_at hl 5 rfl) ?_
    refine lv_iload_n hx hb dX8_doByLots_43 rfl (lv_at hl 3 rfl) ?_
    refine lv_iload_n hx hb dX8_doByLots_44 rfl (lv_at hl 2 rfl) ?_
    refine lv_iload hx hb dX8_doByLots_45 (lv_at hl 1 rfl) ?_
    refine lv_iload hx hb dX8_doByLots_47 (lv_at hl 0 rfl) ?_
    refine lv_iconst (v := 0) hx hb dX8_doByLots_49 (by decide) ?_
    refine G_calli (As := [.int x16, .int x18, .int x20, .int x22, .int (0 : Int32)]) (rest := [.int (4 : Int32), .ref (ad 0)]) ⟨hx, hb, hml, hown, hts⟩ hK hP hD hS 0 6 rfl rfl (c_X8_ruleNow l D cI cZ ad A σ21 x16 x18 x20 x22 (0 : Int32) _ hw) (cwV 5 hts gX8_doByLots_X8_ruleNow rfl rfl rfl (by decide +kernel) ⟨Nat.le_of_ble_eq_true rfl, Nat.le_of_ble_eq_true rfl⟩) rfl hl.1 rfl (Nat.le_of_ble_eq_true rfl) dX8_doByLots_50 ⟨Nat.zero_le _, Nat.zero_le _⟩ (fun x24 σ23 hw H locs hP hD hS => ?_)
    refine G_calli (As := [.int (4 : Int32), .int x24]) (rest := []) ⟨hx, hb, hml, hown, hts⟩ hK hP hD hS 0 6 rfl rfl (c_X8_tick l D cI cZ ad A σ23 (4 : Int32) x24 _ hw) (cwV 2 hts gX8_doByLots_X8_tick rfl rfl rfl (by decide +kernel) ⟨Nat.le_of_ble_eq_true rfl, Nat.le_of_ble_eq_true rfl⟩) rfl hl.1 rfl (Nat.le_of_ble_eq_true rfl) dX8_doByLots_53 ⟨Nat.zero_le _, Nat.zero_le _⟩ (fun x26 σ25 hw H locs hP hD hS => ?_)
    refine lv_istore (lv' := [(6, .int x26), (5, .int x22), (4, .int x20), (3, .int x18), (2, .int x16), (1, .int x2), (0, .ref (ad 0))]) hx hb dX8_doByLots_56 hl (by decide) rfl (fun ls hl => ?_)
    refine lv_goto (tgt := 116) hx hb dX8_doByLots_58 (by decide) ?_
    exact G_vret hx hb hr hlocks hw hP hK hD hS dX8_doByLots_116

def wl_X8_drift_17 (K : Int32 → St → Prop) : Nat → Int32 → Int32 → St → Prop
  | 0, _, _, _ => False
  | n + 1, v1, v2, σ => ((v1 ≤ v2 → K (σ.1 3) σ) ∧ (¬ v1 ≤ v2 → wp_X8_doByLots σ (fun σ2 => ∀ x3 : Int32, x3 = v2 + 1 → wl_X8_drift_17 K n v1 x3 σ2)))
def wp_X8_drift (σ : St) (a1 : Int32) (K : Int32 → St → Prop) : Prop :=
  wp_X8_in (a1.toInt64) (1 : Int64) (40 : Int64) (fun x1 => ((¬ x1 = 0 → (∃ nn : Nat, wl_X8_drift_17 K nn a1 (0 : Int32) σ)) ∧ (x1 = 0 → K (-1000000002 : Int32) σ)))
set_option maxHeartbeats 4000000 in
set_option maxRecDepth 100000 in
theorem c_X8_drift (l : Launch) (D : va_G) (cI cZ : ClassId) (ad : Nat → Nat) (A : Nat → Prop) (σ : St) (a1 : Int32) (K : Int32 → St → Prop) (hw : wp_X8_drift σ a1 K) : Met l yX8_drift wsX8_drift ({ frames := 5, cells := 0, slots := 0, locals := 117 }) (va_Pc [.ref (ad 0), .int a1] (GW D [(cI, FieldType.int), (cZ, FieldType.boolean)] (wM cI cZ ad) A σ)) (va_Qi K (GW D [(cI, FieldType.int), (cZ, FieldType.boolean)] (wM cI cZ ad) A) A) 0 0 A := by
  refine Met.ofW (cc := cX8_drift) (maxL := 3) (ret := (some .int)) (by decide) rfl ?_
  intro p e s m args below meth c s₁ B hml hv
  obtain ⟨rfl, hP, hK, hD⟩ := hv
  have hx := B.exec
  have hb := B.bytes
  have hr := B.returns
  have hts := atoms_spec (ws := wsX8_drift) B.pre
  have hown : s.vm.findClass RX8 = some m.cls := findClass_of_methodNamed B.named
  have hlocks := B.notSynchronized
  have hS : va_S A s.heap s.heap [] := va_S.rf
  have hinX8 : ∀ w ∈ wsX80, w ∈ wsX8_drift := fun _ h => List.mem_cons_of_mem _ (List.mem_append_right _ (h))
  have hwl_X8_drift_17 : ∀ (n : Nat) (v1 : Int32) (v2 : Int32) (σ : St), wl_X8_drift_17 K n v1 v2 σ → ∀ (H : Heap) (locs : List Loc), va_P D vwCl (wM cI cZ ad σ) H → va_D A (wM cI cZ ad σ) → va_S A s.heap H locs → ∀ ls : Array Slot, lv_has ls 3 [(0, .ref (ad 0)), (1, .int v1), (2, .int v2)] → W p l e (headSpec wsX8_drift ({ frames := 5, cells := 0, slots := 0, locals := 117 })).room s m ([.ref (ad 0), .int a1] : List Value).toArray below meth c H locs 0 0 (MQ below (va_Qi K (GW D [(cI, FieldType.int), (cZ, FieldType.boolean)] (wM cI cZ ad) A) A) ([.ref (ad 0), .int a1] : List Value).toArray s 0 0 A) (F0 m 17 ls []) := by
    intro n
    induction n with
    | zero => intro v1 v2 σ hw; exact hw.elim
    | succ n ih =>
      intro v1 v2 σ hw H locs hP hD hS ls hl
      refine lv_iload_n hx hb dX8_drift_17 rfl (lv_at hl 2 rfl) ?_
      refine lv_iload_n hx hb dX8_drift_18 rfl (lv_at hl 1 rfl) ?_
      refine lv_icmp_ge (tgt := 32) hx hb dX8_drift_19 (by decide) (fun c9 => ?_) (fun c9 => ?_)
      · have hw := hw.1 c9
        refine lv_aload_n hx hb dX8_drift_32 rfl (lv_at hl 0 rfl) ?_
        refine va_get (D := D) (ci := 6) (C := RX8) (T := TX8) (N := 28) hx hb hts hinX8 hown hK hP 0 rfl rfl 11 (by decide) (hts _ (List.mem_of_getElem? (i := 3) rfl)) (fun _ h9 => h9) rfl dX8_drift_33 ?_
        exact G_iret hx hb hr hlocks hw hP hK hD hS dX8_drift_36
      · have hw := hw.2 c9
        refine lv_aload_n hx hb dX8_drift_22 rfl (lv_at hl 0 rfl) ?_
        refine G_callv (As := []) (rest := []) ⟨hx, hb, hml, hown, hts⟩ hK hP hD hS 0 6 rfl rfl (c_X8_doByLots l D cI cZ ad A σ _ hw) (cwV 0 hts gX8_drift_X8_doByLots rfl rfl rfl (by decide +kernel) ⟨Nat.le_of_ble_eq_true rfl, Nat.le_of_ble_eq_true rfl⟩) rfl hl.1 rfl (Nat.le_of_ble_eq_true rfl) dX8_drift_23 ⟨Nat.zero_le _, Nat.zero_le _⟩ (fun σ2 hw H locs hP hD hS => ?_)
        obtain ⟨x3, ex3⟩ : ∃ y : Int32, y = v2 + 1 := ⟨_, rfl⟩
        have hw := hw x3 ex3
        refine lv_iinc (v := x3) (lv' := [(2, .int x3), (0, .ref (ad 0)), (1, .int v1)]) hx hb dX8_drift_26 hl (k := 2) rfl (by rw [ex3]; rfl) (by decide) rfl (fun ls hl => ?_)
        refine lv_goto (tgt := 17) hx hb dX8_drift_29 (by decide) ?_
        exact ih v1 x3 σ2 hw _ _ hP hD hS ls (lv_sub hl [1, 2, 0] rfl)
  have hl := lv_entry ([.ref (ad 0), .int a1]) (n := 3) (Nat.le_of_ble_eq_true rfl)
  rw [lg_entry_eq]
  generalize (lg_sl ([.ref (ad 0), .int a1]) ++ List.replicate (3 - (lg_sl ([.ref (ad 0), .int a1])).length) Slot.unset).toArray = ls at hl ⊢
  have hl : lv_has ls 3 [(0, .ref (ad 0)), (1, .int a1)] := hl
  have hP : va_P D vwCl (wM cI cZ ad σ) s.heap := hP
  refine lv_iload_n hx hb dX8_drift_0 rfl (lv_at hl 1 rfl) ?_
  refine lv_i2l hx hb dX8_drift_1 rfl ?_
  refine lv_lconst (v := 1) hx hb dX8_drift_2 (by decide) ?_
  refine lv_ldc2 (v := 40) hx hb hown (hts _ (List.mem_of_getElem? (i := 1) rfl)) dX8_drift_3 ?_
  refine S_calli (As := [.long (a1.toInt64), .long (1 : Int64), .long (40 : Int64)]) (rest := []) ⟨hx, hb, hml, hown, hts⟩ (c_X8_in l (a1.toInt64) (1 : Int64) (40 : Int64) _ hw) (va_cwS 3 hts gX8_drift_X8_in rfl rfl rfl (by decide +kernel) ⟨Nat.le_of_ble_eq_true rfl, Nat.le_of_ble_eq_true rfl⟩) rfl hl.1 rfl (Nat.le_of_ble_eq_true rfl) dX8_drift_6 ⟨Nat.zero_le _, Nat.zero_le _⟩ (fun x1 hw => ?_)
  refine lv_if_ne (tgt := 15) hx hb dX8_drift_9 (by decide) (fun c9 => ?_) (fun c9 => ?_)
  · have hw := hw.1 c9
    refine lv_iconst (v := 0) hx hb dX8_drift_15 (by decide) ?_
    refine lv_istore_n (lv' := [(2, .int (0 : Int32)), (0, .ref (ad 0)), (1, .int a1)]) hx hb dX8_drift_16 rfl hl (by decide) rfl (fun ls hl => ?_)
    obtain ⟨nn, hw⟩ := hw
    exact hwl_X8_drift_17 nn a1 (0 : Int32) σ hw _ _ hP hD hS ls (lv_sub hl [1, 2, 0] rfl)
  · have hw := hw.2 c9
    refine lv_ldc (v := -1000000002) hx hb hown (hts _ (List.mem_of_getElem? (i := 2) rfl)) dX8_drift_12 ?_
    exact G_iret hx hb hr hlocks hw hP hK hD hS dX8_drift_14

def wp_X8_lot (σ : St) (a1 : Int32) (K : Int32 → St → Prop) : Prop :=
  wp_X8_in (a1.toInt64) (1 : Int64) (2147483646 : Int64) (fun x1 => ((¬ x1 = 0 → ∀ x2 : Int32, x2 = σ.1 1 → ∀ σ3 : St, σ3 = sI σ 1 a1 → K x2 σ3) ∧ (x1 = 0 → K (-1000000002 : Int32) σ)))
set_option maxHeartbeats 4000000 in
set_option maxRecDepth 100000 in
theorem c_X8_lot (l : Launch) (D : va_G) (cI cZ : ClassId) (ad : Nat → Nat) (A : Nat → Prop) (σ : St) (a1 : Int32) (K : Int32 → St → Prop) (hw : wp_X8_lot σ a1 K) : Met l yX8_lot wsX8_lot ({ frames := 1, cells := 0, slots := 0, locals := 25 }) (va_Pc [.ref (ad 0), .int a1] (GW D [(cI, FieldType.int), (cZ, FieldType.boolean)] (wM cI cZ ad) A σ)) (va_Qi K (GW D [(cI, FieldType.int), (cZ, FieldType.boolean)] (wM cI cZ ad) A) A) 0 0 A := by
  refine Met.ofW (cc := cX8_lot) (maxL := 3) (ret := (some .int)) (by decide) rfl ?_
  intro p e s m args below meth c s₁ B hml hv
  obtain ⟨rfl, hP, hK, hD⟩ := hv
  have hx := B.exec
  have hb := B.bytes
  have hr := B.returns
  have hts := atoms_spec (ws := wsX8_lot) B.pre
  have hown : s.vm.findClass RX8 = some m.cls := findClass_of_methodNamed B.named
  have hlocks := B.notSynchronized
  have hS : va_S A s.heap s.heap [] := va_S.rf
  have hinX8 : ∀ w ∈ wsX80, w ∈ wsX8_lot := fun _ h => List.mem_cons_of_mem _ (List.mem_append_right _ (h))
  have hl := lv_entry ([.ref (ad 0), .int a1]) (n := 3) (Nat.le_of_ble_eq_true rfl)
  rw [lg_entry_eq]
  generalize (lg_sl ([.ref (ad 0), .int a1]) ++ List.replicate (3 - (lg_sl ([.ref (ad 0), .int a1])).length) Slot.unset).toArray = ls at hl ⊢
  have hl : lv_has ls 3 [(0, .ref (ad 0)), (1, .int a1)] := hl
  have hP : va_P D vwCl (wM cI cZ ad σ) s.heap := hP
  refine lv_iload_n hx hb dX8_lot_0 rfl (lv_at hl 1 rfl) ?_
  refine lv_i2l hx hb dX8_lot_1 rfl ?_
  refine lv_lconst (v := 1) hx hb dX8_lot_2 (by decide) ?_
  refine lv_ldc2 (v := 2147483646) hx hb hown (hts _ (List.mem_of_getElem? (i := 1) rfl)) dX8_lot_3 ?_
  refine S_calli (As := [.long (a1.toInt64), .long (1 : Int64), .long (2147483646 : Int64)]) (rest := []) ⟨hx, hb, hml, hown, hts⟩ (c_X8_in l (a1.toInt64) (1 : Int64) (2147483646 : Int64) _ hw) (va_cwS 3 hts gX8_lot_X8_in rfl rfl rfl (by decide +kernel) ⟨Nat.le_of_ble_eq_true rfl, Nat.le_of_ble_eq_true rfl⟩) rfl hl.1 rfl (Nat.le_of_ble_eq_true rfl) dX8_lot_6 ⟨Nat.zero_le _, Nat.zero_le _⟩ (fun x1 hw => ?_)
  refine lv_if_ne (tgt := 15) hx hb dX8_lot_9 (by decide) (fun c9 => ?_) (fun c9 => ?_)
  · have hw := hw.1 c9
    refine lv_aload_n hx hb dX8_lot_15 rfl (lv_at hl 0 rfl) ?_
    refine va_get (D := D) (ci := 6) (C := RX8) (T := TX8) (N := 28) hx hb hts hinX8 hown hK hP 0 rfl rfl 9 (by decide) (hts _ (List.mem_of_getElem? (i := 3) rfl)) (fun _ h9 => h9) rfl dX8_lot_16 ?_
    refine lv_topi (fun x2 ex2 => ?_)
    have hw := hw x2 ex2
    refine lv_istore_n (lv' := [(2, .int x2), (0, .ref (ad 0)), (1, .int a1)]) hx hb dX8_lot_19 rfl hl (by decide) rfl (fun ls hl => ?_)
    refine lv_aload_n hx hb dX8_lot_20 rfl (lv_at hl 1 rfl) ?_
    refine lv_iload_n hx hb dX8_lot_21 rfl (lv_at hl 2 rfl) ?_
    refine va_put (D := D) (ci := 6) (ty := .int) (C := RX8) (T := TX8) (N := 28) hx hb hts hinX8 tyX8 tyX8_ok nmX8 hown hK hP hD hS 0 rfl rfl 9 (by decide) (hts _ (List.mem_of_getElem? (i := 3) rfl)) (fun _ h9 => h9) rfl (by decide +kernel) rfl rfl (Nat.le_of_ble_eq_true rfl) dX8_lot_22 (fun H locs hP hD hS => ?_)
    obtain ⟨σ3, eσ3⟩ : ∃ z : St, z = sI σ 1 a1 := ⟨_, rfl⟩
    have hP : va_P D vwCl (wM cI cZ ad σ3) H := by rw [eσ3]; exact hP
    have hD : va_D A (wM cI cZ ad σ3) := by rw [eσ3]; exact hD
    have hw := hw σ3 eσ3
    refine lv_iload_n hx hb dX8_lot_25 rfl (lv_at hl 0 rfl) ?_
    exact G_iret hx hb hr hlocks hw hP hK hD hS dX8_lot_26
  · have hw := hw.2 c9
    refine lv_ldc (v := -1000000002) hx hb hown (hts _ (List.mem_of_getElem? (i := 2) rfl)) dX8_lot_12 ?_
    exact G_iret hx hb hr hlocks hw hP hK hD hS dX8_lot_14

def wp_X8_undo (σ : St) (K : Int32 → St → Prop) : Prop :=
  ((¬ (σ.1 6) = 0 → ∀ σ1 : St, σ1 = sI σ 6 ((σ.1 6) - (1 : Int32)) → vp_in (σ1.1 6) 32 ∧ ∀ x2 : Int32, x2 = σ1.2.1 14 (σ1.1 6).toNatClampNeg → vp_in (σ1.1 6) 32 ∧ vp_in x2 40 ∧ ∀ σ3 : St, σ3 = sA σ1 0 (upd (σ1.2.1 0) x2.toNatClampNeg (σ1.2.1 15 (σ1.1 6).toNatClampNeg)) → vp_in (σ3.1 6) 32 ∧ vp_in x2 40 ∧ ∀ σ4 : St, σ4 = sA σ3 1 (upd (σ3.2.1 1) x2.toNatClampNeg (σ3.2.1 16 (σ3.1 6).toNatClampNeg)) → vp_in (σ4.1 6) 32 ∧ vp_in x2 40 ∧ ∀ σ5 : St, σ5 = sA σ4 2 (upd (σ4.2.1 2) x2.toNatClampNeg (σ4.2.1 17 (σ4.1 6).toNatClampNeg)) → K (σ5.1 6) σ5) ∧ ((σ.1 6) = 0 → K (-1000000003 : Int32) σ))
set_option maxHeartbeats 4000000 in
set_option maxRecDepth 100000 in
theorem c_X8_undo (l : Launch) (D : va_G) (cI cZ : ClassId) (ad : Nat → Nat) (A : Nat → Prop) (σ : St) (K : Int32 → St → Prop) (hw : wp_X8_undo σ K) : Met l yX8_undo wsX8_undo ({ frames := 0, cells := 0, slots := 0, locals := 0 }) (va_Pc [.ref (ad 0)] (GW D [(cI, FieldType.int), (cZ, FieldType.boolean)] (wM cI cZ ad) A σ)) (va_Qi K (GW D [(cI, FieldType.int), (cZ, FieldType.boolean)] (wM cI cZ ad) A) A) 0 0 A := by
  refine Met.ofW (cc := cX8_undo) (maxL := 2) (ret := (some .int)) (by decide) rfl ?_
  intro p e s m args below meth c s₁ B hml hv
  obtain ⟨rfl, hP, hK, hD⟩ := hv
  have hx := B.exec
  have hb := B.bytes
  have hr := B.returns
  have hts := atoms_spec (ws := wsX8_undo) B.pre
  have hown : s.vm.findClass RX8 = some m.cls := findClass_of_methodNamed B.named
  have hlocks := B.notSynchronized
  have hS : va_S A s.heap s.heap [] := va_S.rf
  have hinX8 : ∀ w ∈ wsX80, w ∈ wsX8_undo := fun _ h => List.mem_cons_of_mem _ (List.mem_append_right _ (h))
  have hl := lv_entry ([.ref (ad 0)]) (n := 2) (Nat.le_of_ble_eq_true rfl)
  rw [lg_entry_eq]
  generalize (lg_sl ([.ref (ad 0)]) ++ List.replicate (2 - (lg_sl ([.ref (ad 0)])).length) Slot.unset).toArray = ls at hl ⊢
  have hl : lv_has ls 2 [(0, .ref (ad 0))] := hl
  have hP : va_P D vwCl (wM cI cZ ad σ) s.heap := hP
  refine lv_aload_n hx hb dX8_undo_0 rfl (lv_at hl 0 rfl) ?_
  refine va_get (D := D) (ci := 6) (C := RX8) (T := TX8) (N := 28) hx hb hts hinX8 hown hK hP 0 rfl rfl 21 (by decide) (hts _ (List.mem_of_getElem? (i := 1) rfl)) (fun _ h9 => h9) rfl dX8_undo_1 ?_
  refine lv_if_ne (tgt := 10) hx hb dX8_undo_4 (by decide) (fun c9 => ?_) (fun c9 => ?_)
  · have hw := hw.1 c9
    refine lv_aload_n hx hb dX8_undo_10 rfl (lv_at hl 0 rfl) ?_
    refine lv_dup hx hb dX8_undo_11 rfl ?_
    refine va_get (D := D) (ci := 6) (C := RX8) (T := TX8) (N := 28) hx hb hts hinX8 hown hK hP 0 rfl rfl 21 (by decide) (hts _ (List.mem_of_getElem? (i := 1) rfl)) (fun _ h9 => h9) rfl dX8_undo_12 ?_
    refine lv_iconst (v := 1) hx hb dX8_undo_15 (by decide) ?_
    refine lv_isub hx hb dX8_undo_16 ?_
    refine va_put (D := D) (ci := 6) (ty := .int) (C := RX8) (T := TX8) (N := 28) hx hb hts hinX8 tyX8 tyX8_ok nmX8 hown hK hP hD hS 0 rfl rfl 21 (by decide) (hts _ (List.mem_of_getElem? (i := 1) rfl)) (fun _ h9 => h9) rfl (by decide +kernel) rfl rfl (Nat.le_of_ble_eq_true rfl) dX8_undo_17 (fun H locs hP hD hS => ?_)
    obtain ⟨σ1, eσ1⟩ : ∃ z : St, z = sI σ 6 ((σ.1 6) - (1 : Int32)) := ⟨_, rfl⟩
    have hP : va_P D vwCl (wM cI cZ ad σ1) H := by rw [eσ1]; exact hP
    have hD : va_D A (wM cI cZ ad σ1) := by rw [eσ1]; exact hD
    have hw := hw σ1 eσ1
    refine lv_aload_n hx hb dX8_undo_20 rfl (lv_at hl 0 rfl) ?_
    refine va_get (D := D) (ci := 6) (C := RX8) (T := TX8) (N := 28) hx hb hts hinX8 hown hK hP 0 rfl rfl 22 (by decide) (hts _ (List.mem_of_getElem? (i := 3) rfl)) (fun _ h9 => h9) rfl dX8_undo_21 ?_
    refine lv_aload_n hx hb dX8_undo_24 rfl (lv_at hl 0 rfl) ?_
    refine va_get (D := D) (ci := 6) (C := RX8) (T := TX8) (N := 28) hx hb hts hinX8 hown hK hP 0 rfl rfl 21 (by decide) (hts _ (List.mem_of_getElem? (i := 1) rfl)) (fun _ h9 => h9) rfl dX8_undo_25 ?_
    refine va_iald (D := D) hx hb hK hP 15 0 rfl rfl hw.1 dX8_undo_28 ?_
    have hw := hw.2
    refine lv_topi (fun x2 ex2 => ?_)
    have hw := hw x2 ex2
    refine lv_istore_n (lv' := [(1, .int x2), (0, .ref (ad 0))]) hx hb dX8_undo_29 rfl hl (by decide) rfl (fun ls hl => ?_)
    refine lv_aload_n hx hb dX8_undo_30 rfl (lv_at hl 1 rfl) ?_
    refine va_get (D := D) (ci := 6) (C := RX8) (T := TX8) (N := 28) hx hb hts hinX8 hown hK hP 0 rfl rfl 0 (by decide) (hts _ (List.mem_of_getElem? (i := 4) rfl)) (fun _ h9 => h9) rfl dX8_undo_31 ?_
    refine lv_iload_n hx hb dX8_undo_34 rfl (lv_at hl 0 rfl) ?_
    refine lv_aload_n hx hb dX8_undo_35 rfl (lv_at hl 1 rfl) ?_
    refine va_get (D := D) (ci := 6) (C := RX8) (T := TX8) (N := 28) hx hb hts hinX8 hown hK hP 0 rfl rfl 23 (by decide) (hts _ (List.mem_of_getElem? (i := 5) rfl)) (fun _ h9 => h9) rfl dX8_undo_36 ?_
    refine lv_aload_n hx hb dX8_undo_39 rfl (lv_at hl 1 rfl) ?_
    refine va_get (D := D) (ci := 6) (C := RX8) (T := TX8) (N := 28) hx hb hts hinX8 hown hK hP 0 rfl rfl 21 (by decide) (hts _ (List.mem_of_getElem? (i := 1) rfl)) (fun _ h9 => h9) rfl dX8_undo_40 ?_
    refine va_iald (D := D) hx hb hK hP 16 0 rfl rfl hw.1 dX8_undo_43 ?_
    have hw := hw.2
    refine va_iast (D := D) hx hb hK hP hD hS 1 0 rfl rfl hw.1 dX8_undo_44 (fun H locs hP hD hS => ?_)
    obtain ⟨σ3, eσ3⟩ : ∃ z : St, z = sA σ1 0 (upd (σ1.2.1 0) x2.toNatClampNeg (σ1.2.1 15 (σ1.1 6).toNatClampNeg)) := ⟨_, rfl⟩
    have hP : va_P D vwCl (wM cI cZ ad σ3) H := by rw [eσ3]; exact hP
    have hD : va_D A (wM cI cZ ad σ3) := by rw [eσ3]; exact hD
    have hw := hw.2 σ3 eσ3
    refine lv_aload_n hx hb dX8_undo_45 rfl (lv_at hl 1 rfl) ?_
    refine va_get (D := D) (ci := 6) (C := RX8) (T := TX8) (N := 28) hx hb hts hinX8 hown hK hP 0 rfl rfl 1 (by decide) (hts _ (List.mem_of_getElem? (i := 6) rfl)) (fun _ h9 => h9) rfl dX8_undo_46 ?_
    refine lv_iload_n hx hb dX8_undo_49 rfl (lv_at hl 0 rfl) ?_
    refine lv_aload_n hx hb dX8_undo_50 rfl (lv_at hl 1 rfl) ?_
    refine va_get (D := D) (ci := 6) (C := RX8) (T := TX8) (N := 28) hx hb hts hinX8 hown hK hP 0 rfl rfl 24 (by decide) (hts _ (List.mem_of_getElem? (i := 7) rfl)) (fun _ h9 => h9) rfl dX8_undo_51 ?_
    refine lv_aload_n hx hb dX8_undo_54 rfl (lv_at hl 1 rfl) ?_
    refine va_get (D := D) (ci := 6) (C := RX8) (T := TX8) (N := 28) hx hb hts hinX8 hown hK hP 0 rfl rfl 21 (by decide) (hts _ (List.mem_of_getElem? (i := 1) rfl)) (fun _ h9 => h9) rfl dX8_undo_55 ?_
    refine va_iald (D := D) hx hb hK hP 17 0 rfl rfl hw.1 dX8_undo_58 ?_
    have hw := hw.2
    refine va_iast (D := D) hx hb hK hP hD hS 2 0 rfl rfl hw.1 dX8_undo_59 (fun H locs hP hD hS => ?_)
    obtain ⟨σ4, eσ4⟩ : ∃ z : St, z = sA σ3 1 (upd (σ3.2.1 1) x2.toNatClampNeg (σ3.2.1 16 (σ3.1 6).toNatClampNeg)) := ⟨_, rfl⟩
    have hP : va_P D vwCl (wM cI cZ ad σ4) H := by rw [eσ4]; exact hP
    have hD : va_D A (wM cI cZ ad σ4) := by rw [eσ4]; exact hD
    have hw := hw.2 σ4 eσ4
    refine lv_aload_n hx hb dX8_undo_60 rfl (lv_at hl 1 rfl) ?_
    refine va_get (D := D) (ci := 6) (C := RX8) (T := TX8) (N := 28) hx hb hts hinX8 hown hK hP 0 rfl rfl 2 (by decide) (hts _ (List.mem_of_getElem? (i := 8) rfl)) (fun _ h9 => h9) rfl dX8_undo_61 ?_
    refine lv_iload_n hx hb dX8_undo_64 rfl (lv_at hl 0 rfl) ?_
    refine lv_aload_n hx hb dX8_undo_65 rfl (lv_at hl 1 rfl) ?_
    refine va_get (D := D) (ci := 6) (C := RX8) (T := TX8) (N := 28) hx hb hts hinX8 hown hK hP 0 rfl rfl 25 (by decide) (hts _ (List.mem_of_getElem? (i := 9) rfl)) (fun _ h9 => h9) rfl dX8_undo_66 ?_
    refine lv_aload_n hx hb dX8_undo_69 rfl (lv_at hl 1 rfl) ?_
    refine va_get (D := D) (ci := 6) (C := RX8) (T := TX8) (N := 28) hx hb hts hinX8 hown hK hP 0 rfl rfl 21 (by decide) (hts _ (List.mem_of_getElem? (i := 1) rfl)) (fun _ h9 => h9) rfl dX8_undo_70 ?_
    refine va_iald (D := D) hx hb hK hP 18 0 rfl rfl hw.1 dX8_undo_73 ?_
    have hw := hw.2
    refine va_iast (D := D) hx hb hK hP hD hS 3 0 rfl rfl hw.1 dX8_undo_74 (fun H locs hP hD hS => ?_)
    obtain ⟨σ5, eσ5⟩ : ∃ z : St, z = sA σ4 2 (upd (σ4.2.1 2) x2.toNatClampNeg (σ4.2.1 17 (σ4.1 6).toNatClampNeg)) := ⟨_, rfl⟩
    have hP : va_P D vwCl (wM cI cZ ad σ5) H := by rw [eσ5]; exact hP
    have hD : va_D A (wM cI cZ ad σ5) := by rw [eσ5]; exact hD
    have hw := hw.2 σ5 eσ5
    refine lv_aload_n hx hb dX8_undo_75 rfl (lv_at hl 1 rfl) ?_
    refine va_get (D := D) (ci := 6) (C := RX8) (T := TX8) (N := 28) hx hb hts hinX8 hown hK hP 0 rfl rfl 21 (by decide) (hts _ (List.mem_of_getElem? (i := 1) rfl)) (fun _ h9 => h9) rfl dX8_undo_76 ?_
    exact G_iret hx hb hr hlocks hw hP hK hD hS dX8_undo_79
  · have hw := hw.2 c9
    refine lv_ldc (v := -1000000003) hx hb hown (hts _ (List.mem_of_getElem? (i := 2) rfl)) dX8_undo_7 ?_
    exact G_iret hx hb hr hlocks hw hP hK hD hS dX8_undo_9

def wp_X8_keptCries (σ : St) (K : Int32 → St → Prop) : Prop :=
  (((20 : Int32) ≤ (σ.1 3) → K (20 : Int32) σ) ∧ (¬ (20 : Int32) ≤ (σ.1 3) → K (σ.1 3) σ))
set_option maxHeartbeats 4000000 in
set_option maxRecDepth 100000 in
theorem c_X8_keptCries (l : Launch) (D : va_G) (cI cZ : ClassId) (ad : Nat → Nat) (A : Nat → Prop) (σ : St) (K : Int32 → St → Prop) (hw : wp_X8_keptCries σ K) : Met l yX8_keptCries wsX8_keptCries ({ frames := 0, cells := 0, slots := 0, locals := 0 }) (va_Pc [.ref (ad 0)] (GW D [(cI, FieldType.int), (cZ, FieldType.boolean)] (wM cI cZ ad) A σ)) (va_Qi K (GW D [(cI, FieldType.int), (cZ, FieldType.boolean)] (wM cI cZ ad) A) A) 0 0 A := by
  refine Met.ofW (cc := cX8_keptCries) (maxL := 1) (ret := (some .int)) (by decide) rfl ?_
  intro p e s m args below meth c s₁ B hml hv
  obtain ⟨rfl, hP, hK, hD⟩ := hv
  have hx := B.exec
  have hb := B.bytes
  have hr := B.returns
  have hts := atoms_spec (ws := wsX8_keptCries) B.pre
  have hown : s.vm.findClass RX8 = some m.cls := findClass_of_methodNamed B.named
  have hlocks := B.notSynchronized
  have hS : va_S A s.heap s.heap [] := va_S.rf
  have hinX8 : ∀ w ∈ wsX80, w ∈ wsX8_keptCries := fun _ h => List.mem_cons_of_mem _ (List.mem_append_right _ (h))
  have hl := lv_entry ([.ref (ad 0)]) (n := 1) (Nat.le_of_ble_eq_true rfl)
  rw [lg_entry_eq]
  generalize (lg_sl ([.ref (ad 0)]) ++ List.replicate (1 - (lg_sl ([.ref (ad 0)])).length) Slot.unset).toArray = ls at hl ⊢
  have hl : lv_has ls 1 [(0, .ref (ad 0))] := hl
  have hP : va_P D vwCl (wM cI cZ ad σ) s.heap := hP
  refine lv_aload_n hx hb dX8_keptCries_0 rfl (lv_at hl 0 rfl) ?_
  refine va_get (D := D) (ci := 6) (C := RX8) (T := TX8) (N := 28) hx hb hts hinX8 hown hK hP 0 rfl rfl 11 (by decide) (hts _ (List.mem_of_getElem? (i := 1) rfl)) (fun _ h9 => h9) rfl dX8_keptCries_1 ?_
  refine lv_bipush (v := 20) hx hb dX8_keptCries_4 (by decide) ?_
  refine lv_icmp_ge (tgt := 16) hx hb dX8_keptCries_6 (by decide) (fun c9 => ?_) (fun c9 => ?_)
  · have hw := hw.1 c9
    refine lv_bipush (v := 20) hx hb dX8_keptCries_16 (by decide) ?_
    exact G_iret hx hb hr hlocks hw hP hK hD hS dX8_keptCries_18
  · have hw := hw.2 c9
    refine lv_aload_n hx hb dX8_keptCries_9 rfl (lv_at hl 0 rfl) ?_
    refine va_get (D := D) (ci := 6) (C := RX8) (T := TX8) (N := 28) hx hb hts hinX8 hown hK hP 0 rfl rfl 11 (by decide) (hts _ (List.mem_of_getElem? (i := 1) rfl)) (fun _ h9 => h9) rfl dX8_keptCries_10 ?_
    refine lv_goto (tgt := 18) hx hb dX8_keptCries_13 (by decide) ?_
    exact G_iret hx hb hr hlocks hw hP hK hD hS dX8_keptCries_18

def wl_X8_deadMany_4 (K : Int32 → St → Prop) : Nat → Int32 → Int32 → St → Prop
  | 0, _, _, _ => False
  | n + 1, v1, v2, σ => (((32 : Int32) ≤ v2 → K v1 σ) ∧ (¬ (32 : Int32) ≤ v2 → vp_in v2 32 ∧ (((σ.2.1 3 v2.toNatClampNeg) = 0 → ∀ x1 : Int32, x1 = v1 + (0 : Int32) → ∀ x2 : Int32, x2 = v2 + 1 → wl_X8_deadMany_4 K n x1 x2 σ) ∧ (¬ (σ.2.1 3 v2.toNatClampNeg) = 0 → ∀ x3 : Int32, x3 = v1 + (1 : Int32) → ∀ x4 : Int32, x4 = v2 + 1 → wl_X8_deadMany_4 K n x3 x4 σ))))
def wp_X8_deadMany (σ : St) (K : Int32 → St → Prop) : Prop :=
  (∃ nn : Nat, wl_X8_deadMany_4 K nn (0 : Int32) (0 : Int32) σ)
set_option maxHeartbeats 4000000 in
set_option maxRecDepth 100000 in
theorem c_X8_deadMany (l : Launch) (D : va_G) (cI cZ : ClassId) (ad : Nat → Nat) (A : Nat → Prop) (σ : St) (K : Int32 → St → Prop) (hw : wp_X8_deadMany σ K) : Met l yX8_deadMany wsX8_deadMany ({ frames := 0, cells := 0, slots := 0, locals := 0 }) (va_Pc [.ref (ad 0)] (GW D [(cI, FieldType.int), (cZ, FieldType.boolean)] (wM cI cZ ad) A σ)) (va_Qi K (GW D [(cI, FieldType.int), (cZ, FieldType.boolean)] (wM cI cZ ad) A) A) 0 0 A := by
  refine Met.ofW (cc := cX8_deadMany) (maxL := 3) (ret := (some .int)) (by decide) rfl ?_
  intro p e s m args below meth c s₁ B hml hv
  obtain ⟨rfl, hP, hK, hD⟩ := hv
  have hx := B.exec
  have hb := B.bytes
  have hr := B.returns
  have hts := atoms_spec (ws := wsX8_deadMany) B.pre
  have hown : s.vm.findClass RX8 = some m.cls := findClass_of_methodNamed B.named
  have hlocks := B.notSynchronized
  have hS : va_S A s.heap s.heap [] := va_S.rf
  have hinX8 : ∀ w ∈ wsX80, w ∈ wsX8_deadMany := fun _ h => List.mem_cons_of_mem _ (List.mem_append_right _ (h))
  have hwl_X8_deadMany_4 : ∀ (n : Nat) (v1 : Int32) (v2 : Int32) (σ : St), wl_X8_deadMany_4 K n v1 v2 σ → ∀ (H : Heap) (locs : List Loc), va_P D vwCl (wM cI cZ ad σ) H → va_D A (wM cI cZ ad σ) → va_S A s.heap H locs → ∀ ls : Array Slot, lv_has ls 3 [(0, .ref (ad 0)), (1, .int v1), (2, .int v2)] → W p l e (headSpec wsX8_deadMany ({ frames := 0, cells := 0, slots := 0, locals := 0 })).room s m ([.ref (ad 0)] : List Value).toArray below meth c H locs 0 0 (MQ below (va_Qi K (GW D [(cI, FieldType.int), (cZ, FieldType.boolean)] (wM cI cZ ad) A) A) ([.ref (ad 0)] : List Value).toArray s 0 0 A) (F0 m 4 ls []) := by
    intro n
    induction n with
    | zero => intro v1 v2 σ hw; exact hw.elim
    | succ n ih =>
      intro v1 v2 σ hw H locs hP hD hS ls hl
      refine lv_iload_n hx hb dX8_deadMany_4 rfl (lv_at hl 2 rfl) ?_
      refine lv_bipush (v := 32) hx hb dX8_deadMany_5 (by decide) ?_
      refine lv_icmp_ge (tgt := 33) hx hb dX8_deadMany_7 (by decide) (fun c9 => ?_) (fun c9 => ?_)
      · have hw := hw.1 c9
        refine lv_iload_n hx hb dX8_deadMany_33 rfl (lv_at hl 1 rfl) ?_
        exact G_iret hx hb hr hlocks hw hP hK hD hS dX8_deadMany_34
      · have hw := hw.2 c9
        refine lv_iload_n hx hb dX8_deadMany_10 rfl (lv_at hl 1 rfl) ?_
        refine lv_aload_n hx hb dX8_deadMany_11 rfl (lv_at hl 0 rfl) ?_
        refine va_get (D := D) (ci := 6) (C := RX8) (T := TX8) (N := 28) hx hb hts hinX8 hown hK hP 0 rfl rfl 3 (by decide) (hts _ (List.mem_of_getElem? (i := 1) rfl)) (fun _ h9 => h9) rfl dX8_deadMany_12 ?_
        refine lv_iload_n hx hb dX8_deadMany_15 rfl (lv_at hl 2 rfl) ?_
        refine va_zald (D := D) hx hb hK hP 4 1 rfl rfl hw.1 dX8_deadMany_16 ?_
        have hw := hw.2
        refine lv_if_eq (tgt := 24) hx hb dX8_deadMany_17 (by decide) (fun c9 => ?_) (fun c9 => ?_)
        · have hw := hw.1 c9
          refine lv_iconst (v := 0) hx hb dX8_deadMany_24 (by decide) ?_
          refine lv_iadd hx hb dX8_deadMany_25 ?_
          refine lv_topi (fun x1 ex1 => ?_)
          have hw := hw x1 ex1
          refine lv_istore_n (lv' := [(1, .int x1), (0, .ref (ad 0)), (2, .int v2)]) hx hb dX8_deadMany_26 rfl hl (by decide) rfl (fun ls hl => ?_)
          obtain ⟨x2, ex2⟩ : ∃ y : Int32, y = v2 + 1 := ⟨_, rfl⟩
          have hw := hw x2 ex2
          refine lv_iinc (v := x2) (lv' := [(2, .int x2), (1, .int x1), (0, .ref (ad 0))]) hx hb dX8_deadMany_27 hl (k := 2) rfl (by rw [ex2]; rfl) (by decide) rfl (fun ls hl => ?_)
          refine lv_goto (tgt := 4) hx hb dX8_deadMany_30 (by decide) ?_
          exact ih x1 x2 σ hw _ _ hP hD hS ls (lv_sub hl [2, 1, 0] rfl)
        · have hw := hw.2 c9
          refine lv_iconst (v := 1) hx hb dX8_deadMany_20 (by decide) ?_
          refine lv_goto (tgt := 25) hx hb dX8_deadMany_21 (by decide) ?_
          refine lv_iadd hx hb dX8_deadMany_25 ?_
          refine lv_topi (fun x3 ex3 => ?_)
          have hw := hw x3 ex3
          refine lv_istore_n (lv' := [(1, .int x3), (0, .ref (ad 0)), (2, .int v2)]) hx hb dX8_deadMany_26 rfl hl (by decide) rfl (fun ls hl => ?_)
          obtain ⟨x4, ex4⟩ : ∃ y : Int32, y = v2 + 1 := ⟨_, rfl⟩
          have hw := hw x4 ex4
          refine lv_iinc (v := x4) (lv' := [(2, .int x4), (1, .int x3), (0, .ref (ad 0))]) hx hb dX8_deadMany_27 hl (k := 2) rfl (by rw [ex4]; rfl) (by decide) rfl (fun ls hl => ?_)
          refine lv_goto (tgt := 4) hx hb dX8_deadMany_30 (by decide) ?_
          exact ih x3 x4 σ hw _ _ hP hD hS ls (lv_sub hl [2, 1, 0] rfl)
  have hl := lv_entry ([.ref (ad 0)]) (n := 3) (Nat.le_of_ble_eq_true rfl)
  rw [lg_entry_eq]
  generalize (lg_sl ([.ref (ad 0)]) ++ List.replicate (3 - (lg_sl ([.ref (ad 0)])).length) Slot.unset).toArray = ls at hl ⊢
  have hl : lv_has ls 3 [(0, .ref (ad 0))] := hl
  have hP : va_P D vwCl (wM cI cZ ad σ) s.heap := hP
  refine lv_iconst (v := 0) hx hb dX8_deadMany_0 (by decide) ?_
  refine lv_istore_n (lv' := [(1, .int (0 : Int32)), (0, .ref (ad 0))]) hx hb dX8_deadMany_1 rfl hl (by decide) rfl (fun ls hl => ?_)
  refine lv_iconst (v := 0) hx hb dX8_deadMany_2 (by decide) ?_
  refine lv_istore_n (lv' := [(2, .int (0 : Int32)), (1, .int (0 : Int32)), (0, .ref (ad 0))]) hx hb dX8_deadMany_3 rfl hl (by decide) rfl (fun ls hl => ?_)
  obtain ⟨nn, hw⟩ := hw
  exact hwl_X8_deadMany_4 nn (0 : Int32) (0 : Int32) σ hw _ _ hP hD hS ls (lv_sub hl [2, 1, 0] rfl)

def wl_X8_unknownBits_5 (K : Int32 → St → Prop) : Nat → Int32 → Int32 → Int32 → Int32 → St → Prop
  | 0, _, _, _, _, _ => False
  | n + 1, v1, v2, v3, v4, σ => (((v1 + v2) ≤ v4 → K v3 σ) ∧ (¬ (v1 + v2) ≤ v4 → vp_in v4 40 ∧ wp_X8_bits (σ.2.1 1 v4.toNatClampNeg) (fun x1 => ∀ x2 : Int32, x2 = v3 + x1 → ∀ x3 : Int32, x3 = v4 + 1 → wl_X8_unknownBits_5 K n v1 v2 x2 x3 σ)))
def wp_X8_unknownBits (σ : St) (a1 : Int32) (a2 : Int32) (K : Int32 → St → Prop) : Prop :=
  (∃ nn : Nat, wl_X8_unknownBits_5 K nn a1 a2 (0 : Int32) a1 σ)
set_option maxHeartbeats 4000000 in
set_option maxRecDepth 100000 in
theorem c_X8_unknownBits (l : Launch) (D : va_G) (cI cZ : ClassId) (ad : Nat → Nat) (A : Nat → Prop) (σ : St) (a1 : Int32) (a2 : Int32) (K : Int32 → St → Prop) (hw : wp_X8_unknownBits σ a1 a2 K) : Met l yX8_unknownBits wsX8_unknownBits ({ frames := 1, cells := 0, slots := 0, locals := 22 }) (va_Pc [.ref (ad 0), .int a1, .int a2] (GW D [(cI, FieldType.int), (cZ, FieldType.boolean)] (wM cI cZ ad) A σ)) (va_Qi K (GW D [(cI, FieldType.int), (cZ, FieldType.boolean)] (wM cI cZ ad) A) A) 0 0 A := by
  refine Met.ofW (cc := cX8_unknownBits) (maxL := 5) (ret := (some .int)) (by decide) rfl ?_
  intro p e s m args below meth c s₁ B hml hv
  obtain ⟨rfl, hP, hK, hD⟩ := hv
  have hx := B.exec
  have hb := B.bytes
  have hr := B.returns
  have hts := atoms_spec (ws := wsX8_unknownBits) B.pre
  have hown : s.vm.findClass RX8 = some m.cls := findClass_of_methodNamed B.named
  have hlocks := B.notSynchronized
  have hS : va_S A s.heap s.heap [] := va_S.rf
  have hinX8 : ∀ w ∈ wsX80, w ∈ wsX8_unknownBits := fun _ h => List.mem_cons_of_mem _ (List.mem_append_right _ (h))
  have hwl_X8_unknownBits_5 : ∀ (n : Nat) (v1 : Int32) (v2 : Int32) (v3 : Int32) (v4 : Int32) (σ : St), wl_X8_unknownBits_5 K n v1 v2 v3 v4 σ → ∀ (H : Heap) (locs : List Loc), va_P D vwCl (wM cI cZ ad σ) H → va_D A (wM cI cZ ad σ) → va_S A s.heap H locs → ∀ ls : Array Slot, lv_has ls 5 [(0, .ref (ad 0)), (1, .int v1), (2, .int v2), (3, .int v3), (4, .int v4)] → W p l e (headSpec wsX8_unknownBits ({ frames := 1, cells := 0, slots := 0, locals := 22 })).room s m ([.ref (ad 0), .int a1, .int a2] : List Value).toArray below meth c H locs 0 0 (MQ below (va_Qi K (GW D [(cI, FieldType.int), (cZ, FieldType.boolean)] (wM cI cZ ad) A) A) ([.ref (ad 0), .int a1, .int a2] : List Value).toArray s 0 0 A) (F0 m 5 ls []) := by
    intro n
    induction n with
    | zero => intro v1 v2 v3 v4 σ hw; exact hw.elim
    | succ n ih =>
      intro v1 v2 v3 v4 σ hw H locs hP hD hS ls hl
      refine lv_iload hx hb dX8_unknownBits_5 (lv_at hl 4 rfl) ?_
      refine lv_iload_n hx hb dX8_unknownBits_7 rfl (lv_at hl 1 rfl) ?_
      refine lv_iload_n hx hb dX8_unknownBits_8 rfl (lv_at hl 2 rfl) ?_
      refine lv_iadd hx hb dX8_unknownBits_9 ?_
      refine lv_icmp_ge (tgt := 32) hx hb dX8_unknownBits_10 (by decide) (fun c9 => ?_) (fun c9 => ?_)
      · have hw := hw.1 c9
        refine lv_iload_n hx hb dX8_unknownBits_32 rfl (lv_at hl 3 rfl) ?_
        exact G_iret hx hb hr hlocks hw hP hK hD hS dX8_unknownBits_33
      · have hw := hw.2 c9
        refine lv_iload_n hx hb dX8_unknownBits_13 rfl (lv_at hl 3 rfl) ?_
        refine lv_aload_n hx hb dX8_unknownBits_14 rfl (lv_at hl 0 rfl) ?_
        refine va_get (D := D) (ci := 6) (C := RX8) (T := TX8) (N := 28) hx hb hts hinX8 hown hK hP 0 rfl rfl 1 (by decide) (hts _ (List.mem_of_getElem? (i := 1) rfl)) (fun _ h9 => h9) rfl dX8_unknownBits_15 ?_
        refine lv_iload hx hb dX8_unknownBits_18 (lv_at hl 4 rfl) ?_
        refine va_iald (D := D) hx hb hK hP 2 0 rfl rfl hw.1 dX8_unknownBits_20 ?_
        have hw := hw.2
        refine S_calli (As := [.int (σ.2.1 1 v4.toNatClampNeg)]) (rest := [.int v3]) ⟨hx, hb, hml, hown, hts⟩ (c_X8_bits l (σ.2.1 1 v4.toNatClampNeg) _ hw) (va_cwS 1 hts gX8_unknownBits_X8_bits rfl rfl rfl (by decide +kernel) ⟨Nat.le_of_ble_eq_true rfl, Nat.le_of_ble_eq_true rfl⟩) rfl hl.1 rfl (Nat.le_of_ble_eq_true rfl) dX8_unknownBits_21 ⟨Nat.zero_le _, Nat.zero_le _⟩ (fun x1 hw => ?_)
        refine lv_iadd hx hb dX8_unknownBits_24 ?_
        refine lv_topi (fun x2 ex2 => ?_)
        have hw := hw x2 ex2
        refine lv_istore_n (lv' := [(3, .int x2), (0, .ref (ad 0)), (1, .int v1), (2, .int v2), (4, .int v4)]) hx hb dX8_unknownBits_25 rfl hl (by decide) rfl (fun ls hl => ?_)
        obtain ⟨x3, ex3⟩ : ∃ y : Int32, y = v4 + 1 := ⟨_, rfl⟩
        have hw := hw x3 ex3
        refine lv_iinc (v := x3) (lv' := [(4, .int x3), (3, .int x2), (0, .ref (ad 0)), (1, .int v1), (2, .int v2)]) hx hb dX8_unknownBits_26 hl (k := 4) rfl (by rw [ex3]; rfl) (by decide) rfl (fun ls hl => ?_)
        refine lv_goto (tgt := 5) hx hb dX8_unknownBits_29 (by decide) ?_
        exact ih v1 v2 x2 x3 σ hw _ _ hP hD hS ls (lv_sub hl [2, 3, 4, 1, 0] rfl)
  have hl := lv_entry ([.ref (ad 0), .int a1, .int a2]) (n := 5) (Nat.le_of_ble_eq_true rfl)
  rw [lg_entry_eq]
  generalize (lg_sl ([.ref (ad 0), .int a1, .int a2]) ++ List.replicate (5 - (lg_sl ([.ref (ad 0), .int a1, .int a2])).length) Slot.unset).toArray = ls at hl ⊢
  have hl : lv_has ls 5 [(0, .ref (ad 0)), (1, .int a1), (2, .int a2)] := hl
  have hP : va_P D vwCl (wM cI cZ ad σ) s.heap := hP
  refine lv_iconst (v := 0) hx hb dX8_unknownBits_0 (by decide) ?_
  refine lv_istore_n (lv' := [(3, .int (0 : Int32)), (0, .ref (ad 0)), (1, .int a1), (2, .int a2)]) hx hb dX8_unknownBits_1 rfl hl (by decide) rfl (fun ls hl => ?_)
  refine lv_iload_n hx hb dX8_unknownBits_2 rfl (lv_at hl 2 rfl) ?_
  refine lv_istore (lv' := [(4, .int a1), (3, .int (0 : Int32)), (0, .ref (ad 0)), (1, .int a1), (2, .int a2)]) hx hb dX8_unknownBits_3 hl (by decide) rfl (fun ls hl => ?_)
  obtain ⟨nn, hw⟩ := hw
  exact hwl_X8_unknownBits_5 nn a1 a2 (0 : Int32) a1 σ hw _ _ hP hD hS ls (lv_sub hl [2, 3, 4, 1, 0] rfl)

def wp_X8_told (σ : St) (a1 : Int32) (K : Int32 → St → Prop) : Prop :=
  ((a1 = (0 : Int32) → K (σ.1 2) σ) ∧ (¬ a1 = (0 : Int32) → ((a1 = (1 : Int32) → K (σ.1 3) σ) ∧ (¬ a1 = (1 : Int32) → ((a1 = (2 : Int32) → wp_X8_keptCries σ (fun x2 σ1 => K x2 σ1)) ∧ (¬ a1 = (2 : Int32) → ((a1 = (3 : Int32) → K (σ.1 4) σ) ∧ (¬ a1 = (3 : Int32) → ((a1 = (4 : Int32) → K (σ.1 0) σ) ∧ (¬ a1 = (4 : Int32) → ((a1 = (5 : Int32) → wp_X8_letOnes σ (fun x4 σ3 => K x4 σ3)) ∧ (¬ a1 = (5 : Int32) → ((a1 = (6 : Int32) → wp_X8_deadMany σ (fun x6 σ5 => K x6 σ5)) ∧ (¬ a1 = (6 : Int32) → ((a1 = (7 : Int32) → K (σ.1 5) σ) ∧ (¬ a1 = (7 : Int32) → ((a1 = (8 : Int32) → wp_X8_unknownBits σ (0 : Int32) (8 : Int32) (fun x8 σ7 => K x8 σ7)) ∧ (¬ a1 = (8 : Int32) → ((a1 = (9 : Int32) → wp_X8_unknownBits σ (8 : Int32) (32 : Int32) (fun x10 σ9 => K x10 σ9)) ∧ (¬ a1 = (9 : Int32) → ((a1 = (10 : Int32) → K (σ.1 1) σ) ∧ (¬ a1 = (10 : Int32) → ((a1 = (11 : Int32) → K (σ.1 6) σ) ∧ (¬ a1 = (11 : Int32) → K (-1000000002 : Int32) σ))))))))))))))))))))))))
set_option maxHeartbeats 4000000 in
set_option maxRecDepth 100000 in
theorem c_X8_told (l : Launch) (D : va_G) (cI cZ : ClassId) (ad : Nat → Nat) (A : Nat → Prop) (σ : St) (a1 : Int32) (K : Int32 → St → Prop) (hw : wp_X8_told σ a1 K) : Met l yX8_told wsX8_told ({ frames := 2, cells := 0, slots := 0, locals := 46 }) (va_Pc [.ref (ad 0), .int a1] (GW D [(cI, FieldType.int), (cZ, FieldType.boolean)] (wM cI cZ ad) A σ)) (va_Qi K (GW D [(cI, FieldType.int), (cZ, FieldType.boolean)] (wM cI cZ ad) A) A) 0 0 A := by
  refine Met.ofW (cc := cX8_told) (maxL := 2) (ret := (some .int)) (by decide) rfl ?_
  intro p e s m args below meth c s₁ B hml hv
  obtain ⟨rfl, hP, hK, hD⟩ := hv
  have hx := B.exec
  have hb := B.bytes
  have hr := B.returns
  have hts := atoms_spec (ws := wsX8_told) B.pre
  have hown : s.vm.findClass RX8 = some m.cls := findClass_of_methodNamed B.named
  have hlocks := B.notSynchronized
  have hS : va_S A s.heap s.heap [] := va_S.rf
  have hinX8 : ∀ w ∈ wsX80, w ∈ wsX8_told := fun _ h => List.mem_cons_of_mem _ (List.mem_append_right _ (h))
  have hl := lv_entry ([.ref (ad 0), .int a1]) (n := 2) (Nat.le_of_ble_eq_true rfl)
  rw [lg_entry_eq]
  generalize (lg_sl ([.ref (ad 0), .int a1]) ++ List.replicate (2 - (lg_sl ([.ref (ad 0), .int a1])).length) Slot.unset).toArray = ls at hl ⊢
  have hl : lv_has ls 2 [(0, .ref (ad 0)), (1, .int a1)] := hl
  have hP : va_P D vwCl (wM cI cZ ad σ) s.heap := hP
  refine lv_iload_n hx hb dX8_told_0 rfl (lv_at hl 1 rfl) ?_
  by_cases q0 : a1 = (0 : Int32)
  · have hw := hw.1 q0
    refine lv_tableIn (off := 63) (tgt := 64) hx hb dX8_told_1 (by rw [q0]; decide) (by rw [q0]; decide) (by rw [q0]; rfl) (by decide) ?_
    refine lv_aload_n hx hb dX8_told_64 rfl (lv_at hl 0 rfl) ?_
    refine va_get (D := D) (ci := 6) (C := RX8) (T := TX8) (N := 28) hx hb hts hinX8 hown hK hP 0 rfl rfl 10 (by decide) (hts _ (List.mem_of_getElem? (i := 1) rfl)) (fun _ h9 => h9) rfl dX8_told_65 ?_
    exact G_iret hx hb hr hlocks hw hP hK hD hS dX8_told_68
  · have hw := hw.2 q0
    by_cases q1 : a1 = (1 : Int32)
    · have hw := hw.1 q1
      refine lv_tableIn (off := 68) (tgt := 69) hx hb dX8_told_1 (by rw [q1]; decide) (by rw [q1]; decide) (by rw [q1]; rfl) (by decide) ?_
      refine lv_aload_n hx hb dX8_told_69 rfl (lv_at hl 0 rfl) ?_
      refine va_get (D := D) (ci := 6) (C := RX8) (T := TX8) (N := 28) hx hb hts hinX8 hown hK hP 0 rfl rfl 11 (by decide) (hts _ (List.mem_of_getElem? (i := 2) rfl)) (fun _ h9 => h9) rfl dX8_told_70 ?_
      exact G_iret hx hb hr hlocks hw hP hK hD hS dX8_told_73
    · have hw := hw.2 q1
      by_cases q2 : a1 = (2 : Int32)
      · have hw := hw.1 q2
        refine lv_tableIn (off := 73) (tgt := 74) hx hb dX8_told_1 (by rw [q2]; decide) (by rw [q2]; decide) (by rw [q2]; rfl) (by decide) ?_
        refine lv_aload_n hx hb dX8_told_74 rfl (lv_at hl 0 rfl) ?_
        refine G_calli (As := []) (rest := []) ⟨hx, hb, hml, hown, hts⟩ hK hP hD hS 0 6 rfl rfl (c_X8_keptCries l D cI cZ ad A σ _ hw) (cwV 0 hts gX8_told_X8_keptCries rfl rfl rfl (by decide +kernel) ⟨Nat.le_of_ble_eq_true rfl, Nat.le_of_ble_eq_true rfl⟩) rfl hl.1 rfl (Nat.le_of_ble_eq_true rfl) dX8_told_75 ⟨Nat.zero_le _, Nat.zero_le _⟩ (fun x2 σ1 hw H locs hP hD hS => ?_)
        exact G_iret hx hb hr hlocks hw hP hK hD hS dX8_told_78
      · have hw := hw.2 q2
        by_cases q3 : a1 = (3 : Int32)
        · have hw := hw.1 q3
          refine lv_tableIn (off := 78) (tgt := 79) hx hb dX8_told_1 (by rw [q3]; decide) (by rw [q3]; decide) (by rw [q3]; rfl) (by decide) ?_
          refine lv_aload_n hx hb dX8_told_79 rfl (lv_at hl 0 rfl) ?_
          refine va_get (D := D) (ci := 6) (C := RX8) (T := TX8) (N := 28) hx hb hts hinX8 hown hK hP 0 rfl rfl 15 (by decide) (hts _ (List.mem_of_getElem? (i := 3) rfl)) (fun _ h9 => h9) rfl dX8_told_80 ?_
          exact G_iret hx hb hr hlocks hw hP hK hD hS dX8_told_83
        · have hw := hw.2 q3
          by_cases q4 : a1 = (4 : Int32)
          · have hw := hw.1 q4
            refine lv_tableIn (off := 83) (tgt := 84) hx hb dX8_told_1 (by rw [q4]; decide) (by rw [q4]; decide) (by rw [q4]; rfl) (by decide) ?_
            refine lv_aload_n hx hb dX8_told_84 rfl (lv_at hl 0 rfl) ?_
            refine va_get (D := D) (ci := 6) (C := RX8) (T := TX8) (N := 28) hx hb hts hinX8 hown hK hP 0 rfl rfl 5 (by decide) (hts _ (List.mem_of_getElem? (i := 4) rfl)) (fun _ h9 => h9) rfl dX8_told_85 ?_
            exact G_iret hx hb hr hlocks hw hP hK hD hS dX8_told_88
          · have hw := hw.2 q4
            by_cases q5 : a1 = (5 : Int32)
            · have hw := hw.1 q5
              refine lv_tableIn (off := 88) (tgt := 89) hx hb dX8_told_1 (by rw [q5]; decide) (by rw [q5]; decide) (by rw [q5]; rfl) (by decide) ?_
              refine lv_aload_n hx hb dX8_told_89 rfl (lv_at hl 0 rfl) ?_
              refine G_calli (As := []) (rest := []) ⟨hx, hb, hml, hown, hts⟩ hK hP hD hS 0 6 rfl rfl (c_X8_letOnes l D cI cZ ad A σ _ hw) (cwV 0 hts gX8_told_X8_letOnes rfl rfl rfl (by decide +kernel) ⟨Nat.le_of_ble_eq_true rfl, Nat.le_of_ble_eq_true rfl⟩) rfl hl.1 rfl (Nat.le_of_ble_eq_true rfl) dX8_told_90 ⟨Nat.zero_le _, Nat.zero_le _⟩ (fun x4 σ3 hw H locs hP hD hS => ?_)
              exact G_iret hx hb hr hlocks hw hP hK hD hS dX8_told_93
            · have hw := hw.2 q5
              by_cases q6 : a1 = (6 : Int32)
              · have hw := hw.1 q6
                refine lv_tableIn (off := 93) (tgt := 94) hx hb dX8_told_1 (by rw [q6]; decide) (by rw [q6]; decide) (by rw [q6]; rfl) (by decide) ?_
                refine lv_aload_n hx hb dX8_told_94 rfl (lv_at hl 0 rfl) ?_
                refine G_calli (As := []) (rest := []) ⟨hx, hb, hml, hown, hts⟩ hK hP hD hS 0 6 rfl rfl (c_X8_deadMany l D cI cZ ad A σ _ hw) (cwV 0 hts gX8_told_X8_deadMany rfl rfl rfl (by decide +kernel) ⟨Nat.le_of_ble_eq_true rfl, Nat.le_of_ble_eq_true rfl⟩) rfl hl.1 rfl (Nat.le_of_ble_eq_true rfl) dX8_told_95 ⟨Nat.zero_le _, Nat.zero_le _⟩ (fun x6 σ5 hw H locs hP hD hS => ?_)
                exact G_iret hx hb hr hlocks hw hP hK hD hS dX8_told_98
              · have hw := hw.2 q6
                by_cases q7 : a1 = (7 : Int32)
                · have hw := hw.1 q7
                  refine lv_tableIn (off := 98) (tgt := 99) hx hb dX8_told_1 (by rw [q7]; decide) (by rw [q7]; decide) (by rw [q7]; rfl) (by decide) ?_
                  refine lv_aload_n hx hb dX8_told_99 rfl (lv_at hl 0 rfl) ?_
                  refine va_get (D := D) (ci := 6) (C := RX8) (T := TX8) (N := 28) hx hb hts hinX8 hown hK hP 0 rfl rfl 17 (by decide) (hts _ (List.mem_of_getElem? (i := 5) rfl)) (fun _ h9 => h9) rfl dX8_told_100 ?_
                  exact G_iret hx hb hr hlocks hw hP hK hD hS dX8_told_103
                · have hw := hw.2 q7
                  by_cases q8 : a1 = (8 : Int32)
                  · have hw := hw.1 q8
                    refine lv_tableIn (off := 103) (tgt := 104) hx hb dX8_told_1 (by rw [q8]; decide) (by rw [q8]; decide) (by rw [q8]; rfl) (by decide) ?_
                    refine lv_aload_n hx hb dX8_told_104 rfl (lv_at hl 0 rfl) ?_
                    refine lv_iconst (v := 0) hx hb dX8_told_105 (by decide) ?_
                    refine lv_bipush (v := 8) hx hb dX8_told_106 (by decide) ?_
                    refine G_calli (As := [.int (0 : Int32), .int (8 : Int32)]) (rest := []) ⟨hx, hb, hml, hown, hts⟩ hK hP hD hS 0 6 rfl rfl (c_X8_unknownBits l D cI cZ ad A σ (0 : Int32) (8 : Int32) _ hw) (cwV 2 hts gX8_told_X8_unknownBits rfl rfl rfl (by decide +kernel) ⟨Nat.le_of_ble_eq_true rfl, Nat.le_of_ble_eq_true rfl⟩) rfl hl.1 rfl (Nat.le_of_ble_eq_true rfl) dX8_told_108 ⟨Nat.zero_le _, Nat.zero_le _⟩ (fun x8 σ7 hw H locs hP hD hS => ?_)
                    exact G_iret hx hb hr hlocks hw hP hK hD hS dX8_told_111
                  · have hw := hw.2 q8
                    by_cases q9 : a1 = (9 : Int32)
                    · have hw := hw.1 q9
                      refine lv_tableIn (off := 111) (tgt := 112) hx hb dX8_told_1 (by rw [q9]; decide) (by rw [q9]; decide) (by rw [q9]; rfl) (by decide) ?_
                      refine lv_aload_n hx hb dX8_told_112 rfl (lv_at hl 0 rfl) ?_
                      refine lv_bipush (v := 8) hx hb dX8_told_113 (by decide) ?_
                      refine lv_bipush (v := 32) hx hb dX8_told_115 (by decide) ?_
                      refine G_calli (As := [.int (8 : Int32), .int (32 : Int32)]) (rest := []) ⟨hx, hb, hml, hown, hts⟩ hK hP hD hS 0 6 rfl rfl (c_X8_unknownBits l D cI cZ ad A σ (8 : Int32) (32 : Int32) _ hw) (cwV 2 hts gX8_told_X8_unknownBits rfl rfl rfl (by decide +kernel) ⟨Nat.le_of_ble_eq_true rfl, Nat.le_of_ble_eq_true rfl⟩) rfl hl.1 rfl (Nat.le_of_ble_eq_true rfl) dX8_told_117 ⟨Nat.zero_le _, Nat.zero_le _⟩ (fun x10 σ9 hw H locs hP hD hS => ?_)
                      exact G_iret hx hb hr hlocks hw hP hK hD hS dX8_told_120
                    · have hw := hw.2 q9
                      by_cases q10 : a1 = (10 : Int32)
                      · have hw := hw.1 q10
                        refine lv_tableIn (off := 120) (tgt := 121) hx hb dX8_told_1 (by rw [q10]; decide) (by rw [q10]; decide) (by rw [q10]; rfl) (by decide) ?_
                        refine lv_aload_n hx hb dX8_told_121 rfl (lv_at hl 0 rfl) ?_
                        refine va_get (D := D) (ci := 6) (C := RX8) (T := TX8) (N := 28) hx hb hts hinX8 hown hK hP 0 rfl rfl 9 (by decide) (hts _ (List.mem_of_getElem? (i := 6) rfl)) (fun _ h9 => h9) rfl dX8_told_122 ?_
                        exact G_iret hx hb hr hlocks hw hP hK hD hS dX8_told_125
                      · have hw := hw.2 q10
                        by_cases q11 : a1 = (11 : Int32)
                        · have hw := hw.1 q11
                          refine lv_tableIn (off := 125) (tgt := 126) hx hb dX8_told_1 (by rw [q11]; decide) (by rw [q11]; decide) (by rw [q11]; rfl) (by decide) ?_
                          refine lv_aload_n hx hb dX8_told_126 rfl (lv_at hl 0 rfl) ?_
                          refine va_get (D := D) (ci := 6) (C := RX8) (T := TX8) (N := 28) hx hb hts hinX8 hown hK hP 0 rfl rfl 21 (by decide) (hts _ (List.mem_of_getElem? (i := 7) rfl)) (fun _ h9 => h9) rfl dX8_told_127 ?_
                          exact G_iret hx hb hr hlocks hw hP hK hD hS dX8_told_130
                        · have hw := hw.2 q11
                          have r0 := lv_neT q0 (a := 0) (by decide)
                          have r1 := lv_neT q1 (a := 1) (by decide)
                          have r2 := lv_neT q2 (a := 2) (by decide)
                          have r3 := lv_neT q3 (a := 3) (by decide)
                          have r4 := lv_neT q4 (a := 4) (by decide)
                          have r5 := lv_neT q5 (a := 5) (by decide)
                          have r6 := lv_neT q6 (a := 6) (by decide)
                          have r7 := lv_neT q7 (a := 7) (by decide)
                          have r8 := lv_neT q8 (a := 8) (by decide)
                          have r9 := lv_neT q9 (a := 9) (by decide)
                          have r10 := lv_neT q10 (a := 10) (by decide)
                          have r11 := lv_neT q11 (a := 11) (by decide)
                          refine lv_tableOut (tgt := 131) hx hb dX8_told_1 (by omega) (by decide) ?_
                          refine lv_ldc (v := -1000000002) hx hb hown (hts _ (List.mem_of_getElem? (i := 8) rfl)) dX8_told_131 ?_
                          exact G_iret hx hb hr hlocks hw hP hK hD hS dX8_told_133

def wp_X8_mark (σ : St) (K : Int64 → St → Prop) : Prop :=
  K (σ.2.2) σ
set_option maxHeartbeats 4000000 in
set_option maxRecDepth 100000 in
theorem c_X8_mark (l : Launch) (D : va_G) (cI cZ : ClassId) (ad : Nat → Nat) (A : Nat → Prop) (σ : St) (K : Int64 → St → Prop) (hw : wp_X8_mark σ K) : Met l yX8_mark wsX8_mark ({ frames := 0, cells := 0, slots := 0, locals := 0 }) (va_Pc [.ref (ad 0)] (GW D [(cI, FieldType.int), (cZ, FieldType.boolean)] (wM cI cZ ad) A σ)) (va_Ql K (GW D [(cI, FieldType.int), (cZ, FieldType.boolean)] (wM cI cZ ad) A) A) 0 0 A := by
  refine Met.ofW (cc := cX8_mark) (maxL := 1) (ret := (some .long)) (by decide) rfl ?_
  intro p e s m args below meth c s₁ B hml hv
  obtain ⟨rfl, hP, hK, hD⟩ := hv
  have hx := B.exec
  have hb := B.bytes
  have hr := B.returns
  have hts := atoms_spec (ws := wsX8_mark) B.pre
  have hown : s.vm.findClass RX8 = some m.cls := findClass_of_methodNamed B.named
  have hlocks := B.notSynchronized
  have hS : va_S A s.heap s.heap [] := va_S.rf
  have hinX8 : ∀ w ∈ wsX80, w ∈ wsX8_mark := fun _ h => List.mem_cons_of_mem _ (List.mem_append_right _ (h))
  have hl := lv_entry ([.ref (ad 0)]) (n := 1) (Nat.le_of_ble_eq_true rfl)
  rw [lg_entry_eq]
  generalize (lg_sl ([.ref (ad 0)]) ++ List.replicate (1 - (lg_sl ([.ref (ad 0)])).length) Slot.unset).toArray = ls at hl ⊢
  have hl : lv_has ls 1 [(0, .ref (ad 0))] := hl
  have hP : va_P D vwCl (wM cI cZ ad σ) s.heap := hP
  refine lv_aload_n hx hb dX8_mark_0 rfl (lv_at hl 0 rfl) ?_
  refine va_get (D := D) (ci := 6) (C := RX8) (T := TX8) (N := 28) hx hb hts hinX8 hown hK hP 0 rfl rfl 16 (by decide) (hts _ (List.mem_of_getElem? (i := 1) rfl)) (fun _ h9 => h9) rfl dX8_mark_1 ?_
  exact G_lret hx hb hr hlocks hw hP hK hD hS dX8_mark_4
