def wp_X8_register (σ : St) (a1 : Int32) (a2 : Int32) (K : Int32 → St → Prop) : Prop :=
  wp_X8_isRegister a1 (fun x1 => ((¬ x1 = 0 → ((a2 = (0 : Int32) → vp_in a1 40 ∧ K (σ.2.1 0 a1.toNatClampNeg) σ) ∧ (¬ a2 = (0 : Int32) → ((a2 = (1 : Int32) → vp_in a1 40 ∧ K (σ.2.1 1 a1.toNatClampNeg) σ) ∧ (¬ a2 = (1 : Int32) → ((a2 = (2 : Int32) → vp_in a1 40 ∧ K (σ.2.1 2 a1.toNatClampNeg) σ) ∧ (¬ a2 = (2 : Int32) → ((a2 = (3 : Int32) → vp_in a1 40 ∧ vp_in a1 40 ∧ K ((σ.2.1 0 a1.toNatClampNeg) &&& ((σ.2.1 1 a1.toNatClampNeg) ^^^ (-1 : Int32))) σ) ∧ (¬ a2 = (3 : Int32) → ((a2 = (4 : Int32) → vp_in a1 40 ∧ vp_in a1 40 ∧ K ((σ.2.1 0 a1.toNatClampNeg) ||| (σ.2.1 1 a1.toNatClampNeg)) σ) ∧ (¬ a2 = (4 : Int32) → ((a2 = (5 : Int32) → vp_in a1 40 ∧ wp_X8_bits (σ.2.1 1 a1.toNatClampNeg) (fun x2 => K ((1 : Int32) <<< (x2 &&& 31)) σ)) ∧ (¬ a2 = (5 : Int32) → ((a2 = (6 : Int32) → wp_X8_isDecided σ a1 (fun x4 σ3 => ((x4 = 0 → K (0 : Int32) σ3) ∧ (¬ x4 = 0 → K (1 : Int32) σ3)))) ∧ (¬ a2 = (6 : Int32) → K (-1000000002 : Int32) σ))))))))))))))) ∧ (x1 = 0 → K (-1000000001 : Int32) σ)))
set_option maxHeartbeats 4000000 in
set_option maxRecDepth 100000 in
theorem c_X8_register (l : Launch) (D : va_G) (cI cZ : ClassId) (ad : Nat → Nat) (A : Nat → Prop) (σ : St) (a1 : Int32) (a2 : Int32) (K : Int32 → St → Prop) (hw : wp_X8_register σ a1 a2 K) : Met l yX8_register wsX8_register ({ frames := 2, cells := 0, slots := 0, locals := 45 }) (va_Pc [.ref (ad 0), .int a1, .int a2] (GW D [(cI, FieldType.int), (cZ, FieldType.boolean)] (wM cI cZ ad) A σ)) (va_Qi K (GW D [(cI, FieldType.int), (cZ, FieldType.boolean)] (wM cI cZ ad) A) A) 0 0 A := by
  refine Met.ofW (cc := cX8_register) (maxL := 3) (ret := (some .int)) (by decide) rfl ?_
  intro p e s m args below meth c s₁ B hml hv
  obtain ⟨rfl, hP, hK, hD⟩ := hv
  have hx := B.exec
  have hb := B.bytes
  have hr := B.returns
  have hts := atoms_spec (ws := wsX8_register) B.pre
  have hown : s.vm.findClass RX8 = some m.cls := findClass_of_methodNamed B.named
  have hlocks := B.notSynchronized
  have hS : va_S A s.heap s.heap [] := va_S.rf
  have hinX8 : ∀ w ∈ wsX80, w ∈ wsX8_register := fun _ h => List.mem_cons_of_mem _ (List.mem_append_right _ (h))
  have hl := lv_entry ([.ref (ad 0), .int a1, .int a2]) (n := 3) (Nat.le_of_ble_eq_true rfl)
  rw [lg_entry_eq]
  generalize (lg_sl ([.ref (ad 0), .int a1, .int a2]) ++ List.replicate (3 - (lg_sl ([.ref (ad 0), .int a1, .int a2])).length) Slot.unset).toArray = ls at hl ⊢
  have hl : lv_has ls 3 [(0, .ref (ad 0)), (1, .int a1), (2, .int a2)] := hl
  have hP : va_P D vwCl (wM cI cZ ad σ) s.heap := hP
  refine lv_iload_n hx hb dX8_register_0 rfl (lv_at hl 1 rfl) ?_
  refine S_calli (As := [.int a1]) (rest := []) ⟨hx, hb, hml, hown, hts⟩ (c_X8_isRegister l a1 _ hw) (va_cwS 1 hts gX8_register_X8_isRegister rfl rfl rfl (by decide +kernel) ⟨Nat.le_of_ble_eq_true rfl, Nat.le_of_ble_eq_true rfl⟩) rfl hl.1 rfl (Nat.le_of_ble_eq_true rfl) dX8_register_1 ⟨Nat.zero_le _, Nat.zero_le _⟩ (fun x1 hw => ?_)
  refine lv_if_ne (tgt := 10) hx hb dX8_register_4 (by decide) (fun c9 => ?_) (fun c9 => ?_)
  · have hw := hw.1 c9
    refine lv_iload_n hx hb dX8_register_10 rfl (lv_at hl 2 rfl) ?_
    by_cases q0 : a2 = (0 : Int32)
    · have hw := hw.1 q0
      refine lv_tableIn (off := 41) (tgt := 52) hx hb dX8_register_11 (by rw [q0]; decide) (by rw [q0]; decide) (by rw [q0]; rfl) (by decide) ?_
      refine lv_aload_n hx hb dX8_register_52 rfl (lv_at hl 0 rfl) ?_
      refine va_get (D := D) (ci := 6) (C := RX8) (T := TX8) (N := 28) hx hb hts hinX8 hown hK hP 0 rfl rfl 0 (by decide) (hts _ (List.mem_of_getElem? (i := 2) rfl)) (fun _ h9 => h9) rfl dX8_register_53 ?_
      refine lv_iload_n hx hb dX8_register_56 rfl (lv_at hl 1 rfl) ?_
      refine va_iald (D := D) hx hb hK hP 1 0 rfl rfl hw.1 dX8_register_57 ?_
      have hw := hw.2
      exact G_iret hx hb hr hlocks hw hP hK hD hS dX8_register_58
    · have hw := hw.2 q0
      by_cases q1 : a2 = (1 : Int32)
      · have hw := hw.1 q1
        refine lv_tableIn (off := 48) (tgt := 59) hx hb dX8_register_11 (by rw [q1]; decide) (by rw [q1]; decide) (by rw [q1]; rfl) (by decide) ?_
        refine lv_aload_n hx hb dX8_register_59 rfl (lv_at hl 0 rfl) ?_
        refine va_get (D := D) (ci := 6) (C := RX8) (T := TX8) (N := 28) hx hb hts hinX8 hown hK hP 0 rfl rfl 1 (by decide) (hts _ (List.mem_of_getElem? (i := 3) rfl)) (fun _ h9 => h9) rfl dX8_register_60 ?_
        refine lv_iload_n hx hb dX8_register_63 rfl (lv_at hl 1 rfl) ?_
        refine va_iald (D := D) hx hb hK hP 2 0 rfl rfl hw.1 dX8_register_64 ?_
        have hw := hw.2
        exact G_iret hx hb hr hlocks hw hP hK hD hS dX8_register_65
      · have hw := hw.2 q1
        by_cases q2 : a2 = (2 : Int32)
        · have hw := hw.1 q2
          refine lv_tableIn (off := 55) (tgt := 66) hx hb dX8_register_11 (by rw [q2]; decide) (by rw [q2]; decide) (by rw [q2]; rfl) (by decide) ?_
          refine lv_aload_n hx hb dX8_register_66 rfl (lv_at hl 0 rfl) ?_
          refine va_get (D := D) (ci := 6) (C := RX8) (T := TX8) (N := 28) hx hb hts hinX8 hown hK hP 0 rfl rfl 2 (by decide) (hts _ (List.mem_of_getElem? (i := 4) rfl)) (fun _ h9 => h9) rfl dX8_register_67 ?_
          refine lv_iload_n hx hb dX8_register_70 rfl (lv_at hl 1 rfl) ?_
          refine va_iald (D := D) hx hb hK hP 3 0 rfl rfl hw.1 dX8_register_71 ?_
          have hw := hw.2
          exact G_iret hx hb hr hlocks hw hP hK hD hS dX8_register_72
        · have hw := hw.2 q2
          by_cases q3 : a2 = (3 : Int32)
          · have hw := hw.1 q3
            refine lv_tableIn (off := 62) (tgt := 73) hx hb dX8_register_11 (by rw [q3]; decide) (by rw [q3]; decide) (by rw [q3]; rfl) (by decide) ?_
            refine lv_aload_n hx hb dX8_register_73 rfl (lv_at hl 0 rfl) ?_
            refine va_get (D := D) (ci := 6) (C := RX8) (T := TX8) (N := 28) hx hb hts hinX8 hown hK hP 0 rfl rfl 0 (by decide) (hts _ (List.mem_of_getElem? (i := 2) rfl)) (fun _ h9 => h9) rfl dX8_register_74 ?_
            refine lv_iload_n hx hb dX8_register_77 rfl (lv_at hl 1 rfl) ?_
            refine va_iald (D := D) hx hb hK hP 1 0 rfl rfl hw.1 dX8_register_78 ?_
            have hw := hw.2
            refine lv_aload_n hx hb dX8_register_79 rfl (lv_at hl 0 rfl) ?_
            refine va_get (D := D) (ci := 6) (C := RX8) (T := TX8) (N := 28) hx hb hts hinX8 hown hK hP 0 rfl rfl 1 (by decide) (hts _ (List.mem_of_getElem? (i := 3) rfl)) (fun _ h9 => h9) rfl dX8_register_80 ?_
            refine lv_iload_n hx hb dX8_register_83 rfl (lv_at hl 1 rfl) ?_
            refine va_iald (D := D) hx hb hK hP 2 0 rfl rfl hw.1 dX8_register_84 ?_
            have hw := hw.2
            refine lv_iconst (v := -1) hx hb dX8_register_85 (by decide) ?_
            refine lv_ixor hx hb dX8_register_86 ?_
            refine lv_iand hx hb dX8_register_87 ?_
            exact G_iret hx hb hr hlocks hw hP hK hD hS dX8_register_88
          · have hw := hw.2 q3
            by_cases q4 : a2 = (4 : Int32)
            · have hw := hw.1 q4
              refine lv_tableIn (off := 78) (tgt := 89) hx hb dX8_register_11 (by rw [q4]; decide) (by rw [q4]; decide) (by rw [q4]; rfl) (by decide) ?_
              refine lv_aload_n hx hb dX8_register_89 rfl (lv_at hl 0 rfl) ?_
              refine va_get (D := D) (ci := 6) (C := RX8) (T := TX8) (N := 28) hx hb hts hinX8 hown hK hP 0 rfl rfl 0 (by decide) (hts _ (List.mem_of_getElem? (i := 2) rfl)) (fun _ h9 => h9) rfl dX8_register_90 ?_
              refine lv_iload_n hx hb dX8_register_93 rfl (lv_at hl 1 rfl) ?_
              refine va_iald (D := D) hx hb hK hP 1 0 rfl rfl hw.1 dX8_register_94 ?_
              have hw := hw.2
              refine lv_aload_n hx hb dX8_register_95 rfl (lv_at hl 0 rfl) ?_
              refine va_get (D := D) (ci := 6) (C := RX8) (T := TX8) (N := 28) hx hb hts hinX8 hown hK hP 0 rfl rfl 1 (by decide) (hts _ (List.mem_of_getElem? (i := 3) rfl)) (fun _ h9 => h9) rfl dX8_register_96 ?_
              refine lv_iload_n hx hb dX8_register_99 rfl (lv_at hl 1 rfl) ?_
              refine va_iald (D := D) hx hb hK hP 2 0 rfl rfl hw.1 dX8_register_100 ?_
              have hw := hw.2
              refine lv_ior hx hb dX8_register_101 ?_
              exact G_iret hx hb hr hlocks hw hP hK hD hS dX8_register_102
            · have hw := hw.2 q4
              by_cases q5 : a2 = (5 : Int32)
              · have hw := hw.1 q5
                refine lv_tableIn (off := 92) (tgt := 103) hx hb dX8_register_11 (by rw [q5]; decide) (by rw [q5]; decide) (by rw [q5]; rfl) (by decide) ?_
                refine lv_iconst (v := 1) hx hb dX8_register_103 (by decide) ?_
                refine lv_aload_n hx hb dX8_register_104 rfl (lv_at hl 0 rfl) ?_
                refine va_get (D := D) (ci := 6) (C := RX8) (T := TX8) (N := 28) hx hb hts hinX8 hown hK hP 0 rfl rfl 1 (by decide) (hts _ (List.mem_of_getElem? (i := 3) rfl)) (fun _ h9 => h9) rfl dX8_register_105 ?_
                refine lv_iload_n hx hb dX8_register_108 rfl (lv_at hl 1 rfl) ?_
                refine va_iald (D := D) hx hb hK hP 2 0 rfl rfl hw.1 dX8_register_109 ?_
                have hw := hw.2
                refine S_calli (As := [.int (σ.2.1 1 a1.toNatClampNeg)]) (rest := [.int (1 : Int32)]) ⟨hx, hb, hml, hown, hts⟩ (c_X8_bits l (σ.2.1 1 a1.toNatClampNeg) _ hw) (va_cwS 1 hts gX8_register_X8_bits rfl rfl rfl (by decide +kernel) ⟨Nat.le_of_ble_eq_true rfl, Nat.le_of_ble_eq_true rfl⟩) rfl hl.1 rfl (Nat.le_of_ble_eq_true rfl) dX8_register_110 ⟨Nat.zero_le _, Nat.zero_le _⟩ (fun x2 hw => ?_)
                refine lv_ishl hx hb dX8_register_113 ?_
                exact G_iret hx hb hr hlocks hw hP hK hD hS dX8_register_114
              · have hw := hw.2 q5
                by_cases q6 : a2 = (6 : Int32)
                · have hw := hw.1 q6
                  refine lv_tableIn (off := 104) (tgt := 115) hx hb dX8_register_11 (by rw [q6]; decide) (by rw [q6]; decide) (by rw [q6]; rfl) (by decide) ?_
                  refine lv_aload_n hx hb dX8_register_115 rfl (lv_at hl 0 rfl) ?_
                  refine lv_iload_n hx hb dX8_register_116 rfl (lv_at hl 1 rfl) ?_
                  refine G_calli (As := [.int a1]) (rest := []) ⟨hx, hb, hml, hown, hts⟩ hK hP hD hS 0 6 rfl rfl (c_X8_isDecided l D cI cZ ad A σ a1 _ hw) (cwV 1 hts gX8_register_X8_isDecided rfl rfl rfl (by decide +kernel) ⟨Nat.le_of_ble_eq_true rfl, Nat.le_of_ble_eq_true rfl⟩) rfl hl.1 rfl (Nat.le_of_ble_eq_true rfl) dX8_register_117 ⟨Nat.zero_le _, Nat.zero_le _⟩ (fun x4 σ3 hw H locs hP hD hS => ?_)
                  refine lv_if_eq (tgt := 127) hx hb dX8_register_120 (by decide) (fun c9 => ?_) (fun c9 => ?_)
                  · have hw := hw.1 c9
                    refine lv_iconst (v := 0) hx hb dX8_register_127 (by decide) ?_
                    exact G_iret hx hb hr hlocks hw hP hK hD hS dX8_register_128
                  · have hw := hw.2 c9
                    refine lv_iconst (v := 1) hx hb dX8_register_123 (by decide) ?_
                    refine lv_goto (tgt := 128) hx hb dX8_register_124 (by decide) ?_
                    exact G_iret hx hb hr hlocks hw hP hK hD hS dX8_register_128
                · have hw := hw.2 q6
                  have r0 := lv_neT q0 (a := 0) (by decide)
                  have r1 := lv_neT q1 (a := 1) (by decide)
                  have r2 := lv_neT q2 (a := 2) (by decide)
                  have r3 := lv_neT q3 (a := 3) (by decide)
                  have r4 := lv_neT q4 (a := 4) (by decide)
                  have r5 := lv_neT q5 (a := 5) (by decide)
                  have r6 := lv_neT q6 (a := 6) (by decide)
                  refine lv_tableOut (tgt := 129) hx hb dX8_register_11 (by omega) (by decide) ?_
                  refine lv_ldc (v := -1000000002) hx hb hown (hts _ (List.mem_of_getElem? (i := 5) rfl)) dX8_register_129 ?_
                  exact G_iret hx hb hr hlocks hw hP hK hD hS dX8_register_131
  · have hw := hw.2 c9
    refine lv_ldc (v := -1000000001) hx hb hown (hts _ (List.mem_of_getElem? (i := 1) rfl)) dX8_register_7 ?_
    exact G_iret hx hb hr hlocks hw hP hK hD hS dX8_register_9

def wp_X8_octet (σ : St) (a1 : Int32) (a2 : Int32) (K : Int32 → St → Prop) : Prop :=
  wp_X8_isOctet a1 (fun x1 => ((¬ x1 = 0 → ((a2 = (0 : Int32) → vp_in ((8 : Int32) + a1) 40 ∧ K (σ.2.1 0 ((8 : Int32) + a1).toNatClampNeg) σ) ∧ (¬ a2 = (0 : Int32) → ((a2 = (1 : Int32) → vp_in ((8 : Int32) + a1) 40 ∧ K (σ.2.1 1 ((8 : Int32) + a1).toNatClampNeg) σ) ∧ (¬ a2 = (1 : Int32) → ((a2 = (2 : Int32) → vp_in ((8 : Int32) + a1) 40 ∧ K (σ.2.1 2 ((8 : Int32) + a1).toNatClampNeg) σ) ∧ (¬ a2 = (2 : Int32) → ((a2 = (3 : Int32) → vp_in a1 32 ∧ (((σ.2.1 3 a1.toNatClampNeg) = 0 → K (0 : Int32) σ) ∧ (¬ (σ.2.1 3 a1.toNatClampNeg) = 0 → K (1 : Int32) σ))) ∧ (¬ a2 = (3 : Int32) → ((a2 = (4 : Int32) → vp_in a1 32 ∧ K (σ.2.1 4 a1.toNatClampNeg) σ) ∧ (¬ a2 = (4 : Int32) → K (-1000000002 : Int32) σ))))))))))) ∧ (x1 = 0 → K (-1000000001 : Int32) σ)))
set_option maxHeartbeats 4000000 in
set_option maxRecDepth 100000 in
theorem c_X8_octet (l : Launch) (D : va_G) (cI cZ : ClassId) (ad : Nat → Nat) (A : Nat → Prop) (σ : St) (a1 : Int32) (a2 : Int32) (K : Int32 → St → Prop) (hw : wp_X8_octet σ a1 a2 K) : Met l yX8_octet wsX8_octet ({ frames := 2, cells := 0, slots := 0, locals := 45 }) (va_Pc [.ref (ad 0), .int a1, .int a2] (GW D [(cI, FieldType.int), (cZ, FieldType.boolean)] (wM cI cZ ad) A σ)) (va_Qi K (GW D [(cI, FieldType.int), (cZ, FieldType.boolean)] (wM cI cZ ad) A) A) 0 0 A := by
  refine Met.ofW (cc := cX8_octet) (maxL := 3) (ret := (some .int)) (by decide) rfl ?_
  intro p e s m args below meth c s₁ B hml hv
  obtain ⟨rfl, hP, hK, hD⟩ := hv
  have hx := B.exec
  have hb := B.bytes
  have hr := B.returns
  have hts := atoms_spec (ws := wsX8_octet) B.pre
  have hown : s.vm.findClass RX8 = some m.cls := findClass_of_methodNamed B.named
  have hlocks := B.notSynchronized
  have hS : va_S A s.heap s.heap [] := va_S.rf
  have hinX8 : ∀ w ∈ wsX80, w ∈ wsX8_octet := fun _ h => List.mem_cons_of_mem _ (List.mem_append_right _ (h))
  have hl := lv_entry ([.ref (ad 0), .int a1, .int a2]) (n := 3) (Nat.le_of_ble_eq_true rfl)
  rw [lg_entry_eq]
  generalize (lg_sl ([.ref (ad 0), .int a1, .int a2]) ++ List.replicate (3 - (lg_sl ([.ref (ad 0), .int a1, .int a2])).length) Slot.unset).toArray = ls at hl ⊢
  have hl : lv_has ls 3 [(0, .ref (ad 0)), (1, .int a1), (2, .int a2)] := hl
  have hP : va_P D vwCl (wM cI cZ ad σ) s.heap := hP
  refine lv_iload_n hx hb dX8_octet_0 rfl (lv_at hl 1 rfl) ?_
  refine S_calli (As := [.int a1]) (rest := []) ⟨hx, hb, hml, hown, hts⟩ (c_X8_isOctet l a1 _ hw) (va_cwS 1 hts gX8_octet_X8_isOctet rfl rfl rfl (by decide +kernel) ⟨Nat.le_of_ble_eq_true rfl, Nat.le_of_ble_eq_true rfl⟩) rfl hl.1 rfl (Nat.le_of_ble_eq_true rfl) dX8_octet_1 ⟨Nat.zero_le _, Nat.zero_le _⟩ (fun x1 hw => ?_)
  refine lv_if_ne (tgt := 10) hx hb dX8_octet_4 (by decide) (fun c9 => ?_) (fun c9 => ?_)
  · have hw := hw.1 c9
    refine lv_iload_n hx hb dX8_octet_10 rfl (lv_at hl 2 rfl) ?_
    by_cases q0 : a2 = (0 : Int32)
    · have hw := hw.1 q0
      refine lv_tableIn (off := 33) (tgt := 44) hx hb dX8_octet_11 (by rw [q0]; decide) (by rw [q0]; decide) (by rw [q0]; rfl) (by decide) ?_
      refine lv_aload_n hx hb dX8_octet_44 rfl (lv_at hl 0 rfl) ?_
      refine va_get (D := D) (ci := 6) (C := RX8) (T := TX8) (N := 28) hx hb hts hinX8 hown hK hP 0 rfl rfl 0 (by decide) (hts _ (List.mem_of_getElem? (i := 2) rfl)) (fun _ h9 => h9) rfl dX8_octet_45 ?_
      refine lv_bipush (v := 8) hx hb dX8_octet_48 (by decide) ?_
      refine lv_iload_n hx hb dX8_octet_50 rfl (lv_at hl 1 rfl) ?_
      refine lv_iadd hx hb dX8_octet_51 ?_
      refine va_iald (D := D) hx hb hK hP 1 0 rfl rfl hw.1 dX8_octet_52 ?_
      have hw := hw.2
      exact G_iret hx hb hr hlocks hw hP hK hD hS dX8_octet_53
    · have hw := hw.2 q0
      by_cases q1 : a2 = (1 : Int32)
      · have hw := hw.1 q1
        refine lv_tableIn (off := 43) (tgt := 54) hx hb dX8_octet_11 (by rw [q1]; decide) (by rw [q1]; decide) (by rw [q1]; rfl) (by decide) ?_
        refine lv_aload_n hx hb dX8_octet_54 rfl (lv_at hl 0 rfl) ?_
        refine va_get (D := D) (ci := 6) (C := RX8) (T := TX8) (N := 28) hx hb hts hinX8 hown hK hP 0 rfl rfl 1 (by decide) (hts _ (List.mem_of_getElem? (i := 3) rfl)) (fun _ h9 => h9) rfl dX8_octet_55 ?_
        refine lv_bipush (v := 8) hx hb dX8_octet_58 (by decide) ?_
        refine lv_iload_n hx hb dX8_octet_60 rfl (lv_at hl 1 rfl) ?_
        refine lv_iadd hx hb dX8_octet_61 ?_
        refine va_iald (D := D) hx hb hK hP 2 0 rfl rfl hw.1 dX8_octet_62 ?_
        have hw := hw.2
        exact G_iret hx hb hr hlocks hw hP hK hD hS dX8_octet_63
      · have hw := hw.2 q1
        by_cases q2 : a2 = (2 : Int32)
        · have hw := hw.1 q2
          refine lv_tableIn (off := 53) (tgt := 64) hx hb dX8_octet_11 (by rw [q2]; decide) (by rw [q2]; decide) (by rw [q2]; rfl) (by decide) ?_
          refine lv_aload_n hx hb dX8_octet_64 rfl (lv_at hl 0 rfl) ?_
          refine va_get (D := D) (ci := 6) (C := RX8) (T := TX8) (N := 28) hx hb hts hinX8 hown hK hP 0 rfl rfl 2 (by decide) (hts _ (List.mem_of_getElem? (i := 4) rfl)) (fun _ h9 => h9) rfl dX8_octet_65 ?_
          refine lv_bipush (v := 8) hx hb dX8_octet_68 (by decide) ?_
          refine lv_iload_n hx hb dX8_octet_70 rfl (lv_at hl 1 rfl) ?_
          refine lv_iadd hx hb dX8_octet_71 ?_
          refine va_iald (D := D) hx hb hK hP 3 0 rfl rfl hw.1 dX8_octet_72 ?_
          have hw := hw.2
          exact G_iret hx hb hr hlocks hw hP hK hD hS dX8_octet_73
        · have hw := hw.2 q2
          by_cases q3 : a2 = (3 : Int32)
          · have hw := hw.1 q3
            refine lv_tableIn (off := 63) (tgt := 74) hx hb dX8_octet_11 (by rw [q3]; decide) (by rw [q3]; decide) (by rw [q3]; rfl) (by decide) ?_
            refine lv_aload_n hx hb dX8_octet_74 rfl (lv_at hl 0 rfl) ?_
            refine va_get (D := D) (ci := 6) (C := RX8) (T := TX8) (N := 28) hx hb hts hinX8 hown hK hP 0 rfl rfl 3 (by decide) (hts _ (List.mem_of_getElem? (i := 5) rfl)) (fun _ h9 => h9) rfl dX8_octet_75 ?_
            refine lv_iload_n hx hb dX8_octet_78 rfl (lv_at hl 1 rfl) ?_
            refine va_zald (D := D) hx hb hK hP 4 1 rfl rfl hw.1 dX8_octet_79 ?_
            have hw := hw.2
            refine lv_if_eq (tgt := 87) hx hb dX8_octet_80 (by decide) (fun c9 => ?_) (fun c9 => ?_)
            · have hw := hw.1 c9
              refine lv_iconst (v := 0) hx hb dX8_octet_87 (by decide) ?_
              exact G_iret hx hb hr hlocks hw hP hK hD hS dX8_octet_88
            · have hw := hw.2 c9
              refine lv_iconst (v := 1) hx hb dX8_octet_83 (by decide) ?_
              refine lv_goto (tgt := 88) hx hb dX8_octet_84 (by decide) ?_
              exact G_iret hx hb hr hlocks hw hP hK hD hS dX8_octet_88
          · have hw := hw.2 q3
            by_cases q4 : a2 = (4 : Int32)
            · have hw := hw.1 q4
              refine lv_tableIn (off := 78) (tgt := 89) hx hb dX8_octet_11 (by rw [q4]; decide) (by rw [q4]; decide) (by rw [q4]; rfl) (by decide) ?_
              refine lv_aload_n hx hb dX8_octet_89 rfl (lv_at hl 0 rfl) ?_
              refine va_get (D := D) (ci := 6) (C := RX8) (T := TX8) (N := 28) hx hb hts hinX8 hown hK hP 0 rfl rfl 4 (by decide) (hts _ (List.mem_of_getElem? (i := 6) rfl)) (fun _ h9 => h9) rfl dX8_octet_90 ?_
              refine lv_iload_n hx hb dX8_octet_93 rfl (lv_at hl 1 rfl) ?_
              refine va_iald (D := D) hx hb hK hP 5 0 rfl rfl hw.1 dX8_octet_94 ?_
              have hw := hw.2
              exact G_iret hx hb hr hlocks hw hP hK hD hS dX8_octet_95
            · have hw := hw.2 q4
              have r0 := lv_neT q0 (a := 0) (by decide)
              have r1 := lv_neT q1 (a := 1) (by decide)
              have r2 := lv_neT q2 (a := 2) (by decide)
              have r3 := lv_neT q3 (a := 3) (by decide)
              have r4 := lv_neT q4 (a := 4) (by decide)
              refine lv_tableOut (tgt := 96) hx hb dX8_octet_11 (by omega) (by decide) ?_
              refine lv_ldc (v := -1000000002) hx hb hown (hts _ (List.mem_of_getElem? (i := 7) rfl)) dX8_octet_96 ?_
              exact G_iret hx hb hr hlocks hw hP hK hD hS dX8_octet_98
  · have hw := hw.2 c9
    refine lv_ldc (v := -1000000001) hx hb hown (hts _ (List.mem_of_getElem? (i := 1) rfl)) dX8_octet_7 ?_
    exact G_iret hx hb hr hlocks hw hP hK hD hS dX8_octet_9

def wl_X8_criesOf_4 (K : Int32 → St → Prop) : Nat → Int32 → Int32 → Int32 → St → Prop
  | 0, _, _, _, _ => False
  | n + 1, v1, v2, v3, σ => wp_X8_keptCries σ (fun x2 σ1 => ((x2 ≤ v3 → K v2 σ1) ∧ (¬ x2 ≤ v3 → vp_in v3 20 ∧ ∀ x3 : Int32, x3 = v2 + (((σ1.2.1 10 v3.toNatClampNeg) >>> (v1 &&& 31)) &&& (1 : Int32)) → ∀ x4 : Int32, x4 = v3 + 1 → wl_X8_criesOf_4 K n v1 x3 x4 σ1)))
def wp_X8_criesOf (σ : St) (a1 : Int32) (K : Int32 → St → Prop) : Prop :=
  (∃ nn : Nat, wl_X8_criesOf_4 K nn a1 (0 : Int32) (0 : Int32) σ)
set_option maxHeartbeats 4000000 in
set_option maxRecDepth 100000 in
theorem c_X8_criesOf (l : Launch) (D : va_G) (cI cZ : ClassId) (ad : Nat → Nat) (A : Nat → Prop) (σ : St) (a1 : Int32) (K : Int32 → St → Prop) (hw : wp_X8_criesOf σ a1 K) : Met l yX8_criesOf wsX8_criesOf ({ frames := 1, cells := 0, slots := 0, locals := 20 }) (va_Pc [.ref (ad 0), .int a1] (GW D [(cI, FieldType.int), (cZ, FieldType.boolean)] (wM cI cZ ad) A σ)) (va_Qi K (GW D [(cI, FieldType.int), (cZ, FieldType.boolean)] (wM cI cZ ad) A) A) 0 0 A := by
  refine Met.ofW (cc := cX8_criesOf) (maxL := 4) (ret := (some .int)) (by decide) rfl ?_
  intro p e s m args below meth c s₁ B hml hv
  obtain ⟨rfl, hP, hK, hD⟩ := hv
  have hx := B.exec
  have hb := B.bytes
  have hr := B.returns
  have hts := atoms_spec (ws := wsX8_criesOf) B.pre
  have hown : s.vm.findClass RX8 = some m.cls := findClass_of_methodNamed B.named
  have hlocks := B.notSynchronized
  have hS : va_S A s.heap s.heap [] := va_S.rf
  have hinX8 : ∀ w ∈ wsX80, w ∈ wsX8_criesOf := fun _ h => List.mem_cons_of_mem _ (List.mem_append_right _ (h))
  have hwl_X8_criesOf_4 : ∀ (n : Nat) (v1 : Int32) (v2 : Int32) (v3 : Int32) (σ : St), wl_X8_criesOf_4 K n v1 v2 v3 σ → ∀ (H : Heap) (locs : List Loc), va_P D vwCl (wM cI cZ ad σ) H → va_D A (wM cI cZ ad σ) → va_S A s.heap H locs → ∀ ls : Array Slot, lv_has ls 4 [(0, .ref (ad 0)), (1, .int v1), (2, .int v2), (3, .int v3)] → W p l e (headSpec wsX8_criesOf ({ frames := 1, cells := 0, slots := 0, locals := 20 })).room s m ([.ref (ad 0), .int a1] : List Value).toArray below meth c H locs 0 0 (MQ below (va_Qi K (GW D [(cI, FieldType.int), (cZ, FieldType.boolean)] (wM cI cZ ad) A) A) ([.ref (ad 0), .int a1] : List Value).toArray s 0 0 A) (F0 m 4 ls []) := by
    intro n
    induction n with
    | zero => intro v1 v2 v3 σ hw; exact hw.elim
    | succ n ih =>
      intro v1 v2 v3 σ hw H locs hP hD hS ls hl
      refine lv_iload_n hx hb dX8_criesOf_4 rfl (lv_at hl 3 rfl) ?_
      refine lv_aload_n hx hb dX8_criesOf_5 rfl (lv_at hl 0 rfl) ?_
      refine G_calli (As := []) (rest := [.int v3]) ⟨hx, hb, hml, hown, hts⟩ hK hP hD hS 0 6 rfl rfl (c_X8_keptCries l D cI cZ ad A σ _ hw) (cwV 0 hts gX8_criesOf_X8_keptCries rfl rfl rfl (by decide +kernel) ⟨Nat.le_of_ble_eq_true rfl, Nat.le_of_ble_eq_true rfl⟩) rfl hl.1 rfl (Nat.le_of_ble_eq_true rfl) dX8_criesOf_6 ⟨Nat.zero_le _, Nat.zero_le _⟩ (fun x2 σ1 hw H locs hP hD hS => ?_)
      refine lv_icmp_ge (tgt := 31) hx hb dX8_criesOf_9 (by decide) (fun c9 => ?_) (fun c9 => ?_)
      · have hw := hw.1 c9
        refine lv_iload_n hx hb dX8_criesOf_31 rfl (lv_at hl 2 rfl) ?_
        exact G_iret hx hb hr hlocks hw hP hK hD hS dX8_criesOf_32
      · have hw := hw.2 c9
        refine lv_iload_n hx hb dX8_criesOf_12 rfl (lv_at hl 2 rfl) ?_
        refine lv_aload_n hx hb dX8_criesOf_13 rfl (lv_at hl 0 rfl) ?_
        refine va_get (D := D) (ci := 6) (C := RX8) (T := TX8) (N := 28) hx hb hts hinX8 hown hK hP 0 rfl rfl 14 (by decide) (hts _ (List.mem_of_getElem? (i := 1) rfl)) (fun _ h9 => h9) rfl dX8_criesOf_14 ?_
        refine lv_iload_n hx hb dX8_criesOf_17 rfl (lv_at hl 3 rfl) ?_
        refine va_iald (D := D) hx hb hK hP 11 0 rfl rfl hw.1 dX8_criesOf_18 ?_
        have hw := hw.2
        refine lv_iload_n hx hb dX8_criesOf_19 rfl (lv_at hl 1 rfl) ?_
        refine lv_ishr hx hb dX8_criesOf_20 ?_
        refine lv_iconst (v := 1) hx hb dX8_criesOf_21 (by decide) ?_
        refine lv_iand hx hb dX8_criesOf_22 ?_
        refine lv_iadd hx hb dX8_criesOf_23 ?_
        refine lv_topi (fun x3 ex3 => ?_)
        have hw := hw x3 ex3
        refine lv_istore_n (lv' := [(2, .int x3), (0, .ref (ad 0)), (1, .int v1), (3, .int v3)]) hx hb dX8_criesOf_24 rfl hl (by decide) rfl (fun ls hl => ?_)
        obtain ⟨x4, ex4⟩ : ∃ y : Int32, y = v3 + 1 := ⟨_, rfl⟩
        have hw := hw x4 ex4
        refine lv_iinc (v := x4) (lv' := [(3, .int x4), (2, .int x3), (0, .ref (ad 0)), (1, .int v1)]) hx hb dX8_criesOf_25 hl (k := 3) rfl (by rw [ex4]; rfl) (by decide) rfl (fun ls hl => ?_)
        refine lv_goto (tgt := 4) hx hb dX8_criesOf_28 (by decide) ?_
        exact ih v1 x3 x4 σ1 hw _ _ hP hD hS ls (lv_sub hl [2, 3, 1, 0] rfl)
  have hl := lv_entry ([.ref (ad 0), .int a1]) (n := 4) (Nat.le_of_ble_eq_true rfl)
  rw [lg_entry_eq]
  generalize (lg_sl ([.ref (ad 0), .int a1]) ++ List.replicate (4 - (lg_sl ([.ref (ad 0), .int a1])).length) Slot.unset).toArray = ls at hl ⊢
  have hl : lv_has ls 4 [(0, .ref (ad 0)), (1, .int a1)] := hl
  have hP : va_P D vwCl (wM cI cZ ad σ) s.heap := hP
  refine lv_iconst (v := 0) hx hb dX8_criesOf_0 (by decide) ?_
  refine lv_istore_n (lv' := [(2, .int (0 : Int32)), (0, .ref (ad 0)), (1, .int a1)]) hx hb dX8_criesOf_1 rfl hl (by decide) rfl (fun ls hl => ?_)
  refine lv_iconst (v := 0) hx hb dX8_criesOf_2 (by decide) ?_
  refine lv_istore_n (lv' := [(3, .int (0 : Int32)), (2, .int (0 : Int32)), (0, .ref (ad 0)), (1, .int a1)]) hx hb dX8_criesOf_3 rfl hl (by decide) rfl (fun ls hl => ?_)
  obtain ⟨nn, hw⟩ := hw
  exact hwl_X8_criesOf_4 nn a1 (0 : Int32) (0 : Int32) σ hw _ _ hP hD hS ls (lv_sub hl [2, 3, 1, 0] rfl)

def wp_X8_ground (σ : St) (a1 : Int32) (a2 : Int32) (K : Int32 → St → Prop) : Prop :=
  wp_X8_isGround σ a1 (fun x2 σ1 => ((¬ x2 = 0 → ((a2 = (0 : Int32) → vp_in a1 12 ∧ K (σ1.2.1 5 a1.toNatClampNeg) σ1) ∧ (¬ a2 = (0 : Int32) → ((a2 = (1 : Int32) → vp_in a1 12 ∧ K (σ1.2.1 6 a1.toNatClampNeg) σ1) ∧ (¬ a2 = (1 : Int32) → ((a2 = (2 : Int32) → vp_in a1 12 ∧ (((σ1.2.1 7 a1.toNatClampNeg) = 0 → K (0 : Int32) σ1) ∧ (¬ (σ1.2.1 7 a1.toNatClampNeg) = 0 → K (1 : Int32) σ1))) ∧ (¬ a2 = (2 : Int32) → ((a2 = (3 : Int32) → wp_X8_criesOf σ1 a1 (fun x4 σ3 => K x4 σ3)) ∧ (¬ a2 = (3 : Int32) → K (-1000000002 : Int32) σ1))))))))) ∧ (x2 = 0 → K (-1000000001 : Int32) σ1)))
set_option maxHeartbeats 4000000 in
set_option maxRecDepth 100000 in
theorem c_X8_ground (l : Launch) (D : va_G) (cI cZ : ClassId) (ad : Nat → Nat) (A : Nat → Prop) (σ : St) (a1 : Int32) (a2 : Int32) (K : Int32 → St → Prop) (hw : wp_X8_ground σ a1 a2 K) : Met l yX8_ground wsX8_ground ({ frames := 2, cells := 0, slots := 0, locals := 46 }) (va_Pc [.ref (ad 0), .int a1, .int a2] (GW D [(cI, FieldType.int), (cZ, FieldType.boolean)] (wM cI cZ ad) A σ)) (va_Qi K (GW D [(cI, FieldType.int), (cZ, FieldType.boolean)] (wM cI cZ ad) A) A) 0 0 A := by
  refine Met.ofW (cc := cX8_ground) (maxL := 3) (ret := (some .int)) (by decide) rfl ?_
  intro p e s m args below meth c s₁ B hml hv
  obtain ⟨rfl, hP, hK, hD⟩ := hv
  have hx := B.exec
  have hb := B.bytes
  have hr := B.returns
  have hts := atoms_spec (ws := wsX8_ground) B.pre
  have hown : s.vm.findClass RX8 = some m.cls := findClass_of_methodNamed B.named
  have hlocks := B.notSynchronized
  have hS : va_S A s.heap s.heap [] := va_S.rf
  have hinX8 : ∀ w ∈ wsX80, w ∈ wsX8_ground := fun _ h => List.mem_cons_of_mem _ (List.mem_append_right _ (h))
  have hl := lv_entry ([.ref (ad 0), .int a1, .int a2]) (n := 3) (Nat.le_of_ble_eq_true rfl)
  rw [lg_entry_eq]
  generalize (lg_sl ([.ref (ad 0), .int a1, .int a2]) ++ List.replicate (3 - (lg_sl ([.ref (ad 0), .int a1, .int a2])).length) Slot.unset).toArray = ls at hl ⊢
  have hl : lv_has ls 3 [(0, .ref (ad 0)), (1, .int a1), (2, .int a2)] := hl
  have hP : va_P D vwCl (wM cI cZ ad σ) s.heap := hP
  refine lv_aload_n hx hb dX8_ground_0 rfl (lv_at hl 0 rfl) ?_
  refine lv_iload_n hx hb dX8_ground_1 rfl (lv_at hl 1 rfl) ?_
  refine G_calli (As := [.int a1]) (rest := []) ⟨hx, hb, hml, hown, hts⟩ hK hP hD hS 0 6 rfl rfl (c_X8_isGround l D cI cZ ad A σ a1 _ hw) (cwV 1 hts gX8_ground_X8_isGround rfl rfl rfl (by decide +kernel) ⟨Nat.le_of_ble_eq_true rfl, Nat.le_of_ble_eq_true rfl⟩) rfl hl.1 rfl (Nat.le_of_ble_eq_true rfl) dX8_ground_2 ⟨Nat.zero_le _, Nat.zero_le _⟩ (fun x2 σ1 hw H locs hP hD hS => ?_)
  refine lv_if_ne (tgt := 11) hx hb dX8_ground_5 (by decide) (fun c9 => ?_) (fun c9 => ?_)
  · have hw := hw.1 c9
    refine lv_iload_n hx hb dX8_ground_11 rfl (lv_at hl 2 rfl) ?_
    by_cases q0 : a2 = (0 : Int32)
    · have hw := hw.1 q0
      refine lv_tableIn (off := 32) (tgt := 44) hx hb dX8_ground_12 (by rw [q0]; decide) (by rw [q0]; decide) (by rw [q0]; rfl) (by decide) ?_
      refine lv_aload_n hx hb dX8_ground_44 rfl (lv_at hl 0 rfl) ?_
      refine va_get (D := D) (ci := 6) (C := RX8) (T := TX8) (N := 28) hx hb hts hinX8 hown hK hP 0 rfl rfl 6 (by decide) (hts _ (List.mem_of_getElem? (i := 2) rfl)) (fun _ h9 => h9) rfl dX8_ground_45 ?_
      refine lv_iload_n hx hb dX8_ground_48 rfl (lv_at hl 1 rfl) ?_
      refine va_iald (D := D) hx hb hK hP 6 0 rfl rfl hw.1 dX8_ground_49 ?_
      have hw := hw.2
      exact G_iret hx hb hr hlocks hw hP hK hD hS dX8_ground_50
    · have hw := hw.2 q0
      by_cases q1 : a2 = (1 : Int32)
      · have hw := hw.1 q1
        refine lv_tableIn (off := 39) (tgt := 51) hx hb dX8_ground_12 (by rw [q1]; decide) (by rw [q1]; decide) (by rw [q1]; rfl) (by decide) ?_
        refine lv_aload_n hx hb dX8_ground_51 rfl (lv_at hl 0 rfl) ?_
        refine va_get (D := D) (ci := 6) (C := RX8) (T := TX8) (N := 28) hx hb hts hinX8 hown hK hP 0 rfl rfl 7 (by decide) (hts _ (List.mem_of_getElem? (i := 3) rfl)) (fun _ h9 => h9) rfl dX8_ground_52 ?_
        refine lv_iload_n hx hb dX8_ground_55 rfl (lv_at hl 1 rfl) ?_
        refine va_iald (D := D) hx hb hK hP 7 0 rfl rfl hw.1 dX8_ground_56 ?_
        have hw := hw.2
        exact G_iret hx hb hr hlocks hw hP hK hD hS dX8_ground_57
      · have hw := hw.2 q1
        by_cases q2 : a2 = (2 : Int32)
        · have hw := hw.1 q2
          refine lv_tableIn (off := 46) (tgt := 58) hx hb dX8_ground_12 (by rw [q2]; decide) (by rw [q2]; decide) (by rw [q2]; rfl) (by decide) ?_
          refine lv_aload_n hx hb dX8_ground_58 rfl (lv_at hl 0 rfl) ?_
          refine va_get (D := D) (ci := 6) (C := RX8) (T := TX8) (N := 28) hx hb hts hinX8 hown hK hP 0 rfl rfl 8 (by decide) (hts _ (List.mem_of_getElem? (i := 4) rfl)) (fun _ h9 => h9) rfl dX8_ground_59 ?_
          refine lv_iload_n hx hb dX8_ground_62 rfl (lv_at hl 1 rfl) ?_
          refine va_zald (D := D) hx hb hK hP 8 1 rfl rfl hw.1 dX8_ground_63 ?_
          have hw := hw.2
          refine lv_if_eq (tgt := 71) hx hb dX8_ground_64 (by decide) (fun c9 => ?_) (fun c9 => ?_)
          · have hw := hw.1 c9
            refine lv_iconst (v := 0) hx hb dX8_ground_71 (by decide) ?_
            exact G_iret hx hb hr hlocks hw hP hK hD hS dX8_ground_72
          · have hw := hw.2 c9
            refine lv_iconst (v := 1) hx hb dX8_ground_67 (by decide) ?_
            refine lv_goto (tgt := 72) hx hb dX8_ground_68 (by decide) ?_
            exact G_iret hx hb hr hlocks hw hP hK hD hS dX8_ground_72
        · have hw := hw.2 q2
          by_cases q3 : a2 = (3 : Int32)
          · have hw := hw.1 q3
            refine lv_tableIn (off := 61) (tgt := 73) hx hb dX8_ground_12 (by rw [q3]; decide) (by rw [q3]; decide) (by rw [q3]; rfl) (by decide) ?_
            refine lv_aload_n hx hb dX8_ground_73 rfl (lv_at hl 0 rfl) ?_
            refine lv_iload_n hx hb dX8_ground_74 rfl (lv_at hl 1 rfl) ?_
            refine G_calli (As := [.int a1]) (rest := []) ⟨hx, hb, hml, hown, hts⟩ hK hP hD hS 0 6 rfl rfl (c_X8_criesOf l D cI cZ ad A σ1 a1 _ hw) (cwV 1 hts gX8_ground_X8_criesOf rfl rfl rfl (by decide +kernel) ⟨Nat.le_of_ble_eq_true rfl, Nat.le_of_ble_eq_true rfl⟩) rfl hl.1 rfl (Nat.le_of_ble_eq_true rfl) dX8_ground_75 ⟨Nat.zero_le _, Nat.zero_le _⟩ (fun x4 σ3 hw H locs hP hD hS => ?_)
            exact G_iret hx hb hr hlocks hw hP hK hD hS dX8_ground_78
          · have hw := hw.2 q3
            have r0 := lv_neT q0 (a := 0) (by decide)
            have r1 := lv_neT q1 (a := 1) (by decide)
            have r2 := lv_neT q2 (a := 2) (by decide)
            have r3 := lv_neT q3 (a := 3) (by decide)
            refine lv_tableOut (tgt := 79) hx hb dX8_ground_12 (by omega) (by decide) ?_
            refine lv_ldc (v := -1000000002) hx hb hown (hts _ (List.mem_of_getElem? (i := 5) rfl)) dX8_ground_79 ?_
            exact G_iret hx hb hr hlocks hw hP hK hD hS dX8_ground_81
  · have hw := hw.2 c9
    refine lv_ldc (v := -1000000001) hx hb hown (hts _ (List.mem_of_getElem? (i := 1) rfl)) dX8_ground_8 ?_
    exact G_iret hx hb hr hlocks hw hP hK hD hS dX8_ground_10

def wp_X8_cry (σ : St) (a1 : Int32) (a2 : Int32) (K : Int32 → St → Prop) : Prop :=
  wp_X8_keptCries σ (fun x2 σ1 => wp_X8_in (a1.toInt64) (0 : Int64) ((x2 - (1 : Int32)).toInt64) (fun x3 => ((¬ x3 = 0 → ((a2 = (0 : Int32) → vp_in a1 20 ∧ K (σ1.2.1 8 a1.toNatClampNeg) σ1) ∧ (¬ a2 = (0 : Int32) → ((a2 = (1 : Int32) → vp_in a1 20 ∧ K (σ1.2.1 9 a1.toNatClampNeg) σ1) ∧ (¬ a2 = (1 : Int32) → ((a2 = (2 : Int32) → vp_in a1 20 ∧ K (σ1.2.1 10 a1.toNatClampNeg) σ1) ∧ (¬ a2 = (2 : Int32) → K (-1000000002 : Int32) σ1))))))) ∧ (x3 = 0 → K (-1000000001 : Int32) σ1))))
set_option maxHeartbeats 4000000 in
set_option maxRecDepth 100000 in
theorem c_X8_cry (l : Launch) (D : va_G) (cI cZ : ClassId) (ad : Nat → Nat) (A : Nat → Prop) (σ : St) (a1 : Int32) (a2 : Int32) (K : Int32 → St → Prop) (hw : wp_X8_cry σ a1 a2 K) : Met l yX8_cry wsX8_cry ({ frames := 1, cells := 0, slots := 0, locals := 25 }) (va_Pc [.ref (ad 0), .int a1, .int a2] (GW D [(cI, FieldType.int), (cZ, FieldType.boolean)] (wM cI cZ ad) A σ)) (va_Qi K (GW D [(cI, FieldType.int), (cZ, FieldType.boolean)] (wM cI cZ ad) A) A) 0 0 A := by
  refine Met.ofW (cc := cX8_cry) (maxL := 3) (ret := (some .int)) (by decide) rfl ?_
  intro p e s m args below meth c s₁ B hml hv
  obtain ⟨rfl, hP, hK, hD⟩ := hv
  have hx := B.exec
  have hb := B.bytes
  have hr := B.returns
  have hts := atoms_spec (ws := wsX8_cry) B.pre
  have hown : s.vm.findClass RX8 = some m.cls := findClass_of_methodNamed B.named
  have hlocks := B.notSynchronized
  have hS : va_S A s.heap s.heap [] := va_S.rf
  have hinX8 : ∀ w ∈ wsX80, w ∈ wsX8_cry := fun _ h => List.mem_cons_of_mem _ (List.mem_append_right _ (h))
  have hl := lv_entry ([.ref (ad 0), .int a1, .int a2]) (n := 3) (Nat.le_of_ble_eq_true rfl)
  rw [lg_entry_eq]
  generalize (lg_sl ([.ref (ad 0), .int a1, .int a2]) ++ List.replicate (3 - (lg_sl ([.ref (ad 0), .int a1, .int a2])).length) Slot.unset).toArray = ls at hl ⊢
  have hl : lv_has ls 3 [(0, .ref (ad 0)), (1, .int a1), (2, .int a2)] := hl
  have hP : va_P D vwCl (wM cI cZ ad σ) s.heap := hP
  refine lv_iload_n hx hb dX8_cry_0 rfl (lv_at hl 1 rfl) ?_
  refine lv_i2l hx hb dX8_cry_1 rfl ?_
  refine lv_lconst (v := 0) hx hb dX8_cry_2 (by decide) ?_
  refine lv_aload_n hx hb dX8_cry_3 rfl (lv_at hl 0 rfl) ?_
  refine G_calli (As := []) (rest := [.long (0 : Int64), .long (a1.toInt64)]) ⟨hx, hb, hml, hown, hts⟩ hK hP hD hS 0 6 rfl rfl (c_X8_keptCries l D cI cZ ad A σ _ hw) (cwV 0 hts gX8_cry_X8_keptCries rfl rfl rfl (by decide +kernel) ⟨Nat.le_of_ble_eq_true rfl, Nat.le_of_ble_eq_true rfl⟩) rfl hl.1 rfl (Nat.le_of_ble_eq_true rfl) dX8_cry_4 ⟨Nat.zero_le _, Nat.zero_le _⟩ (fun x2 σ1 hw H locs hP hD hS => ?_)
  refine lv_iconst (v := 1) hx hb dX8_cry_7 (by decide) ?_
  refine lv_isub hx hb dX8_cry_8 ?_
  refine lv_i2l hx hb dX8_cry_9 rfl ?_
  refine S_calli (As := [.long (a1.toInt64), .long (0 : Int64), .long ((x2 - (1 : Int32)).toInt64)]) (rest := []) ⟨hx, hb, hml, hown, hts⟩ (c_X8_in l (a1.toInt64) (0 : Int64) ((x2 - (1 : Int32)).toInt64) _ hw) (va_cwS 3 hts gX8_cry_X8_in rfl rfl rfl (by decide +kernel) ⟨Nat.le_of_ble_eq_true rfl, Nat.le_of_ble_eq_true rfl⟩) rfl hl.1 rfl (Nat.le_of_ble_eq_true rfl) dX8_cry_10 ⟨Nat.zero_le _, Nat.zero_le _⟩ (fun x3 hw => ?_)
  refine lv_if_ne (tgt := 19) hx hb dX8_cry_13 (by decide) (fun c9 => ?_) (fun c9 => ?_)
  · have hw := hw.1 c9
    refine lv_iload_n hx hb dX8_cry_19 rfl (lv_at hl 2 rfl) ?_
    by_cases q0 : a2 = (0 : Int32)
    · have hw := hw.1 q0
      refine lv_tableIn (off := 28) (tgt := 48) hx hb dX8_cry_20 (by rw [q0]; decide) (by rw [q0]; decide) (by rw [q0]; rfl) (by decide) ?_
      refine lv_aload_n hx hb dX8_cry_48 rfl (lv_at hl 0 rfl) ?_
      refine va_get (D := D) (ci := 6) (C := RX8) (T := TX8) (N := 28) hx hb hts hinX8 hown hK hP 0 rfl rfl 12 (by decide) (hts _ (List.mem_of_getElem? (i := 2) rfl)) (fun _ h9 => h9) rfl dX8_cry_49 ?_
      refine lv_iload_n hx hb dX8_cry_52 rfl (lv_at hl 1 rfl) ?_
      refine va_iald (D := D) hx hb hK hP 9 0 rfl rfl hw.1 dX8_cry_53 ?_
      have hw := hw.2
      exact G_iret hx hb hr hlocks hw hP hK hD hS dX8_cry_54
    · have hw := hw.2 q0
      by_cases q1 : a2 = (1 : Int32)
      · have hw := hw.1 q1
        refine lv_tableIn (off := 35) (tgt := 55) hx hb dX8_cry_20 (by rw [q1]; decide) (by rw [q1]; decide) (by rw [q1]; rfl) (by decide) ?_
        refine lv_aload_n hx hb dX8_cry_55 rfl (lv_at hl 0 rfl) ?_
        refine va_get (D := D) (ci := 6) (C := RX8) (T := TX8) (N := 28) hx hb hts hinX8 hown hK hP 0 rfl rfl 13 (by decide) (hts _ (List.mem_of_getElem? (i := 3) rfl)) (fun _ h9 => h9) rfl dX8_cry_56 ?_
        refine lv_iload_n hx hb dX8_cry_59 rfl (lv_at hl 1 rfl) ?_
        refine va_iald (D := D) hx hb hK hP 10 0 rfl rfl hw.1 dX8_cry_60 ?_
        have hw := hw.2
        exact G_iret hx hb hr hlocks hw hP hK hD hS dX8_cry_61
      · have hw := hw.2 q1
        by_cases q2 : a2 = (2 : Int32)
        · have hw := hw.1 q2
          refine lv_tableIn (off := 42) (tgt := 62) hx hb dX8_cry_20 (by rw [q2]; decide) (by rw [q2]; decide) (by rw [q2]; rfl) (by decide) ?_
          refine lv_aload_n hx hb dX8_cry_62 rfl (lv_at hl 0 rfl) ?_
          refine va_get (D := D) (ci := 6) (C := RX8) (T := TX8) (N := 28) hx hb hts hinX8 hown hK hP 0 rfl rfl 14 (by decide) (hts _ (List.mem_of_getElem? (i := 4) rfl)) (fun _ h9 => h9) rfl dX8_cry_63 ?_
          refine lv_iload_n hx hb dX8_cry_66 rfl (lv_at hl 1 rfl) ?_
          refine va_iald (D := D) hx hb hK hP 11 0 rfl rfl hw.1 dX8_cry_67 ?_
          have hw := hw.2
          exact G_iret hx hb hr hlocks hw hP hK hD hS dX8_cry_68
        · have hw := hw.2 q2
          have r0 := lv_neT q0 (a := 0) (by decide)
          have r1 := lv_neT q1 (a := 1) (by decide)
          have r2 := lv_neT q2 (a := 2) (by decide)
          refine lv_tableOut (tgt := 69) hx hb dX8_cry_20 (by omega) (by decide) ?_
          refine lv_ldc (v := -1000000002) hx hb hown (hts _ (List.mem_of_getElem? (i := 5) rfl)) dX8_cry_69 ?_
          exact G_iret hx hb hr hlocks hw hP hK hD hS dX8_cry_71
  · have hw := hw.2 c9
    refine lv_ldc (v := -1000000001) hx hb hown (hts _ (List.mem_of_getElem? (i := 1) rfl)) dX8_cry_16 ?_
    exact G_iret hx hb hr hlocks hw hP hK hD hS dX8_cry_18

def wp_X8_ring (σ : St) (a1 : Int32) (a2 : Int32) (K : Int32 → St → Prop) : Prop :=
  wp_X8_in (a2.toInt64) (0 : Int64) (2 : Int64) (fun x1 => ((¬ x1 = 0 → wp_X8_in (a1.toInt64) (0 : Int64) (((σ.1 5) - (1 : Int32)).toInt64) (fun x2 => ((¬ x2 = 0 → ((¬ a2 = 0 → ((¬ a2 = (1 : Int32) → vp_in a1 16 ∧ K (σ.2.1 13 a1.toNatClampNeg) σ) ∧ (a2 = (1 : Int32) → vp_in a1 16 ∧ K (σ.2.1 12 a1.toNatClampNeg) σ))) ∧ (a2 = 0 → vp_in a1 16 ∧ K (σ.2.1 11 a1.toNatClampNeg) σ))) ∧ (x2 = 0 → K (-1 : Int32) σ)))) ∧ (x1 = 0 → K (-1000000002 : Int32) σ)))
set_option maxHeartbeats 4000000 in
set_option maxRecDepth 100000 in
theorem c_X8_ring (l : Launch) (D : va_G) (cI cZ : ClassId) (ad : Nat → Nat) (A : Nat → Prop) (σ : St) (a1 : Int32) (a2 : Int32) (K : Int32 → St → Prop) (hw : wp_X8_ring σ a1 a2 K) : Met l yX8_ring wsX8_ring ({ frames := 1, cells := 0, slots := 0, locals := 25 }) (va_Pc [.ref (ad 0), .int a1, .int a2] (GW D [(cI, FieldType.int), (cZ, FieldType.boolean)] (wM cI cZ ad) A σ)) (va_Qi K (GW D [(cI, FieldType.int), (cZ, FieldType.boolean)] (wM cI cZ ad) A) A) 0 0 A := by
  refine Met.ofW (cc := cX8_ring) (maxL := 3) (ret := (some .int)) (by decide) rfl ?_
  intro p e s m args below meth c s₁ B hml hv
  obtain ⟨rfl, hP, hK, hD⟩ := hv
  have hx := B.exec
  have hb := B.bytes
  have hr := B.returns
  have hts := atoms_spec (ws := wsX8_ring) B.pre
  have hown : s.vm.findClass RX8 = some m.cls := findClass_of_methodNamed B.named
  have hlocks := B.notSynchronized
  have hS : va_S A s.heap s.heap [] := va_S.rf
  have hinX8 : ∀ w ∈ wsX80, w ∈ wsX8_ring := fun _ h => List.mem_cons_of_mem _ (List.mem_append_right _ (h))
  have hl := lv_entry ([.ref (ad 0), .int a1, .int a2]) (n := 3) (Nat.le_of_ble_eq_true rfl)
  rw [lg_entry_eq]
  generalize (lg_sl ([.ref (ad 0), .int a1, .int a2]) ++ List.replicate (3 - (lg_sl ([.ref (ad 0), .int a1, .int a2])).length) Slot.unset).toArray = ls at hl ⊢
  have hl : lv_has ls 3 [(0, .ref (ad 0)), (1, .int a1), (2, .int a2)] := hl
  have hP : va_P D vwCl (wM cI cZ ad σ) s.heap := hP
  refine lv_iload_n hx hb dX8_ring_0 rfl (lv_at hl 2 rfl) ?_
  refine lv_i2l hx hb dX8_ring_1 rfl ?_
  refine lv_lconst (v := 0) hx hb dX8_ring_2 (by decide) ?_
  refine lv_ldc2 (v := 2) hx hb hown (hts _ (List.mem_of_getElem? (i := 1) rfl)) dX8_ring_3 ?_
  refine S_calli (As := [.long (a2.toInt64), .long (0 : Int64), .long (2 : Int64)]) (rest := []) ⟨hx, hb, hml, hown, hts⟩ (c_X8_in l (a2.toInt64) (0 : Int64) (2 : Int64) _ hw) (va_cwS 3 hts gX8_ring_X8_in rfl rfl rfl (by decide +kernel) ⟨Nat.le_of_ble_eq_true rfl, Nat.le_of_ble_eq_true rfl⟩) rfl hl.1 rfl (Nat.le_of_ble_eq_true rfl) dX8_ring_6 ⟨Nat.zero_le _, Nat.zero_le _⟩ (fun x1 hw => ?_)
  refine lv_if_ne (tgt := 15) hx hb dX8_ring_9 (by decide) (fun c9 => ?_) (fun c9 => ?_)
  · have hw := hw.1 c9
    refine lv_iload_n hx hb dX8_ring_15 rfl (lv_at hl 1 rfl) ?_
    refine lv_i2l hx hb dX8_ring_16 rfl ?_
    refine lv_lconst (v := 0) hx hb dX8_ring_17 (by decide) ?_
    refine lv_aload_n hx hb dX8_ring_18 rfl (lv_at hl 0 rfl) ?_
    refine va_get (D := D) (ci := 6) (C := RX8) (T := TX8) (N := 28) hx hb hts hinX8 hown hK hP 0 rfl rfl 17 (by decide) (hts _ (List.mem_of_getElem? (i := 3) rfl)) (fun _ h9 => h9) rfl dX8_ring_19 ?_
    refine lv_iconst (v := 1) hx hb dX8_ring_22 (by decide) ?_
    refine lv_isub hx hb dX8_ring_23 ?_
    refine lv_i2l hx hb dX8_ring_24 rfl ?_
    refine S_calli (As := [.long (a1.toInt64), .long (0 : Int64), .long (((σ.1 5) - (1 : Int32)).toInt64)]) (rest := []) ⟨hx, hb, hml, hown, hts⟩ (c_X8_in l (a1.toInt64) (0 : Int64) (((σ.1 5) - (1 : Int32)).toInt64) _ hw) (va_cwS 3 hts gX8_ring_X8_in rfl rfl rfl (by decide +kernel) ⟨Nat.le_of_ble_eq_true rfl, Nat.le_of_ble_eq_true rfl⟩) rfl hl.1 rfl (Nat.le_of_ble_eq_true rfl) dX8_ring_25 ⟨Nat.zero_le _, Nat.zero_le _⟩ (fun x2 hw => ?_)
    refine lv_if_ne (tgt := 33) hx hb dX8_ring_28 (by decide) (fun c9 => ?_) (fun c9 => ?_)
    · have hw := hw.1 c9
      refine lv_iload_n hx hb dX8_ring_33 rfl (lv_at hl 2 rfl) ?_
      refine lv_if_ne (tgt := 46) hx hb dX8_ring_34 (by decide) (fun c9 => ?_) (fun c9 => ?_)
      · have hw := hw.1 c9
        refine lv_iload_n hx hb dX8_ring_46 rfl (lv_at hl 2 rfl) ?_
        refine lv_iconst (v := 1) hx hb dX8_ring_47 (by decide) ?_
        refine lv_icmp_ne (tgt := 60) hx hb dX8_ring_48 (by decide) (fun c9 => ?_) (fun c9 => ?_)
        · have hw := hw.1 c9
          refine lv_aload_n hx hb dX8_ring_60 rfl (lv_at hl 0 rfl) ?_
          refine va_get (D := D) (ci := 6) (C := RX8) (T := TX8) (N := 28) hx hb hts hinX8 hown hK hP 0 rfl rfl 20 (by decide) (hts _ (List.mem_of_getElem? (i := 6) rfl)) (fun _ h9 => h9) rfl dX8_ring_61 ?_
          refine lv_iload_n hx hb dX8_ring_64 rfl (lv_at hl 1 rfl) ?_
          refine va_iald (D := D) hx hb hK hP 14 0 rfl rfl hw.1 dX8_ring_65 ?_
          have hw := hw.2
          exact G_iret hx hb hr hlocks hw hP hK hD hS dX8_ring_66
        · have hw := hw.2 c9
          refine lv_aload_n hx hb dX8_ring_51 rfl (lv_at hl 0 rfl) ?_
          refine va_get (D := D) (ci := 6) (C := RX8) (T := TX8) (N := 28) hx hb hts hinX8 hown hK hP 0 rfl rfl 19 (by decide) (hts _ (List.mem_of_getElem? (i := 5) rfl)) (fun _ h9 => h9) rfl dX8_ring_52 ?_
          refine lv_iload_n hx hb dX8_ring_55 rfl (lv_at hl 1 rfl) ?_
          refine va_iald (D := D) hx hb hK hP 13 0 rfl rfl hw.1 dX8_ring_56 ?_
          have hw := hw.2
          refine lv_goto (tgt := 66) hx hb dX8_ring_57 (by decide) ?_
          exact G_iret hx hb hr hlocks hw hP hK hD hS dX8_ring_66
      · have hw := hw.2 c9
        refine lv_aload_n hx hb dX8_ring_37 rfl (lv_at hl 0 rfl) ?_
        refine va_get (D := D) (ci := 6) (C := RX8) (T := TX8) (N := 28) hx hb hts hinX8 hown hK hP 0 rfl rfl 18 (by decide) (hts _ (List.mem_of_getElem? (i := 4) rfl)) (fun _ h9 => h9) rfl dX8_ring_38 ?_
        refine lv_iload_n hx hb dX8_ring_41 rfl (lv_at hl 1 rfl) ?_
        refine va_iald (D := D) hx hb hK hP 12 0 rfl rfl hw.1 dX8_ring_42 ?_
        have hw := hw.2
        refine lv_goto (tgt := 66) hx hb dX8_ring_43 (by decide) ?_
        exact G_iret hx hb hr hlocks hw hP hK hD hS dX8_ring_66
    · have hw := hw.2 c9
      refine lv_iconst (v := -1) hx hb dX8_ring_31 (by decide) ?_
      exact G_iret hx hb hr hlocks hw hP hK hD hS dX8_ring_32
  · have hw := hw.2 c9
    refine lv_ldc (v := -1000000002) hx hb hown (hts _ (List.mem_of_getElem? (i := 2) rfl)) dX8_ring_12 ?_
    exact G_iret hx hb hr hlocks hw hP hK hD hS dX8_ring_14

def wp_X8_shadow (σ : St) (a1 : Int32) (a2 : Int32) (a3 : Int32) (a4 : Int32) (a5 : Int32) (K : Int32 → St → Prop) : Prop :=
  wp_X8_areWell a1 a2 a3 a4 a5 (fun x1 => ((x1 = 0 → K (-1000000002 : Int32) σ) ∧ (¬ x1 = 0 → wp_X8_shadowBy a1 a2 a3 a4 a5 (fun x2 => K x2 σ))))
set_option maxHeartbeats 4000000 in
set_option maxRecDepth 100000 in
theorem c_X8_shadow (l : Launch) (D : va_G) (cI cZ : ClassId) (ad : Nat → Nat) (A : Nat → Prop) (σ : St) (a1 : Int32) (a2 : Int32) (a3 : Int32) (a4 : Int32) (a5 : Int32) (K : Int32 → St → Prop) (hw : wp_X8_shadow σ a1 a2 a3 a4 a5 K) : Met l yX8_shadow wsX8_shadow ({ frames := 3, cells := 0, slots := 0, locals := 69 }) (va_Pc [.ref (ad 0), .int a1, .int a2, .int a3, .int a4, .int a5] (GW D [(cI, FieldType.int), (cZ, FieldType.boolean)] (wM cI cZ ad) A σ)) (va_Qi K (GW D [(cI, FieldType.int), (cZ, FieldType.boolean)] (wM cI cZ ad) A) A) 0 0 A := by
  refine Met.ofW (cc := cX8_shadow) (maxL := 6) (ret := (some .int)) (by decide) rfl ?_
  intro p e s m args below meth c s₁ B hml hv
  obtain ⟨rfl, hP, hK, hD⟩ := hv
  have hx := B.exec
  have hb := B.bytes
  have hr := B.returns
  have hts := atoms_spec (ws := wsX8_shadow) B.pre
  have hown : s.vm.findClass RX8 = some m.cls := findClass_of_methodNamed B.named
  have hlocks := B.notSynchronized
  have hS : va_S A s.heap s.heap [] := va_S.rf
  have hl := lv_entry ([.ref (ad 0), .int a1, .int a2, .int a3, .int a4, .int a5]) (n := 6) (Nat.le_of_ble_eq_true rfl)
  rw [lg_entry_eq]
  generalize (lg_sl ([.ref (ad 0), .int a1, .int a2, .int a3, .int a4, .int a5]) ++ List.replicate (6 - (lg_sl ([.ref (ad 0), .int a1, .int a2, .int a3, .int a4, .int a5])).length) Slot.unset).toArray = ls at hl ⊢
  have hl : lv_has ls 6 [(0, .ref (ad 0)), (1, .int a1), (2, .int a2), (3, .int a3), (4, .int a4), (5, .int a5)] := hl
  have hP : va_P D vwCl (wM cI cZ ad σ) s.heap := hP
  refine lv_iload_n hx hb dX8_shadow_0 rfl (lv_at hl 1 rfl) ?_
  refine lv_iload_n hx hb dX8_shadow_1 rfl (lv_at hl 2 rfl) ?_
  refine lv_iload_n hx hb dX8_shadow_2 rfl (lv_at hl 3 rfl) ?_
  refine lv_iload hx hb dX8_shadow_3 (lv_at hl 4 rfl) ?_
  refine lv_iload hx hb dX8_shadow_5 (lv_at hl 5 rfl) ?_
  refine S_calli (As := [.int a1, .int a2, .int a3, .int a4, .int a5]) (rest := []) ⟨hx, hb, hml, hown, hts⟩ (c_X8_areWell l a1 a2 a3 a4 a5 _ hw) (va_cwS 5 hts gX8_shadow_X8_areWell rfl rfl rfl (by decide +kernel) ⟨Nat.le_of_ble_eq_true rfl, Nat.le_of_ble_eq_true rfl⟩) rfl hl.1 rfl (Nat.le_of_ble_eq_true rfl) dX8_shadow_7 ⟨Nat.zero_le _, Nat.zero_le _⟩ (fun x1 hw => ?_)
  refine lv_if_eq (tgt := 26) hx hb dX8_shadow_10 (by decide) (fun c9 => ?_) (fun c9 => ?_)
  · have hw := hw.1 c9
    refine lv_ldc (v := -1000000002) hx hb hown (hts _ (List.mem_of_getElem? (i := 1) rfl)) dX8_shadow_26 ?_
    exact G_iret hx hb hr hlocks hw hP hK hD hS dX8_shadow_28
  · have hw := hw.2 c9
    refine lv_iload_n hx hb dX8_shadow_13 rfl (lv_at hl 1 rfl) ?_
    refine lv_iload_n hx hb dX8_shadow_14 rfl (lv_at hl 2 rfl) ?_
    refine lv_iload_n hx hb dX8_shadow_15 rfl (lv_at hl 3 rfl) ?_
    refine lv_iload hx hb dX8_shadow_16 (lv_at hl 4 rfl) ?_
    refine lv_iload hx hb dX8_shadow_18 (lv_at hl 5 rfl) ?_
    refine S_calli (As := [.int a1, .int a2, .int a3, .int a4, .int a5]) (rest := []) ⟨hx, hb, hml, hown, hts⟩ (c_X8_shadowBy l a1 a2 a3 a4 a5 _ hw) (va_cwS 5 hts gX8_shadow_X8_shadowBy rfl rfl rfl (by decide +kernel) ⟨Nat.le_of_ble_eq_true rfl, Nat.le_of_ble_eq_true rfl⟩) rfl hl.1 rfl (Nat.le_of_ble_eq_true rfl) dX8_shadow_20 ⟨Nat.zero_le _, Nat.zero_le _⟩ (fun x2 hw => ?_)
    refine lv_goto (tgt := 28) hx hb dX8_shadow_23 (by decide) ?_
    exact G_iret hx hb hr hlocks hw hP hK hD hS dX8_shadow_28

def wp_X8_exact (σ : St) (a1 : Int32) (a2 : Int32) (a3 : Int32) (a4 : Int32) (a5 : Int32) (K : Int32 → St → Prop) : Prop :=
  wp_X8_areWell a1 a2 a3 a4 a5 (fun x1 => ((x1 = 0 → K (-1000000002 : Int32) σ) ∧ (¬ x1 = 0 → wp_X8_exactBy a1 a2 a3 a4 a5 (fun x2 => K x2 σ))))
set_option maxHeartbeats 4000000 in
set_option maxRecDepth 100000 in
theorem c_X8_exact (l : Launch) (D : va_G) (cI cZ : ClassId) (ad : Nat → Nat) (A : Nat → Prop) (σ : St) (a1 : Int32) (a2 : Int32) (a3 : Int32) (a4 : Int32) (a5 : Int32) (K : Int32 → St → Prop) (hw : wp_X8_exact σ a1 a2 a3 a4 a5 K) : Met l yX8_exact wsX8_exact ({ frames := 3, cells := 0, slots := 0, locals := 69 }) (va_Pc [.ref (ad 0), .int a1, .int a2, .int a3, .int a4, .int a5] (GW D [(cI, FieldType.int), (cZ, FieldType.boolean)] (wM cI cZ ad) A σ)) (va_Qi K (GW D [(cI, FieldType.int), (cZ, FieldType.boolean)] (wM cI cZ ad) A) A) 0 0 A := by
  refine Met.ofW (cc := cX8_exact) (maxL := 6) (ret := (some .int)) (by decide) rfl ?_
  intro p e s m args below meth c s₁ B hml hv
  obtain ⟨rfl, hP, hK, hD⟩ := hv
  have hx := B.exec
  have hb := B.bytes
  have hr := B.returns
  have hts := atoms_spec (ws := wsX8_exact) B.pre
  have hown : s.vm.findClass RX8 = some m.cls := findClass_of_methodNamed B.named
  have hlocks := B.notSynchronized
  have hS : va_S A s.heap s.heap [] := va_S.rf
  have hl := lv_entry ([.ref (ad 0), .int a1, .int a2, .int a3, .int a4, .int a5]) (n := 6) (Nat.le_of_ble_eq_true rfl)
  rw [lg_entry_eq]
  generalize (lg_sl ([.ref (ad 0), .int a1, .int a2, .int a3, .int a4, .int a5]) ++ List.replicate (6 - (lg_sl ([.ref (ad 0), .int a1, .int a2, .int a3, .int a4, .int a5])).length) Slot.unset).toArray = ls at hl ⊢
  have hl : lv_has ls 6 [(0, .ref (ad 0)), (1, .int a1), (2, .int a2), (3, .int a3), (4, .int a4), (5, .int a5)] := hl
  have hP : va_P D vwCl (wM cI cZ ad σ) s.heap := hP
  refine lv_iload_n hx hb dX8_exact_0 rfl (lv_at hl 1 rfl) ?_
  refine lv_iload_n hx hb dX8_exact_1 rfl (lv_at hl 2 rfl) ?_
  refine lv_iload_n hx hb dX8_exact_2 rfl (lv_at hl 3 rfl) ?_
  refine lv_iload hx hb dX8_exact_3 (lv_at hl 4 rfl) ?_
  refine lv_iload hx hb dX8_exact_5 (lv_at hl 5 rfl) ?_
  refine S_calli (As := [.int a1, .int a2, .int a3, .int a4, .int a5]) (rest := []) ⟨hx, hb, hml, hown, hts⟩ (c_X8_areWell l a1 a2 a3 a4 a5 _ hw) (va_cwS 5 hts gX8_exact_X8_areWell rfl rfl rfl (by decide +kernel) ⟨Nat.le_of_ble_eq_true rfl, Nat.le_of_ble_eq_true rfl⟩) rfl hl.1 rfl (Nat.le_of_ble_eq_true rfl) dX8_exact_7 ⟨Nat.zero_le _, Nat.zero_le _⟩ (fun x1 hw => ?_)
  refine lv_if_eq (tgt := 26) hx hb dX8_exact_10 (by decide) (fun c9 => ?_) (fun c9 => ?_)
  · have hw := hw.1 c9
    refine lv_ldc (v := -1000000002) hx hb hown (hts _ (List.mem_of_getElem? (i := 1) rfl)) dX8_exact_26 ?_
    exact G_iret hx hb hr hlocks hw hP hK hD hS dX8_exact_28
  · have hw := hw.2 c9
    refine lv_iload_n hx hb dX8_exact_13 rfl (lv_at hl 1 rfl) ?_
    refine lv_iload_n hx hb dX8_exact_14 rfl (lv_at hl 2 rfl) ?_
    refine lv_iload_n hx hb dX8_exact_15 rfl (lv_at hl 3 rfl) ?_
    refine lv_iload hx hb dX8_exact_16 (lv_at hl 4 rfl) ?_
    refine lv_iload hx hb dX8_exact_18 (lv_at hl 5 rfl) ?_
    refine S_calli (As := [.int a1, .int a2, .int a3, .int a4, .int a5]) (rest := []) ⟨hx, hb, hml, hown, hts⟩ (c_X8_exactBy l a1 a2 a3 a4 a5 _ hw) (va_cwS 5 hts gX8_exact_X8_exactBy rfl rfl rfl (by decide +kernel) ⟨Nat.le_of_ble_eq_true rfl, Nat.le_of_ble_eq_true rfl⟩) rfl hl.1 rfl (Nat.le_of_ble_eq_true rfl) dX8_exact_20 ⟨Nat.zero_le _, Nat.zero_le _⟩ (fun x2 hw => ?_)
    refine lv_goto (tgt := 28) hx hb dX8_exact_23 (by decide) ?_
    exact G_iret hx hb hr hlocks hw hP hK hD hS dX8_exact_28

def wl_X8_keep_89 (K : Int32 → St → Prop) : Nat → Int32 → Int32 → St → Prop
  | 0, _, _, _ => False
  | n + 1, v1, v2, σ => (((32 : Int32) ≤ v2 → vp_in v1 2 ∧ ∀ σ2 : St, σ2 = sA σ 19 (upd (σ.2.1 19) v1.toNatClampNeg (vp_nar .boolean (1 : Int32))) → ∀ σ3 : St, σ3 = sI σ2 6 (0 : Int32) → K (1 : Int32) σ3) ∧ (¬ (32 : Int32) ≤ v2 → vp_in v2 32 ∧ (((σ.2.1 3 v2.toNatClampNeg) = 0 → vp_in ((((152 : Int32) * v1) + (120 : Int32)) + v2) 304 ∧ ∀ σ4 : St, σ4 = sA σ 18 (upd (σ.2.1 18) ((((152 : Int32) * v1) + (120 : Int32)) + v2).toNatClampNeg (0 : Int32)) → ∀ x5 : Int32, x5 = v2 + 1 → wl_X8_keep_89 K n v1 x5 σ4) ∧ (¬ (σ.2.1 3 v2.toNatClampNeg) = 0 → vp_in ((((152 : Int32) * v1) + (120 : Int32)) + v2) 304 ∧ ∀ σ6 : St, σ6 = sA σ 18 (upd (σ.2.1 18) ((((152 : Int32) * v1) + (120 : Int32)) + v2).toNatClampNeg (1 : Int32)) → ∀ x7 : Int32, x7 = v2 + 1 → wl_X8_keep_89 K n v1 x7 σ6))))
def wl_X8_keep_15 (K : Int32 → St → Prop) : Nat → Int32 → Int32 → St → Prop
  | 0, _, _, _ => False
  | n + 1, v1, v2, σ => (((40 : Int32) ≤ v2 → (∃ nn : Nat, wl_X8_keep_89 K nn v1 (0 : Int32) σ)) ∧ (¬ (40 : Int32) ≤ v2 → vp_in v2 40 ∧ vp_in (((152 : Int32) * v1) + v2) 304 ∧ ∀ σ8 : St, σ8 = sA σ 18 (upd (σ.2.1 18) (((152 : Int32) * v1) + v2).toNatClampNeg (σ.2.1 0 v2.toNatClampNeg)) → vp_in v2 40 ∧ vp_in ((((152 : Int32) * v1) + (40 : Int32)) + v2) 304 ∧ ∀ σ9 : St, σ9 = sA σ8 18 (upd (σ8.2.1 18) ((((152 : Int32) * v1) + (40 : Int32)) + v2).toNatClampNeg (σ8.2.1 1 v2.toNatClampNeg)) → vp_in v2 40 ∧ vp_in ((((152 : Int32) * v1) + (80 : Int32)) + v2) 304 ∧ ∀ σ10 : St, σ10 = sA σ9 18 (upd (σ9.2.1 18) ((((152 : Int32) * v1) + (80 : Int32)) + v2).toNatClampNeg (σ9.2.1 2 v2.toNatClampNeg)) → ∀ x11 : Int32, x11 = v2 + 1 → wl_X8_keep_15 K n v1 x11 σ10))
def wp_X8_keep (σ : St) (a1 : Int32) (K : Int32 → St → Prop) : Prop :=
  wp_X8_in (a1.toInt64) (0 : Int64) (1 : Int64) (fun x1 => ((¬ x1 = 0 → (∃ nn : Nat, wl_X8_keep_15 K nn a1 (0 : Int32) σ)) ∧ (x1 = 0 → K (-1000000001 : Int32) σ)))
set_option maxHeartbeats 4000000 in
set_option maxRecDepth 100000 in
theorem c_X8_keep (l : Launch) (D : va_G) (cI cZ : ClassId) (ad : Nat → Nat) (A : Nat → Prop) (σ : St) (a1 : Int32) (K : Int32 → St → Prop) (hw : wp_X8_keep σ a1 K) : Met l yX8_keep wsX8_keep ({ frames := 1, cells := 0, slots := 0, locals := 25 }) (va_Pc [.ref (ad 0), .int a1] (GW D [(cI, FieldType.int), (cZ, FieldType.boolean)] (wM cI cZ ad) A σ)) (va_Qi K (GW D [(cI, FieldType.int), (cZ, FieldType.boolean)] (wM cI cZ ad) A) A) 0 0 A := by
  refine Met.ofW (cc := cX8_keep) (maxL := 3) (ret := (some .int)) (by decide) rfl ?_
  intro p e s m args below meth c s₁ B hml hv
  obtain ⟨rfl, hP, hK, hD⟩ := hv
  have hx := B.exec
  have hb := B.bytes
  have hr := B.returns
  have hts := atoms_spec (ws := wsX8_keep) B.pre
  have hown : s.vm.findClass RX8 = some m.cls := findClass_of_methodNamed B.named
  have hlocks := B.notSynchronized
  have hS : va_S A s.heap s.heap [] := va_S.rf
  have hinX8 : ∀ w ∈ wsX80, w ∈ wsX8_keep := fun _ h => List.mem_cons_of_mem _ (List.mem_append_right _ (h))
  have hwl_X8_keep_89 : ∀ (n : Nat) (v1 : Int32) (v2 : Int32) (σ : St), wl_X8_keep_89 K n v1 v2 σ → ∀ (H : Heap) (locs : List Loc), va_P D vwCl (wM cI cZ ad σ) H → va_D A (wM cI cZ ad σ) → va_S A s.heap H locs → ∀ ls : Array Slot, lv_has ls 3 [(0, .ref (ad 0)), (1, .int v1), (2, .int v2)] → W p l e (headSpec wsX8_keep ({ frames := 1, cells := 0, slots := 0, locals := 25 })).room s m ([.ref (ad 0), .int a1] : List Value).toArray below meth c H locs 0 0 (MQ below (va_Qi K (GW D [(cI, FieldType.int), (cZ, FieldType.boolean)] (wM cI cZ ad) A) A) ([.ref (ad 0), .int a1] : List Value).toArray s 0 0 A) (F0 m 89 ls []) := by
    intro n
    induction n with
    | zero => intro v1 v2 σ hw; exact hw.elim
    | succ n ih =>
      intro v1 v2 σ hw H locs hP hD hS ls hl
      refine lv_iload_n hx hb dX8_keep_89 rfl (lv_at hl 2 rfl) ?_
      refine lv_bipush (v := 32) hx hb dX8_keep_90 (by decide) ?_
      refine lv_icmp_ge (tgt := 130) hx hb dX8_keep_92 (by decide) (fun c9 => ?_) (fun c9 => ?_)
      · have hw := hw.1 c9
        refine lv_aload_n hx hb dX8_keep_130 rfl (lv_at hl 0 rfl) ?_
        refine va_get (D := D) (ci := 6) (C := RX8) (T := TX8) (N := 28) hx hb hts hinX8 hown hK hP 0 rfl rfl 27 (by decide) (hts _ (List.mem_of_getElem? (i := 7) rfl)) (fun _ h9 => h9) rfl dX8_keep_131 ?_
        refine lv_iload_n hx hb dX8_keep_134 rfl (lv_at hl 1 rfl) ?_
        refine lv_iconst (v := 1) hx hb dX8_keep_135 (by decide) ?_
        refine va_zast (D := D) hx hb hK hP hD hS 20 1 rfl rfl hw.1 dX8_keep_136 (fun H locs hP hD hS => ?_)
        obtain ⟨σ2, eσ2⟩ : ∃ z : St, z = sA σ 19 (upd (σ.2.1 19) v1.toNatClampNeg (vp_nar .boolean (1 : Int32))) := ⟨_, rfl⟩
        have hP : va_P D vwCl (wM cI cZ ad σ2) H := by rw [eσ2]; exact hP
        have hD : va_D A (wM cI cZ ad σ2) := by rw [eσ2]; exact hD
        have hw := hw.2 σ2 eσ2
        refine lv_aload_n hx hb dX8_keep_137 rfl (lv_at hl 0 rfl) ?_
        refine lv_iconst (v := 0) hx hb dX8_keep_138 (by decide) ?_
        refine va_put (D := D) (ci := 6) (ty := .int) (C := RX8) (T := TX8) (N := 28) hx hb hts hinX8 tyX8 tyX8_ok nmX8 hown hK hP hD hS 0 rfl rfl 21 (by decide) (hts _ (List.mem_of_getElem? (i := 8) rfl)) (fun _ h9 => h9) rfl (by decide +kernel) rfl rfl (Nat.le_of_ble_eq_true rfl) dX8_keep_139 (fun H locs hP hD hS => ?_)
        obtain ⟨σ3, eσ3⟩ : ∃ z : St, z = sI σ2 6 (0 : Int32) := ⟨_, rfl⟩
        have hP : va_P D vwCl (wM cI cZ ad σ3) H := by rw [eσ3]; exact hP
        have hD : va_D A (wM cI cZ ad σ3) := by rw [eσ3]; exact hD
        have hw := hw σ3 eσ3
        refine lv_iconst (v := 1) hx hb dX8_keep_142 (by decide) ?_
        exact G_iret hx hb hr hlocks hw hP hK hD hS dX8_keep_143
      · have hw := hw.2 c9
        refine lv_aload_n hx hb dX8_keep_95 rfl (lv_at hl 0 rfl) ?_
        refine va_get (D := D) (ci := 6) (C := RX8) (T := TX8) (N := 28) hx hb hts hinX8 hown hK hP 0 rfl rfl 26 (by decide) (hts _ (List.mem_of_getElem? (i := 2) rfl)) (fun _ h9 => h9) rfl dX8_keep_96 ?_
        refine lv_sipush (v := 152) hx hb dX8_keep_99 (by decide) ?_
        refine lv_iload_n hx hb dX8_keep_102 rfl (lv_at hl 1 rfl) ?_
        refine lv_imul hx hb dX8_keep_103 ?_
        refine lv_bipush (v := 120) hx hb dX8_keep_104 (by decide) ?_
        refine lv_iadd hx hb dX8_keep_106 ?_
        refine lv_iload_n hx hb dX8_keep_107 rfl (lv_at hl 2 rfl) ?_
        refine lv_iadd hx hb dX8_keep_108 ?_
        refine lv_aload_n hx hb dX8_keep_109 rfl (lv_at hl 0 rfl) ?_
        refine va_get (D := D) (ci := 6) (C := RX8) (T := TX8) (N := 28) hx hb hts hinX8 hown hK hP 0 rfl rfl 3 (by decide) (hts _ (List.mem_of_getElem? (i := 6) rfl)) (fun _ h9 => h9) rfl dX8_keep_110 ?_
        refine lv_iload_n hx hb dX8_keep_113 rfl (lv_at hl 2 rfl) ?_
        refine va_zald (D := D) hx hb hK hP 4 1 rfl rfl hw.1 dX8_keep_114 ?_
        have hw := hw.2
        refine lv_if_eq (tgt := 122) hx hb dX8_keep_115 (by decide) (fun c9 => ?_) (fun c9 => ?_)
        · have hw := hw.1 c9
          refine lv_iconst (v := 0) hx hb dX8_keep_122 (by decide) ?_
          refine va_iast (D := D) hx hb hK hP hD hS 19 0 rfl rfl hw.1 dX8_keep_123 (fun H locs hP hD hS => ?_)
          obtain ⟨σ4, eσ4⟩ : ∃ z : St, z = sA σ 18 (upd (σ.2.1 18) ((((152 : Int32) * v1) + (120 : Int32)) + v2).toNatClampNeg (0 : Int32)) := ⟨_, rfl⟩
          have hP : va_P D vwCl (wM cI cZ ad σ4) H := by rw [eσ4]; exact hP
          have hD : va_D A (wM cI cZ ad σ4) := by rw [eσ4]; exact hD
          have hw := hw.2 σ4 eσ4
          obtain ⟨x5, ex5⟩ : ∃ y : Int32, y = v2 + 1 := ⟨_, rfl⟩
          have hw := hw x5 ex5
          refine lv_iinc (v := x5) (lv' := [(2, .int x5), (0, .ref (ad 0)), (1, .int v1)]) hx hb dX8_keep_124 hl (k := 2) rfl (by rw [ex5]; rfl) (by decide) rfl (fun ls hl => ?_)
          refine lv_goto (tgt := 89) hx hb dX8_keep_127 (by decide) ?_
          exact ih v1 x5 σ4 hw _ _ hP hD hS ls (lv_sub hl [1, 2, 0] rfl)
        · have hw := hw.2 c9
          refine lv_iconst (v := 1) hx hb dX8_keep_118 (by decide) ?_
          refine lv_goto (tgt := 123) hx hb dX8_keep_119 (by decide) ?_
          refine va_iast (D := D) hx hb hK hP hD hS 19 0 rfl rfl hw.1 dX8_keep_123 (fun H locs hP hD hS => ?_)
          obtain ⟨σ6, eσ6⟩ : ∃ z : St, z = sA σ 18 (upd (σ.2.1 18) ((((152 : Int32) * v1) + (120 : Int32)) + v2).toNatClampNeg (1 : Int32)) := ⟨_, rfl⟩
          have hP : va_P D vwCl (wM cI cZ ad σ6) H := by rw [eσ6]; exact hP
          have hD : va_D A (wM cI cZ ad σ6) := by rw [eσ6]; exact hD
          have hw := hw.2 σ6 eσ6
          obtain ⟨x7, ex7⟩ : ∃ y : Int32, y = v2 + 1 := ⟨_, rfl⟩
          have hw := hw x7 ex7
          refine lv_iinc (v := x7) (lv' := [(2, .int x7), (0, .ref (ad 0)), (1, .int v1)]) hx hb dX8_keep_124 hl (k := 2) rfl (by rw [ex7]; rfl) (by decide) rfl (fun ls hl => ?_)
          refine lv_goto (tgt := 89) hx hb dX8_keep_127 (by decide) ?_
          exact ih v1 x7 σ6 hw _ _ hP hD hS ls (lv_sub hl [1, 2, 0] rfl)
  have hwl_X8_keep_15 : ∀ (n : Nat) (v1 : Int32) (v2 : Int32) (σ : St), wl_X8_keep_15 K n v1 v2 σ → ∀ (H : Heap) (locs : List Loc), va_P D vwCl (wM cI cZ ad σ) H → va_D A (wM cI cZ ad σ) → va_S A s.heap H locs → ∀ ls : Array Slot, lv_has ls 3 [(0, .ref (ad 0)), (1, .int v1), (2, .int v2)] → W p l e (headSpec wsX8_keep ({ frames := 1, cells := 0, slots := 0, locals := 25 })).room s m ([.ref (ad 0), .int a1] : List Value).toArray below meth c H locs 0 0 (MQ below (va_Qi K (GW D [(cI, FieldType.int), (cZ, FieldType.boolean)] (wM cI cZ ad) A) A) ([.ref (ad 0), .int a1] : List Value).toArray s 0 0 A) (F0 m 15 ls []) := by
    intro n
    induction n with
    | zero => intro v1 v2 σ hw; exact hw.elim
    | succ n ih =>
      intro v1 v2 σ hw H locs hP hD hS ls hl
      refine lv_iload_n hx hb dX8_keep_15 rfl (lv_at hl 2 rfl) ?_
      refine lv_bipush (v := 40) hx hb dX8_keep_16 (by decide) ?_
      refine lv_icmp_ge (tgt := 87) hx hb dX8_keep_18 (by decide) (fun c9 => ?_) (fun c9 => ?_)
      · have hw := hw.1 c9
        refine lv_iconst (v := 0) hx hb dX8_keep_87 (by decide) ?_
        refine lv_istore_n (lv' := [(2, .int (0 : Int32)), (0, .ref (ad 0)), (1, .int v1)]) hx hb dX8_keep_88 rfl hl (by decide) rfl (fun ls hl => ?_)
        obtain ⟨nn, hw⟩ := hw
        exact hwl_X8_keep_89 nn v1 (0 : Int32) σ hw _ _ hP hD hS ls (lv_sub hl [1, 2, 0] rfl)
      · have hw := hw.2 c9
        refine lv_aload_n hx hb dX8_keep_21 rfl (lv_at hl 0 rfl) ?_
        refine va_get (D := D) (ci := 6) (C := RX8) (T := TX8) (N := 28) hx hb hts hinX8 hown hK hP 0 rfl rfl 26 (by decide) (hts _ (List.mem_of_getElem? (i := 2) rfl)) (fun _ h9 => h9) rfl dX8_keep_22 ?_
        refine lv_sipush (v := 152) hx hb dX8_keep_25 (by decide) ?_
        refine lv_iload_n hx hb dX8_keep_28 rfl (lv_at hl 1 rfl) ?_
        refine lv_imul hx hb dX8_keep_29 ?_
        refine lv_iload_n hx hb dX8_keep_30 rfl (lv_at hl 2 rfl) ?_
        refine lv_iadd hx hb dX8_keep_31 ?_
        refine lv_aload_n hx hb dX8_keep_32 rfl (lv_at hl 0 rfl) ?_
        refine va_get (D := D) (ci := 6) (C := RX8) (T := TX8) (N := 28) hx hb hts hinX8 hown hK hP 0 rfl rfl 0 (by decide) (hts _ (List.mem_of_getElem? (i := 3) rfl)) (fun _ h9 => h9) rfl dX8_keep_33 ?_
        refine lv_iload_n hx hb dX8_keep_36 rfl (lv_at hl 2 rfl) ?_
        refine va_iald (D := D) hx hb hK hP 1 0 rfl rfl hw.1 dX8_keep_37 ?_
        have hw := hw.2
        refine va_iast (D := D) hx hb hK hP hD hS 19 0 rfl rfl hw.1 dX8_keep_38 (fun H locs hP hD hS => ?_)
        obtain ⟨σ8, eσ8⟩ : ∃ z : St, z = sA σ 18 (upd (σ.2.1 18) (((152 : Int32) * v1) + v2).toNatClampNeg (σ.2.1 0 v2.toNatClampNeg)) := ⟨_, rfl⟩
        have hP : va_P D vwCl (wM cI cZ ad σ8) H := by rw [eσ8]; exact hP
        have hD : va_D A (wM cI cZ ad σ8) := by rw [eσ8]; exact hD
        have hw := hw.2 σ8 eσ8
        refine lv_aload_n hx hb dX8_keep_39 rfl (lv_at hl 0 rfl) ?_
        refine va_get (D := D) (ci := 6) (C := RX8) (T := TX8) (N := 28) hx hb hts hinX8 hown hK hP 0 rfl rfl 26 (by decide) (hts _ (List.mem_of_getElem? (i := 2) rfl)) (fun _ h9 => h9) rfl dX8_keep_40 ?_
        refine lv_sipush (v := 152) hx hb dX8_keep_43 (by decide) ?_
        refine lv_iload_n hx hb dX8_keep_46 rfl (lv_at hl 1 rfl) ?_
        refine lv_imul hx hb dX8_keep_47 ?_
        refine lv_bipush (v := 40) hx hb dX8_keep_48 (by decide) ?_
        refine lv_iadd hx hb dX8_keep_50 ?_
        refine lv_iload_n hx hb dX8_keep_51 rfl (lv_at hl 2 rfl) ?_
        refine lv_iadd hx hb dX8_keep_52 ?_
        refine lv_aload_n hx hb dX8_keep_53 rfl (lv_at hl 0 rfl) ?_
        refine va_get (D := D) (ci := 6) (C := RX8) (T := TX8) (N := 28) hx hb hts hinX8 hown hK hP 0 rfl rfl 1 (by decide) (hts _ (List.mem_of_getElem? (i := 4) rfl)) (fun _ h9 => h9) rfl dX8_keep_54 ?_
        refine lv_iload_n hx hb dX8_keep_57 rfl (lv_at hl 2 rfl) ?_
        refine va_iald (D := D) hx hb hK hP 2 0 rfl rfl hw.1 dX8_keep_58 ?_
        have hw := hw.2
        refine va_iast (D := D) hx hb hK hP hD hS 19 0 rfl rfl hw.1 dX8_keep_59 (fun H locs hP hD hS => ?_)
        obtain ⟨σ9, eσ9⟩ : ∃ z : St, z = sA σ8 18 (upd (σ8.2.1 18) ((((152 : Int32) * v1) + (40 : Int32)) + v2).toNatClampNeg (σ8.2.1 1 v2.toNatClampNeg)) := ⟨_, rfl⟩
        have hP : va_P D vwCl (wM cI cZ ad σ9) H := by rw [eσ9]; exact hP
        have hD : va_D A (wM cI cZ ad σ9) := by rw [eσ9]; exact hD
        have hw := hw.2 σ9 eσ9
        refine lv_aload_n hx hb dX8_keep_60 rfl (lv_at hl 0 rfl) ?_
        refine va_get (D := D) (ci := 6) (C := RX8) (T := TX8) (N := 28) hx hb hts hinX8 hown hK hP 0 rfl rfl 26 (by decide) (hts _ (List.mem_of_getElem? (i := 2) rfl)) (fun _ h9 => h9) rfl dX8_keep_61 ?_
        refine lv_sipush (v := 152) hx hb dX8_keep_64 (by decide) ?_
        refine lv_iload_n hx hb dX8_keep_67 rfl (lv_at hl 1 rfl) ?_
        refine lv_imul hx hb dX8_keep_68 ?_
        refine lv_bipush (v := 80) hx hb dX8_keep_69 (by decide) ?_
        refine lv_iadd hx hb dX8_keep_71 ?_
        refine lv_iload_n hx hb dX8_keep_72 rfl (lv_at hl 2 rfl) ?_
        refine lv_iadd hx hb dX8_keep_73 ?_
        refine lv_aload_n hx hb dX8_keep_74 rfl (lv_at hl 0 rfl) ?_
        refine va_get (D := D) (ci := 6) (C := RX8) (T := TX8) (N := 28) hx hb hts hinX8 hown hK hP 0 rfl rfl 2 (by decide) (hts _ (List.mem_of_getElem? (i := 5) rfl)) (fun _ h9 => h9) rfl dX8_keep_75 ?_
        refine lv_iload_n hx hb dX8_keep_78 rfl (lv_at hl 2 rfl) ?_
        refine va_iald (D := D) hx hb hK hP 3 0 rfl rfl hw.1 dX8_keep_79 ?_
        have hw := hw.2
        refine va_iast (D := D) hx hb hK hP hD hS 19 0 rfl rfl hw.1 dX8_keep_80 (fun H locs hP hD hS => ?_)
        obtain ⟨σ10, eσ10⟩ : ∃ z : St, z = sA σ9 18 (upd (σ9.2.1 18) ((((152 : Int32) * v1) + (80 : Int32)) + v2).toNatClampNeg (σ9.2.1 2 v2.toNatClampNeg)) := ⟨_, rfl⟩
        have hP : va_P D vwCl (wM cI cZ ad σ10) H := by rw [eσ10]; exact hP
        have hD : va_D A (wM cI cZ ad σ10) := by rw [eσ10]; exact hD
        have hw := hw.2 σ10 eσ10
        obtain ⟨x11, ex11⟩ : ∃ y : Int32, y = v2 + 1 := ⟨_, rfl⟩
        have hw := hw x11 ex11
        refine lv_iinc (v := x11) (lv' := [(2, .int x11), (0, .ref (ad 0)), (1, .int v1)]) hx hb dX8_keep_81 hl (k := 2) rfl (by rw [ex11]; rfl) (by decide) rfl (fun ls hl => ?_)
        refine lv_goto (tgt := 15) hx hb dX8_keep_84 (by decide) ?_
        exact ih v1 x11 σ10 hw _ _ hP hD hS ls (lv_sub hl [1, 2, 0] rfl)
  have hl := lv_entry ([.ref (ad 0), .int a1]) (n := 3) (Nat.le_of_ble_eq_true rfl)
  rw [lg_entry_eq]
  generalize (lg_sl ([.ref (ad 0), .int a1]) ++ List.replicate (3 - (lg_sl ([.ref (ad 0), .int a1])).length) Slot.unset).toArray = ls at hl ⊢
  have hl : lv_has ls 3 [(0, .ref (ad 0)), (1, .int a1)] := hl
  have hP : va_P D vwCl (wM cI cZ ad σ) s.heap := hP
  refine lv_iload_n hx hb dX8_keep_0 rfl (lv_at hl 1 rfl) ?_
  refine lv_i2l hx hb dX8_keep_1 rfl ?_
  refine lv_lconst (v := 0) hx hb dX8_keep_2 (by decide) ?_
  refine lv_lconst (v := 1) hx hb dX8_keep_3 (by decide) ?_
  refine S_calli (As := [.long (a1.toInt64), .long (0 : Int64), .long (1 : Int64)]) (rest := []) ⟨hx, hb, hml, hown, hts⟩ (c_X8_in l (a1.toInt64) (0 : Int64) (1 : Int64) _ hw) (va_cwS 3 hts gX8_keep_X8_in rfl rfl rfl (by decide +kernel) ⟨Nat.le_of_ble_eq_true rfl, Nat.le_of_ble_eq_true rfl⟩) rfl hl.1 rfl (Nat.le_of_ble_eq_true rfl) dX8_keep_4 ⟨Nat.zero_le _, Nat.zero_le _⟩ (fun x1 hw => ?_)
  refine lv_if_ne (tgt := 13) hx hb dX8_keep_7 (by decide) (fun c9 => ?_) (fun c9 => ?_)
  · have hw := hw.1 c9
    refine lv_iconst (v := 0) hx hb dX8_keep_13 (by decide) ?_
    refine lv_istore_n (lv' := [(2, .int (0 : Int32)), (0, .ref (ad 0)), (1, .int a1)]) hx hb dX8_keep_14 rfl hl (by decide) rfl (fun ls hl => ?_)
    obtain ⟨nn, hw⟩ := hw
    exact hwl_X8_keep_15 nn a1 (0 : Int32) σ hw _ _ hP hD hS ls (lv_sub hl [1, 2, 0] rfl)
  · have hw := hw.2 c9
    refine lv_ldc (v := -1000000001) hx hb hown (hts _ (List.mem_of_getElem? (i := 1) rfl)) dX8_keep_10 ?_
    exact G_iret hx hb hr hlocks hw hP hK hD hS dX8_keep_12

def wl_X8_goBack_101 (K : Int32 → St → Prop) : Nat → Int32 → Int32 → St → Prop
  | 0, _, _, _ => False
  | n + 1, v1, v2, σ => (((32 : Int32) ≤ v2 → ∀ σ2 : St, σ2 = sI σ 6 (0 : Int32) → K (1 : Int32) σ2) ∧ (¬ (32 : Int32) ≤ v2 → vp_in ((((152 : Int32) * v1) + (120 : Int32)) + v2) 304 ∧ ((¬ (σ.2.1 18 ((((152 : Int32) * v1) + (120 : Int32)) + v2).toNatClampNeg) = (1 : Int32) → vp_in v2 32 ∧ ∀ σ3 : St, σ3 = sA σ 3 (upd (σ.2.1 3) v2.toNatClampNeg (vp_nar .boolean (0 : Int32))) → ∀ x4 : Int32, x4 = v2 + 1 → wl_X8_goBack_101 K n v1 x4 σ3) ∧ ((σ.2.1 18 ((((152 : Int32) * v1) + (120 : Int32)) + v2).toNatClampNeg) = (1 : Int32) → vp_in v2 32 ∧ ∀ σ5 : St, σ5 = sA σ 3 (upd (σ.2.1 3) v2.toNatClampNeg (vp_nar .boolean (1 : Int32))) → ∀ x6 : Int32, x6 = v2 + 1 → wl_X8_goBack_101 K n v1 x6 σ5))))
def wl_X8_goBack_27 (K : Int32 → St → Prop) : Nat → Int32 → Int32 → St → Prop
  | 0, _, _, _ => False
  | n + 1, v1, v2, σ => (((40 : Int32) ≤ v2 → (∃ nn : Nat, wl_X8_goBack_101 K nn v1 (0 : Int32) σ)) ∧ (¬ (40 : Int32) ≤ v2 → vp_in (((152 : Int32) * v1) + v2) 304 ∧ vp_in v2 40 ∧ ∀ σ7 : St, σ7 = sA σ 0 (upd (σ.2.1 0) v2.toNatClampNeg (σ.2.1 18 (((152 : Int32) * v1) + v2).toNatClampNeg)) → vp_in ((((152 : Int32) * v1) + (40 : Int32)) + v2) 304 ∧ vp_in v2 40 ∧ ∀ σ8 : St, σ8 = sA σ7 1 (upd (σ7.2.1 1) v2.toNatClampNeg (σ7.2.1 18 ((((152 : Int32) * v1) + (40 : Int32)) + v2).toNatClampNeg)) → vp_in ((((152 : Int32) * v1) + (80 : Int32)) + v2) 304 ∧ vp_in v2 40 ∧ ∀ σ9 : St, σ9 = sA σ8 2 (upd (σ8.2.1 2) v2.toNatClampNeg (σ8.2.1 18 ((((152 : Int32) * v1) + (80 : Int32)) + v2).toNatClampNeg)) → ∀ x10 : Int32, x10 = v2 + 1 → wl_X8_goBack_27 K n v1 x10 σ9))
def wp_X8_goBack (σ : St) (a1 : Int32) (K : Int32 → St → Prop) : Prop :=
  wp_X8_in (a1.toInt64) (0 : Int64) (1 : Int64) (fun x1 => ((¬ x1 = 0 → vp_in a1 2 ∧ ((¬ (σ.2.1 19 a1.toNatClampNeg) = 0 → (∃ nn : Nat, wl_X8_goBack_27 K nn a1 (0 : Int32) σ)) ∧ ((σ.2.1 19 a1.toNatClampNeg) = 0 → K (-1000000003 : Int32) σ))) ∧ (x1 = 0 → K (-1000000001 : Int32) σ)))
set_option maxHeartbeats 4000000 in
set_option maxRecDepth 100000 in
theorem c_X8_goBack (l : Launch) (D : va_G) (cI cZ : ClassId) (ad : Nat → Nat) (A : Nat → Prop) (σ : St) (a1 : Int32) (K : Int32 → St → Prop) (hw : wp_X8_goBack σ a1 K) : Met l yX8_goBack wsX8_goBack ({ frames := 1, cells := 0, slots := 0, locals := 25 }) (va_Pc [.ref (ad 0), .int a1] (GW D [(cI, FieldType.int), (cZ, FieldType.boolean)] (wM cI cZ ad) A σ)) (va_Qi K (GW D [(cI, FieldType.int), (cZ, FieldType.boolean)] (wM cI cZ ad) A) A) 0 0 A := by
  refine Met.ofW (cc := cX8_goBack) (maxL := 3) (ret := (some .int)) (by decide) rfl ?_
  intro p e s m args below meth c s₁ B hml hv
  obtain ⟨rfl, hP, hK, hD⟩ := hv
  have hx := B.exec
  have hb := B.bytes
  have hr := B.returns
  have hts := atoms_spec (ws := wsX8_goBack) B.pre
  have hown : s.vm.findClass RX8 = some m.cls := findClass_of_methodNamed B.named
  have hlocks := B.notSynchronized
  have hS : va_S A s.heap s.heap [] := va_S.rf
  have hinX8 : ∀ w ∈ wsX80, w ∈ wsX8_goBack := fun _ h => List.mem_cons_of_mem _ (List.mem_append_right _ (h))
  have hwl_X8_goBack_101 : ∀ (n : Nat) (v1 : Int32) (v2 : Int32) (σ : St), wl_X8_goBack_101 K n v1 v2 σ → ∀ (H : Heap) (locs : List Loc), va_P D vwCl (wM cI cZ ad σ) H → va_D A (wM cI cZ ad σ) → va_S A s.heap H locs → ∀ ls : Array Slot, lv_has ls 3 [(0, .ref (ad 0)), (1, .int v1), (2, .int v2)] → W p l e (headSpec wsX8_goBack ({ frames := 1, cells := 0, slots := 0, locals := 25 })).room s m ([.ref (ad 0), .int a1] : List Value).toArray below meth c H locs 0 0 (MQ below (va_Qi K (GW D [(cI, FieldType.int), (cZ, FieldType.boolean)] (wM cI cZ ad) A) A) ([.ref (ad 0), .int a1] : List Value).toArray s 0 0 A) (F0 m 101 ls []) := by
    intro n
    induction n with
    | zero => intro v1 v2 σ hw; exact hw.elim
    | succ n ih =>
      intro v1 v2 σ hw H locs hP hD hS ls hl
      refine lv_iload_n hx hb dX8_goBack_101 rfl (lv_at hl 2 rfl) ?_
      refine lv_bipush (v := 32) hx hb dX8_goBack_102 (by decide) ?_
      refine lv_icmp_ge (tgt := 143) hx hb dX8_goBack_104 (by decide) (fun c9 => ?_) (fun c9 => ?_)
      · have hw := hw.1 c9
        refine lv_aload_n hx hb dX8_goBack_143 rfl (lv_at hl 0 rfl) ?_
        refine lv_iconst (v := 0) hx hb dX8_goBack_144 (by decide) ?_
        refine va_put (D := D) (ci := 6) (ty := .int) (C := RX8) (T := TX8) (N := 28) hx hb hts hinX8 tyX8 tyX8_ok nmX8 hown hK hP hD hS 0 rfl rfl 21 (by decide) (hts _ (List.mem_of_getElem? (i := 9) rfl)) (fun _ h9 => h9) rfl (by decide +kernel) rfl rfl (Nat.le_of_ble_eq_true rfl) dX8_goBack_145 (fun H locs hP hD hS => ?_)
        obtain ⟨σ2, eσ2⟩ : ∃ z : St, z = sI σ 6 (0 : Int32) := ⟨_, rfl⟩
        have hP : va_P D vwCl (wM cI cZ ad σ2) H := by rw [eσ2]; exact hP
        have hD : va_D A (wM cI cZ ad σ2) := by rw [eσ2]; exact hD
        have hw := hw σ2 eσ2
        refine lv_iconst (v := 1) hx hb dX8_goBack_148 (by decide) ?_
        exact G_iret hx hb hr hlocks hw hP hK hD hS dX8_goBack_149
      · have hw := hw.2 c9
        refine lv_aload_n hx hb dX8_goBack_107 rfl (lv_at hl 0 rfl) ?_
        refine va_get (D := D) (ci := 6) (C := RX8) (T := TX8) (N := 28) hx hb hts hinX8 hown hK hP 0 rfl rfl 3 (by decide) (hts _ (List.mem_of_getElem? (i := 8) rfl)) (fun _ h9 => h9) rfl dX8_goBack_108 ?_
        refine lv_iload_n hx hb dX8_goBack_111 rfl (lv_at hl 2 rfl) ?_
        refine lv_aload_n hx hb dX8_goBack_112 rfl (lv_at hl 0 rfl) ?_
        refine va_get (D := D) (ci := 6) (C := RX8) (T := TX8) (N := 28) hx hb hts hinX8 hown hK hP 0 rfl rfl 26 (by decide) (hts _ (List.mem_of_getElem? (i := 5) rfl)) (fun _ h9 => h9) rfl dX8_goBack_113 ?_
        refine lv_sipush (v := 152) hx hb dX8_goBack_116 (by decide) ?_
        refine lv_iload_n hx hb dX8_goBack_119 rfl (lv_at hl 1 rfl) ?_
        refine lv_imul hx hb dX8_goBack_120 ?_
        refine lv_bipush (v := 120) hx hb dX8_goBack_121 (by decide) ?_
        refine lv_iadd hx hb dX8_goBack_123 ?_
        refine lv_iload_n hx hb dX8_goBack_124 rfl (lv_at hl 2 rfl) ?_
        refine lv_iadd hx hb dX8_goBack_125 ?_
        refine va_iald (D := D) hx hb hK hP 19 0 rfl rfl hw.1 dX8_goBack_126 ?_
        have hw := hw.2
        refine lv_iconst (v := 1) hx hb dX8_goBack_127 (by decide) ?_
        refine lv_icmp_ne (tgt := 135) hx hb dX8_goBack_128 (by decide) (fun c9 => ?_) (fun c9 => ?_)
        · have hw := hw.1 c9
          refine lv_iconst (v := 0) hx hb dX8_goBack_135 (by decide) ?_
          refine va_zast (D := D) hx hb hK hP hD hS 4 1 rfl rfl hw.1 dX8_goBack_136 (fun H locs hP hD hS => ?_)
          obtain ⟨σ3, eσ3⟩ : ∃ z : St, z = sA σ 3 (upd (σ.2.1 3) v2.toNatClampNeg (vp_nar .boolean (0 : Int32))) := ⟨_, rfl⟩
          have hP : va_P D vwCl (wM cI cZ ad σ3) H := by rw [eσ3]; exact hP
          have hD : va_D A (wM cI cZ ad σ3) := by rw [eσ3]; exact hD
          have hw := hw.2 σ3 eσ3
          obtain ⟨x4, ex4⟩ : ∃ y : Int32, y = v2 + 1 := ⟨_, rfl⟩
          have hw := hw x4 ex4
          refine lv_iinc (v := x4) (lv' := [(2, .int x4), (0, .ref (ad 0)), (1, .int v1)]) hx hb dX8_goBack_137 hl (k := 2) rfl (by rw [ex4]; rfl) (by decide) rfl (fun ls hl => ?_)
          refine lv_goto (tgt := 101) hx hb dX8_goBack_140 (by decide) ?_
          exact ih v1 x4 σ3 hw _ _ hP hD hS ls (lv_sub hl [1, 2, 0] rfl)
        · have hw := hw.2 c9
          refine lv_iconst (v := 1) hx hb dX8_goBack_131 (by decide) ?_
          refine lv_goto (tgt := 136) hx hb dX8_goBack_132 (by decide) ?_
          refine va_zast (D := D) hx hb hK hP hD hS 4 1 rfl rfl hw.1 dX8_goBack_136 (fun H locs hP hD hS => ?_)
          obtain ⟨σ5, eσ5⟩ : ∃ z : St, z = sA σ 3 (upd (σ.2.1 3) v2.toNatClampNeg (vp_nar .boolean (1 : Int32))) := ⟨_, rfl⟩
          have hP : va_P D vwCl (wM cI cZ ad σ5) H := by rw [eσ5]; exact hP
          have hD : va_D A (wM cI cZ ad σ5) := by rw [eσ5]; exact hD
          have hw := hw.2 σ5 eσ5
          obtain ⟨x6, ex6⟩ : ∃ y : Int32, y = v2 + 1 := ⟨_, rfl⟩
          have hw := hw x6 ex6
          refine lv_iinc (v := x6) (lv' := [(2, .int x6), (0, .ref (ad 0)), (1, .int v1)]) hx hb dX8_goBack_137 hl (k := 2) rfl (by rw [ex6]; rfl) (by decide) rfl (fun ls hl => ?_)
          refine lv_goto (tgt := 101) hx hb dX8_goBack_140 (by decide) ?_
          exact ih v1 x6 σ5 hw _ _ hP hD hS ls (lv_sub hl [1, 2, 0] rfl)
  have hwl_X8_goBack_27 : ∀ (n : Nat) (v1 : Int32) (v2 : Int32) (σ : St), wl_X8_goBack_27 K n v1 v2 σ → ∀ (H : Heap) (locs : List Loc), va_P D vwCl (wM cI cZ ad σ) H → va_D A (wM cI cZ ad σ) → va_S A s.heap H locs → ∀ ls : Array Slot, lv_has ls 3 [(0, .ref (ad 0)), (1, .int v1), (2, .int v2)] → W p l e (headSpec wsX8_goBack ({ frames := 1, cells := 0, slots := 0, locals := 25 })).room s m ([.ref (ad 0), .int a1] : List Value).toArray below meth c H locs 0 0 (MQ below (va_Qi K (GW D [(cI, FieldType.int), (cZ, FieldType.boolean)] (wM cI cZ ad) A) A) ([.ref (ad 0), .int a1] : List Value).toArray s 0 0 A) (F0 m 27 ls []) := by
    intro n
    induction n with
    | zero => intro v1 v2 σ hw; exact hw.elim
    | succ n ih =>
      intro v1 v2 σ hw H locs hP hD hS ls hl
      refine lv_iload_n hx hb dX8_goBack_27 rfl (lv_at hl 2 rfl) ?_
      refine lv_bipush (v := 40) hx hb dX8_goBack_28 (by decide) ?_
      refine lv_icmp_ge (tgt := 99) hx hb dX8_goBack_30 (by decide) (fun c9 => ?_) (fun c9 => ?_)
      · have hw := hw.1 c9
        refine lv_iconst (v := 0) hx hb dX8_goBack_99 (by decide) ?_
        refine lv_istore_n (lv' := [(2, .int (0 : Int32)), (0, .ref (ad 0)), (1, .int v1)]) hx hb dX8_goBack_100 rfl hl (by decide) rfl (fun ls hl => ?_)
        obtain ⟨nn, hw⟩ := hw
        exact hwl_X8_goBack_101 nn v1 (0 : Int32) σ hw _ _ hP hD hS ls (lv_sub hl [1, 2, 0] rfl)
      · have hw := hw.2 c9
        refine lv_aload_n hx hb dX8_goBack_33 rfl (lv_at hl 0 rfl) ?_
        refine va_get (D := D) (ci := 6) (C := RX8) (T := TX8) (N := 28) hx hb hts hinX8 hown hK hP 0 rfl rfl 0 (by decide) (hts _ (List.mem_of_getElem? (i := 4) rfl)) (fun _ h9 => h9) rfl dX8_goBack_34 ?_
        refine lv_iload_n hx hb dX8_goBack_37 rfl (lv_at hl 2 rfl) ?_
        refine lv_aload_n hx hb dX8_goBack_38 rfl (lv_at hl 0 rfl) ?_
        refine va_get (D := D) (ci := 6) (C := RX8) (T := TX8) (N := 28) hx hb hts hinX8 hown hK hP 0 rfl rfl 26 (by decide) (hts _ (List.mem_of_getElem? (i := 5) rfl)) (fun _ h9 => h9) rfl dX8_goBack_39 ?_
        refine lv_sipush (v := 152) hx hb dX8_goBack_42 (by decide) ?_
        refine lv_iload_n hx hb dX8_goBack_45 rfl (lv_at hl 1 rfl) ?_
        refine lv_imul hx hb dX8_goBack_46 ?_
        refine lv_iload_n hx hb dX8_goBack_47 rfl (lv_at hl 2 rfl) ?_
        refine lv_iadd hx hb dX8_goBack_48 ?_
        refine va_iald (D := D) hx hb hK hP 19 0 rfl rfl hw.1 dX8_goBack_49 ?_
        have hw := hw.2
        refine va_iast (D := D) hx hb hK hP hD hS 1 0 rfl rfl hw.1 dX8_goBack_50 (fun H locs hP hD hS => ?_)
        obtain ⟨σ7, eσ7⟩ : ∃ z : St, z = sA σ 0 (upd (σ.2.1 0) v2.toNatClampNeg (σ.2.1 18 (((152 : Int32) * v1) + v2).toNatClampNeg)) := ⟨_, rfl⟩
        have hP : va_P D vwCl (wM cI cZ ad σ7) H := by rw [eσ7]; exact hP
        have hD : va_D A (wM cI cZ ad σ7) := by rw [eσ7]; exact hD
        have hw := hw.2 σ7 eσ7
        refine lv_aload_n hx hb dX8_goBack_51 rfl (lv_at hl 0 rfl) ?_
        refine va_get (D := D) (ci := 6) (C := RX8) (T := TX8) (N := 28) hx hb hts hinX8 hown hK hP 0 rfl rfl 1 (by decide) (hts _ (List.mem_of_getElem? (i := 6) rfl)) (fun _ h9 => h9) rfl dX8_goBack_52 ?_
        refine lv_iload_n hx hb dX8_goBack_55 rfl (lv_at hl 2 rfl) ?_
        refine lv_aload_n hx hb dX8_goBack_56 rfl (lv_at hl 0 rfl) ?_
        refine va_get (D := D) (ci := 6) (C := RX8) (T := TX8) (N := 28) hx hb hts hinX8 hown hK hP 0 rfl rfl 26 (by decide) (hts _ (List.mem_of_getElem? (i := 5) rfl)) (fun _ h9 => h9) rfl dX8_goBack_57 ?_
        refine lv_sipush (v := 152) hx hb dX8_goBack_60 (by decide) ?_
        refine lv_iload_n hx hb dX8_goBack_63 rfl (lv_at hl 1 rfl) ?_
        refine lv_imul hx hb dX8_goBack_64 ?_
        refine lv_bipush (v := 40) hx hb dX8_goBack_65 (by decide) ?_
        refine lv_iadd hx hb dX8_goBack_67 ?_
        refine lv_iload_n hx hb dX8_goBack_68 rfl (lv_at hl 2 rfl) ?_
        refine lv_iadd hx hb dX8_goBack_69 ?_
        refine va_iald (D := D) hx hb hK hP 19 0 rfl rfl hw.1 dX8_goBack_70 ?_
        have hw := hw.2
        refine va_iast (D := D) hx hb hK hP hD hS 2 0 rfl rfl hw.1 dX8_goBack_71 (fun H locs hP hD hS => ?_)
        obtain ⟨σ8, eσ8⟩ : ∃ z : St, z = sA σ7 1 (upd (σ7.2.1 1) v2.toNatClampNeg (σ7.2.1 18 ((((152 : Int32) * v1) + (40 : Int32)) + v2).toNatClampNeg)) := ⟨_, rfl⟩
        have hP : va_P D vwCl (wM cI cZ ad σ8) H := by rw [eσ8]; exact hP
        have hD : va_D A (wM cI cZ ad σ8) := by rw [eσ8]; exact hD
        have hw := hw.2 σ8 eσ8
        refine lv_aload_n hx hb dX8_goBack_72 rfl (lv_at hl 0 rfl) ?_
        refine va_get (D := D) (ci := 6) (C := RX8) (T := TX8) (N := 28) hx hb hts hinX8 hown hK hP 0 rfl rfl 2 (by decide) (hts _ (List.mem_of_getElem? (i := 7) rfl)) (fun _ h9 => h9) rfl dX8_goBack_73 ?_
        refine lv_iload_n hx hb dX8_goBack_76 rfl (lv_at hl 2 rfl) ?_
        refine lv_aload_n hx hb dX8_goBack_77 rfl (lv_at hl 0 rfl) ?_
        refine va_get (D := D) (ci := 6) (C := RX8) (T := TX8) (N := 28) hx hb hts hinX8 hown hK hP 0 rfl rfl 26 (by decide) (hts _ (List.mem_of_getElem? (i := 5) rfl)) (fun _ h9 => h9) rfl dX8_goBack_78 ?_
        refine lv_sipush (v := 152) hx hb dX8_goBack_81 (by decide) ?_
        refine lv_iload_n hx hb dX8_goBack_84 rfl (lv_at hl 1 rfl) ?_
        refine lv_imul hx hb dX8_goBack_85 ?_
        refine lv_bipush (v := 80) hx hb dX8_goBack_86 (by decide) ?_
        refine lv_iadd hx hb dX8_goBack_88 ?_
        refine lv_iload_n hx hb dX8_goBack_89 rfl (lv_at hl 2 rfl) ?_
        refine lv_iadd hx hb dX8_goBack_90 ?_
        refine va_iald (D := D) hx hb hK hP 19 0 rfl rfl hw.1 dX8_goBack_91 ?_
        have hw := hw.2
        refine va_iast (D := D) hx hb hK hP hD hS 3 0 rfl rfl hw.1 dX8_goBack_92 (fun H locs hP hD hS => ?_)
        obtain ⟨σ9, eσ9⟩ : ∃ z : St, z = sA σ8 2 (upd (σ8.2.1 2) v2.toNatClampNeg (σ8.2.1 18 ((((152 : Int32) * v1) + (80 : Int32)) + v2).toNatClampNeg)) := ⟨_, rfl⟩
        have hP : va_P D vwCl (wM cI cZ ad σ9) H := by rw [eσ9]; exact hP
        have hD : va_D A (wM cI cZ ad σ9) := by rw [eσ9]; exact hD
        have hw := hw.2 σ9 eσ9
        obtain ⟨x10, ex10⟩ : ∃ y : Int32, y = v2 + 1 := ⟨_, rfl⟩
        have hw := hw x10 ex10
        refine lv_iinc (v := x10) (lv' := [(2, .int x10), (0, .ref (ad 0)), (1, .int v1)]) hx hb dX8_goBack_93 hl (k := 2) rfl (by rw [ex10]; rfl) (by decide) rfl (fun ls hl => ?_)
        refine lv_goto (tgt := 27) hx hb dX8_goBack_96 (by decide) ?_
        exact ih v1 x10 σ9 hw _ _ hP hD hS ls (lv_sub hl [1, 2, 0] rfl)
  have hl := lv_entry ([.ref (ad 0), .int a1]) (n := 3) (Nat.le_of_ble_eq_true rfl)
  rw [lg_entry_eq]
  generalize (lg_sl ([.ref (ad 0), .int a1]) ++ List.replicate (3 - (lg_sl ([.ref (ad 0), .int a1])).length) Slot.unset).toArray = ls at hl ⊢
  have hl : lv_has ls 3 [(0, .ref (ad 0)), (1, .int a1)] := hl
  have hP : va_P D vwCl (wM cI cZ ad σ) s.heap := hP
  refine lv_iload_n hx hb dX8_goBack_0 rfl (lv_at hl 1 rfl) ?_
  refine lv_i2l hx hb dX8_goBack_1 rfl ?_
  refine lv_lconst (v := 0) hx hb dX8_goBack_2 (by decide) ?_
  refine lv_lconst (v := 1) hx hb dX8_goBack_3 (by decide) ?_
  refine S_calli (As := [.long (a1.toInt64), .long (0 : Int64), .long (1 : Int64)]) (rest := []) ⟨hx, hb, hml, hown, hts⟩ (c_X8_in l (a1.toInt64) (0 : Int64) (1 : Int64) _ hw) (va_cwS 3 hts gX8_goBack_X8_in rfl rfl rfl (by decide +kernel) ⟨Nat.le_of_ble_eq_true rfl, Nat.le_of_ble_eq_true rfl⟩) rfl hl.1 rfl (Nat.le_of_ble_eq_true rfl) dX8_goBack_4 ⟨Nat.zero_le _, Nat.zero_le _⟩ (fun x1 hw => ?_)
  refine lv_if_ne (tgt := 13) hx hb dX8_goBack_7 (by decide) (fun c9 => ?_) (fun c9 => ?_)
  · have hw := hw.1 c9
    refine lv_aload_n hx hb dX8_goBack_13 rfl (lv_at hl 0 rfl) ?_
    refine va_get (D := D) (ci := 6) (C := RX8) (T := TX8) (N := 28) hx hb hts hinX8 hown hK hP 0 rfl rfl 27 (by decide) (hts _ (List.mem_of_getElem? (i := 2) rfl)) (fun _ h9 => h9) rfl dX8_goBack_14 ?_
    refine lv_iload_n hx hb dX8_goBack_17 rfl (lv_at hl 1 rfl) ?_
    refine va_zald (D := D) hx hb hK hP 20 1 rfl rfl hw.1 dX8_goBack_18 ?_
    have hw := hw.2
    refine lv_if_ne (tgt := 25) hx hb dX8_goBack_19 (by decide) (fun c9 => ?_) (fun c9 => ?_)
    · have hw := hw.1 c9
      refine lv_iconst (v := 0) hx hb dX8_goBack_25 (by decide) ?_
      refine lv_istore_n (lv' := [(2, .int (0 : Int32)), (0, .ref (ad 0)), (1, .int a1)]) hx hb dX8_goBack_26 rfl hl (by decide) rfl (fun ls hl => ?_)
      obtain ⟨nn, hw⟩ := hw
      exact hwl_X8_goBack_27 nn a1 (0 : Int32) σ hw _ _ hP hD hS ls (lv_sub hl [1, 2, 0] rfl)
    · have hw := hw.2 c9
      refine lv_ldc (v := -1000000003) hx hb hown (hts _ (List.mem_of_getElem? (i := 3) rfl)) dX8_goBack_22 ?_
      exact G_iret hx hb hr hlocks hw hP hK hD hS dX8_goBack_24
  · have hw := hw.2 c9
    refine lv_ldc (v := -1000000001) hx hb hown (hts _ (List.mem_of_getElem? (i := 1) rfl)) dX8_goBack_10 ?_
    exact G_iret hx hb hr hlocks hw hP hK hD hS dX8_goBack_12
