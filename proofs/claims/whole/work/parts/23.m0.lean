def wl_X8_start_42 (K : Int32 → St → Prop) : Nat → Int32 → Int32 → St → Prop
  | 0, _, _, _ => False
  | n + 1, v1, v2, σ => (((32 : Int32) ≤ v2 → ∀ σ2 : St, σ2 = sI σ 0 (0 : Int32) → ∀ σ3 : St, σ3 = sI σ2 1 (1 : Int32) → ∀ σ4 : St, σ4 = sI σ3 2 (0 : Int32) → ∀ σ5 : St, σ5 = sI σ4 3 (0 : Int32) → ∀ σ6 : St, σ6 = sI σ5 4 (0 : Int32) → ∀ σ7 : St, σ7 = sL σ6 (0 : Int64) → ∀ σ8 : St, σ8 = sI σ7 5 (0 : Int32) → ∀ σ9 : St, σ9 = sI σ8 6 (0 : Int32) → vp_in (0 : Int32) 2 ∧ ∀ σ10 : St, σ10 = sA σ9 19 (upd (σ9.2.1 19) (0 : Int32).toNatClampNeg (vp_nar .boolean (0 : Int32))) → vp_in (1 : Int32) 2 ∧ ∀ σ11 : St, σ11 = sA σ10 19 (upd (σ10.2.1 19) (1 : Int32).toNatClampNeg (vp_nar .boolean (0 : Int32))) → K v1 σ11) ∧ (¬ (32 : Int32) ≤ v2 → vp_in v2 32 ∧ ∀ σ12 : St, σ12 = sA σ 3 (upd (σ.2.1 3) v2.toNatClampNeg (vp_nar .boolean (0 : Int32))) → vp_in v2 32 ∧ ∀ σ13 : St, σ13 = sA σ12 4 (upd (σ12.2.1 4) v2.toNatClampNeg (-1 : Int32)) → ∀ x14 : Int32, x14 = v2 + 1 → wl_X8_start_42 K n v1 x14 σ13))
def wl_X8_start_7 (K : Int32 → St → Prop) : Nat → Int32 → Int32 → St → Prop
  | 0, _, _, _ => False
  | n + 1, v1, v2, σ => (((40 : Int32) ≤ v2 → (∃ nn : Nat, wl_X8_start_42 K nn v1 (0 : Int32) σ)) ∧ (¬ (40 : Int32) ≤ v2 → vp_in v2 40 ∧ ∀ σ15 : St, σ15 = sA σ 0 (upd (σ.2.1 0) v2.toNatClampNeg (0 : Int32)) → vp_in v2 40 ∧ ∀ σ16 : St, σ16 = sA σ15 1 (upd (σ15.2.1 1) v2.toNatClampNeg (0 : Int32)) → vp_in v2 40 ∧ ∀ σ17 : St, σ17 = sA σ16 2 (upd (σ16.2.1 2) v2.toNatClampNeg (0 : Int32)) → ∀ x18 : Int32, x18 = v2 + 1 → wl_X8_start_7 K n v1 x18 σ17))
def wp_X8_start (σ : St) (K : Int32 → St → Prop) : Prop :=
  ∀ x1 : Int32, x1 = σ.1 2 → (∃ nn : Nat, wl_X8_start_7 K nn x1 (0 : Int32) σ)
set_option maxHeartbeats 4000000 in
set_option maxRecDepth 100000 in
theorem c_X8_start (l : Launch) (D : va_G) (cI cZ : ClassId) (ad : Nat → Nat) (A : Nat → Prop) (σ : St) (K : Int32 → St → Prop) (hw : wp_X8_start σ K) : Met l yX8_start wsX8_start ({ frames := 0, cells := 0, slots := 0, locals := 0 }) (va_Pc [.ref (ad 0)] (GW D [(cI, FieldType.int), (cZ, FieldType.boolean)] (wM cI cZ ad) A σ)) (va_Qi K (GW D [(cI, FieldType.int), (cZ, FieldType.boolean)] (wM cI cZ ad) A) A) 0 0 A := by
  refine Met.ofW (cc := cX8_start) (maxL := 3) (ret := (some .int)) (by decide) rfl ?_
  intro p e s m args below meth c s₁ B hml hv
  obtain ⟨rfl, hP, hK, hD⟩ := hv
  have hx := B.exec
  have hb := B.bytes
  have hr := B.returns
  have hts := atoms_spec (ws := wsX8_start) B.pre
  have hown : s.vm.findClass RX8 = some m.cls := findClass_of_methodNamed B.named
  have hlocks := B.notSynchronized
  have hS : va_S A s.heap s.heap [] := va_S.rf
  have hinX8 : ∀ w ∈ wsX80, w ∈ wsX8_start := fun _ h => List.mem_cons_of_mem _ (List.mem_append_right _ (h))
  have hwl_X8_start_42 : ∀ (n : Nat) (v1 : Int32) (v2 : Int32) (σ : St), wl_X8_start_42 K n v1 v2 σ → ∀ (H : Heap) (locs : List Loc), va_P D vwCl (wM cI cZ ad σ) H → va_D A (wM cI cZ ad σ) → va_S A s.heap H locs → ∀ ls : Array Slot, lv_has ls 3 [(0, .ref (ad 0)), (1, .int v1), (2, .int v2)] → W p l e (headSpec wsX8_start ({ frames := 0, cells := 0, slots := 0, locals := 0 })).room s m ([.ref (ad 0)] : List Value).toArray below meth c H locs 0 0 (MQ below (va_Qi K (GW D [(cI, FieldType.int), (cZ, FieldType.boolean)] (wM cI cZ ad) A) A) ([.ref (ad 0)] : List Value).toArray s 0 0 A) (F0 m 42 ls []) := by
    intro n
    induction n with
    | zero => intro v1 v2 σ hw; exact hw.elim
    | succ n ih =>
      intro v1 v2 σ hw H locs hP hD hS ls hl
      refine lv_iload_n hx hb dX8_start_42 rfl (lv_at hl 2 rfl) ?_
      refine lv_bipush (v := 32) hx hb dX8_start_43 (by decide) ?_
      refine lv_icmp_ge (tgt := 68) hx hb dX8_start_45 (by decide) (fun c9 => ?_) (fun c9 => ?_)
      · have hw := hw.1 c9
        refine lv_aload_n hx hb dX8_start_68 rfl (lv_at hl 0 rfl) ?_
        refine lv_iconst (v := 0) hx hb dX8_start_69 (by decide) ?_
        refine va_put (D := D) (ci := 6) (ty := .int) (C := RX8) (T := TX8) (N := 28) hx hb hts hinX8 tyX8 tyX8_ok nmX8 hown hK hP hD hS 0 rfl rfl 5 (by decide) (hts _ (List.mem_of_getElem? (i := 7) rfl)) (fun _ h9 => h9) rfl (by decide +kernel) rfl rfl (Nat.le_of_ble_eq_true rfl) dX8_start_70 (fun H locs hP hD hS => ?_)
        obtain ⟨σ2, eσ2⟩ : ∃ z : St, z = sI σ 0 (0 : Int32) := ⟨_, rfl⟩
        have hP : va_P D vwCl (wM cI cZ ad σ2) H := by rw [eσ2]; exact hP
        have hD : va_D A (wM cI cZ ad σ2) := by rw [eσ2]; exact hD
        have hw := hw σ2 eσ2
        refine lv_aload_n hx hb dX8_start_73 rfl (lv_at hl 0 rfl) ?_
        refine lv_iconst (v := 1) hx hb dX8_start_74 (by decide) ?_
        refine va_put (D := D) (ci := 6) (ty := .int) (C := RX8) (T := TX8) (N := 28) hx hb hts hinX8 tyX8 tyX8_ok nmX8 hown hK hP hD hS 0 rfl rfl 9 (by decide) (hts _ (List.mem_of_getElem? (i := 8) rfl)) (fun _ h9 => h9) rfl (by decide +kernel) rfl rfl (Nat.le_of_ble_eq_true rfl) dX8_start_75 (fun H locs hP hD hS => ?_)
        obtain ⟨σ3, eσ3⟩ : ∃ z : St, z = sI σ2 1 (1 : Int32) := ⟨_, rfl⟩
        have hP : va_P D vwCl (wM cI cZ ad σ3) H := by rw [eσ3]; exact hP
        have hD : va_D A (wM cI cZ ad σ3) := by rw [eσ3]; exact hD
        have hw := hw σ3 eσ3
        refine lv_aload_n hx hb dX8_start_78 rfl (lv_at hl 0 rfl) ?_
        refine lv_iconst (v := 0) hx hb dX8_start_79 (by decide) ?_
        refine va_put (D := D) (ci := 6) (ty := .int) (C := RX8) (T := TX8) (N := 28) hx hb hts hinX8 tyX8 tyX8_ok nmX8 hown hK hP hD hS 0 rfl rfl 10 (by decide) (hts _ (List.mem_of_getElem? (i := 1) rfl)) (fun _ h9 => h9) rfl (by decide +kernel) rfl rfl (Nat.le_of_ble_eq_true rfl) dX8_start_80 (fun H locs hP hD hS => ?_)
        obtain ⟨σ4, eσ4⟩ : ∃ z : St, z = sI σ3 2 (0 : Int32) := ⟨_, rfl⟩
        have hP : va_P D vwCl (wM cI cZ ad σ4) H := by rw [eσ4]; exact hP
        have hD : va_D A (wM cI cZ ad σ4) := by rw [eσ4]; exact hD
        have hw := hw σ4 eσ4
        refine lv_aload_n hx hb dX8_start_83 rfl (lv_at hl 0 rfl) ?_
        refine lv_iconst (v := 0) hx hb dX8_start_84 (by decide) ?_
        refine va_put (D := D) (ci := 6) (ty := .int) (C := RX8) (T := TX8) (N := 28) hx hb hts hinX8 tyX8 tyX8_ok nmX8 hown hK hP hD hS 0 rfl rfl 11 (by decide) (hts _ (List.mem_of_getElem? (i := 9) rfl)) (fun _ h9 => h9) rfl (by decide +kernel) rfl rfl (Nat.le_of_ble_eq_true rfl) dX8_start_85 (fun H locs hP hD hS => ?_)
        obtain ⟨σ5, eσ5⟩ : ∃ z : St, z = sI σ4 3 (0 : Int32) := ⟨_, rfl⟩
        have hP : va_P D vwCl (wM cI cZ ad σ5) H := by rw [eσ5]; exact hP
        have hD : va_D A (wM cI cZ ad σ5) := by rw [eσ5]; exact hD
        have hw := hw σ5 eσ5
        refine lv_aload_n hx hb dX8_start_88 rfl (lv_at hl 0 rfl) ?_
        refine lv_iconst (v := 0) hx hb dX8_start_89 (by decide) ?_
        refine va_put (D := D) (ci := 6) (ty := .int) (C := RX8) (T := TX8) (N := 28) hx hb hts hinX8 tyX8 tyX8_ok nmX8 hown hK hP hD hS 0 rfl rfl 15 (by decide) (hts _ (List.mem_of_getElem? (i := 10) rfl)) (fun _ h9 => h9) rfl (by decide +kernel) rfl rfl (Nat.le_of_ble_eq_true rfl) dX8_start_90 (fun H locs hP hD hS => ?_)
        obtain ⟨σ6, eσ6⟩ : ∃ z : St, z = sI σ5 4 (0 : Int32) := ⟨_, rfl⟩
        have hP : va_P D vwCl (wM cI cZ ad σ6) H := by rw [eσ6]; exact hP
        have hD : va_D A (wM cI cZ ad σ6) := by rw [eσ6]; exact hD
        have hw := hw σ6 eσ6
        refine lv_aload_n hx hb dX8_start_93 rfl (lv_at hl 0 rfl) ?_
        refine lv_lconst (v := 0) hx hb dX8_start_94 (by decide) ?_
        refine va_put (D := D) (ci := 6) (ty := .long) (C := RX8) (T := TX8) (N := 28) hx hb hts hinX8 tyX8 tyX8_ok nmX8 hown hK hP hD hS 0 rfl rfl 16 (by decide) (hts _ (List.mem_of_getElem? (i := 11) rfl)) (fun _ h9 => h9) rfl (by decide +kernel) rfl rfl (Nat.le_of_ble_eq_true rfl) dX8_start_95 (fun H locs hP hD hS => ?_)
        obtain ⟨σ7, eσ7⟩ : ∃ z : St, z = sL σ6 (0 : Int64) := ⟨_, rfl⟩
        have hP : va_P D vwCl (wM cI cZ ad σ7) H := by rw [eσ7]; exact hP
        have hD : va_D A (wM cI cZ ad σ7) := by rw [eσ7]; exact hD
        have hw := hw σ7 eσ7
        refine lv_aload_n hx hb dX8_start_98 rfl (lv_at hl 0 rfl) ?_
        refine lv_iconst (v := 0) hx hb dX8_start_99 (by decide) ?_
        refine va_put (D := D) (ci := 6) (ty := .int) (C := RX8) (T := TX8) (N := 28) hx hb hts hinX8 tyX8 tyX8_ok nmX8 hown hK hP hD hS 0 rfl rfl 17 (by decide) (hts _ (List.mem_of_getElem? (i := 12) rfl)) (fun _ h9 => h9) rfl (by decide +kernel) rfl rfl (Nat.le_of_ble_eq_true rfl) dX8_start_100 (fun H locs hP hD hS => ?_)
        obtain ⟨σ8, eσ8⟩ : ∃ z : St, z = sI σ7 5 (0 : Int32) := ⟨_, rfl⟩
        have hP : va_P D vwCl (wM cI cZ ad σ8) H := by rw [eσ8]; exact hP
        have hD : va_D A (wM cI cZ ad σ8) := by rw [eσ8]; exact hD
        have hw := hw σ8 eσ8
        refine lv_aload_n hx hb dX8_start_103 rfl (lv_at hl 0 rfl) ?_
        refine lv_iconst (v := 0) hx hb dX8_start_104 (by decide) ?_
        refine va_put (D := D) (ci := 6) (ty := .int) (C := RX8) (T := TX8) (N := 28) hx hb hts hinX8 tyX8 tyX8_ok nmX8 hown hK hP hD hS 0 rfl rfl 21 (by decide) (hts _ (List.mem_of_getElem? (i := 13) rfl)) (fun _ h9 => h9) rfl (by decide +kernel) rfl rfl (Nat.le_of_ble_eq_true rfl) dX8_start_105 (fun H locs hP hD hS => ?_)
        obtain ⟨σ9, eσ9⟩ : ∃ z : St, z = sI σ8 6 (0 : Int32) := ⟨_, rfl⟩
        have hP : va_P D vwCl (wM cI cZ ad σ9) H := by rw [eσ9]; exact hP
        have hD : va_D A (wM cI cZ ad σ9) := by rw [eσ9]; exact hD
        have hw := hw σ9 eσ9
        refine lv_aload_n hx hb dX8_start_108 rfl (lv_at hl 0 rfl) ?_
        refine va_get (D := D) (ci := 6) (C := RX8) (T := TX8) (N := 28) hx hb hts hinX8 hown hK hP 0 rfl rfl 27 (by decide) (hts _ (List.mem_of_getElem? (i := 14) rfl)) (fun _ h9 => h9) rfl dX8_start_109 ?_
        refine lv_iconst (v := 0) hx hb dX8_start_112 (by decide) ?_
        refine lv_iconst (v := 0) hx hb dX8_start_113 (by decide) ?_
        refine va_zast (D := D) hx hb hK hP hD hS 20 1 rfl rfl hw.1 dX8_start_114 (fun H locs hP hD hS => ?_)
        obtain ⟨σ10, eσ10⟩ : ∃ z : St, z = sA σ9 19 (upd (σ9.2.1 19) (0 : Int32).toNatClampNeg (vp_nar .boolean (0 : Int32))) := ⟨_, rfl⟩
        have hP : va_P D vwCl (wM cI cZ ad σ10) H := by rw [eσ10]; exact hP
        have hD : va_D A (wM cI cZ ad σ10) := by rw [eσ10]; exact hD
        have hw := hw.2 σ10 eσ10
        refine lv_aload_n hx hb dX8_start_115 rfl (lv_at hl 0 rfl) ?_
        refine va_get (D := D) (ci := 6) (C := RX8) (T := TX8) (N := 28) hx hb hts hinX8 hown hK hP 0 rfl rfl 27 (by decide) (hts _ (List.mem_of_getElem? (i := 14) rfl)) (fun _ h9 => h9) rfl dX8_start_116 ?_
        refine lv_iconst (v := 1) hx hb dX8_start_119 (by decide) ?_
        refine lv_iconst (v := 0) hx hb dX8_start_120 (by decide) ?_
        refine va_zast (D := D) hx hb hK hP hD hS 20 1 rfl rfl hw.1 dX8_start_121 (fun H locs hP hD hS => ?_)
        obtain ⟨σ11, eσ11⟩ : ∃ z : St, z = sA σ10 19 (upd (σ10.2.1 19) (1 : Int32).toNatClampNeg (vp_nar .boolean (0 : Int32))) := ⟨_, rfl⟩
        have hP : va_P D vwCl (wM cI cZ ad σ11) H := by rw [eσ11]; exact hP
        have hD : va_D A (wM cI cZ ad σ11) := by rw [eσ11]; exact hD
        have hw := hw.2 σ11 eσ11
        refine lv_iload_n hx hb dX8_start_122 rfl (lv_at hl 1 rfl) ?_
        exact G_iret hx hb hr hlocks hw hP hK hD hS dX8_start_123
      · have hw := hw.2 c9
        refine lv_aload_n hx hb dX8_start_48 rfl (lv_at hl 0 rfl) ?_
        refine va_get (D := D) (ci := 6) (C := RX8) (T := TX8) (N := 28) hx hb hts hinX8 hown hK hP 0 rfl rfl 3 (by decide) (hts _ (List.mem_of_getElem? (i := 5) rfl)) (fun _ h9 => h9) rfl dX8_start_49 ?_
        refine lv_iload_n hx hb dX8_start_52 rfl (lv_at hl 2 rfl) ?_
        refine lv_iconst (v := 0) hx hb dX8_start_53 (by decide) ?_
        refine va_zast (D := D) hx hb hK hP hD hS 4 1 rfl rfl hw.1 dX8_start_54 (fun H locs hP hD hS => ?_)
        obtain ⟨σ12, eσ12⟩ : ∃ z : St, z = sA σ 3 (upd (σ.2.1 3) v2.toNatClampNeg (vp_nar .boolean (0 : Int32))) := ⟨_, rfl⟩
        have hP : va_P D vwCl (wM cI cZ ad σ12) H := by rw [eσ12]; exact hP
        have hD : va_D A (wM cI cZ ad σ12) := by rw [eσ12]; exact hD
        have hw := hw.2 σ12 eσ12
        refine lv_aload_n hx hb dX8_start_55 rfl (lv_at hl 0 rfl) ?_
        refine va_get (D := D) (ci := 6) (C := RX8) (T := TX8) (N := 28) hx hb hts hinX8 hown hK hP 0 rfl rfl 4 (by decide) (hts _ (List.mem_of_getElem? (i := 6) rfl)) (fun _ h9 => h9) rfl dX8_start_56 ?_
        refine lv_iload_n hx hb dX8_start_59 rfl (lv_at hl 2 rfl) ?_
        refine lv_iconst (v := -1) hx hb dX8_start_60 (by decide) ?_
        refine va_iast (D := D) hx hb hK hP hD hS 5 0 rfl rfl hw.1 dX8_start_61 (fun H locs hP hD hS => ?_)
        obtain ⟨σ13, eσ13⟩ : ∃ z : St, z = sA σ12 4 (upd (σ12.2.1 4) v2.toNatClampNeg (-1 : Int32)) := ⟨_, rfl⟩
        have hP : va_P D vwCl (wM cI cZ ad σ13) H := by rw [eσ13]; exact hP
        have hD : va_D A (wM cI cZ ad σ13) := by rw [eσ13]; exact hD
        have hw := hw.2 σ13 eσ13
        obtain ⟨x14, ex14⟩ : ∃ y : Int32, y = v2 + 1 := ⟨_, rfl⟩
        have hw := hw x14 ex14
        refine lv_iinc (v := x14) (lv' := [(2, .int x14), (0, .ref (ad 0)), (1, .int v1)]) hx hb dX8_start_62 hl (k := 2) rfl (by rw [ex14]; rfl) (by decide) rfl (fun ls hl => ?_)
        refine lv_goto (tgt := 42) hx hb dX8_start_65 (by decide) ?_
        exact ih v1 x14 σ13 hw _ _ hP hD hS ls (lv_sub hl [1, 2, 0] rfl)
  have hwl_X8_start_7 : ∀ (n : Nat) (v1 : Int32) (v2 : Int32) (σ : St), wl_X8_start_7 K n v1 v2 σ → ∀ (H : Heap) (locs : List Loc), va_P D vwCl (wM cI cZ ad σ) H → va_D A (wM cI cZ ad σ) → va_S A s.heap H locs → ∀ ls : Array Slot, lv_has ls 3 [(0, .ref (ad 0)), (1, .int v1), (2, .int v2)] → W p l e (headSpec wsX8_start ({ frames := 0, cells := 0, slots := 0, locals := 0 })).room s m ([.ref (ad 0)] : List Value).toArray below meth c H locs 0 0 (MQ below (va_Qi K (GW D [(cI, FieldType.int), (cZ, FieldType.boolean)] (wM cI cZ ad) A) A) ([.ref (ad 0)] : List Value).toArray s 0 0 A) (F0 m 7 ls []) := by
    intro n
    induction n with
    | zero => intro v1 v2 σ hw; exact hw.elim
    | succ n ih =>
      intro v1 v2 σ hw H locs hP hD hS ls hl
      refine lv_iload_n hx hb dX8_start_7 rfl (lv_at hl 2 rfl) ?_
      refine lv_bipush (v := 40) hx hb dX8_start_8 (by decide) ?_
      refine lv_icmp_ge (tgt := 40) hx hb dX8_start_10 (by decide) (fun c9 => ?_) (fun c9 => ?_)
      · have hw := hw.1 c9
        refine lv_iconst (v := 0) hx hb dX8_start_40 (by decide) ?_
        refine lv_istore_n (lv' := [(2, .int (0 : Int32)), (0, .ref (ad 0)), (1, .int v1)]) hx hb dX8_start_41 rfl hl (by decide) rfl (fun ls hl => ?_)
        obtain ⟨nn, hw⟩ := hw
        exact hwl_X8_start_42 nn v1 (0 : Int32) σ hw _ _ hP hD hS ls (lv_sub hl [1, 2, 0] rfl)
      · have hw := hw.2 c9
        refine lv_aload_n hx hb dX8_start_13 rfl (lv_at hl 0 rfl) ?_
        refine va_get (D := D) (ci := 6) (C := RX8) (T := TX8) (N := 28) hx hb hts hinX8 hown hK hP 0 rfl rfl 0 (by decide) (hts _ (List.mem_of_getElem? (i := 2) rfl)) (fun _ h9 => h9) rfl dX8_start_14 ?_
        refine lv_iload_n hx hb dX8_start_17 rfl (lv_at hl 2 rfl) ?_
        refine lv_iconst (v := 0) hx hb dX8_start_18 (by decide) ?_
        refine va_iast (D := D) hx hb hK hP hD hS 1 0 rfl rfl hw.1 dX8_start_19 (fun H locs hP hD hS => ?_)
        obtain ⟨σ15, eσ15⟩ : ∃ z : St, z = sA σ 0 (upd (σ.2.1 0) v2.toNatClampNeg (0 : Int32)) := ⟨_, rfl⟩
        have hP : va_P D vwCl (wM cI cZ ad σ15) H := by rw [eσ15]; exact hP
        have hD : va_D A (wM cI cZ ad σ15) := by rw [eσ15]; exact hD
        have hw := hw.2 σ15 eσ15
        refine lv_aload_n hx hb dX8_start_20 rfl (lv_at hl 0 rfl) ?_
        refine va_get (D := D) (ci := 6) (C := RX8) (T := TX8) (N := 28) hx hb hts hinX8 hown hK hP 0 rfl rfl 1 (by decide) (hts _ (List.mem_of_getElem? (i := 3) rfl)) (fun _ h9 => h9) rfl dX8_start_21 ?_
        refine lv_iload_n hx hb dX8_start_24 rfl (lv_at hl 2 rfl) ?_
        refine lv_iconst (v := 0) hx hb dX8_start_25 (by decide) ?_
        refine va_iast (D := D) hx hb hK hP hD hS 2 0 rfl rfl hw.1 dX8_start_26 (fun H locs hP hD hS => ?_)
        obtain ⟨σ16, eσ16⟩ : ∃ z : St, z = sA σ15 1 (upd (σ15.2.1 1) v2.toNatClampNeg (0 : Int32)) := ⟨_, rfl⟩
        have hP : va_P D vwCl (wM cI cZ ad σ16) H := by rw [eσ16]; exact hP
        have hD : va_D A (wM cI cZ ad σ16) := by rw [eσ16]; exact hD
        have hw := hw.2 σ16 eσ16
        refine lv_aload_n hx hb dX8_start_27 rfl (lv_at hl 0 rfl) ?_
        refine va_get (D := D) (ci := 6) (C := RX8) (T := TX8) (N := 28) hx hb hts hinX8 hown hK hP 0 rfl rfl 2 (by decide) (hts _ (List.mem_of_getElem? (i := 4) rfl)) (fun _ h9 => h9) rfl dX8_start_28 ?_
        refine lv_iload_n hx hb dX8_start_31 rfl (lv_at hl 2 rfl) ?_
        refine lv_iconst (v := 0) hx hb dX8_start_32 (by decide) ?_
        refine va_iast (D := D) hx hb hK hP hD hS 3 0 rfl rfl hw.1 dX8_start_33 (fun H locs hP hD hS => ?_)
        obtain ⟨σ17, eσ17⟩ : ∃ z : St, z = sA σ16 2 (upd (σ16.2.1 2) v2.toNatClampNeg (0 : Int32)) := ⟨_, rfl⟩
        have hP : va_P D vwCl (wM cI cZ ad σ17) H := by rw [eσ17]; exact hP
        have hD : va_D A (wM cI cZ ad σ17) := by rw [eσ17]; exact hD
        have hw := hw.2 σ17 eσ17
        obtain ⟨x18, ex18⟩ : ∃ y : Int32, y = v2 + 1 := ⟨_, rfl⟩
        have hw := hw x18 ex18
        refine lv_iinc (v := x18) (lv' := [(2, .int x18), (0, .ref (ad 0)), (1, .int v1)]) hx hb dX8_start_34 hl (k := 2) rfl (by rw [ex18]; rfl) (by decide) rfl (fun ls hl => ?_)
        refine lv_goto (tgt := 7) hx hb dX8_start_37 (by decide) ?_
        exact ih v1 x18 σ17 hw _ _ hP hD hS ls (lv_sub hl [1, 2, 0] rfl)
  have hl := lv_entry ([.ref (ad 0)]) (n := 3) (Nat.le_of_ble_eq_true rfl)
  rw [lg_entry_eq]
  generalize (lg_sl ([.ref (ad 0)]) ++ List.replicate (3 - (lg_sl ([.ref (ad 0)])).length) Slot.unset).toArray = ls at hl ⊢
  have hl : lv_has ls 3 [(0, .ref (ad 0))] := hl
  have hP : va_P D vwCl (wM cI cZ ad σ) s.heap := hP
  refine lv_aload_n hx hb dX8_start_0 rfl (lv_at hl 0 rfl) ?_
  refine va_get (D := D) (ci := 6) (C := RX8) (T := TX8) (N := 28) hx hb hts hinX8 hown hK hP 0 rfl rfl 10 (by decide) (hts _ (List.mem_of_getElem? (i := 1) rfl)) (fun _ h9 => h9) rfl dX8_start_1 ?_
  refine lv_topi (fun x1 ex1 => ?_)
  have hw := hw x1 ex1
  refine lv_istore_n (lv' := [(1, .int x1), (0, .ref (ad 0))]) hx hb dX8_start_4 rfl hl (by decide) rfl (fun ls hl => ?_)
  refine lv_iconst (v := 0) hx hb dX8_start_5 (by decide) ?_
  refine lv_istore_n (lv' := [(2, .int (0 : Int32)), (1, .int x1), (0, .ref (ad 0))]) hx hb dX8_start_6 rfl hl (by decide) rfl (fun ls hl => ?_)
  obtain ⟨nn, hw⟩ := hw
  exact hwl_X8_start_7 nn x1 (0 : Int32) σ hw _ _ hP hD hS ls (lv_sub hl [2, 1, 0] rfl)

def wl_X8_remember_11 (K : St → Prop) : Nat → Int32 → Int32 → St → Prop
  | 0, _, _, _ => False
  | n + 1, v1, v2, σ => (((32 : Int32) ≤ v2 → ∀ σ6 : St, σ6 = sI σ 6 ((σ.1 6) - (1 : Int32)) → vp_in (σ6.1 6) 32 ∧ ∀ σ7 : St, σ7 = sA σ6 14 (upd (σ6.2.1 14) (σ6.1 6).toNatClampNeg v1) → vp_in v1 40 ∧ vp_in (σ7.1 6) 32 ∧ ∀ σ8 : St, σ8 = sA σ7 15 (upd (σ7.2.1 15) (σ7.1 6).toNatClampNeg (σ7.2.1 0 v1.toNatClampNeg)) → vp_in v1 40 ∧ vp_in (σ8.1 6) 32 ∧ ∀ σ9 : St, σ9 = sA σ8 16 (upd (σ8.2.1 16) (σ8.1 6).toNatClampNeg (σ8.2.1 1 v1.toNatClampNeg)) → vp_in v1 40 ∧ vp_in (σ9.1 6) 32 ∧ ∀ σ10 : St, σ10 = sA σ9 17 (upd (σ9.2.1 17) (σ9.1 6).toNatClampNeg (σ9.2.1 2 v1.toNatClampNeg)) → ∀ σ11 : St, σ11 = sI σ10 6 ((σ10.1 6) + (1 : Int32)) → K σ11) ∧ (¬ (32 : Int32) ≤ v2 → vp_in v2 32 ∧ vp_in (v2 - (1 : Int32)) 32 ∧ ∀ σ12 : St, σ12 = sA σ 14 (upd (σ.2.1 14) (v2 - (1 : Int32)).toNatClampNeg (σ.2.1 14 v2.toNatClampNeg)) → vp_in v2 32 ∧ vp_in (v2 - (1 : Int32)) 32 ∧ ∀ σ13 : St, σ13 = sA σ12 15 (upd (σ12.2.1 15) (v2 - (1 : Int32)).toNatClampNeg (σ12.2.1 15 v2.toNatClampNeg)) → vp_in v2 32 ∧ vp_in (v2 - (1 : Int32)) 32 ∧ ∀ σ14 : St, σ14 = sA σ13 16 (upd (σ13.2.1 16) (v2 - (1 : Int32)).toNatClampNeg (σ13.2.1 16 v2.toNatClampNeg)) → vp_in v2 32 ∧ vp_in (v2 - (1 : Int32)) 32 ∧ ∀ σ15 : St, σ15 = sA σ14 17 (upd (σ14.2.1 17) (v2 - (1 : Int32)).toNatClampNeg (σ14.2.1 17 v2.toNatClampNeg)) → ∀ x16 : Int32, x16 = v2 + 1 → wl_X8_remember_11 K n v1 x16 σ15))
def wp_X8_remember (σ : St) (a1 : Int32) (K : St → Prop) : Prop :=
  ((¬ (σ.1 6) = (32 : Int32) → vp_in (σ.1 6) 32 ∧ ∀ σ1 : St, σ1 = sA σ 14 (upd (σ.2.1 14) (σ.1 6).toNatClampNeg a1) → vp_in a1 40 ∧ vp_in (σ1.1 6) 32 ∧ ∀ σ2 : St, σ2 = sA σ1 15 (upd (σ1.2.1 15) (σ1.1 6).toNatClampNeg (σ1.2.1 0 a1.toNatClampNeg)) → vp_in a1 40 ∧ vp_in (σ2.1 6) 32 ∧ ∀ σ3 : St, σ3 = sA σ2 16 (upd (σ2.2.1 16) (σ2.1 6).toNatClampNeg (σ2.2.1 1 a1.toNatClampNeg)) → vp_in a1 40 ∧ vp_in (σ3.1 6) 32 ∧ ∀ σ4 : St, σ4 = sA σ3 17 (upd (σ3.2.1 17) (σ3.1 6).toNatClampNeg (σ3.2.1 2 a1.toNatClampNeg)) → ∀ σ5 : St, σ5 = sI σ4 6 ((σ4.1 6) + (1 : Int32)) → K σ5) ∧ ((σ.1 6) = (32 : Int32) → (∃ nn : Nat, wl_X8_remember_11 K nn a1 (1 : Int32) σ)))
set_option maxHeartbeats 4000000 in
set_option maxRecDepth 100000 in
theorem c_X8_remember (l : Launch) (D : va_G) (cI cZ : ClassId) (ad : Nat → Nat) (A : Nat → Prop) (σ : St) (a1 : Int32) (K : St → Prop) (hw : wp_X8_remember σ a1 K) : Met l yX8_remember wsX8_remember ({ frames := 0, cells := 0, slots := 0, locals := 0 }) (va_Pc [.ref (ad 0), .int a1] (GW D [(cI, FieldType.int), (cZ, FieldType.boolean)] (wM cI cZ ad) A σ)) (va_Qv K (GW D [(cI, FieldType.int), (cZ, FieldType.boolean)] (wM cI cZ ad) A) A) 0 0 A := by
  refine Met.ofW (cc := cX8_remember) (maxL := 3) (ret := none) (by decide) rfl ?_
  intro p e s m args below meth c s₁ B hml hv
  obtain ⟨rfl, hP, hK, hD⟩ := hv
  have hx := B.exec
  have hb := B.bytes
  have hr := B.returns
  have hts := atoms_spec (ws := wsX8_remember) B.pre
  have hown : s.vm.findClass RX8 = some m.cls := findClass_of_methodNamed B.named
  have hlocks := B.notSynchronized
  have hS : va_S A s.heap s.heap [] := va_S.rf
  have hinX8 : ∀ w ∈ wsX80, w ∈ wsX8_remember := fun _ h => List.mem_cons_of_mem _ (List.mem_append_right _ (h))
  have hwl_X8_remember_11 : ∀ (n : Nat) (v1 : Int32) (v2 : Int32) (σ : St), wl_X8_remember_11 K n v1 v2 σ → ∀ (H : Heap) (locs : List Loc), va_P D vwCl (wM cI cZ ad σ) H → va_D A (wM cI cZ ad σ) → va_S A s.heap H locs → ∀ ls : Array Slot, lv_has ls 3 [(0, .ref (ad 0)), (1, .int v1), (2, .int v2)] → W p l e (headSpec wsX8_remember ({ frames := 0, cells := 0, slots := 0, locals := 0 })).room s m ([.ref (ad 0), .int a1] : List Value).toArray below meth c H locs 0 0 (MQ below (va_Qv K (GW D [(cI, FieldType.int), (cZ, FieldType.boolean)] (wM cI cZ ad) A) A) ([.ref (ad 0), .int a1] : List Value).toArray s 0 0 A) (F0 m 11 ls []) := by
    intro n
    induction n with
    | zero => intro v1 v2 σ hw; exact hw.elim
    | succ n ih =>
      intro v1 v2 σ hw H locs hP hD hS ls hl
      refine lv_iload_n hx hb dX8_remember_11 rfl (lv_at hl 2 rfl) ?_
      refine lv_bipush (v := 32) hx hb dX8_remember_12 (by decide) ?_
      refine lv_icmp_ge (tgt := 79) hx hb dX8_remember_14 (by decide) (fun c9 => ?_) (fun c9 => ?_)
      · have hw := hw.1 c9
        refine lv_aload_n hx hb dX8_remember_79 rfl (lv_at hl 0 rfl) ?_
        refine lv_dup hx hb dX8_remember_80 rfl ?_
        refine va_get (D := D) (ci := 6) (C := RX8) (T := TX8) (N := 28) hx hb hts hinX8 hown hK hP 0 rfl rfl 21 (by decide) (hts _ (List.mem_of_getElem? (i := 1) rfl)) (fun _ h9 => h9) rfl dX8_remember_81 ?_
        refine lv_iconst (v := 1) hx hb dX8_remember_84 (by decide) ?_
        refine lv_isub hx hb dX8_remember_85 ?_
        refine va_put (D := D) (ci := 6) (ty := .int) (C := RX8) (T := TX8) (N := 28) hx hb hts hinX8 tyX8 tyX8_ok nmX8 hown hK hP hD hS 0 rfl rfl 21 (by decide) (hts _ (List.mem_of_getElem? (i := 1) rfl)) (fun _ h9 => h9) rfl (by decide +kernel) rfl rfl (Nat.le_of_ble_eq_true rfl) dX8_remember_86 (fun H locs hP hD hS => ?_)
        obtain ⟨σ6, eσ6⟩ : ∃ z : St, z = sI σ 6 ((σ.1 6) - (1 : Int32)) := ⟨_, rfl⟩
        have hP : va_P D vwCl (wM cI cZ ad σ6) H := by rw [eσ6]; exact hP
        have hD : va_D A (wM cI cZ ad σ6) := by rw [eσ6]; exact hD
        have hw := hw σ6 eσ6
        refine lv_aload_n hx hb dX8_remember_89 rfl (lv_at hl 0 rfl) ?_
        refine va_get (D := D) (ci := 6) (C := RX8) (T := TX8) (N := 28) hx hb hts hinX8 hown hK hP 0 rfl rfl 22 (by decide) (hts _ (List.mem_of_getElem? (i := 2) rfl)) (fun _ h9 => h9) rfl dX8_remember_90 ?_
        refine lv_aload_n hx hb dX8_remember_93 rfl (lv_at hl 0 rfl) ?_
        refine va_get (D := D) (ci := 6) (C := RX8) (T := TX8) (N := 28) hx hb hts hinX8 hown hK hP 0 rfl rfl 21 (by decide) (hts _ (List.mem_of_getElem? (i := 1) rfl)) (fun _ h9 => h9) rfl dX8_remember_94 ?_
        refine lv_iload_n hx hb dX8_remember_97 rfl (lv_at hl 1 rfl) ?_
        refine va_iast (D := D) hx hb hK hP hD hS 15 0 rfl rfl hw.1 dX8_remember_98 (fun H locs hP hD hS => ?_)
        obtain ⟨σ7, eσ7⟩ : ∃ z : St, z = sA σ6 14 (upd (σ6.2.1 14) (σ6.1 6).toNatClampNeg v1) := ⟨_, rfl⟩
        have hP : va_P D vwCl (wM cI cZ ad σ7) H := by rw [eσ7]; exact hP
        have hD : va_D A (wM cI cZ ad σ7) := by rw [eσ7]; exact hD
        have hw := hw.2 σ7 eσ7
        refine lv_aload_n hx hb dX8_remember_99 rfl (lv_at hl 0 rfl) ?_
        refine va_get (D := D) (ci := 6) (C := RX8) (T := TX8) (N := 28) hx hb hts hinX8 hown hK hP 0 rfl rfl 23 (by decide) (hts _ (List.mem_of_getElem? (i := 3) rfl)) (fun _ h9 => h9) rfl dX8_remember_100 ?_
        refine lv_aload_n hx hb dX8_remember_103 rfl (lv_at hl 0 rfl) ?_
        refine va_get (D := D) (ci := 6) (C := RX8) (T := TX8) (N := 28) hx hb hts hinX8 hown hK hP 0 rfl rfl 21 (by decide) (hts _ (List.mem_of_getElem? (i := 1) rfl)) (fun _ h9 => h9) rfl dX8_remember_104 ?_
        refine lv_aload_n hx hb dX8_remember_107 rfl (lv_at hl 0 rfl) ?_
        refine va_get (D := D) (ci := 6) (C := RX8) (T := TX8) (N := 28) hx hb hts hinX8 hown hK hP 0 rfl rfl 0 (by decide) (hts _ (List.mem_of_getElem? (i := 6) rfl)) (fun _ h9 => h9) rfl dX8_remember_108 ?_
        refine lv_iload_n hx hb dX8_remember_111 rfl (lv_at hl 1 rfl) ?_
        refine va_iald (D := D) hx hb hK hP 1 0 rfl rfl hw.1 dX8_remember_112 ?_
        have hw := hw.2
        refine va_iast (D := D) hx hb hK hP hD hS 16 0 rfl rfl hw.1 dX8_remember_113 (fun H locs hP hD hS => ?_)
        obtain ⟨σ8, eσ8⟩ : ∃ z : St, z = sA σ7 15 (upd (σ7.2.1 15) (σ7.1 6).toNatClampNeg (σ7.2.1 0 v1.toNatClampNeg)) := ⟨_, rfl⟩
        have hP : va_P D vwCl (wM cI cZ ad σ8) H := by rw [eσ8]; exact hP
        have hD : va_D A (wM cI cZ ad σ8) := by rw [eσ8]; exact hD
        have hw := hw.2 σ8 eσ8
        refine lv_aload_n hx hb dX8_remember_114 rfl (lv_at hl 0 rfl) ?_
        refine va_get (D := D) (ci := 6) (C := RX8) (T := TX8) (N := 28) hx hb hts hinX8 hown hK hP 0 rfl rfl 24 (by decide) (hts _ (List.mem_of_getElem? (i := 4) rfl)) (fun _ h9 => h9) rfl dX8_remember_115 ?_
        refine lv_aload_n hx hb dX8_remember_118 rfl (lv_at hl 0 rfl) ?_
        refine va_get (D := D) (ci := 6) (C := RX8) (T := TX8) (N := 28) hx hb hts hinX8 hown hK hP 0 rfl rfl 21 (by decide) (hts _ (List.mem_of_getElem? (i := 1) rfl)) (fun _ h9 => h9) rfl dX8_remember_119 ?_
        refine lv_aload_n hx hb dX8_remember_122 rfl (lv_at hl 0 rfl) ?_
        refine va_get (D := D) (ci := 6) (C := RX8) (T := TX8) (N := 28) hx hb hts hinX8 hown hK hP 0 rfl rfl 1 (by decide) (hts _ (List.mem_of_getElem? (i := 7) rfl)) (fun _ h9 => h9) rfl dX8_remember_123 ?_
        refine lv_iload_n hx hb dX8_remember_126 rfl (lv_at hl 1 rfl) ?_
        refine va_iald (D := D) hx hb hK hP 2 0 rfl rfl hw.1 dX8_remember_127 ?_
        have hw := hw.2
        refine va_iast (D := D) hx hb hK hP hD hS 17 0 rfl rfl hw.1 dX8_remember_128 (fun H locs hP hD hS => ?_)
        obtain ⟨σ9, eσ9⟩ : ∃ z : St, z = sA σ8 16 (upd (σ8.2.1 16) (σ8.1 6).toNatClampNeg (σ8.2.1 1 v1.toNatClampNeg)) := ⟨_, rfl⟩
        have hP : va_P D vwCl (wM cI cZ ad σ9) H := by rw [eσ9]; exact hP
        have hD : va_D A (wM cI cZ ad σ9) := by rw [eσ9]; exact hD
        have hw := hw.2 σ9 eσ9
        refine lv_aload_n hx hb dX8_remember_129 rfl (lv_at hl 0 rfl) ?_
        refine va_get (D := D) (ci := 6) (C := RX8) (T := TX8) (N := 28) hx hb hts hinX8 hown hK hP 0 rfl rfl 25 (by decide) (hts _ (List.mem_of_getElem? (i := 5) rfl)) (fun _ h9 => h9) rfl dX8_remember_130 ?_
        refine lv_aload_n hx hb dX8_remember_133 rfl (lv_at hl 0 rfl) ?_
        refine va_get (D := D) (ci := 6) (C := RX8) (T := TX8) (N := 28) hx hb hts hinX8 hown hK hP 0 rfl rfl 21 (by decide) (hts _ (List.mem_of_getElem? (i := 1) rfl)) (fun _ h9 => h9) rfl dX8_remember_134 ?_
        refine lv_aload_n hx hb dX8_remember_137 rfl (lv_at hl 0 rfl) ?_
        refine va_get (D := D) (ci := 6) (C := RX8) (T := TX8) (N := 28) hx hb hts hinX8 hown hK hP 0 rfl rfl 2 (by decide) (hts _ (List.mem_of_getElem? (i := 8) rfl)) (fun _ h9 => h9) rfl dX8_remember_138 ?_
        refine lv_iload_n hx hb dX8_remember_141 rfl (lv_at hl 1 rfl) ?_
        refine va_iald (D := D) hx hb hK hP 3 0 rfl rfl hw.1 dX8_remember_142 ?_
        have hw := hw.2
        refine va_iast (D := D) hx hb hK hP hD hS 18 0 rfl rfl hw.1 dX8_remember_143 (fun H locs hP hD hS => ?_)
        obtain ⟨σ10, eσ10⟩ : ∃ z : St, z = sA σ9 17 (upd (σ9.2.1 17) (σ9.1 6).toNatClampNeg (σ9.2.1 2 v1.toNatClampNeg)) := ⟨_, rfl⟩
        have hP : va_P D vwCl (wM cI cZ ad σ10) H := by rw [eσ10]; exact hP
        have hD : va_D A (wM cI cZ ad σ10) := by rw [eσ10]; exact hD
        have hw := hw.2 σ10 eσ10
        refine lv_aload_n hx hb dX8_remember_144 rfl (lv_at hl 0 rfl) ?_
        refine lv_dup hx hb dX8_remember_145 rfl ?_
        refine va_get (D := D) (ci := 6) (C := RX8) (T := TX8) (N := 28) hx hb hts hinX8 hown hK hP 0 rfl rfl 21 (by decide) (hts _ (List.mem_of_getElem? (i := 1) rfl)) (fun _ h9 => h9) rfl dX8_remember_146 ?_
        refine lv_iconst (v := 1) hx hb dX8_remember_149 (by decide) ?_
        refine lv_iadd hx hb dX8_remember_150 ?_
        refine va_put (D := D) (ci := 6) (ty := .int) (C := RX8) (T := TX8) (N := 28) hx hb hts hinX8 tyX8 tyX8_ok nmX8 hown hK hP hD hS 0 rfl rfl 21 (by decide) (hts _ (List.mem_of_getElem? (i := 1) rfl)) (fun _ h9 => h9) rfl (by decide +kernel) rfl rfl (Nat.le_of_ble_eq_true rfl) dX8_remember_151 (fun H locs hP hD hS => ?_)
        obtain ⟨σ11, eσ11⟩ : ∃ z : St, z = sI σ10 6 ((σ10.1 6) + (1 : Int32)) := ⟨_, rfl⟩
        have hP : va_P D vwCl (wM cI cZ ad σ11) H := by rw [eσ11]; exact hP
        have hD : va_D A (wM cI cZ ad σ11) := by rw [eσ11]; exact hD
        have hw := hw σ11 eσ11
        exact G_vret hx hb hr hlocks hw hP hK hD hS dX8_remember_154
      · have hw := hw.2 c9
        refine lv_aload_n hx hb dX8_remember_17 rfl (lv_at hl 0 rfl) ?_
        refine va_get (D := D) (ci := 6) (C := RX8) (T := TX8) (N := 28) hx hb hts hinX8 hown hK hP 0 rfl rfl 22 (by decide) (hts _ (List.mem_of_getElem? (i := 2) rfl)) (fun _ h9 => h9) rfl dX8_remember_18 ?_
        refine lv_iload_n hx hb dX8_remember_21 rfl (lv_at hl 2 rfl) ?_
        refine lv_iconst (v := 1) hx hb dX8_remember_22 (by decide) ?_
        refine lv_isub hx hb dX8_remember_23 ?_
        refine lv_aload_n hx hb dX8_remember_24 rfl (lv_at hl 0 rfl) ?_
        refine va_get (D := D) (ci := 6) (C := RX8) (T := TX8) (N := 28) hx hb hts hinX8 hown hK hP 0 rfl rfl 22 (by decide) (hts _ (List.mem_of_getElem? (i := 2) rfl)) (fun _ h9 => h9) rfl dX8_remember_25 ?_
        refine lv_iload_n hx hb dX8_remember_28 rfl (lv_at hl 2 rfl) ?_
        refine va_iald (D := D) hx hb hK hP 15 0 rfl rfl hw.1 dX8_remember_29 ?_
        have hw := hw.2
        refine va_iast (D := D) hx hb hK hP hD hS 15 0 rfl rfl hw.1 dX8_remember_30 (fun H locs hP hD hS => ?_)
        obtain ⟨σ12, eσ12⟩ : ∃ z : St, z = sA σ 14 (upd (σ.2.1 14) (v2 - (1 : Int32)).toNatClampNeg (σ.2.1 14 v2.toNatClampNeg)) := ⟨_, rfl⟩
        have hP : va_P D vwCl (wM cI cZ ad σ12) H := by rw [eσ12]; exact hP
        have hD : va_D A (wM cI cZ ad σ12) := by rw [eσ12]; exact hD
        have hw := hw.2 σ12 eσ12
        refine lv_aload_n hx hb dX8_remember_31 rfl (lv_at hl 0 rfl) ?_
        refine va_get (D := D) (ci := 6) (C := RX8) (T := TX8) (N := 28) hx hb hts hinX8 hown hK hP 0 rfl rfl 23 (by decide) (hts _ (List.mem_of_getElem? (i := 3) rfl)) (fun _ h9 => h9) rfl dX8_remember_32 ?_
        refine lv_iload_n hx hb dX8_remember_35 rfl (lv_at hl 2 rfl) ?_
        refine lv_iconst (v := 1) hx hb dX8_remember_36 (by decide) ?_
        refine lv_isub hx hb dX8_remember_37 ?_
        refine lv_aload_n hx hb dX8_remember_38 rfl (lv_at hl 0 rfl) ?_
        refine va_get (D := D) (ci := 6) (C := RX8) (T := TX8) (N := 28) hx hb hts hinX8 hown hK hP 0 rfl rfl 23 (by decide) (hts _ (List.mem_of_getElem? (i := 3) rfl)) (fun _ h9 => h9) rfl dX8_remember_39 ?_
        refine lv_iload_n hx hb dX8_remember_42 rfl (lv_at hl 2 rfl) ?_
        refine va_iald (D := D) hx hb hK hP 16 0 rfl rfl hw.1 dX8_remember_43 ?_
        have hw := hw.2
        refine va_iast (D := D) hx hb hK hP hD hS 16 0 rfl rfl hw.1 dX8_remember_44 (fun H locs hP hD hS => ?_)
        obtain ⟨σ13, eσ13⟩ : ∃ z : St, z = sA σ12 15 (upd (σ12.2.1 15) (v2 - (1 : Int32)).toNatClampNeg (σ12.2.1 15 v2.toNatClampNeg)) := ⟨_, rfl⟩
        have hP : va_P D vwCl (wM cI cZ ad σ13) H := by rw [eσ13]; exact hP
        have hD : va_D A (wM cI cZ ad σ13) := by rw [eσ13]; exact hD
        have hw := hw.2 σ13 eσ13
        refine lv_aload_n hx hb dX8_remember_45 rfl (lv_at hl 0 rfl) ?_
        refine va_get (D := D) (ci := 6) (C := RX8) (T := TX8) (N := 28) hx hb hts hinX8 hown hK hP 0 rfl rfl 24 (by decide) (hts _ (List.mem_of_getElem? (i := 4) rfl)) (fun _ h9 => h9) rfl dX8_remember_46 ?_
        refine lv_iload_n hx hb dX8_remember_49 rfl (lv_at hl 2 rfl) ?_
        refine lv_iconst (v := 1) hx hb dX8_remember_50 (by decide) ?_
        refine lv_isub hx hb dX8_remember_51 ?_
        refine lv_aload_n hx hb dX8_remember_52 rfl (lv_at hl 0 rfl) ?_
        refine va_get (D := D) (ci := 6) (C := RX8) (T := TX8) (N := 28) hx hb hts hinX8 hown hK hP 0 rfl rfl 24 (by decide) (hts _ (List.mem_of_getElem? (i := 4) rfl)) (fun _ h9 => h9) rfl dX8_remember_53 ?_
        refine lv_iload_n hx hb dX8_remember_56 rfl (lv_at hl 2 rfl) ?_
        refine va_iald (D := D) hx hb hK hP 17 0 rfl rfl hw.1 dX8_remember_57 ?_
        have hw := hw.2
        refine va_iast (D := D) hx hb hK hP hD hS 17 0 rfl rfl hw.1 dX8_remember_58 (fun H locs hP hD hS => ?_)
        obtain ⟨σ14, eσ14⟩ : ∃ z : St, z = sA σ13 16 (upd (σ13.2.1 16) (v2 - (1 : Int32)).toNatClampNeg (σ13.2.1 16 v2.toNatClampNeg)) := ⟨_, rfl⟩
        have hP : va_P D vwCl (wM cI cZ ad σ14) H := by rw [eσ14]; exact hP
        have hD : va_D A (wM cI cZ ad σ14) := by rw [eσ14]; exact hD
        have hw := hw.2 σ14 eσ14
        refine lv_aload_n hx hb dX8_remember_59 rfl (lv_at hl 0 rfl) ?_
        refine va_get (D := D) (ci := 6) (C := RX8) (T := TX8) (N := 28) hx hb hts hinX8 hown hK hP 0 rfl rfl 25 (by decide) (hts _ (List.mem_of_getElem? (i := 5) rfl)) (fun _ h9 => h9) rfl dX8_remember_60 ?_
        refine lv_iload_n hx hb dX8_remember_63 rfl (lv_at hl 2 rfl) ?_
        refine lv_iconst (v := 1) hx hb dX8_remember_64 (by decide) ?_
        refine lv_isub hx hb dX8_remember_65 ?_
        refine lv_aload_n hx hb dX8_remember_66 rfl (lv_at hl 0 rfl) ?_
        refine va_get (D := D) (ci := 6) (C := RX8) (T := TX8) (N := 28) hx hb hts hinX8 hown hK hP 0 rfl rfl 25 (by decide) (hts _ (List.mem_of_getElem? (i := 5) rfl)) (fun _ h9 => h9) rfl dX8_remember_67 ?_
        refine lv_iload_n hx hb dX8_remember_70 rfl (lv_at hl 2 rfl) ?_
        refine va_iald (D := D) hx hb hK hP 18 0 rfl rfl hw.1 dX8_remember_71 ?_
        have hw := hw.2
        refine va_iast (D := D) hx hb hK hP hD hS 18 0 rfl rfl hw.1 dX8_remember_72 (fun H locs hP hD hS => ?_)
        obtain ⟨σ15, eσ15⟩ : ∃ z : St, z = sA σ14 17 (upd (σ14.2.1 17) (v2 - (1 : Int32)).toNatClampNeg (σ14.2.1 17 v2.toNatClampNeg)) := ⟨_, rfl⟩
        have hP : va_P D vwCl (wM cI cZ ad σ15) H := by rw [eσ15]; exact hP
        have hD : va_D A (wM cI cZ ad σ15) := by rw [eσ15]; exact hD
        have hw := hw.2 σ15 eσ15
        obtain ⟨x16, ex16⟩ : ∃ y : Int32, y = v2 + 1 := ⟨_, rfl⟩
        have hw := hw x16 ex16
        refine lv_iinc (v := x16) (lv' := [(2, .int x16), (0, .ref (ad 0)), (1, .int v1)]) hx hb dX8_remember_73 hl (k := 2) rfl (by rw [ex16]; rfl) (by decide) rfl (fun ls hl => ?_)
        refine lv_goto (tgt := 11) hx hb dX8_remember_76 (by decide) ?_
        exact ih v1 x16 σ15 hw _ _ hP hD hS ls (lv_sub hl [1, 2, 0] rfl)
  have hl := lv_entry ([.ref (ad 0), .int a1]) (n := 3) (Nat.le_of_ble_eq_true rfl)
  rw [lg_entry_eq]
  generalize (lg_sl ([.ref (ad 0), .int a1]) ++ List.replicate (3 - (lg_sl ([.ref (ad 0), .int a1])).length) Slot.unset).toArray = ls at hl ⊢
  have hl : lv_has ls 3 [(0, .ref (ad 0)), (1, .int a1)] := hl
  have hP : va_P D vwCl (wM cI cZ ad σ) s.heap := hP
  refine lv_aload_n hx hb dX8_remember_0 rfl (lv_at hl 0 rfl) ?_
  refine va_get (D := D) (ci := 6) (C := RX8) (T := TX8) (N := 28) hx hb hts hinX8 hown hK hP 0 rfl rfl 21 (by decide) (hts _ (List.mem_of_getElem? (i := 1) rfl)) (fun _ h9 => h9) rfl dX8_remember_1 ?_
  refine lv_bipush (v := 32) hx hb dX8_remember_4 (by decide) ?_
  refine lv_icmp_ne (tgt := 89) hx hb dX8_remember_6 (by decide) (fun c9 => ?_) (fun c9 => ?_)
  · have hw := hw.1 c9
    refine lv_aload_n hx hb dX8_remember_89 rfl (lv_at hl 0 rfl) ?_
    refine va_get (D := D) (ci := 6) (C := RX8) (T := TX8) (N := 28) hx hb hts hinX8 hown hK hP 0 rfl rfl 22 (by decide) (hts _ (List.mem_of_getElem? (i := 2) rfl)) (fun _ h9 => h9) rfl dX8_remember_90 ?_
    refine lv_aload_n hx hb dX8_remember_93 rfl (lv_at hl 0 rfl) ?_
    refine va_get (D := D) (ci := 6) (C := RX8) (T := TX8) (N := 28) hx hb hts hinX8 hown hK hP 0 rfl rfl 21 (by decide) (hts _ (List.mem_of_getElem? (i := 1) rfl)) (fun _ h9 => h9) rfl dX8_remember_94 ?_
    refine lv_iload_n hx hb dX8_remember_97 rfl (lv_at hl 1 rfl) ?_
    refine va_iast (D := D) hx hb hK hP hD hS 15 0 rfl rfl hw.1 dX8_remember_98 (fun H locs hP hD hS => ?_)
    obtain ⟨σ1, eσ1⟩ : ∃ z : St, z = sA σ 14 (upd (σ.2.1 14) (σ.1 6).toNatClampNeg a1) := ⟨_, rfl⟩
    have hP : va_P D vwCl (wM cI cZ ad σ1) H := by rw [eσ1]; exact hP
    have hD : va_D A (wM cI cZ ad σ1) := by rw [eσ1]; exact hD
    have hw := hw.2 σ1 eσ1
    refine lv_aload_n hx hb dX8_remember_99 rfl (lv_at hl 0 rfl) ?_
    refine va_get (D := D) (ci := 6) (C := RX8) (T := TX8) (N := 28) hx hb hts hinX8 hown hK hP 0 rfl rfl 23 (by decide) (hts _ (List.mem_of_getElem? (i := 3) rfl)) (fun _ h9 => h9) rfl dX8_remember_100 ?_
    refine lv_aload_n hx hb dX8_remember_103 rfl (lv_at hl 0 rfl) ?_
    refine va_get (D := D) (ci := 6) (C := RX8) (T := TX8) (N := 28) hx hb hts hinX8 hown hK hP 0 rfl rfl 21 (by decide) (hts _ (List.mem_of_getElem? (i := 1) rfl)) (fun _ h9 => h9) rfl dX8_remember_104 ?_
    refine lv_aload_n hx hb dX8_remember_107 rfl (lv_at hl 0 rfl) ?_
    refine va_get (D := D) (ci := 6) (C := RX8) (T := TX8) (N := 28) hx hb hts hinX8 hown hK hP 0 rfl rfl 0 (by decide) (hts _ (List.mem_of_getElem? (i := 6) rfl)) (fun _ h9 => h9) rfl dX8_remember_108 ?_
    refine lv_iload_n hx hb dX8_remember_111 rfl (lv_at hl 1 rfl) ?_
    refine va_iald (D := D) hx hb hK hP 1 0 rfl rfl hw.1 dX8_remember_112 ?_
    have hw := hw.2
    refine va_iast (D := D) hx hb hK hP hD hS 16 0 rfl rfl hw.1 dX8_remember_113 (fun H locs hP hD hS => ?_)
    obtain ⟨σ2, eσ2⟩ : ∃ z : St, z = sA σ1 15 (upd (σ1.2.1 15) (σ1.1 6).toNatClampNeg (σ1.2.1 0 a1.toNatClampNeg)) := ⟨_, rfl⟩
    have hP : va_P D vwCl (wM cI cZ ad σ2) H := by rw [eσ2]; exact hP
    have hD : va_D A (wM cI cZ ad σ2) := by rw [eσ2]; exact hD
    have hw := hw.2 σ2 eσ2
    refine lv_aload_n hx hb dX8_remember_114 rfl (lv_at hl 0 rfl) ?_
    refine va_get (D := D) (ci := 6) (C := RX8) (T := TX8) (N := 28) hx hb hts hinX8 hown hK hP 0 rfl rfl 24 (by decide) (hts _ (List.mem_of_getElem? (i := 4) rfl)) (fun _ h9 => h9) rfl dX8_remember_115 ?_
    refine lv_aload_n hx hb dX8_remember_118 rfl (lv_at hl 0 rfl) ?_
    refine va_get (D := D) (ci := 6) (C := RX8) (T := TX8) (N := 28) hx hb hts hinX8 hown hK hP 0 rfl rfl 21 (by decide) (hts _ (List.mem_of_getElem? (i := 1) rfl)) (fun _ h9 => h9) rfl dX8_remember_119 ?_
    refine lv_aload_n hx hb dX8_remember_122 rfl (lv_at hl 0 rfl) ?_
    refine va_get (D := D) (ci := 6) (C := RX8) (T := TX8) (N := 28) hx hb hts hinX8 hown hK hP 0 rfl rfl 1 (by decide) (hts _ (List.mem_of_getElem? (i := 7) rfl)) (fun _ h9 => h9) rfl dX8_remember_123 ?_
    refine lv_iload_n hx hb dX8_remember_126 rfl (lv_at hl 1 rfl) ?_
    refine va_iald (D := D) hx hb hK hP 2 0 rfl rfl hw.1 dX8_remember_127 ?_
    have hw := hw.2
    refine va_iast (D := D) hx hb hK hP hD hS 17 0 rfl rfl hw.1 dX8_remember_128 (fun H locs hP hD hS => ?_)
    obtain ⟨σ3, eσ3⟩ : ∃ z : St, z = sA σ2 16 (upd (σ2.2.1 16) (σ2.1 6).toNatClampNeg (σ2.2.1 1 a1.toNatClampNeg)) := ⟨_, rfl⟩
    have hP : va_P D vwCl (wM cI cZ ad σ3) H := by rw [eσ3]; exact hP
    have hD : va_D A (wM cI cZ ad σ3) := by rw [eσ3]; exact hD
    have hw := hw.2 σ3 eσ3
    refine lv_aload_n hx hb dX8_remember_129 rfl (lv_at hl 0 rfl) ?_
    refine va_get (D := D) (ci := 6) (C := RX8) (T := TX8) (N := 28) hx hb hts hinX8 hown hK hP 0 rfl rfl 25 (by decide) (hts _ (List.mem_of_getElem? (i := 5) rfl)) (fun _ h9 => h9) rfl dX8_remember_130 ?_
    refine lv_aload_n hx hb dX8_remember_133 rfl (lv_at hl 0 rfl) ?_
    refine va_get (D := D) (ci := 6) (C := RX8) (T := TX8) (N := 28) hx hb hts hinX8 hown hK hP 0 rfl rfl 21 (by decide) (hts _ (List.mem_of_getElem? (i := 1) rfl)) (fun _ h9 => h9) rfl dX8_remember_134 ?_
    refine lv_aload_n hx hb dX8_remember_137 rfl (lv_at hl 0 rfl) ?_
    refine va_get (D := D) (ci := 6) (C := RX8) (T := TX8) (N := 28) hx hb hts hinX8 hown hK hP 0 rfl rfl 2 (by decide) (hts _ (List.mem_of_getElem? (i := 8) rfl)) (fun _ h9 => h9) rfl dX8_remember_138 ?_
    refine lv_iload_n hx hb dX8_remember_141 rfl (lv_at hl 1 rfl) ?_
    refine va_iald (D := D) hx hb hK hP 3 0 rfl rfl hw.1 dX8_remember_142 ?_
    have hw := hw.2
    refine va_iast (D := D) hx hb hK hP hD hS 18 0 rfl rfl hw.1 dX8_remember_143 (fun H locs hP hD hS => ?_)
    obtain ⟨σ4, eσ4⟩ : ∃ z : St, z = sA σ3 17 (upd (σ3.2.1 17) (σ3.1 6).toNatClampNeg (σ3.2.1 2 a1.toNatClampNeg)) := ⟨_, rfl⟩
    have hP : va_P D vwCl (wM cI cZ ad σ4) H := by rw [eσ4]; exact hP
    have hD : va_D A (wM cI cZ ad σ4) := by rw [eσ4]; exact hD
    have hw := hw.2 σ4 eσ4
    refine lv_aload_n hx hb dX8_remember_144 rfl (lv_at hl 0 rfl) ?_
    refine lv_dup hx hb dX8_remember_145 rfl ?_
    refine va_get (D := D) (ci := 6) (C := RX8) (T := TX8) (N := 28) hx hb hts hinX8 hown hK hP 0 rfl rfl 21 (by decide) (hts _ (List.mem_of_getElem? (i := 1) rfl)) (fun _ h9 => h9) rfl dX8_remember_146 ?_
    refine lv_iconst (v := 1) hx hb dX8_remember_149 (by decide) ?_
    refine lv_iadd hx hb dX8_remember_150 ?_
    refine va_put (D := D) (ci := 6) (ty := .int) (C := RX8) (T := TX8) (N := 28) hx hb hts hinX8 tyX8 tyX8_ok nmX8 hown hK hP hD hS 0 rfl rfl 21 (by decide) (hts _ (List.mem_of_getElem? (i := 1) rfl)) (fun _ h9 => h9) rfl (by decide +kernel) rfl rfl (Nat.le_of_ble_eq_true rfl) dX8_remember_151 (fun H locs hP hD hS => ?_)
    obtain ⟨σ5, eσ5⟩ : ∃ z : St, z = sI σ4 6 ((σ4.1 6) + (1 : Int32)) := ⟨_, rfl⟩
    have hP : va_P D vwCl (wM cI cZ ad σ5) H := by rw [eσ5]; exact hP
    have hD : va_D A (wM cI cZ ad σ5) := by rw [eσ5]; exact hD
    have hw := hw σ5 eσ5
    exact G_vret hx hb hr hlocks hw hP hK hD hS dX8_remember_154
  · have hw := hw.2 c9
    refine lv_iconst (v := 1) hx hb dX8_remember_9 (by decide) ?_
    refine lv_istore_n (lv' := [(2, .int (1 : Int32)), (0, .ref (ad 0)), (1, .int a1)]) hx hb dX8_remember_10 rfl hl (by decide) rfl (fun ls hl => ?_)
    obtain ⟨nn, hw⟩ := hw
    exact hwl_X8_remember_11 nn a1 (1 : Int32) σ hw _ _ hP hD hS ls (lv_sub hl [1, 2, 0] rfl)

def wp_X8_become (σ : St) (a1 : Int32) (a2 : Int32) (a3 : Int32) (a4 : Int32) (K : Int32 → St → Prop) : Prop :=
  wp_X8_remember σ a1 (fun σ1 => vp_in a1 40 ∧ ∀ σ2 : St, σ2 = sA σ1 0 (upd (σ1.2.1 0) a1.toNatClampNeg a2) → vp_in a1 40 ∧ ∀ σ3 : St, σ3 = sA σ2 1 (upd (σ2.2.1 1) a1.toNatClampNeg a3) → ((¬ a3 = 0 → vp_in a1 40 ∧ ∀ σ4 : St, σ4 = sA σ3 2 (upd (σ3.2.1 2) a1.toNatClampNeg a4) → K a3 σ4) ∧ (a3 = 0 → vp_in a1 40 ∧ ∀ σ5 : St, σ5 = sA σ3 2 (upd (σ3.2.1 2) a1.toNatClampNeg (0 : Int32)) → K a3 σ5)))
set_option maxHeartbeats 4000000 in
set_option maxRecDepth 100000 in
theorem c_X8_become (l : Launch) (D : va_G) (cI cZ : ClassId) (ad : Nat → Nat) (A : Nat → Prop) (σ : St) (a1 : Int32) (a2 : Int32) (a3 : Int32) (a4 : Int32) (K : Int32 → St → Prop) (hw : wp_X8_become σ a1 a2 a3 a4 K) : Met l yX8_become wsX8_become ({ frames := 1, cells := 0, slots := 0, locals := 22 }) (va_Pc [.ref (ad 0), .int a1, .int a2, .int a3, .int a4] (GW D [(cI, FieldType.int), (cZ, FieldType.boolean)] (wM cI cZ ad) A σ)) (va_Qi K (GW D [(cI, FieldType.int), (cZ, FieldType.boolean)] (wM cI cZ ad) A) A) 0 0 A := by
  refine Met.ofW (cc := cX8_become) (maxL := 5) (ret := (some .int)) (by decide) rfl ?_
  intro p e s m args below meth c s₁ B hml hv
  obtain ⟨rfl, hP, hK, hD⟩ := hv
  have hx := B.exec
  have hb := B.bytes
  have hr := B.returns
  have hts := atoms_spec (ws := wsX8_become) B.pre
  have hown : s.vm.findClass RX8 = some m.cls := findClass_of_methodNamed B.named
  have hlocks := B.notSynchronized
  have hS : va_S A s.heap s.heap [] := va_S.rf
  have hinX8 : ∀ w ∈ wsX80, w ∈ wsX8_become := fun _ h => List.mem_cons_of_mem _ (List.mem_append_right _ (h))
  have hl := lv_entry ([.ref (ad 0), .int a1, .int a2, .int a3, .int a4]) (n := 5) (Nat.le_of_ble_eq_true rfl)
  rw [lg_entry_eq]
  generalize (lg_sl ([.ref (ad 0), .int a1, .int a2, .int a3, .int a4]) ++ List.replicate (5 - (lg_sl ([.ref (ad 0), .int a1, .int a2, .int a3, .int a4])).length) Slot.unset).toArray = ls at hl ⊢
  have hl : lv_has ls 5 [(0, .ref (ad 0)), (1, .int a1), (2, .int a2), (3, .int a3), (4, .int a4)] := hl
  have hP : va_P D vwCl (wM cI cZ ad σ) s.heap := hP
  refine lv_aload_n hx hb dX8_become_0 rfl (lv_at hl 0 rfl) ?_
  refine lv_iload_n hx hb dX8_become_1 rfl (lv_at hl 1 rfl) ?_
  refine G_callv (As := [.int a1]) (rest := []) ⟨hx, hb, hml, hown, hts⟩ hK hP hD hS 0 6 rfl rfl (c_X8_remember l D cI cZ ad A σ a1 _ hw) (cwV 1 hts gX8_become_X8_remember rfl rfl rfl (by decide +kernel) ⟨Nat.le_of_ble_eq_true rfl, Nat.le_of_ble_eq_true rfl⟩) rfl hl.1 rfl (Nat.le_of_ble_eq_true rfl) dX8_become_2 ⟨Nat.zero_le _, Nat.zero_le _⟩ (fun σ1 hw H locs hP hD hS => ?_)
  refine lv_aload_n hx hb dX8_become_5 rfl (lv_at hl 0 rfl) ?_
  refine va_get (D := D) (ci := 6) (C := RX8) (T := TX8) (N := 28) hx hb hts hinX8 hown hK hP 0 rfl rfl 0 (by decide) (hts _ (List.mem_of_getElem? (i := 1) rfl)) (fun _ h9 => h9) rfl dX8_become_6 ?_
  refine lv_iload_n hx hb dX8_become_9 rfl (lv_at hl 1 rfl) ?_
  refine lv_iload_n hx hb dX8_become_10 rfl (lv_at hl 2 rfl) ?_
  refine va_iast (D := D) hx hb hK hP hD hS 1 0 rfl rfl hw.1 dX8_become_11 (fun H locs hP hD hS => ?_)
  obtain ⟨σ2, eσ2⟩ : ∃ z : St, z = sA σ1 0 (upd (σ1.2.1 0) a1.toNatClampNeg a2) := ⟨_, rfl⟩
  have hP : va_P D vwCl (wM cI cZ ad σ2) H := by rw [eσ2]; exact hP
  have hD : va_D A (wM cI cZ ad σ2) := by rw [eσ2]; exact hD
  have hw := hw.2 σ2 eσ2
  refine lv_aload_n hx hb dX8_become_12 rfl (lv_at hl 0 rfl) ?_
  refine va_get (D := D) (ci := 6) (C := RX8) (T := TX8) (N := 28) hx hb hts hinX8 hown hK hP 0 rfl rfl 1 (by decide) (hts _ (List.mem_of_getElem? (i := 2) rfl)) (fun _ h9 => h9) rfl dX8_become_13 ?_
  refine lv_iload_n hx hb dX8_become_16 rfl (lv_at hl 1 rfl) ?_
  refine lv_iload_n hx hb dX8_become_17 rfl (lv_at hl 3 rfl) ?_
  refine va_iast (D := D) hx hb hK hP hD hS 2 0 rfl rfl hw.1 dX8_become_18 (fun H locs hP hD hS => ?_)
  obtain ⟨σ3, eσ3⟩ : ∃ z : St, z = sA σ2 1 (upd (σ2.2.1 1) a1.toNatClampNeg a3) := ⟨_, rfl⟩
  have hP : va_P D vwCl (wM cI cZ ad σ3) H := by rw [eσ3]; exact hP
  have hD : va_D A (wM cI cZ ad σ3) := by rw [eσ3]; exact hD
  have hw := hw.2 σ3 eσ3
  refine lv_aload_n hx hb dX8_become_19 rfl (lv_at hl 0 rfl) ?_
  refine va_get (D := D) (ci := 6) (C := RX8) (T := TX8) (N := 28) hx hb hts hinX8 hown hK hP 0 rfl rfl 2 (by decide) (hts _ (List.mem_of_getElem? (i := 3) rfl)) (fun _ h9 => h9) rfl dX8_become_20 ?_
  refine lv_iload_n hx hb dX8_become_23 rfl (lv_at hl 1 rfl) ?_
  refine lv_iload_n hx hb dX8_become_24 rfl (lv_at hl 3 rfl) ?_
  refine lv_if_ne (tgt := 32) hx hb dX8_become_25 (by decide) (fun c9 => ?_) (fun c9 => ?_)
  · have hw := hw.1 c9
    refine lv_iload hx hb dX8_become_32 (lv_at hl 4 rfl) ?_
    refine va_iast (D := D) hx hb hK hP hD hS 3 0 rfl rfl hw.1 dX8_become_34 (fun H locs hP hD hS => ?_)
    obtain ⟨σ4, eσ4⟩ : ∃ z : St, z = sA σ3 2 (upd (σ3.2.1 2) a1.toNatClampNeg a4) := ⟨_, rfl⟩
    have hP : va_P D vwCl (wM cI cZ ad σ4) H := by rw [eσ4]; exact hP
    have hD : va_D A (wM cI cZ ad σ4) := by rw [eσ4]; exact hD
    have hw := hw.2 σ4 eσ4
    refine lv_iload_n hx hb dX8_become_35 rfl (lv_at hl 3 rfl) ?_
    exact G_iret hx hb hr hlocks hw hP hK hD hS dX8_become_36
  · have hw := hw.2 c9
    refine lv_iconst (v := 0) hx hb dX8_become_28 (by decide) ?_
    refine lv_goto (tgt := 34) hx hb dX8_become_29 (by decide) ?_
    refine va_iast (D := D) hx hb hK hP hD hS 3 0 rfl rfl hw.1 dX8_become_34 (fun H locs hP hD hS => ?_)
    obtain ⟨σ5, eσ5⟩ : ∃ z : St, z = sA σ3 2 (upd (σ3.2.1 2) a1.toNatClampNeg (0 : Int32)) := ⟨_, rfl⟩
    have hP : va_P D vwCl (wM cI cZ ad σ5) H := by rw [eσ5]; exact hP
    have hD : va_D A (wM cI cZ ad σ5) := by rw [eσ5]; exact hD
    have hw := hw.2 σ5 eσ5
    refine lv_iload_n hx hb dX8_become_35 rfl (lv_at hl 3 rfl) ?_
    exact G_iret hx hb hr hlocks hw hP hK hD hS dX8_become_36

def wl_X8_tick_3 (K : Int32 → St → Prop) : Nat → Int32 → Int32 → Int32 → St → Prop
  | 0, _, _, _, _ => False
  | n + 1, v1, v2, v3, σ => ((v3 ≤ 0 → vp_in (0 : Int32) 16 ∧ ∀ σ1 : St, σ1 = sA σ 11 (upd (σ.2.1 11) (0 : Int32).toNatClampNeg v1) → vp_in (0 : Int32) 16 ∧ ∀ σ2 : St, σ2 = sA σ1 12 (upd (σ1.2.1 12) (0 : Int32).toNatClampNeg (σ1.1 2)) → vp_in (0 : Int32) 16 ∧ ∀ σ3 : St, σ3 = sA σ2 13 (upd (σ2.2.1 13) (0 : Int32).toNatClampNeg v2) → (((16 : Int32) ≤ (σ3.1 5) → ∀ σ4 : St, σ4 = sI σ3 5 ((σ3.1 5) + (0 : Int32)) → ∀ σ5 : St, σ5 = sL σ4 (((31 : Int64) * (σ4.2.2)) + (v2.toInt64)) → ∀ σ6 : St, σ6 = sI σ5 2 ((σ5.1 2) + (1 : Int32)) → K v2 σ6) ∧ (¬ (16 : Int32) ≤ (σ3.1 5) → ∀ σ7 : St, σ7 = sI σ3 5 ((σ3.1 5) + (1 : Int32)) → ∀ σ8 : St, σ8 = sL σ7 (((31 : Int64) * (σ7.2.2)) + (v2.toInt64)) → ∀ σ9 : St, σ9 = sI σ8 2 ((σ8.1 2) + (1 : Int32)) → K v2 σ9))) ∧ (¬ v3 ≤ 0 → vp_in (v3 - (1 : Int32)) 16 ∧ vp_in v3 16 ∧ ∀ σ10 : St, σ10 = sA σ 11 (upd (σ.2.1 11) v3.toNatClampNeg (σ.2.1 11 (v3 - (1 : Int32)).toNatClampNeg)) → vp_in (v3 - (1 : Int32)) 16 ∧ vp_in v3 16 ∧ ∀ σ11 : St, σ11 = sA σ10 12 (upd (σ10.2.1 12) v3.toNatClampNeg (σ10.2.1 12 (v3 - (1 : Int32)).toNatClampNeg)) → vp_in (v3 - (1 : Int32)) 16 ∧ vp_in v3 16 ∧ ∀ σ12 : St, σ12 = sA σ11 13 (upd (σ11.2.1 13) v3.toNatClampNeg (σ11.2.1 13 (v3 - (1 : Int32)).toNatClampNeg)) → ∀ x13 : Int32, x13 = v3 + (-1) → wl_X8_tick_3 K n v1 v2 x13 σ12))
def wp_X8_tick (σ : St) (a1 : Int32) (a2 : Int32) (K : Int32 → St → Prop) : Prop :=
  (∃ nn : Nat, wl_X8_tick_3 K nn a1 a2 (15 : Int32) σ)
set_option maxHeartbeats 4000000 in
set_option maxRecDepth 100000 in
theorem c_X8_tick (l : Launch) (D : va_G) (cI cZ : ClassId) (ad : Nat → Nat) (A : Nat → Prop) (σ : St) (a1 : Int32) (a2 : Int32) (K : Int32 → St → Prop) (hw : wp_X8_tick σ a1 a2 K) : Met l yX8_tick wsX8_tick ({ frames := 0, cells := 0, slots := 0, locals := 0 }) (va_Pc [.ref (ad 0), .int a1, .int a2] (GW D [(cI, FieldType.int), (cZ, FieldType.boolean)] (wM cI cZ ad) A σ)) (va_Qi K (GW D [(cI, FieldType.int), (cZ, FieldType.boolean)] (wM cI cZ ad) A) A) 0 0 A := by
  refine Met.ofW (cc := cX8_tick) (maxL := 4) (ret := (some .int)) (by decide) rfl ?_
  intro p e s m args below meth c s₁ B hml hv
  obtain ⟨rfl, hP, hK, hD⟩ := hv
  have hx := B.exec
  have hb := B.bytes
  have hr := B.returns
  have hts := atoms_spec (ws := wsX8_tick) B.pre
  have hown : s.vm.findClass RX8 = some m.cls := findClass_of_methodNamed B.named
  have hlocks := B.notSynchronized
  have hS : va_S A s.heap s.heap [] := va_S.rf
  have hinX8 : ∀ w ∈ wsX80, w ∈ wsX8_tick := fun _ h => List.mem_cons_of_mem _ (List.mem_append_right _ (h))
  have hwl_X8_tick_3 : ∀ (n : Nat) (v1 : Int32) (v2 : Int32) (v3 : Int32) (σ : St), wl_X8_tick_3 K n v1 v2 v3 σ → ∀ (H : Heap) (locs : List Loc), va_P D vwCl (wM cI cZ ad σ) H → va_D A (wM cI cZ ad σ) → va_S A s.heap H locs → ∀ ls : Array Slot, lv_has ls 4 [(0, .ref (ad 0)), (1, .int v1), (2, .int v2), (3, .int v3)] → W p l e (headSpec wsX8_tick ({ frames := 0, cells := 0, slots := 0, locals := 0 })).room s m ([.ref (ad 0), .int a1, .int a2] : List Value).toArray below meth c H locs 0 0 (MQ below (va_Qi K (GW D [(cI, FieldType.int), (cZ, FieldType.boolean)] (wM cI cZ ad) A) A) ([.ref (ad 0), .int a1, .int a2] : List Value).toArray s 0 0 A) (F0 m 3 ls []) := by
    intro n
    induction n with
    | zero => intro v1 v2 v3 σ hw; exact hw.elim
    | succ n ih =>
      intro v1 v2 v3 σ hw H locs hP hD hS ls hl
      refine lv_iload_n hx hb dX8_tick_3 rfl (lv_at hl 3 rfl) ?_
      refine lv_if_le (tgt := 55) hx hb dX8_tick_4 (by decide) (fun c9 => ?_) (fun c9 => ?_)
      · have hw := hw.1 c9
        refine lv_aload_n hx hb dX8_tick_55 rfl (lv_at hl 0 rfl) ?_
        refine va_get (D := D) (ci := 6) (C := RX8) (T := TX8) (N := 28) hx hb hts hinX8 hown hK hP 0 rfl rfl 18 (by decide) (hts _ (List.mem_of_getElem? (i := 1) rfl)) (fun _ h9 => h9) rfl dX8_tick_56 ?_
        refine lv_iconst (v := 0) hx hb dX8_tick_59 (by decide) ?_
        refine lv_iload_n hx hb dX8_tick_60 rfl (lv_at hl 1 rfl) ?_
        refine va_iast (D := D) hx hb hK hP hD hS 12 0 rfl rfl hw.1 dX8_tick_61 (fun H locs hP hD hS => ?_)
        obtain ⟨σ1, eσ1⟩ : ∃ z : St, z = sA σ 11 (upd (σ.2.1 11) (0 : Int32).toNatClampNeg v1) := ⟨_, rfl⟩
        have hP : va_P D vwCl (wM cI cZ ad σ1) H := by rw [eσ1]; exact hP
        have hD : va_D A (wM cI cZ ad σ1) := by rw [eσ1]; exact hD
        have hw := hw.2 σ1 eσ1
        refine lv_aload_n hx hb dX8_tick_62 rfl (lv_at hl 0 rfl) ?_
        refine va_get (D := D) (ci := 6) (C := RX8) (T := TX8) (N := 28) hx hb hts hinX8 hown hK hP 0 rfl rfl 19 (by decide) (hts _ (List.mem_of_getElem? (i := 2) rfl)) (fun _ h9 => h9) rfl dX8_tick_63 ?_
        refine lv_iconst (v := 0) hx hb dX8_tick_66 (by decide) ?_
        refine lv_aload_n hx hb dX8_tick_67 rfl (lv_at hl 0 rfl) ?_
        refine va_get (D := D) (ci := 6) (C := RX8) (T := TX8) (N := 28) hx hb hts hinX8 hown hK hP 0 rfl rfl 10 (by decide) (hts _ (List.mem_of_getElem? (i := 4) rfl)) (fun _ h9 => h9) rfl dX8_tick_68 ?_
        refine va_iast (D := D) hx hb hK hP hD hS 13 0 rfl rfl hw.1 dX8_tick_71 (fun H locs hP hD hS => ?_)
        obtain ⟨σ2, eσ2⟩ : ∃ z : St, z = sA σ1 12 (upd (σ1.2.1 12) (0 : Int32).toNatClampNeg (σ1.1 2)) := ⟨_, rfl⟩
        have hP : va_P D vwCl (wM cI cZ ad σ2) H := by rw [eσ2]; exact hP
        have hD : va_D A (wM cI cZ ad σ2) := by rw [eσ2]; exact hD
        have hw := hw.2 σ2 eσ2
        refine lv_aload_n hx hb dX8_tick_72 rfl (lv_at hl 0 rfl) ?_
        refine va_get (D := D) (ci := 6) (C := RX8) (T := TX8) (N := 28) hx hb hts hinX8 hown hK hP 0 rfl rfl 20 (by decide) (hts _ (List.mem_of_getElem? (i := 3) rfl)) (fun _ h9 => h9) rfl dX8_tick_73 ?_
        refine lv_iconst (v := 0) hx hb dX8_tick_76 (by decide) ?_
        refine lv_iload_n hx hb dX8_tick_77 rfl (lv_at hl 2 rfl) ?_
        refine va_iast (D := D) hx hb hK hP hD hS 14 0 rfl rfl hw.1 dX8_tick_78 (fun H locs hP hD hS => ?_)
        obtain ⟨σ3, eσ3⟩ : ∃ z : St, z = sA σ2 13 (upd (σ2.2.1 13) (0 : Int32).toNatClampNeg v2) := ⟨_, rfl⟩
        have hP : va_P D vwCl (wM cI cZ ad σ3) H := by rw [eσ3]; exact hP
        have hD : va_D A (wM cI cZ ad σ3) := by rw [eσ3]; exact hD
        have hw := hw.2 σ3 eσ3
        refine lv_aload_n hx hb dX8_tick_79 rfl (lv_at hl 0 rfl) ?_
        refine lv_dup hx hb dX8_tick_80 rfl ?_
        refine va_get (D := D) (ci := 6) (C := RX8) (T := TX8) (N := 28) hx hb hts hinX8 hown hK hP 0 rfl rfl 17 (by decide) (hts _ (List.mem_of_getElem? (i := 5) rfl)) (fun _ h9 => h9) rfl dX8_tick_81 ?_
        refine lv_aload_n hx hb dX8_tick_84 rfl (lv_at hl 0 rfl) ?_
        refine va_get (D := D) (ci := 6) (C := RX8) (T := TX8) (N := 28) hx hb hts hinX8 hown hK hP 0 rfl rfl 17 (by decide) (hts _ (List.mem_of_getElem? (i := 5) rfl)) (fun _ h9 => h9) rfl dX8_tick_85 ?_
        refine lv_bipush (v := 16) hx hb dX8_tick_88 (by decide) ?_
        refine lv_icmp_ge (tgt := 97) hx hb dX8_tick_90 (by decide) (fun c9 => ?_) (fun c9 => ?_)
        · have hw := hw.1 c9
          refine lv_iconst (v := 0) hx hb dX8_tick_97 (by decide) ?_
          refine lv_iadd hx hb dX8_tick_98 ?_
          refine va_put (D := D) (ci := 6) (ty := .int) (C := RX8) (T := TX8) (N := 28) hx hb hts hinX8 tyX8 tyX8_ok nmX8 hown hK hP hD hS 0 rfl rfl 17 (by decide) (hts _ (List.mem_of_getElem? (i := 5) rfl)) (fun _ h9 => h9) rfl (by decide +kernel) rfl rfl (Nat.le_of_ble_eq_true rfl) dX8_tick_99 (fun H locs hP hD hS => ?_)
          obtain ⟨σ4, eσ4⟩ : ∃ z : St, z = sI σ3 5 ((σ3.1 5) + (0 : Int32)) := ⟨_, rfl⟩
          have hP : va_P D vwCl (wM cI cZ ad σ4) H := by rw [eσ4]; exact hP
          have hD : va_D A (wM cI cZ ad σ4) := by rw [eσ4]; exact hD
          have hw := hw σ4 eσ4
          refine lv_aload_n hx hb dX8_tick_102 rfl (lv_at hl 0 rfl) ?_
          refine lv_ldc2 (v := 31) hx hb hown (hts _ (List.mem_of_getElem? (i := 6) rfl)) dX8_tick_103 ?_
          refine lv_aload_n hx hb dX8_tick_106 rfl (lv_at hl 0 rfl) ?_
          refine va_get (D := D) (ci := 6) (C := RX8) (T := TX8) (N := 28) hx hb hts hinX8 hown hK hP 0 rfl rfl 16 (by decide) (hts _ (List.mem_of_getElem? (i := 7) rfl)) (fun _ h9 => h9) rfl dX8_tick_107 ?_
          refine lv_lmul hx hb dX8_tick_110 ?_
          refine lv_iload_n hx hb dX8_tick_111 rfl (lv_at hl 2 rfl) ?_
          refine lv_i2l hx hb dX8_tick_112 rfl ?_
          refine lv_ladd hx hb dX8_tick_113 ?_
          refine va_put (D := D) (ci := 6) (ty := .long) (C := RX8) (T := TX8) (N := 28) hx hb hts hinX8 tyX8 tyX8_ok nmX8 hown hK hP hD hS 0 rfl rfl 16 (by decide) (hts _ (List.mem_of_getElem? (i := 7) rfl)) (fun _ h9 => h9) rfl (by decide +kernel) rfl rfl (Nat.le_of_ble_eq_true rfl) dX8_tick_114 (fun H locs hP hD hS => ?_)
          obtain ⟨σ5, eσ5⟩ : ∃ z : St, z = sL σ4 (((31 : Int64) * (σ4.2.2)) + (v2.toInt64)) := ⟨_, rfl⟩
          have hP : va_P D vwCl (wM cI cZ ad σ5) H := by rw [eσ5]; exact hP
          have hD : va_D A (wM cI cZ ad σ5) := by rw [eσ5]; exact hD
          have hw := hw σ5 eσ5
          refine lv_aload_n hx hb dX8_tick_117 rfl (lv_at hl 0 rfl) ?_
          refine lv_dup hx hb dX8_tick_118 rfl ?_
          refine va_get (D := D) (ci := 6) (C := RX8) (T := TX8) (N := 28) hx hb hts hinX8 hown hK hP 0 rfl rfl 10 (by decide) (hts _ (List.mem_of_getElem? (i := 4) rfl)) (fun _ h9 => h9) rfl dX8_tick_119 ?_
          refine lv_iconst (v := 1) hx hb dX8_tick_122 (by decide) ?_
          refine lv_iadd hx hb dX8_tick_123 ?_
          refine va_put (D := D) (ci := 6) (ty := .int) (C := RX8) (T := TX8) (N := 28) hx hb hts hinX8 tyX8 tyX8_ok nmX8 hown hK hP hD hS 0 rfl rfl 10 (by decide) (hts _ (List.mem_of_getElem? (i := 4) rfl)) (fun _ h9 => h9) rfl (by decide +kernel) rfl rfl (Nat.le_of_ble_eq_true rfl) dX8_tick_124 (fun H locs hP hD hS => ?_)
          obtain ⟨σ6, eσ6⟩ : ∃ z : St, z = sI σ5 2 ((σ5.1 2) + (1 : Int32)) := ⟨_, rfl⟩
          have hP : va_P D vwCl (wM cI cZ ad σ6) H := by rw [eσ6]; exact hP
          have hD : va_D A (wM cI cZ ad σ6) := by rw [eσ6]; exact hD
          have hw := hw σ6 eσ6
          refine lv_iload_n hx hb dX8_tick_127 rfl (lv_at hl 2 rfl) ?_
          exact G_iret hx hb hr hlocks hw hP hK hD hS dX8_tick_128
        · have hw := hw.2 c9
          refine lv_iconst (v := 1) hx hb dX8_tick_93 (by decide) ?_
          refine lv_goto (tgt := 98) hx hb dX8_tick_94 (by decide) ?_
          refine lv_iadd hx hb dX8_tick_98 ?_
          refine va_put (D := D) (ci := 6) (ty := .int) (C := RX8) (T := TX8) (N := 28) hx hb hts hinX8 tyX8 tyX8_ok nmX8 hown hK hP hD hS 0 rfl rfl 17 (by decide) (hts _ (List.mem_of_getElem? (i := 5) rfl)) (fun _ h9 => h9) rfl (by decide +kernel) rfl rfl (Nat.le_of_ble_eq_true rfl) dX8_tick_99 (fun H locs hP hD hS => ?_)
          obtain ⟨σ7, eσ7⟩ : ∃ z : St, z = sI σ3 5 ((σ3.1 5) + (1 : Int32)) := ⟨_, rfl⟩
          have hP : va_P D vwCl (wM cI cZ ad σ7) H := by rw [eσ7]; exact hP
          have hD : va_D A (wM cI cZ ad σ7) := by rw [eσ7]; exact hD
          have hw := hw σ7 eσ7
          refine lv_aload_n hx hb dX8_tick_102 rfl (lv_at hl 0 rfl) ?_
          refine lv_ldc2 (v := 31) hx hb hown (hts _ (List.mem_of_getElem? (i := 6) rfl)) dX8_tick_103 ?_
          refine lv_aload_n hx hb dX8_tick_106 rfl (lv_at hl 0 rfl) ?_
          refine va_get (D := D) (ci := 6) (C := RX8) (T := TX8) (N := 28) hx hb hts hinX8 hown hK hP 0 rfl rfl 16 (by decide) (hts _ (List.mem_of_getElem? (i := 7) rfl)) (fun _ h9 => h9) rfl dX8_tick_107 ?_
          refine lv_lmul hx hb dX8_tick_110 ?_
          refine lv_iload_n hx hb dX8_tick_111 rfl (lv_at hl 2 rfl) ?_
          refine lv_i2l hx hb dX8_tick_112 rfl ?_
          refine lv_ladd hx hb dX8_tick_113 ?_
          refine va_put (D := D) (ci := 6) (ty := .long) (C := RX8) (T := TX8) (N := 28) hx hb hts hinX8 tyX8 tyX8_ok nmX8 hown hK hP hD hS 0 rfl rfl 16 (by decide) (hts _ (List.mem_of_getElem? (i := 7) rfl)) (fun _ h9 => h9) rfl (by decide +kernel) rfl rfl (Nat.le_of_ble_eq_true rfl) dX8_tick_114 (fun H locs hP hD hS => ?_)
          obtain ⟨σ8, eσ8⟩ : ∃ z : St, z = sL σ7 (((31 : Int64) * (σ7.2.2)) + (v2.toInt64)) := ⟨_, rfl⟩
          have hP : va_P D vwCl (wM cI cZ ad σ8) H := by rw [eσ8]; exact hP
          have hD : va_D A (wM cI cZ ad σ8) := by rw [eσ8]; exact hD
          have hw := hw σ8 eσ8
          refine lv_aload_n hx hb dX8_tick_117 rfl (lv_at hl 0 rfl) ?_
          refine lv_dup hx hb dX8_tick_118 rfl ?_
          refine va_get (D := D) (ci := 6) (C := RX8) (T := TX8) (N := 28) hx hb hts hinX8 hown hK hP 0 rfl rfl 10 (by decide) (hts _ (List.mem_of_getElem? (i := 4) rfl)) (fun _ h9 => h9) rfl dX8_tick_119 ?_
          refine lv_iconst (v := 1) hx hb dX8_tick_122 (by decide) ?_
          refine lv_iadd hx hb dX8_tick_123 ?_
          refine va_put (D := D) (ci := 6) (ty := .int) (C := RX8) (T := TX8) (N := 28) hx hb hts hinX8 tyX8 tyX8_ok nmX8 hown hK hP hD hS 0 rfl rfl 10 (by decide) (hts _ (List.mem_of_getElem? (i := 4) rfl)) (fun _ h9 => h9) rfl (by decide +kernel) rfl rfl (Nat.le_of_ble_eq_true rfl) dX8_tick_124 (fun H locs hP hD hS => ?_)
          obtain ⟨σ9, eσ9⟩ : ∃ z : St, z = sI σ8 2 ((σ8.1 2) + (1 : Int32)) := ⟨_, rfl⟩
          have hP : va_P D vwCl (wM cI cZ ad σ9) H := by rw [eσ9]; exact hP
          have hD : va_D A (wM cI cZ ad σ9) := by rw [eσ9]; exact hD
          have hw := hw σ9 eσ9
          refine lv_iload_n hx hb dX8_tick_127 rfl (lv_at hl 2 rfl) ?_
          exact G_iret hx hb hr hlocks hw hP hK hD hS dX8_tick_128
      · have hw := hw.2 c9
        refine lv_aload_n hx hb dX8_tick_7 rfl (lv_at hl 0 rfl) ?_
        refine va_get (D := D) (ci := 6) (C := RX8) (T := TX8) (N := 28) hx hb hts hinX8 hown hK hP 0 rfl rfl 18 (by decide) (hts _ (List.mem_of_getElem? (i := 1) rfl)) (fun _ h9 => h9) rfl dX8_tick_8 ?_
        refine lv_iload_n hx hb dX8_tick_11 rfl (lv_at hl 3 rfl) ?_
        refine lv_aload_n hx hb dX8_tick_12 rfl (lv_at hl 0 rfl) ?_
        refine va_get (D := D) (ci := 6) (C := RX8) (T := TX8) (N := 28) hx hb hts hinX8 hown hK hP 0 rfl rfl 18 (by decide) (hts _ (List.mem_of_getElem? (i := 1) rfl)) (fun _ h9 => h9) rfl dX8_tick_13 ?_
        refine lv_iload_n hx hb dX8_tick_16 rfl (lv_at hl 3 rfl) ?_
        refine lv_iconst (v := 1) hx hb dX8_tick_17 (by decide) ?_
        refine lv_isub hx hb dX8_tick_18 ?_
        refine va_iald (D := D) hx hb hK hP 12 0 rfl rfl hw.1 dX8_tick_19 ?_
        have hw := hw.2
        refine va_iast (D := D) hx hb hK hP hD hS 12 0 rfl rfl hw.1 dX8_tick_20 (fun H locs hP hD hS => ?_)
        obtain ⟨σ10, eσ10⟩ : ∃ z : St, z = sA σ 11 (upd (σ.2.1 11) v3.toNatClampNeg (σ.2.1 11 (v3 - (1 : Int32)).toNatClampNeg)) := ⟨_, rfl⟩
        have hP : va_P D vwCl (wM cI cZ ad σ10) H := by rw [eσ10]; exact hP
        have hD : va_D A (wM cI cZ ad σ10) := by rw [eσ10]; exact hD
        have hw := hw.2 σ10 eσ10
        refine lv_aload_n hx hb dX8_tick_21 rfl (lv_at hl 0 rfl) ?_
        refine va_get (D := D) (ci := 6) (C := RX8) (T := TX8) (N := 28) hx hb hts hinX8 hown hK hP 0 rfl rfl 19 (by decide) (hts _ (List.mem_of_getElem? (i := 2) rfl)) (fun _ h9 => h9) rfl dX8_tick_22 ?_
        refine lv_iload_n hx hb dX8_tick_25 rfl (lv_at hl 3 rfl) ?_
        refine lv_aload_n hx hb dX8_tick_26 rfl (lv_at hl 0 rfl) ?_
        refine va_get (D := D) (ci := 6) (C := RX8) (T := TX8) (N := 28) hx hb hts hinX8 hown hK hP 0 rfl rfl 19 (by decide) (hts _ (List.mem_of_getElem? (i := 2) rfl)) (fun _ h9 => h9) rfl dX8_tick_27 ?_
        refine lv_iload_n hx hb dX8_tick_30 rfl (lv_at hl 3 rfl) ?_
        refine lv_iconst (v := 1) hx hb dX8_tick_31 (by decide) ?_
        refine lv_isub hx hb dX8_tick_32 ?_
        refine va_iald (D := D) hx hb hK hP 13 0 rfl rfl hw.1 dX8_tick_33 ?_
        have hw := hw.2
        refine va_iast (D := D) hx hb hK hP hD hS 13 0 rfl rfl hw.1 dX8_tick_34 (fun H locs hP hD hS => ?_)
        obtain ⟨σ11, eσ11⟩ : ∃ z : St, z = sA σ10 12 (upd (σ10.2.1 12) v3.toNatClampNeg (σ10.2.1 12 (v3 - (1 : Int32)).toNatClampNeg)) := ⟨_, rfl⟩
        have hP : va_P D vwCl (wM cI cZ ad σ11) H := by rw [eσ11]; exact hP
        have hD : va_D A (wM cI cZ ad σ11) := by rw [eσ11]; exact hD
        have hw := hw.2 σ11 eσ11
        refine lv_aload_n hx hb dX8_tick_35 rfl (lv_at hl 0 rfl) ?_
        refine va_get (D := D) (ci := 6) (C := RX8) (T := TX8) (N := 28) hx hb hts hinX8 hown hK hP 0 rfl rfl 20 (by decide) (hts _ (List.mem_of_getElem? (i := 3) rfl)) (fun _ h9 => h9) rfl dX8_tick_36 ?_
        refine lv_iload_n hx hb dX8_tick_39 rfl (lv_at hl 3 rfl) ?_
        refine lv_aload_n hx hb dX8_tick_40 rfl (lv_at hl 0 rfl) ?_
        refine va_get (D := D) (ci := 6) (C := RX8) (T := TX8) (N := 28) hx hb hts hinX8 hown hK hP 0 rfl rfl 20 (by decide) (hts _ (List.mem_of_getElem? (i := 3) rfl)) (fun _ h9 => h9) rfl dX8_tick_41 ?_
        refine lv_iload_n hx hb dX8_tick_44 rfl (lv_at hl 3 rfl) ?_
        refine lv_iconst (v := 1) hx hb dX8_tick_45 (by decide) ?_
        refine lv_isub hx hb dX8_tick_46 ?_
        refine va_iald (D := D) hx hb hK hP 14 0 rfl rfl hw.1 dX8_tick_47 ?_
        have hw := hw.2
        refine va_iast (D := D) hx hb hK hP hD hS 14 0 rfl rfl hw.1 dX8_tick_48 (fun H locs hP hD hS => ?_)
        obtain ⟨σ12, eσ12⟩ : ∃ z : St, z = sA σ11 13 (upd (σ11.2.1 13) v3.toNatClampNeg (σ11.2.1 13 (v3 - (1 : Int32)).toNatClampNeg)) := ⟨_, rfl⟩
        have hP : va_P D vwCl (wM cI cZ ad σ12) H := by rw [eσ12]; exact hP
        have hD : va_D A (wM cI cZ ad σ12) := by rw [eσ12]; exact hD
        have hw := hw.2 σ12 eσ12
        obtain ⟨x13, ex13⟩ : ∃ y : Int32, y = v3 + (-1) := ⟨_, rfl⟩
        have hw := hw x13 ex13
        refine lv_iinc (v := x13) (lv' := [(3, .int x13), (0, .ref (ad 0)), (1, .int v1), (2, .int v2)]) hx hb dX8_tick_49 hl (k := 3) rfl (by rw [ex13]; rfl) (by decide) rfl (fun ls hl => ?_)
        refine lv_goto (tgt := 3) hx hb dX8_tick_52 (by decide) ?_
        exact ih v1 v2 x13 σ12 hw _ _ hP hD hS ls (lv_sub hl [1, 2, 3, 0] rfl)
  have hl := lv_entry ([.ref (ad 0), .int a1, .int a2]) (n := 4) (Nat.le_of_ble_eq_true rfl)
  rw [lg_entry_eq]
  generalize (lg_sl ([.ref (ad 0), .int a1, .int a2]) ++ List.replicate (4 - (lg_sl ([.ref (ad 0), .int a1, .int a2])).length) Slot.unset).toArray = ls at hl ⊢
  have hl : lv_has ls 4 [(0, .ref (ad 0)), (1, .int a1), (2, .int a2)] := hl
  have hP : va_P D vwCl (wM cI cZ ad σ) s.heap := hP
  refine lv_bipush (v := 15) hx hb dX8_tick_0 (by decide) ?_
  refine lv_istore_n (lv' := [(3, .int (15 : Int32)), (0, .ref (ad 0)), (1, .int a1), (2, .int a2)]) hx hb dX8_tick_2 rfl hl (by decide) rfl (fun ls hl => ?_)
  obtain ⟨nn, hw⟩ := hw
  exact hwl_X8_tick_3 nn a1 a2 (15 : Int32) σ hw _ _ hP hD hS ls (lv_sub hl [1, 2, 3, 0] rfl)

def wp_X8_set (σ : St) (a1 : Int32) (a2 : Int32) (K : Int32 → St → Prop) : Prop :=
  wp_X8_isRegister a1 (fun x1 => ((¬ x1 = 0 → wp_X8_isByte a2 (fun x2 => ((¬ x2 = 0 → vp_in a1 40 ∧ ∀ x3 : Int32, x3 = σ.2.1 0 a1.toNatClampNeg → wp_X8_become σ a1 a2 (0 : Int32) (0 : Int32) (fun x5 σ4 => wp_X8_tick σ4 (0 : Int32) (x3 + x5) (fun x7 σ6 => K x7 σ6))) ∧ (x2 = 0 → K (-1000000002 : Int32) σ)))) ∧ (x1 = 0 → K (-1000000001 : Int32) σ)))
set_option maxHeartbeats 4000000 in
set_option maxRecDepth 100000 in
theorem c_X8_set (l : Launch) (D : va_G) (cI cZ : ClassId) (ad : Nat → Nat) (A : Nat → Prop) (σ : St) (a1 : Int32) (a2 : Int32) (K : Int32 → St → Prop) (hw : wp_X8_set σ a1 a2 K) : Met l yX8_set wsX8_set ({ frames := 2, cells := 0, slots := 0, locals := 46 }) (va_Pc [.ref (ad 0), .int a1, .int a2] (GW D [(cI, FieldType.int), (cZ, FieldType.boolean)] (wM cI cZ ad) A σ)) (va_Qi K (GW D [(cI, FieldType.int), (cZ, FieldType.boolean)] (wM cI cZ ad) A) A) 0 0 A := by
  refine Met.ofW (cc := cX8_set) (maxL := 5) (ret := (some .int)) (by decide) rfl ?_
  intro p e s m args below meth c s₁ B hml hv
  obtain ⟨rfl, hP, hK, hD⟩ := hv
  have hx := B.exec
  have hb := B.bytes
  have hr := B.returns
  have hts := atoms_spec (ws := wsX8_set) B.pre
  have hown : s.vm.findClass RX8 = some m.cls := findClass_of_methodNamed B.named
  have hlocks := B.notSynchronized
  have hS : va_S A s.heap s.heap [] := va_S.rf
  have hinX8 : ∀ w ∈ wsX80, w ∈ wsX8_set := fun _ h => List.mem_cons_of_mem _ (List.mem_append_right _ (h))
  have hl := lv_entry ([.ref (ad 0), .int a1, .int a2]) (n := 5) (Nat.le_of_ble_eq_true rfl)
  rw [lg_entry_eq]
  generalize (lg_sl ([.ref (ad 0), .int a1, .int a2]) ++ List.replicate (5 - (lg_sl ([.ref (ad 0), .int a1, .int a2])).length) Slot.unset).toArray = ls at hl ⊢
  have hl : lv_has ls 5 [(0, .ref (ad 0)), (1, .int a1), (2, .int a2)] := hl
  have hP : va_P D vwCl (wM cI cZ ad σ) s.heap := hP
  refine lv_iload_n hx hb dX8_set_0 rfl (lv_at hl 1 rfl) ?_
  refine S_calli (As := [.int a1]) (rest := []) ⟨hx, hb, hml, hown, hts⟩ (c_X8_isRegister l a1 _ hw) (va_cwS 1 hts gX8_set_X8_isRegister rfl rfl rfl (by decide +kernel) ⟨Nat.le_of_ble_eq_true rfl, Nat.le_of_ble_eq_true rfl⟩) rfl hl.1 rfl (Nat.le_of_ble_eq_true rfl) dX8_set_1 ⟨Nat.zero_le _, Nat.zero_le _⟩ (fun x1 hw => ?_)
  refine lv_if_ne (tgt := 10) hx hb dX8_set_4 (by decide) (fun c9 => ?_) (fun c9 => ?_)
  · have hw := hw.1 c9
    refine lv_iload_n hx hb dX8_set_10 rfl (lv_at hl 2 rfl) ?_
    refine S_calli (As := [.int a2]) (rest := []) ⟨hx, hb, hml, hown, hts⟩ (c_X8_isByte l a2 _ hw) (va_cwS 1 hts gX8_set_X8_isByte rfl rfl rfl (by decide +kernel) ⟨Nat.le_of_ble_eq_true rfl, Nat.le_of_ble_eq_true rfl⟩) rfl hl.1 rfl (Nat.le_of_ble_eq_true rfl) dX8_set_11 ⟨Nat.zero_le _, Nat.zero_le _⟩ (fun x2 hw => ?_)
    refine lv_if_ne (tgt := 20) hx hb dX8_set_14 (by decide) (fun c9 => ?_) (fun c9 => ?_)
    · have hw := hw.1 c9
      refine lv_aload_n hx hb dX8_set_20 rfl (lv_at hl 0 rfl) ?_
      refine va_get (D := D) (ci := 6) (C := RX8) (T := TX8) (N := 28) hx hb hts hinX8 hown hK hP 0 rfl rfl 0 (by decide) (hts _ (List.mem_of_getElem? (i := 3) rfl)) (fun _ h9 => h9) rfl dX8_set_21 ?_
      refine lv_iload_n hx hb dX8_set_24 rfl (lv_at hl 1 rfl) ?_
      refine va_iald (D := D) hx hb hK hP 1 0 rfl rfl hw.1 dX8_set_25 ?_
      have hw := hw.2
      refine lv_topi (fun x3 ex3 => ?_)
      have hw := hw x3 ex3
      refine lv_istore_n (lv' := [(3, .int x3), (0, .ref (ad 0)), (1, .int a1), (2, .int a2)]) hx hb dX8_set_26 rfl hl (by decide) rfl (fun ls hl => ?_)
      refine lv_aload_n hx hb dX8_set_27 rfl (lv_at hl 1 rfl) ?_
      refine lv_iload_n hx hb dX8_set_28 rfl (lv_at hl 2 rfl) ?_
      refine lv_iload_n hx hb dX8_set_29 rfl (lv_at hl 3 rfl) ?_
      refine lv_iconst (v := 0) hx hb dX8_set_30 (by decide) ?_
      refine lv_iconst (v := 0) hx hb dX8_set_31 (by decide) ?_
      refine G_calli (As := [.int a1, .int a2, .int (0 : Int32), .int (0 : Int32)]) (rest := []) ⟨hx, hb, hml, hown, hts⟩ hK hP hD hS 0 6 rfl rfl (c_X8_become l D cI cZ ad A σ a1 a2 (0 : Int32) (0 : Int32) _ hw) (cwV 4 hts gX8_set_X8_become rfl rfl rfl (by decide +kernel) ⟨Nat.le_of_ble_eq_true rfl, Nat.le_of_ble_eq_true rfl⟩) rfl hl.1 rfl (Nat.le_of_ble_eq_true rfl) dX8_set_32 ⟨Nat.zero_le _, Nat.zero_le _⟩ (fun x5 σ4 hw H locs hP hD hS => ?_)
      refine lv_istore (lv' := [(4, .int x5), (3, .int x3), (0, .ref (ad 0)), (1, .int a1), (2, .int a2)]) hx hb dX8_set_35 hl (by decide) rfl (fun ls hl => ?_)
      refine lv_aload_n hx hb dX8_set_37 rfl (lv_at hl 2 rfl) ?_
      refine lv_iconst (v := 0) hx hb dX8_set_38 (by decide) ?_
      refine lv_iload_n hx hb dX8_set_39 rfl (lv_at hl 1 rfl) ?_
      refine lv_iload hx hb dX8_set_40 (lv_at hl 0 rfl) ?_
      refine lv_iadd hx hb dX8_set_42 ?_
      refine G_calli (As := [.int (0 : Int32), .int (x3 + x5)]) (rest := []) ⟨hx, hb, hml, hown, hts⟩ hK hP hD hS 0 6 rfl rfl (c_X8_tick l D cI cZ ad A σ4 (0 : Int32) (x3 + x5) _ hw) (cwV 2 hts gX8_set_X8_tick rfl rfl rfl (by decide +kernel) ⟨Nat.le_of_ble_eq_true rfl, Nat.le_of_ble_eq_true rfl⟩) rfl hl.1 rfl (Nat.le_of_ble_eq_true rfl) dX8_set_43 ⟨Nat.zero_le _, Nat.zero_le _⟩ (fun x7 σ6 hw H locs hP hD hS => ?_)
      exact G_iret hx hb hr hlocks hw hP hK hD hS dX8_set_46
    · have hw := hw.2 c9
      refine lv_ldc (v := -1000000002) hx hb hown (hts _ (List.mem_of_getElem? (i := 2) rfl)) dX8_set_17 ?_
      exact G_iret hx hb hr hlocks hw hP hK hD hS dX8_set_19
  · have hw := hw.2 c9
    refine lv_ldc (v := -1000000001) hx hb hown (hts _ (List.mem_of_getElem? (i := 1) rfl)) dX8_set_7 ?_
    exact G_iret hx hb hr hlocks hw hP hK hD hS dX8_set_9

def wp_X8_isGround (σ : St) (a1 : Int32) (K : Int32 → St → Prop) : Prop :=
  wp_X8_in (a1.toInt64) (0 : Int64) (((σ.1 0) - (1 : Int32)).toInt64) (fun x1 => narrow .boolean (.int x1) = .int x1 ∧ K x1 σ)
set_option maxHeartbeats 4000000 in
set_option maxRecDepth 100000 in
theorem c_X8_isGround (l : Launch) (D : va_G) (cI cZ : ClassId) (ad : Nat → Nat) (A : Nat → Prop) (σ : St) (a1 : Int32) (K : Int32 → St → Prop) (hw : wp_X8_isGround σ a1 K) : Met l yX8_isGround wsX8_isGround ({ frames := 1, cells := 0, slots := 0, locals := 25 }) (va_Pc [.ref (ad 0), .int a1] (GW D [(cI, FieldType.int), (cZ, FieldType.boolean)] (wM cI cZ ad) A σ)) (va_Qi K (GW D [(cI, FieldType.int), (cZ, FieldType.boolean)] (wM cI cZ ad) A) A) 0 0 A := by
  refine Met.ofW (cc := cX8_isGround) (maxL := 2) (ret := (some .boolean)) (by decide) rfl ?_
  intro p e s m args below meth c s₁ B hml hv
  obtain ⟨rfl, hP, hK, hD⟩ := hv
  have hx := B.exec
  have hb := B.bytes
  have hr := B.returns
  have hts := atoms_spec (ws := wsX8_isGround) B.pre
  have hown : s.vm.findClass RX8 = some m.cls := findClass_of_methodNamed B.named
  have hlocks := B.notSynchronized
  have hS : va_S A s.heap s.heap [] := va_S.rf
  have hinX8 : ∀ w ∈ wsX80, w ∈ wsX8_isGround := fun _ h => List.mem_cons_of_mem _ (List.mem_append_right _ (h))
  have hl := lv_entry ([.ref (ad 0), .int a1]) (n := 2) (Nat.le_of_ble_eq_true rfl)
  rw [lg_entry_eq]
  generalize (lg_sl ([.ref (ad 0), .int a1]) ++ List.replicate (2 - (lg_sl ([.ref (ad 0), .int a1])).length) Slot.unset).toArray = ls at hl ⊢
  have hl : lv_has ls 2 [(0, .ref (ad 0)), (1, .int a1)] := hl
  have hP : va_P D vwCl (wM cI cZ ad σ) s.heap := hP
  refine lv_iload_n hx hb dX8_isGround_0 rfl (lv_at hl 1 rfl) ?_
  refine lv_i2l hx hb dX8_isGround_1 rfl ?_
  refine lv_lconst (v := 0) hx hb dX8_isGround_2 (by decide) ?_
  refine lv_aload_n hx hb dX8_isGround_3 rfl (lv_at hl 0 rfl) ?_
  refine va_get (D := D) (ci := 6) (C := RX8) (T := TX8) (N := 28) hx hb hts hinX8 hown hK hP 0 rfl rfl 5 (by decide) (hts _ (List.mem_of_getElem? (i := 1) rfl)) (fun _ h9 => h9) rfl dX8_isGround_4 ?_
  refine lv_iconst (v := 1) hx hb dX8_isGround_7 (by decide) ?_
  refine lv_isub hx hb dX8_isGround_8 ?_
  refine lv_i2l hx hb dX8_isGround_9 rfl ?_
  refine S_calli (As := [.long (a1.toInt64), .long (0 : Int64), .long (((σ.1 0) - (1 : Int32)).toInt64)]) (rest := []) ⟨hx, hb, hml, hown, hts⟩ (c_X8_in l (a1.toInt64) (0 : Int64) (((σ.1 0) - (1 : Int32)).toInt64) _ hw) (va_cwS 3 hts gX8_isGround_X8_in rfl rfl rfl (by decide +kernel) ⟨Nat.le_of_ble_eq_true rfl, Nat.le_of_ble_eq_true rfl⟩) rfl hl.1 rfl (Nat.le_of_ble_eq_true rfl) dX8_isGround_10 ⟨Nat.zero_le _, Nat.zero_le _⟩ (fun x1 hw => ?_)
  exact G_zret hx hb hr hlocks hw.1 hw.2 hP hK hD hS dX8_isGround_13

def wp_X8_forget (σ : St) (a1 : Int32) (a2 : Int32) (a3 : Int32) (K : Int32 → St → Prop) : Prop :=
  wp_X8_isRegister a1 (fun x1 => ((x1 = 0 → K (-1000000001 : Int32) σ) ∧ (¬ x1 = 0 → wp_X8_isGround σ a3 (fun x3 σ2 => ((¬ x3 = 0 → wp_X8_in (a2.toInt64) (1 : Int64) (255 : Int64) (fun x4 => ((¬ x4 = 0 → vp_in a1 40 ∧ vp_in a1 40 ∧ vp_in a1 40 ∧ wp_X8_become σ2 a1 (σ2.2.1 0 a1.toNatClampNeg) ((σ2.2.1 1 a1.toNatClampNeg) ||| a2) ((σ2.2.1 2 a1.toNatClampNeg) ||| ((1 : Int32) <<< (a3 &&& 31))) (fun x6 σ5 => wp_X8_tick σ5 (11 : Int32) x6 (fun x8 σ7 => K x8 σ7))) ∧ (x4 = 0 → K (-1000000002 : Int32) σ2)))) ∧ (x3 = 0 → K (-1000000001 : Int32) σ2))))))
set_option maxHeartbeats 4000000 in
set_option maxRecDepth 100000 in
theorem c_X8_forget (l : Launch) (D : va_G) (cI cZ : ClassId) (ad : Nat → Nat) (A : Nat → Prop) (σ : St) (a1 : Int32) (a2 : Int32) (a3 : Int32) (K : Int32 → St → Prop) (hw : wp_X8_forget σ a1 a2 a3 K) : Met l yX8_forget wsX8_forget ({ frames := 2, cells := 0, slots := 0, locals := 46 }) (va_Pc [.ref (ad 0), .int a1, .int a2, .int a3] (GW D [(cI, FieldType.int), (cZ, FieldType.boolean)] (wM cI cZ ad) A σ)) (va_Qi K (GW D [(cI, FieldType.int), (cZ, FieldType.boolean)] (wM cI cZ ad) A) A) 0 0 A := by
  refine Met.ofW (cc := cX8_forget) (maxL := 4) (ret := (some .int)) (by decide) rfl ?_
  intro p e s m args below meth c s₁ B hml hv
  obtain ⟨rfl, hP, hK, hD⟩ := hv
  have hx := B.exec
  have hb := B.bytes
  have hr := B.returns
  have hts := atoms_spec (ws := wsX8_forget) B.pre
  have hown : s.vm.findClass RX8 = some m.cls := findClass_of_methodNamed B.named
  have hlocks := B.notSynchronized
  have hS : va_S A s.heap s.heap [] := va_S.rf
  have hinX8 : ∀ w ∈ wsX80, w ∈ wsX8_forget := fun _ h => List.mem_cons_of_mem _ (List.mem_append_right _ (h))
  have hl := lv_entry ([.ref (ad 0), .int a1, .int a2, .int a3]) (n := 4) (Nat.le_of_ble_eq_true rfl)
  rw [lg_entry_eq]
  generalize (lg_sl ([.ref (ad 0), .int a1, .int a2, .int a3]) ++ List.replicate (4 - (lg_sl ([.ref (ad 0), .int a1, .int a2, .int a3])).length) Slot.unset).toArray = ls at hl ⊢
  have hl : lv_has ls 4 [(0, .ref (ad 0)), (1, .int a1), (2, .int a2), (3, .int a3)] := hl
  have hP : va_P D vwCl (wM cI cZ ad σ) s.heap := hP
  refine lv_iload_n hx hb dX8_forget_0 rfl (lv_at hl 1 rfl) ?_
  refine S_calli (As := [.int a1]) (rest := []) ⟨hx, hb, hml, hown, hts⟩ (c_X8_isRegister l a1 _ hw) (va_cwS 1 hts gX8_forget_X8_isRegister rfl rfl rfl (by decide +kernel) ⟨Nat.le_of_ble_eq_true rfl, Nat.le_of_ble_eq_true rfl⟩) rfl hl.1 rfl (Nat.le_of_ble_eq_true rfl) dX8_forget_1 ⟨Nat.zero_le _, Nat.zero_le _⟩ (fun x1 hw => ?_)
  refine lv_if_eq (tgt := 15) hx hb dX8_forget_4 (by decide) (fun c9 => ?_) (fun c9 => ?_)
  · have hw := hw.1 c9
    refine lv_ldc (v := -1000000001) hx hb hown (hts _ (List.mem_of_getElem? (i := 1) rfl)) dX8_forget_15 ?_
    exact G_iret hx hb hr hlocks hw hP hK hD hS dX8_forget_17
  · have hw := hw.2 c9
    refine lv_aload_n hx hb dX8_forget_7 rfl (lv_at hl 0 rfl) ?_
    refine lv_iload_n hx hb dX8_forget_8 rfl (lv_at hl 3 rfl) ?_
    refine G_calli (As := [.int a3]) (rest := []) ⟨hx, hb, hml, hown, hts⟩ hK hP hD hS 0 6 rfl rfl (c_X8_isGround l D cI cZ ad A σ a3 _ hw) (cwV 1 hts gX8_forget_X8_isGround rfl rfl rfl (by decide +kernel) ⟨Nat.le_of_ble_eq_true rfl, Nat.le_of_ble_eq_true rfl⟩) rfl hl.1 rfl (Nat.le_of_ble_eq_true rfl) dX8_forget_9 ⟨Nat.zero_le _, Nat.zero_le _⟩ (fun x3 σ2 hw H locs hP hD hS => ?_)
    refine lv_if_ne (tgt := 18) hx hb dX8_forget_12 (by decide) (fun c9 => ?_) (fun c9 => ?_)
    · have hw := hw.1 c9
      refine lv_iload_n hx hb dX8_forget_18 rfl (lv_at hl 2 rfl) ?_
      refine lv_i2l hx hb dX8_forget_19 rfl ?_
      refine lv_lconst (v := 1) hx hb dX8_forget_20 (by decide) ?_
      refine lv_ldc2 (v := 255) hx hb hown (hts _ (List.mem_of_getElem? (i := 2) rfl)) dX8_forget_21 ?_
      refine S_calli (As := [.long (a2.toInt64), .long (1 : Int64), .long (255 : Int64)]) (rest := []) ⟨hx, hb, hml, hown, hts⟩ (c_X8_in l (a2.toInt64) (1 : Int64) (255 : Int64) _ hw) (va_cwS 3 hts gX8_forget_X8_in rfl rfl rfl (by decide +kernel) ⟨Nat.le_of_ble_eq_true rfl, Nat.le_of_ble_eq_true rfl⟩) rfl hl.1 rfl (Nat.le_of_ble_eq_true rfl) dX8_forget_24 ⟨Nat.zero_le _, Nat.zero_le _⟩ (fun x4 hw => ?_)
      refine lv_if_ne (tgt := 33) hx hb dX8_forget_27 (by decide) (fun c9 => ?_) (fun c9 => ?_)
      · have hw := hw.1 c9
        refine lv_aload_n hx hb dX8_forget_33 rfl (lv_at hl 0 rfl) ?_
        refine lv_bipush (v := 11) hx hb dX8_forget_34 (by decide) ?_
        refine lv_aload_n hx hb dX8_forget_36 rfl (lv_at hl 0 rfl) ?_
        refine lv_iload_n hx hb dX8_forget_37 rfl (lv_at hl 1 rfl) ?_
        refine lv_aload_n hx hb dX8_forget_38 rfl (lv_at hl 0 rfl) ?_
        refine va_get (D := D) (ci := 6) (C := RX8) (T := TX8) (N := 28) hx hb hts hinX8 hown hK hP 0 rfl rfl 0 (by decide) (hts _ (List.mem_of_getElem? (i := 4) rfl)) (fun _ h9 => h9) rfl dX8_forget_39 ?_
        refine lv_iload_n hx hb dX8_forget_42 rfl (lv_at hl 1 rfl) ?_
        refine va_iald (D := D) hx hb hK hP 1 0 rfl rfl hw.1 dX8_forget_43 ?_
        have hw := hw.2
        refine lv_aload_n hx hb dX8_forget_44 rfl (lv_at hl 0 rfl) ?_
        refine va_get (D := D) (ci := 6) (C := RX8) (T := TX8) (N := 28) hx hb hts hinX8 hown hK hP 0 rfl rfl 1 (by decide) (hts _ (List.mem_of_getElem? (i := 5) rfl)) (fun _ h9 => h9) rfl dX8_forget_45 ?_
        refine lv_iload_n hx hb dX8_forget_48 rfl (lv_at hl 1 rfl) ?_
        refine va_iald (D := D) hx hb hK hP 2 0 rfl rfl hw.1 dX8_forget_49 ?_
        have hw := hw.2
        refine lv_iload_n hx hb dX8_forget_50 rfl (lv_at hl 2 rfl) ?_
        refine lv_ior hx hb dX8_forget_51 ?_
        refine lv_aload_n hx hb dX8_forget_52 rfl (lv_at hl 0 rfl) ?_
        refine va_get (D := D) (ci := 6) (C := RX8) (T := TX8) (N := 28) hx hb hts hinX8 hown hK hP 0 rfl rfl 2 (by decide) (hts _ (List.mem_of_getElem? (i := 6) rfl)) (fun _ h9 => h9) rfl dX8_forget_53 ?_
        refine lv_iload_n hx hb dX8_forget_56 rfl (lv_at hl 1 rfl) ?_
        refine va_iald (D := D) hx hb hK hP 3 0 rfl rfl hw.1 dX8_forget_57 ?_
        have hw := hw.2
        refine lv_iconst (v := 1) hx hb dX8_forget_58 (by decide) ?_
        refine lv_iload_n hx hb dX8_forget_59 rfl (lv_at hl 3 rfl) ?_
        refine lv_ishl hx hb dX8_forget_60 ?_
        refine lv_ior hx hb dX8_forget_61 ?_
        refine G_calli (As := [.int a1, .int (σ2.2.1 0 a1.toNatClampNeg), .int ((σ2.2.1 1 a1.toNatClampNeg) ||| a2), .int ((σ2.2.1 2 a1.toNatClampNeg) ||| ((1 : Int32) <<< (a3 &&& 31)))]) (rest := [.int (11 : Int32), .ref (ad 0)]) ⟨hx, hb, hml, hown, hts⟩ hK hP hD hS 0 6 rfl rfl (c_X8_become l D cI cZ ad A σ2 a1 (σ2.2.1 0 a1.toNatClampNeg) ((σ2.2.1 1 a1.toNatClampNeg) ||| a2) ((σ2.2.1 2 a1.toNatClampNeg) ||| ((1 : Int32) <<< (a3 &&& 31))) _ hw) (cwV 4 hts gX8_forget_X8_become rfl rfl rfl (by decide +kernel) ⟨Nat.le_of_ble_eq_true rfl, Nat.le_of_ble_eq_true rfl⟩) rfl hl.1 rfl (Nat.le_of_ble_eq_true rfl) dX8_forget_62 ⟨Nat.zero_le _, Nat.zero_le _⟩ (fun x6 σ5 hw H locs hP hD hS => ?_)
        refine G_calli (As := [.int (11 : Int32), .int x6]) (rest := []) ⟨hx, hb, hml, hown, hts⟩ hK hP hD hS 0 6 rfl rfl (c_X8_tick l D cI cZ ad A σ5 (11 : Int32) x6 _ hw) (cwV 2 hts gX8_forget_X8_tick rfl rfl rfl (by decide +kernel) ⟨Nat.le_of_ble_eq_true rfl, Nat.le_of_ble_eq_true rfl⟩) rfl hl.1 rfl (Nat.le_of_ble_eq_true rfl) dX8_forget_65 ⟨Nat.zero_le _, Nat.zero_le _⟩ (fun x8 σ7 hw H locs hP hD hS => ?_)
        exact G_iret hx hb hr hlocks hw hP hK hD hS dX8_forget_68
      · have hw := hw.2 c9
        refine lv_ldc (v := -1000000002) hx hb hown (hts _ (List.mem_of_getElem? (i := 3) rfl)) dX8_forget_30 ?_
        exact G_iret hx hb hr hlocks hw hP hK hD hS dX8_forget_32
    · have hw := hw.2 c9
      refine lv_ldc (v := -1000000001) hx hb hown (hts _ (List.mem_of_getElem? (i := 1) rfl)) dX8_forget_15 ?_
      exact G_iret hx hb hr hlocks hw hP hK hD hS dX8_forget_17

def wp_X8_copy (σ : St) (a1 : Int32) (a2 : Int32) (K : Int32 → St → Prop) : Prop :=
  wp_X8_isRegister a1 (fun x1 => ((x1 = 0 → K (-1000000001 : Int32) σ) ∧ (¬ x1 = 0 → wp_X8_isRegister a2 (fun x2 => ((¬ x2 = 0 → vp_in a2 40 ∧ vp_in a2 40 ∧ vp_in a2 40 ∧ wp_X8_become σ a1 (σ.2.1 0 a2.toNatClampNeg) (σ.2.1 1 a2.toNatClampNeg) (σ.2.1 2 a2.toNatClampNeg) (fun x4 σ3 => wp_X8_tick σ3 (1 : Int32) x4 (fun x6 σ5 => K x6 σ5))) ∧ (x2 = 0 → K (-1000000001 : Int32) σ))))))
set_option maxHeartbeats 4000000 in
set_option maxRecDepth 100000 in
theorem c_X8_copy (l : Launch) (D : va_G) (cI cZ : ClassId) (ad : Nat → Nat) (A : Nat → Prop) (σ : St) (a1 : Int32) (a2 : Int32) (K : Int32 → St → Prop) (hw : wp_X8_copy σ a1 a2 K) : Met l yX8_copy wsX8_copy ({ frames := 2, cells := 0, slots := 0, locals := 46 }) (va_Pc [.ref (ad 0), .int a1, .int a2] (GW D [(cI, FieldType.int), (cZ, FieldType.boolean)] (wM cI cZ ad) A σ)) (va_Qi K (GW D [(cI, FieldType.int), (cZ, FieldType.boolean)] (wM cI cZ ad) A) A) 0 0 A := by
  refine Met.ofW (cc := cX8_copy) (maxL := 3) (ret := (some .int)) (by decide) rfl ?_
  intro p e s m args below meth c s₁ B hml hv
  obtain ⟨rfl, hP, hK, hD⟩ := hv
  have hx := B.exec
  have hb := B.bytes
  have hr := B.returns
  have hts := atoms_spec (ws := wsX8_copy) B.pre
  have hown : s.vm.findClass RX8 = some m.cls := findClass_of_methodNamed B.named
  have hlocks := B.notSynchronized
  have hS : va_S A s.heap s.heap [] := va_S.rf
  have hinX8 : ∀ w ∈ wsX80, w ∈ wsX8_copy := fun _ h => List.mem_cons_of_mem _ (List.mem_append_right _ (h))
  have hl := lv_entry ([.ref (ad 0), .int a1, .int a2]) (n := 3) (Nat.le_of_ble_eq_true rfl)
  rw [lg_entry_eq]
  generalize (lg_sl ([.ref (ad 0), .int a1, .int a2]) ++ List.replicate (3 - (lg_sl ([.ref (ad 0), .int a1, .int a2])).length) Slot.unset).toArray = ls at hl ⊢
  have hl : lv_has ls 3 [(0, .ref (ad 0)), (1, .int a1), (2, .int a2)] := hl
  have hP : va_P D vwCl (wM cI cZ ad σ) s.heap := hP
  refine lv_iload_n hx hb dX8_copy_0 rfl (lv_at hl 1 rfl) ?_
  refine S_calli (As := [.int a1]) (rest := []) ⟨hx, hb, hml, hown, hts⟩ (c_X8_isRegister l a1 _ hw) (va_cwS 1 hts gX8_copy_X8_isRegister rfl rfl rfl (by decide +kernel) ⟨Nat.le_of_ble_eq_true rfl, Nat.le_of_ble_eq_true rfl⟩) rfl hl.1 rfl (Nat.le_of_ble_eq_true rfl) dX8_copy_1 ⟨Nat.zero_le _, Nat.zero_le _⟩ (fun x1 hw => ?_)
  refine lv_if_eq (tgt := 14) hx hb dX8_copy_4 (by decide) (fun c9 => ?_) (fun c9 => ?_)
  · have hw := hw.1 c9
    refine lv_ldc (v := -1000000001) hx hb hown (hts _ (List.mem_of_getElem? (i := 1) rfl)) dX8_copy_14 ?_
    exact G_iret hx hb hr hlocks hw hP hK hD hS dX8_copy_16
  · have hw := hw.2 c9
    refine lv_iload_n hx hb dX8_copy_7 rfl (lv_at hl 2 rfl) ?_
    refine S_calli (As := [.int a2]) (rest := []) ⟨hx, hb, hml, hown, hts⟩ (c_X8_isRegister l a2 _ hw) (va_cwS 1 hts gX8_copy_X8_isRegister rfl rfl rfl (by decide +kernel) ⟨Nat.le_of_ble_eq_true rfl, Nat.le_of_ble_eq_true rfl⟩) rfl hl.1 rfl (Nat.le_of_ble_eq_true rfl) dX8_copy_8 ⟨Nat.zero_le _, Nat.zero_le _⟩ (fun x2 hw => ?_)
    refine lv_if_ne (tgt := 17) hx hb dX8_copy_11 (by decide) (fun c9 => ?_) (fun c9 => ?_)
    · have hw := hw.1 c9
      refine lv_aload_n hx hb dX8_copy_17 rfl (lv_at hl 0 rfl) ?_
      refine lv_iconst (v := 1) hx hb dX8_copy_18 (by decide) ?_
      refine lv_aload_n hx hb dX8_copy_19 rfl (lv_at hl 0 rfl) ?_
      refine lv_iload_n hx hb dX8_copy_20 rfl (lv_at hl 1 rfl) ?_
      refine lv_aload_n hx hb dX8_copy_21 rfl (lv_at hl 0 rfl) ?_
      refine va_get (D := D) (ci := 6) (C := RX8) (T := TX8) (N := 28) hx hb hts hinX8 hown hK hP 0 rfl rfl 0 (by decide) (hts _ (List.mem_of_getElem? (i := 2) rfl)) (fun _ h9 => h9) rfl dX8_copy_22 ?_
      refine lv_iload_n hx hb dX8_copy_25 rfl (lv_at hl 2 rfl) ?_
      refine va_iald (D := D) hx hb hK hP 1 0 rfl rfl hw.1 dX8_copy_26 ?_
      have hw := hw.2
      refine lv_aload_n hx hb dX8_copy_27 rfl (lv_at hl 0 rfl) ?_
      refine va_get (D := D) (ci := 6) (C := RX8) (T := TX8) (N := 28) hx hb hts hinX8 hown hK hP 0 rfl rfl 1 (by decide) (hts _ (List.mem_of_getElem? (i := 3) rfl)) (fun _ h9 => h9) rfl dX8_copy_28 ?_
      refine lv_iload_n hx hb dX8_copy_31 rfl (lv_at hl 2 rfl) ?_
      refine va_iald (D := D) hx hb hK hP 2 0 rfl rfl hw.1 dX8_copy_32 ?_
      have hw := hw.2
      refine lv_aload_n hx hb dX8_copy_33 rfl (lv_at hl 0 rfl) ?_
      refine va_get (D := D) (ci := 6) (C := RX8) (T := TX8) (N := 28) hx hb hts hinX8 hown hK hP 0 rfl rfl 2 (by decide) (hts _ (List.mem_of_getElem? (i := 4) rfl)) (fun _ h9 => h9) rfl dX8_copy_34 ?_
      refine lv_iload_n hx hb dX8_copy_37 rfl (lv_at hl 2 rfl) ?_
      refine va_iald (D := D) hx hb hK hP 3 0 rfl rfl hw.1 dX8_copy_38 ?_
      have hw := hw.2
      refine G_calli (As := [.int a1, .int (σ.2.1 0 a2.toNatClampNeg), .int (σ.2.1 1 a2.toNatClampNeg), .int (σ.2.1 2 a2.toNatClampNeg)]) (rest := [.int (1 : Int32), .ref (ad 0)]) ⟨hx, hb, hml, hown, hts⟩ hK hP hD hS 0 6 rfl rfl (c_X8_become l D cI cZ ad A σ a1 (σ.2.1 0 a2.toNatClampNeg) (σ.2.1 1 a2.toNatClampNeg) (σ.2.1 2 a2.toNatClampNeg) _ hw) (cwV 4 hts gX8_copy_X8_become rfl rfl rfl (by decide +kernel) ⟨Nat.le_of_ble_eq_true rfl, Nat.le_of_ble_eq_true rfl⟩) rfl hl.1 rfl (Nat.le_of_ble_eq_true rfl) dX8_copy_39 ⟨Nat.zero_le _, Nat.zero_le _⟩ (fun x4 σ3 hw H locs hP hD hS => ?_)
      refine G_calli (As := [.int (1 : Int32), .int x4]) (rest := []) ⟨hx, hb, hml, hown, hts⟩ hK hP hD hS 0 6 rfl rfl (c_X8_tick l D cI cZ ad A σ3 (1 : Int32) x4 _ hw) (cwV 2 hts gX8_copy_X8_tick rfl rfl rfl (by decide +kernel) ⟨Nat.le_of_ble_eq_true rfl, Nat.le_of_ble_eq_true rfl⟩) rfl hl.1 rfl (Nat.le_of_ble_eq_true rfl) dX8_copy_42 ⟨Nat.zero_le _, Nat.zero_le _⟩ (fun x6 σ5 hw H locs hP hD hS => ?_)
      exact G_iret hx hb hr hlocks hw hP hK hD hS dX8_copy_45
    · have hw := hw.2 c9
      refine lv_ldc (v := -1000000001) hx hb hown (hts _ (List.mem_of_getElem? (i := 1) rfl)) dX8_copy_14 ?_
      exact G_iret hx hb hr hlocks hw hP hK hD hS dX8_copy_16

def wp_X8_cries (σ : St) (a1 : Int32) (a2 : Int32) (K : St → Prop) : Prop :=
  (((20 : Int32) ≤ (σ.1 3) → ∀ σ1 : St, σ1 = sI σ 3 ((σ.1 3) + (1 : Int32)) → K σ1) ∧ (¬ (20 : Int32) ≤ (σ.1 3) → vp_in (σ.1 3) 20 ∧ ∀ σ2 : St, σ2 = sA σ 8 (upd (σ.2.1 8) (σ.1 3).toNatClampNeg a1) → vp_in (σ2.1 3) 20 ∧ ∀ σ3 : St, σ3 = sA σ2 9 (upd (σ2.2.1 9) (σ2.1 3).toNatClampNeg (σ2.1 2)) → vp_in (σ3.1 3) 20 ∧ ∀ σ4 : St, σ4 = sA σ3 10 (upd (σ3.2.1 10) (σ3.1 3).toNatClampNeg a2) → ∀ σ5 : St, σ5 = sI σ4 3 ((σ4.1 3) + (1 : Int32)) → K σ5))
set_option maxHeartbeats 4000000 in
set_option maxRecDepth 100000 in
theorem c_X8_cries (l : Launch) (D : va_G) (cI cZ : ClassId) (ad : Nat → Nat) (A : Nat → Prop) (σ : St) (a1 : Int32) (a2 : Int32) (K : St → Prop) (hw : wp_X8_cries σ a1 a2 K) : Met l yX8_cries wsX8_cries ({ frames := 0, cells := 0, slots := 0, locals := 0 }) (va_Pc [.ref (ad 0), .int a1, .int a2] (GW D [(cI, FieldType.int), (cZ, FieldType.boolean)] (wM cI cZ ad) A σ)) (va_Qv K (GW D [(cI, FieldType.int), (cZ, FieldType.boolean)] (wM cI cZ ad) A) A) 0 0 A := by
  refine Met.ofW (cc := cX8_cries) (maxL := 3) (ret := none) (by decide) rfl ?_
  intro p e s m args below meth c s₁ B hml hv
  obtain ⟨rfl, hP, hK, hD⟩ := hv
  have hx := B.exec
  have hb := B.bytes
  have hr := B.returns
  have hts := atoms_spec (ws := wsX8_cries) B.pre
  have hown : s.vm.findClass RX8 = some m.cls := findClass_of_methodNamed B.named
  have hlocks := B.notSynchronized
  have hS : va_S A s.heap s.heap [] := va_S.rf
  have hinX8 : ∀ w ∈ wsX80, w ∈ wsX8_cries := fun _ h => List.mem_cons_of_mem _ (List.mem_append_right _ (h))
  have hl := lv_entry ([.ref (ad 0), .int a1, .int a2]) (n := 3) (Nat.le_of_ble_eq_true rfl)
  rw [lg_entry_eq]
  generalize (lg_sl ([.ref (ad 0), .int a1, .int a2]) ++ List.replicate (3 - (lg_sl ([.ref (ad 0), .int a1, .int a2])).length) Slot.unset).toArray = ls at hl ⊢
  have hl : lv_has ls 3 [(0, .ref (ad 0)), (1, .int a1), (2, .int a2)] := hl
  have hP : va_P D vwCl (wM cI cZ ad σ) s.heap := hP
  refine lv_aload_n hx hb dX8_cries_0 rfl (lv_at hl 0 rfl) ?_
  refine va_get (D := D) (ci := 6) (C := RX8) (T := TX8) (N := 28) hx hb hts hinX8 hown hK hP 0 rfl rfl 11 (by decide) (hts _ (List.mem_of_getElem? (i := 1) rfl)) (fun _ h9 => h9) rfl dX8_cries_1 ?_
  refine lv_bipush (v := 20) hx hb dX8_cries_4 (by decide) ?_
  refine lv_icmp_ge (tgt := 42) hx hb dX8_cries_6 (by decide) (fun c9 => ?_) (fun c9 => ?_)
  · have hw := hw.1 c9
    refine lv_aload_n hx hb dX8_cries_42 rfl (lv_at hl 0 rfl) ?_
    refine lv_dup hx hb dX8_cries_43 rfl ?_
    refine va_get (D := D) (ci := 6) (C := RX8) (T := TX8) (N := 28) hx hb hts hinX8 hown hK hP 0 rfl rfl 11 (by decide) (hts _ (List.mem_of_getElem? (i := 1) rfl)) (fun _ h9 => h9) rfl dX8_cries_44 ?_
    refine lv_iconst (v := 1) hx hb dX8_cries_47 (by decide) ?_
    refine lv_iadd hx hb dX8_cries_48 ?_
    refine va_put (D := D) (ci := 6) (ty := .int) (C := RX8) (T := TX8) (N := 28) hx hb hts hinX8 tyX8 tyX8_ok nmX8 hown hK hP hD hS 0 rfl rfl 11 (by decide) (hts _ (List.mem_of_getElem? (i := 1) rfl)) (fun _ h9 => h9) rfl (by decide +kernel) rfl rfl (Nat.le_of_ble_eq_true rfl) dX8_cries_49 (fun H locs hP hD hS => ?_)
    obtain ⟨σ1, eσ1⟩ : ∃ z : St, z = sI σ 3 ((σ.1 3) + (1 : Int32)) := ⟨_, rfl⟩
    have hP : va_P D vwCl (wM cI cZ ad σ1) H := by rw [eσ1]; exact hP
    have hD : va_D A (wM cI cZ ad σ1) := by rw [eσ1]; exact hD
    have hw := hw σ1 eσ1
    exact G_vret hx hb hr hlocks hw hP hK hD hS dX8_cries_52
  · have hw := hw.2 c9
    refine lv_aload_n hx hb dX8_cries_9 rfl (lv_at hl 0 rfl) ?_
    refine va_get (D := D) (ci := 6) (C := RX8) (T := TX8) (N := 28) hx hb hts hinX8 hown hK hP 0 rfl rfl 12 (by decide) (hts _ (List.mem_of_getElem? (i := 2) rfl)) (fun _ h9 => h9) rfl dX8_cries_10 ?_
    refine lv_aload_n hx hb dX8_cries_13 rfl (lv_at hl 0 rfl) ?_
    refine va_get (D := D) (ci := 6) (C := RX8) (T := TX8) (N := 28) hx hb hts hinX8 hown hK hP 0 rfl rfl 11 (by decide) (hts _ (List.mem_of_getElem? (i := 1) rfl)) (fun _ h9 => h9) rfl dX8_cries_14 ?_
    refine lv_iload_n hx hb dX8_cries_17 rfl (lv_at hl 1 rfl) ?_
    refine va_iast (D := D) hx hb hK hP hD hS 9 0 rfl rfl hw.1 dX8_cries_18 (fun H locs hP hD hS => ?_)
    obtain ⟨σ2, eσ2⟩ : ∃ z : St, z = sA σ 8 (upd (σ.2.1 8) (σ.1 3).toNatClampNeg a1) := ⟨_, rfl⟩
    have hP : va_P D vwCl (wM cI cZ ad σ2) H := by rw [eσ2]; exact hP
    have hD : va_D A (wM cI cZ ad σ2) := by rw [eσ2]; exact hD
    have hw := hw.2 σ2 eσ2
    refine lv_aload_n hx hb dX8_cries_19 rfl (lv_at hl 0 rfl) ?_
    refine va_get (D := D) (ci := 6) (C := RX8) (T := TX8) (N := 28) hx hb hts hinX8 hown hK hP 0 rfl rfl 13 (by decide) (hts _ (List.mem_of_getElem? (i := 3) rfl)) (fun _ h9 => h9) rfl dX8_cries_20 ?_
    refine lv_aload_n hx hb dX8_cries_23 rfl (lv_at hl 0 rfl) ?_
    refine va_get (D := D) (ci := 6) (C := RX8) (T := TX8) (N := 28) hx hb hts hinX8 hown hK hP 0 rfl rfl 11 (by decide) (hts _ (List.mem_of_getElem? (i := 1) rfl)) (fun _ h9 => h9) rfl dX8_cries_24 ?_
    refine lv_aload_n hx hb dX8_cries_27 rfl (lv_at hl 0 rfl) ?_
    refine va_get (D := D) (ci := 6) (C := RX8) (T := TX8) (N := 28) hx hb hts hinX8 hown hK hP 0 rfl rfl 10 (by decide) (hts _ (List.mem_of_getElem? (i := 4) rfl)) (fun _ h9 => h9) rfl dX8_cries_28 ?_
    refine va_iast (D := D) hx hb hK hP hD hS 10 0 rfl rfl hw.1 dX8_cries_31 (fun H locs hP hD hS => ?_)
    obtain ⟨σ3, eσ3⟩ : ∃ z : St, z = sA σ2 9 (upd (σ2.2.1 9) (σ2.1 3).toNatClampNeg (σ2.1 2)) := ⟨_, rfl⟩
    have hP : va_P D vwCl (wM cI cZ ad σ3) H := by rw [eσ3]; exact hP
    have hD : va_D A (wM cI cZ ad σ3) := by rw [eσ3]; exact hD
    have hw := hw.2 σ3 eσ3
    refine lv_aload_n hx hb dX8_cries_32 rfl (lv_at hl 0 rfl) ?_
    refine va_get (D := D) (ci := 6) (C := RX8) (T := TX8) (N := 28) hx hb hts hinX8 hown hK hP 0 rfl rfl 14 (by decide) (hts _ (List.mem_of_getElem? (i := 5) rfl)) (fun _ h9 => h9) rfl dX8_cries_33 ?_
    refine lv_aload_n hx hb dX8_cries_36 rfl (lv_at hl 0 rfl) ?_
    refine va_get (D := D) (ci := 6) (C := RX8) (T := TX8) (N := 28) hx hb hts hinX8 hown hK hP 0 rfl rfl 11 (by decide) (hts _ (List.mem_of_getElem? (i := 1) rfl)) (fun _ h9 => h9) rfl dX8_cries_37 ?_
    refine lv_iload_n hx hb dX8_cries_40 rfl (lv_at hl 2 rfl) ?_
    refine va_iast (D := D) hx hb hK hP hD hS 11 0 rfl rfl hw.1 dX8_cries_41 (fun H locs hP hD hS => ?_)
    obtain ⟨σ4, eσ4⟩ : ∃ z : St, z = sA σ3 10 (upd (σ3.2.1 10) (σ3.1 3).toNatClampNeg a2) := ⟨_, rfl⟩
    have hP : va_P D vwCl (wM cI cZ ad σ4) H := by rw [eσ4]; exact hP
    have hD : va_D A (wM cI cZ ad σ4) := by rw [eσ4]; exact hD
    have hw := hw.2 σ4 eσ4
    refine lv_aload_n hx hb dX8_cries_42 rfl (lv_at hl 0 rfl) ?_
    refine lv_dup hx hb dX8_cries_43 rfl ?_
    refine va_get (D := D) (ci := 6) (C := RX8) (T := TX8) (N := 28) hx hb hts hinX8 hown hK hP 0 rfl rfl 11 (by decide) (hts _ (List.mem_of_getElem? (i := 1) rfl)) (fun _ h9 => h9) rfl dX8_cries_44 ?_
    refine lv_iconst (v := 1) hx hb dX8_cries_47 (by decide) ?_
    refine lv_iadd hx hb dX8_cries_48 ?_
    refine va_put (D := D) (ci := 6) (ty := .int) (C := RX8) (T := TX8) (N := 28) hx hb hts hinX8 tyX8 tyX8_ok nmX8 hown hK hP hD hS 0 rfl rfl 11 (by decide) (hts _ (List.mem_of_getElem? (i := 1) rfl)) (fun _ h9 => h9) rfl (by decide +kernel) rfl rfl (Nat.le_of_ble_eq_true rfl) dX8_cries_49 (fun H locs hP hD hS => ?_)
    obtain ⟨σ5, eσ5⟩ : ∃ z : St, z = sI σ4 3 ((σ4.1 3) + (1 : Int32)) := ⟨_, rfl⟩
    have hP : va_P D vwCl (wM cI cZ ad σ5) H := by rw [eσ5]; exact hP
    have hD : va_D A (wM cI cZ ad σ5) := by rw [eσ5]; exact hD
    have hw := hw σ5 eσ5
    exact G_vret hx hb hr hlocks hw hP hK hD hS dX8_cries_52

def wp_X8_read (σ : St) (a1 : Int32) (K : St → Prop) : Prop :=
  vp_in a1 32 ∧ (((σ.2.1 3 a1.toNatClampNeg) = 0 → K σ) ∧ (¬ (σ.2.1 3 a1.toNatClampNeg) = 0 → vp_in a1 32 ∧ wp_X8_cries σ (2 : Int32) ((1 : Int32) <<< ((σ.2.1 4 a1.toNatClampNeg) &&& 31)) (fun σ1 => K σ1)))
set_option maxHeartbeats 4000000 in
set_option maxRecDepth 100000 in
theorem c_X8_read (l : Launch) (D : va_G) (cI cZ : ClassId) (ad : Nat → Nat) (A : Nat → Prop) (σ : St) (a1 : Int32) (K : St → Prop) (hw : wp_X8_read σ a1 K) : Met l yX8_read wsX8_read ({ frames := 1, cells := 0, slots := 0, locals := 22 }) (va_Pc [.ref (ad 0), .int a1] (GW D [(cI, FieldType.int), (cZ, FieldType.boolean)] (wM cI cZ ad) A σ)) (va_Qv K (GW D [(cI, FieldType.int), (cZ, FieldType.boolean)] (wM cI cZ ad) A) A) 0 0 A := by
  refine Met.ofW (cc := cX8_read) (maxL := 2) (ret := none) (by decide) rfl ?_
  intro p e s m args below meth c s₁ B hml hv
  obtain ⟨rfl, hP, hK, hD⟩ := hv
  have hx := B.exec
  have hb := B.bytes
  have hr := B.returns
  have hts := atoms_spec (ws := wsX8_read) B.pre
  have hown : s.vm.findClass RX8 = some m.cls := findClass_of_methodNamed B.named
  have hlocks := B.notSynchronized
  have hS : va_S A s.heap s.heap [] := va_S.rf
  have hinX8 : ∀ w ∈ wsX80, w ∈ wsX8_read := fun _ h => List.mem_cons_of_mem _ (List.mem_append_right _ (h))
  have hl := lv_entry ([.ref (ad 0), .int a1]) (n := 2) (Nat.le_of_ble_eq_true rfl)
  rw [lg_entry_eq]
  generalize (lg_sl ([.ref (ad 0), .int a1]) ++ List.replicate (2 - (lg_sl ([.ref (ad 0), .int a1])).length) Slot.unset).toArray = ls at hl ⊢
  have hl : lv_has ls 2 [(0, .ref (ad 0)), (1, .int a1)] := hl
  have hP : va_P D vwCl (wM cI cZ ad σ) s.heap := hP
  refine lv_aload_n hx hb dX8_read_0 rfl (lv_at hl 0 rfl) ?_
  refine va_get (D := D) (ci := 6) (C := RX8) (T := TX8) (N := 28) hx hb hts hinX8 hown hK hP 0 rfl rfl 3 (by decide) (hts _ (List.mem_of_getElem? (i := 1) rfl)) (fun _ h9 => h9) rfl dX8_read_1 ?_
  refine lv_iload_n hx hb dX8_read_4 rfl (lv_at hl 1 rfl) ?_
  refine va_zald (D := D) hx hb hK hP 4 1 rfl rfl hw.1 dX8_read_5 ?_
  have hw := hw.2
  refine lv_if_eq (tgt := 22) hx hb dX8_read_6 (by decide) (fun c9 => ?_) (fun c9 => ?_)
  · have hw := hw.1 c9
    exact G_vret hx hb hr hlocks hw hP hK hD hS dX8_read_22
  · have hw := hw.2 c9
    refine lv_aload_n hx hb dX8_read_9 rfl (lv_at hl 0 rfl) ?_
    refine lv_iconst (v := 2) hx hb dX8_read_10 (by decide) ?_
    refine lv_iconst (v := 1) hx hb dX8_read_11 (by decide) ?_
    refine lv_aload_n hx hb dX8_read_12 rfl (lv_at hl 0 rfl) ?_
    refine va_get (D := D) (ci := 6) (C := RX8) (T := TX8) (N := 28) hx hb hts hinX8 hown hK hP 0 rfl rfl 4 (by decide) (hts _ (List.mem_of_getElem? (i := 2) rfl)) (fun _ h9 => h9) rfl dX8_read_13 ?_
    refine lv_iload_n hx hb dX8_read_16 rfl (lv_at hl 1 rfl) ?_
    refine va_iald (D := D) hx hb hK hP 5 0 rfl rfl hw.1 dX8_read_17 ?_
    have hw := hw.2
    refine lv_ishl hx hb dX8_read_18 ?_
    refine G_callv (As := [.int (2 : Int32), .int ((1 : Int32) <<< ((σ.2.1 4 a1.toNatClampNeg) &&& 31))]) (rest := []) ⟨hx, hb, hml, hown, hts⟩ hK hP hD hS 0 6 rfl rfl (c_X8_cries l D cI cZ ad A σ (2 : Int32) ((1 : Int32) <<< ((σ.2.1 4 a1.toNatClampNeg) &&& 31)) _ hw) (cwV 2 hts gX8_read_X8_cries rfl rfl rfl (by decide +kernel) ⟨Nat.le_of_ble_eq_true rfl, Nat.le_of_ble_eq_true rfl⟩) rfl hl.1 rfl (Nat.le_of_ble_eq_true rfl) dX8_read_19 ⟨Nat.zero_le _, Nat.zero_le _⟩ (fun σ1 hw H locs hP hD hS => ?_)
    exact G_vret hx hb hr hlocks hw hP hK hD hS dX8_read_22

def wp_X8_loadNow (σ : St) (a1 : Int32) (a2 : Int32) (K : Int32 → St → Prop) : Prop :=
  wp_X8_read σ a2 (fun σ1 => ∀ x2 : Int32, x2 = (8 : Int32) + a2 → vp_in x2 40 ∧ vp_in x2 40 ∧ vp_in x2 40 ∧ wp_X8_become σ1 a1 (σ1.2.1 0 x2.toNatClampNeg) (σ1.2.1 1 x2.toNatClampNeg) (σ1.2.1 2 x2.toNatClampNeg) (fun x4 σ3 => K x4 σ3))
set_option maxHeartbeats 4000000 in
set_option maxRecDepth 100000 in
theorem c_X8_loadNow (l : Launch) (D : va_G) (cI cZ : ClassId) (ad : Nat → Nat) (A : Nat → Prop) (σ : St) (a1 : Int32) (a2 : Int32) (K : Int32 → St → Prop) (hw : wp_X8_loadNow σ a1 a2 K) : Met l yX8_loadNow wsX8_loadNow ({ frames := 2, cells := 0, slots := 0, locals := 46 }) (va_Pc [.ref (ad 0), .int a1, .int a2] (GW D [(cI, FieldType.int), (cZ, FieldType.boolean)] (wM cI cZ ad) A σ)) (va_Qi K (GW D [(cI, FieldType.int), (cZ, FieldType.boolean)] (wM cI cZ ad) A) A) 0 0 A := by
  refine Met.ofW (cc := cX8_loadNow) (maxL := 4) (ret := (some .int)) (by decide) rfl ?_
  intro p e s m args below meth c s₁ B hml hv
  obtain ⟨rfl, hP, hK, hD⟩ := hv
  have hx := B.exec
  have hb := B.bytes
  have hr := B.returns
  have hts := atoms_spec (ws := wsX8_loadNow) B.pre
  have hown : s.vm.findClass RX8 = some m.cls := findClass_of_methodNamed B.named
  have hlocks := B.notSynchronized
  have hS : va_S A s.heap s.heap [] := va_S.rf
  have hinX8 : ∀ w ∈ wsX80, w ∈ wsX8_loadNow := fun _ h => List.mem_cons_of_mem _ (List.mem_append_right _ (h))
  have hl := lv_entry ([.ref (ad 0), .int a1, .int a2]) (n := 4) (Nat.le_of_ble_eq_true rfl)
  rw [lg_entry_eq]
  generalize (lg_sl ([.ref (ad 0), .int a1, .int a2]) ++ List.replicate (4 - (lg_sl ([.ref (ad 0), .int a1, .int a2])).length) Slot.unset).toArray = ls at hl ⊢
  have hl : lv_has ls 4 [(0, .ref (ad 0)), (1, .int a1), (2, .int a2)] := hl
  have hP : va_P D vwCl (wM cI cZ ad σ) s.heap := hP
  refine lv_aload_n hx hb dX8_loadNow_0 rfl (lv_at hl 0 rfl) ?_
  refine lv_iload_n hx hb dX8_loadNow_1 rfl (lv_at hl 2 rfl) ?_
  refine G_callv (As := [.int a2]) (rest := []) ⟨hx, hb, hml, hown, hts⟩ hK hP hD hS 0 6 rfl rfl (c_X8_read l D cI cZ ad A σ a2 _ hw) (cwV 1 hts gX8_loadNow_X8_read rfl rfl rfl (by decide +kernel) ⟨Nat.le_of_ble_eq_true rfl, Nat.le_of_ble_eq_true rfl⟩) rfl hl.1 rfl (Nat.le_of_ble_eq_true rfl) dX8_loadNow_2 ⟨Nat.zero_le _, Nat.zero_le _⟩ (fun σ1 hw H locs hP hD hS => ?_)
  refine lv_bipush (v := 8) hx hb dX8_loadNow_5 (by decide) ?_
  refine lv_iload_n hx hb dX8_loadNow_7 rfl (lv_at hl 2 rfl) ?_
  refine lv_iadd hx hb dX8_loadNow_8 ?_
  refine lv_topi (fun x2 ex2 => ?_)
  have hw := hw x2 ex2
  refine lv_istore_n (lv' := [(3, .int x2), (0, .ref (ad 0)), (1, .int a1), (2, .int a2)]) hx hb dX8_loadNow_9 rfl hl (by decide) rfl (fun ls hl => ?_)
  refine lv_aload_n hx hb dX8_loadNow_10 rfl (lv_at hl 1 rfl) ?_
  refine lv_iload_n hx hb dX8_loadNow_11 rfl (lv_at hl 2 rfl) ?_
  refine lv_aload_n hx hb dX8_loadNow_12 rfl (lv_at hl 1 rfl) ?_
  refine va_get (D := D) (ci := 6) (C := RX8) (T := TX8) (N := 28) hx hb hts hinX8 hown hK hP 0 rfl rfl 0 (by decide) (hts _ (List.mem_of_getElem? (i := 1) rfl)) (fun _ h9 => h9) rfl dX8_loadNow_13 ?_
  refine lv_iload_n hx hb dX8_loadNow_16 rfl (lv_at hl 0 rfl) ?_
  refine va_iald (D := D) hx hb hK hP 1 0 rfl rfl hw.1 dX8_loadNow_17 ?_
  have hw := hw.2
  refine lv_aload_n hx hb dX8_loadNow_18 rfl (lv_at hl 1 rfl) ?_
  refine va_get (D := D) (ci := 6) (C := RX8) (T := TX8) (N := 28) hx hb hts hinX8 hown hK hP 0 rfl rfl 1 (by decide) (hts _ (List.mem_of_getElem? (i := 2) rfl)) (fun _ h9 => h9) rfl dX8_loadNow_19 ?_
  refine lv_iload_n hx hb dX8_loadNow_22 rfl (lv_at hl 0 rfl) ?_
  refine va_iald (D := D) hx hb hK hP 2 0 rfl rfl hw.1 dX8_loadNow_23 ?_
  have hw := hw.2
  refine lv_aload_n hx hb dX8_loadNow_24 rfl (lv_at hl 1 rfl) ?_
  refine va_get (D := D) (ci := 6) (C := RX8) (T := TX8) (N := 28) hx hb hts hinX8 hown hK hP 0 rfl rfl 2 (by decide) (hts _ (List.mem_of_getElem? (i := 3) rfl)) (fun _ h9 => h9) rfl dX8_loadNow_25 ?_
  refine lv_iload_n hx hb dX8_loadNow_28 rfl (lv_at hl 0 rfl) ?_
  refine va_iald (D := D) hx hb hK hP 3 0 rfl rfl hw.1 dX8_loadNow_29 ?_
  have hw := hw.2
  refine G_calli (As := [.int a1, .int (σ1.2.1 0 x2.toNatClampNeg), .int (σ1.2.1 1 x2.toNatClampNeg), .int (σ1.2.1 2 x2.toNatClampNeg)]) (rest := []) ⟨hx, hb, hml, hown, hts⟩ hK hP hD hS 0 6 rfl rfl (c_X8_become l D cI cZ ad A σ1 a1 (σ1.2.1 0 x2.toNatClampNeg) (σ1.2.1 1 x2.toNatClampNeg) (σ1.2.1 2 x2.toNatClampNeg) _ hw) (cwV 4 hts gX8_loadNow_X8_become rfl rfl rfl (by decide +kernel) ⟨Nat.le_of_ble_eq_true rfl, Nat.le_of_ble_eq_true rfl⟩) rfl hl.1 rfl (Nat.le_of_ble_eq_true rfl) dX8_loadNow_30 ⟨Nat.zero_le _, Nat.zero_le _⟩ (fun x4 σ3 hw H locs hP hD hS => ?_)
  exact G_iret hx hb hr hlocks hw hP hK hD hS dX8_loadNow_33

def wp_X8_load (σ : St) (a1 : Int32) (a2 : Int32) (K : Int32 → St → Prop) : Prop :=
  wp_X8_isRegister a1 (fun x1 => ((x1 = 0 → K (-1000000001 : Int32) σ) ∧ (¬ x1 = 0 → wp_X8_isOctet a2 (fun x2 => ((¬ x2 = 0 → wp_X8_loadNow σ a1 a2 (fun x4 σ3 => wp_X8_tick σ3 (2 : Int32) x4 (fun x6 σ5 => K x6 σ5))) ∧ (x2 = 0 → K (-1000000001 : Int32) σ))))))
set_option maxHeartbeats 4000000 in
set_option maxRecDepth 100000 in
theorem c_X8_load (l : Launch) (D : va_G) (cI cZ : ClassId) (ad : Nat → Nat) (A : Nat → Prop) (σ : St) (a1 : Int32) (a2 : Int32) (K : Int32 → St → Prop) (hw : wp_X8_load σ a1 a2 K) : Met l yX8_load wsX8_load ({ frames := 3, cells := 0, slots := 0, locals := 69 }) (va_Pc [.ref (ad 0), .int a1, .int a2] (GW D [(cI, FieldType.int), (cZ, FieldType.boolean)] (wM cI cZ ad) A σ)) (va_Qi K (GW D [(cI, FieldType.int), (cZ, FieldType.boolean)] (wM cI cZ ad) A) A) 0 0 A := by
  refine Met.ofW (cc := cX8_load) (maxL := 3) (ret := (some .int)) (by decide) rfl ?_
  intro p e s m args below meth c s₁ B hml hv
  obtain ⟨rfl, hP, hK, hD⟩ := hv
  have hx := B.exec
  have hb := B.bytes
  have hr := B.returns
  have hts := atoms_spec (ws := wsX8_load) B.pre
  have hown : s.vm.findClass RX8 = some m.cls := findClass_of_methodNamed B.named
  have hlocks := B.notSynchronized
  have hS : va_S A s.heap s.heap [] := va_S.rf
  have hinX8 : ∀ w ∈ wsX80, w ∈ wsX8_load := fun _ h => List.mem_cons_of_mem _ (List.mem_append_right _ (h))
  have hl := lv_entry ([.ref (ad 0), .int a1, .int a2]) (n := 3) (Nat.le_of_ble_eq_true rfl)
  rw [lg_entry_eq]
  generalize (lg_sl ([.ref (ad 0), .int a1, .int a2]) ++ List.replicate (3 - (lg_sl ([.ref (ad 0), .int a1, .int a2])).length) Slot.unset).toArray = ls at hl ⊢
  have hl : lv_has ls 3 [(0, .ref (ad 0)), (1, .int a1), (2, .int a2)] := hl
  have hP : va_P D vwCl (wM cI cZ ad σ) s.heap := hP
  refine lv_iload_n hx hb dX8_load_0 rfl (lv_at hl 1 rfl) ?_
  refine S_calli (As := [.int a1]) (rest := []) ⟨hx, hb, hml, hown, hts⟩ (c_X8_isRegister l a1 _ hw) (va_cwS 1 hts gX8_load_X8_isRegister rfl rfl rfl (by decide +kernel) ⟨Nat.le_of_ble_eq_true rfl, Nat.le_of_ble_eq_true rfl⟩) rfl hl.1 rfl (Nat.le_of_ble_eq_true rfl) dX8_load_1 ⟨Nat.zero_le _, Nat.zero_le _⟩ (fun x1 hw => ?_)
  refine lv_if_eq (tgt := 14) hx hb dX8_load_4 (by decide) (fun c9 => ?_) (fun c9 => ?_)
  · have hw := hw.1 c9
    refine lv_ldc (v := -1000000001) hx hb hown (hts _ (List.mem_of_getElem? (i := 1) rfl)) dX8_load_14 ?_
    exact G_iret hx hb hr hlocks hw hP hK hD hS dX8_load_16
  · have hw := hw.2 c9
    refine lv_iload_n hx hb dX8_load_7 rfl (lv_at hl 2 rfl) ?_
    refine S_calli (As := [.int a2]) (rest := []) ⟨hx, hb, hml, hown, hts⟩ (c_X8_isOctet l a2 _ hw) (va_cwS 1 hts gX8_load_X8_isOctet rfl rfl rfl (by decide +kernel) ⟨Nat.le_of_ble_eq_true rfl, Nat.le_of_ble_eq_true rfl⟩) rfl hl.1 rfl (Nat.le_of_ble_eq_true rfl) dX8_load_8 ⟨Nat.zero_le _, Nat.zero_le _⟩ (fun x2 hw => ?_)
    refine lv_if_ne (tgt := 17) hx hb dX8_load_11 (by decide) (fun c9 => ?_) (fun c9 => ?_)
    · have hw := hw.1 c9
      refine lv_aload_n hx hb dX8_load_17 rfl (lv_at hl 0 rfl) ?_
      refine lv_iconst (v := 2) hx hb dX8_load_18 (by decide) ?_
      refine lv_aload_n hx hb dX8_load_19 rfl (lv_at hl 0 rfl) ?_
      refine lv_iload_n hx hb dX8_load_20 rfl (lv_at hl 1 rfl) ?_
      refine lv_iload_n hx hb dX8_load_21 rfl (lv_at hl 2 rfl) ?_
      refine G_calli (As := [.int a1, .int a2]) (rest := [.int (2 : Int32), .ref (ad 0)]) ⟨hx, hb, hml, hown, hts⟩ hK hP hD hS 0 6 rfl rfl (c_X8_loadNow l D cI cZ ad A σ a1 a2 _ hw) (cwV 2 hts gX8_load_X8_loadNow rfl rfl rfl (by decide +kernel) ⟨Nat.le_of_ble_eq_true rfl, Nat.le_of_ble_eq_true rfl⟩) rfl hl.1 rfl (Nat.le_of_ble_eq_true rfl) dX8_load_22 ⟨Nat.zero_le _, Nat.zero_le _⟩ (fun x4 σ3 hw H locs hP hD hS => ?_)
      refine G_calli (As := [.int (2 : Int32), .int x4]) (rest := []) ⟨hx, hb, hml, hown, hts⟩ hK hP hD hS 0 6 rfl rfl (c_X8_tick l D cI cZ ad A σ3 (2 : Int32) x4 _ hw) (cwV 2 hts gX8_load_X8_tick rfl rfl rfl (by decide +kernel) ⟨Nat.le_of_ble_eq_true rfl, Nat.le_of_ble_eq_true rfl⟩) rfl hl.1 rfl (Nat.le_of_ble_eq_true rfl) dX8_load_25 ⟨Nat.zero_le _, Nat.zero_le _⟩ (fun x6 σ5 hw H locs hP hD hS => ?_)
      exact G_iret hx hb hr hlocks hw hP hK hD hS dX8_load_28
    · have hw := hw.2 c9
      refine lv_ldc (v := -1000000001) hx hb hown (hts _ (List.mem_of_getElem? (i := 1) rfl)) dX8_load_14 ?_
      exact G_iret hx hb hr hlocks hw hP hK hD hS dX8_load_16

def wp_X8_part (σ : St) (a1 : Int32) (a2 : Int32) (a3 : Int32) (a4 : Int32) (K : Int32 → St → Prop) : Prop :=
  wp_X8_isRegister a1 (fun x1 => ((x1 = 0 → K (-1000000001 : Int32) σ) ∧ (¬ x1 = 0 → wp_X8_isOctet a2 (fun x2 => ((¬ x2 = 0 → wp_X8_in (a4.toInt64) (1 : Int64) (8 : Int64) (fun x3 => ((x3 = 0 → K (-1000000002 : Int32) σ) ∧ (¬ x3 = 0 → wp_X8_in (a3.toInt64) (0 : Int64) (((8 : Int32) - a4).toInt64) (fun x4 => ((¬ x4 = 0 → wp_X8_read σ a2 (fun σ5 => ∀ x6 : Int32, x6 = (8 : Int32) + a2 → ∀ x7 : Int32, x7 = ((1 : Int32) <<< (a4 &&& 31)) - (1 : Int32) → vp_in x6 40 ∧ vp_in x6 40 ∧ vp_in x6 40 ∧ wp_X8_become σ5 a1 (((σ5.2.1 0 x6.toNatClampNeg) >>> (a3 &&& 31)) &&& x7) (((σ5.2.1 1 x6.toNatClampNeg) >>> (a3 &&& 31)) &&& x7) (σ5.2.1 2 x6.toNatClampNeg) (fun x9 σ8 => wp_X8_tick σ8 (8 : Int32) x9 (fun x11 σ10 => K x11 σ10)))) ∧ (x4 = 0 → K (-1000000002 : Int32) σ))))))) ∧ (x2 = 0 → K (-1000000001 : Int32) σ))))))
set_option maxHeartbeats 4000000 in
set_option maxRecDepth 100000 in
theorem c_X8_part (l : Launch) (D : va_G) (cI cZ : ClassId) (ad : Nat → Nat) (A : Nat → Prop) (σ : St) (a1 : Int32) (a2 : Int32) (a3 : Int32) (a4 : Int32) (K : Int32 → St → Prop) (hw : wp_X8_part σ a1 a2 a3 a4 K) : Met l yX8_part wsX8_part ({ frames := 2, cells := 0, slots := 0, locals := 46 }) (va_Pc [.ref (ad 0), .int a1, .int a2, .int a3, .int a4] (GW D [(cI, FieldType.int), (cZ, FieldType.boolean)] (wM cI cZ ad) A σ)) (va_Qi K (GW D [(cI, FieldType.int), (cZ, FieldType.boolean)] (wM cI cZ ad) A) A) 0 0 A := by
  refine Met.ofW (cc := cX8_part) (maxL := 7) (ret := (some .int)) (by decide) rfl ?_
  intro p e s m args below meth c s₁ B hml hv
  obtain ⟨rfl, hP, hK, hD⟩ := hv
  have hx := B.exec
  have hb := B.bytes
  have hr := B.returns
  have hts := atoms_spec (ws := wsX8_part) B.pre
  have hown : s.vm.findClass RX8 = some m.cls := findClass_of_methodNamed B.named
  have hlocks := B.notSynchronized
  have hS : va_S A s.heap s.heap [] := va_S.rf
  have hinX8 : ∀ w ∈ wsX80, w ∈ wsX8_part := fun _ h => List.mem_cons_of_mem _ (List.mem_append_right _ (h))
  have hl := lv_entry ([.ref (ad 0), .int a1, .int a2, .int a3, .int a4]) (n := 7) (Nat.le_of_ble_eq_true rfl)
  rw [lg_entry_eq]
  generalize (lg_sl ([.ref (ad 0), .int a1, .int a2, .int a3, .int a4]) ++ List.replicate (7 - (lg_sl ([.ref (ad 0), .int a1, .int a2, .int a3, .int a4])).length) Slot.unset).toArray = ls at hl ⊢
  have hl : lv_has ls 7 [(0, .ref (ad 0)), (1, .int a1), (2, .int a2), (3, .int a3), (4, .int a4)] := hl
  have hP : va_P D vwCl (wM cI cZ ad σ) s.heap := hP
  refine lv_iload_n hx hb dX8_part_0 rfl (lv_at hl 1 rfl) ?_
  refine S_calli (As := [.int a1]) (rest := []) ⟨hx, hb, hml, hown, hts⟩ (c_X8_isRegister l a1 _ hw) (va_cwS 1 hts gX8_part_X8_isRegister rfl rfl rfl (by decide +kernel) ⟨Nat.le_of_ble_eq_true rfl, Nat.le_of_ble_eq_true rfl⟩) rfl hl.1 rfl (Nat.le_of_ble_eq_true rfl) dX8_part_1 ⟨Nat.zero_le _, Nat.zero_le _⟩ (fun x1 hw => ?_)
  refine lv_if_eq (tgt := 14) hx hb dX8_part_4 (by decide) (fun c9 => ?_) (fun c9 => ?_)
  · have hw := hw.1 c9
    refine lv_ldc (v := -1000000001) hx hb hown (hts _ (List.mem_of_getElem? (i := 1) rfl)) dX8_part_14 ?_
    exact G_iret hx hb hr hlocks hw hP hK hD hS dX8_part_16
  · have hw := hw.2 c9
    refine lv_iload_n hx hb dX8_part_7 rfl (lv_at hl 2 rfl) ?_
    refine S_calli (As := [.int a2]) (rest := []) ⟨hx, hb, hml, hown, hts⟩ (c_X8_isOctet l a2 _ hw) (va_cwS 1 hts gX8_part_X8_isOctet rfl rfl rfl (by decide +kernel) ⟨Nat.le_of_ble_eq_true rfl, Nat.le_of_ble_eq_true rfl⟩) rfl hl.1 rfl (Nat.le_of_ble_eq_true rfl) dX8_part_8 ⟨Nat.zero_le _, Nat.zero_le _⟩ (fun x2 hw => ?_)
    refine lv_if_ne (tgt := 17) hx hb dX8_part_11 (by decide) (fun c9 => ?_) (fun c9 => ?_)
    · have hw := hw.1 c9
      refine lv_iload hx hb dX8_part_17 (lv_at hl 4 rfl) ?_
      refine lv_i2l hx hb dX8_part_19 rfl ?_
      refine lv_lconst (v := 1) hx hb dX8_part_20 (by decide) ?_
      refine lv_ldc2 (v := 8) hx hb hown (hts _ (List.mem_of_getElem? (i := 2) rfl)) dX8_part_21 ?_
      refine S_calli (As := [.long (a4.toInt64), .long (1 : Int64), .long (8 : Int64)]) (rest := []) ⟨hx, hb, hml, hown, hts⟩ (c_X8_in l (a4.toInt64) (1 : Int64) (8 : Int64) _ hw) (va_cwS 3 hts gX8_part_X8_in rfl rfl rfl (by decide +kernel) ⟨Nat.le_of_ble_eq_true rfl, Nat.le_of_ble_eq_true rfl⟩) rfl hl.1 rfl (Nat.le_of_ble_eq_true rfl) dX8_part_24 ⟨Nat.zero_le _, Nat.zero_le _⟩ (fun x3 hw => ?_)
      refine lv_if_eq (tgt := 45) hx hb dX8_part_27 (by decide) (fun c9 => ?_) (fun c9 => ?_)
      · have hw := hw.1 c9
        refine lv_ldc (v := -1000000002) hx hb hown (hts _ (List.mem_of_getElem? (i := 3) rfl)) dX8_part_45 ?_
        exact G_iret hx hb hr hlocks hw hP hK hD hS dX8_part_47
      · have hw := hw.2 c9
        refine lv_iload_n hx hb dX8_part_30 rfl (lv_at hl 3 rfl) ?_
        refine lv_i2l hx hb dX8_part_31 rfl ?_
        refine lv_lconst (v := 0) hx hb dX8_part_32 (by decide) ?_
        refine lv_bipush (v := 8) hx hb dX8_part_33 (by decide) ?_
        refine lv_iload hx hb dX8_part_35 (lv_at hl 4 rfl) ?_
        refine lv_isub hx hb dX8_part_37 ?_
        refine lv_i2l hx hb dX8_part_38 rfl ?_
        refine S_calli (As := [.long (a3.toInt64), .long (0 : Int64), .long (((8 : Int32) - a4).toInt64)]) (rest := []) ⟨hx, hb, hml, hown, hts⟩ (c_X8_in l (a3.toInt64) (0 : Int64) (((8 : Int32) - a4).toInt64) _ hw) (va_cwS 3 hts gX8_part_X8_in rfl rfl rfl (by decide +kernel) ⟨Nat.le_of_ble_eq_true rfl, Nat.le_of_ble_eq_true rfl⟩) rfl hl.1 rfl (Nat.le_of_ble_eq_true rfl) dX8_part_39 ⟨Nat.zero_le _, Nat.zero_le _⟩ (fun x4 hw => ?_)
        refine lv_if_ne (tgt := 48) hx hb dX8_part_42 (by decide) (fun c9 => ?_) (fun c9 => ?_)
        · have hw := hw.1 c9
          refine lv_aload_n hx hb dX8_part_48 rfl (lv_at hl 0 rfl) ?_
          refine lv_iload_n hx hb dX8_part_49 rfl (lv_at hl 2 rfl) ?_
          refine G_callv (As := [.int a2]) (rest := []) ⟨hx, hb, hml, hown, hts⟩ hK hP hD hS 0 6 rfl rfl (c_X8_read l D cI cZ ad A σ a2 _ hw) (cwV 1 hts gX8_part_X8_read rfl rfl rfl (by decide +kernel) ⟨Nat.le_of_ble_eq_true rfl, Nat.le_of_ble_eq_true rfl⟩) rfl hl.1 rfl (Nat.le_of_ble_eq_true rfl) dX8_part_50 ⟨Nat.zero_le _, Nat.zero_le _⟩ (fun σ5 hw H locs hP hD hS => ?_)
          refine lv_bipush (v := 8) hx hb dX8_part_53 (by decide) ?_
          refine lv_iload_n hx hb dX8_part_55 rfl (lv_at hl 2 rfl) ?_
          refine lv_iadd hx hb dX8_part_56 ?_
          refine lv_topi (fun x6 ex6 => ?_)
          have hw := hw x6 ex6
          refine lv_istore (lv' := [(5, .int x6), (0, .ref (ad 0)), (1, .int a1), (2, .int a2), (3, .int a3), (4, .int a4)]) hx hb dX8_part_57 hl (by decide) rfl (fun ls hl => ?_)
          refine lv_iconst (v := 1) hx hb dX8_part_59 (by decide) ?_
          refine lv_iload hx hb dX8_part_60 (lv_at hl 5 rfl) ?_
          refine lv_ishl hx hb dX8_part_62 ?_
          refine lv_iconst (v := 1) hx hb dX8_part_63 (by decide) ?_
          refine lv_isub hx hb dX8_part_64 ?_
          refine lv_topi (fun x7 ex7 => ?_)
          have hw := hw x7 ex7
          refine lv_istore (lv' := [(6, .int x7), (5, .int x6), (0, .ref (ad 0)), (1, .int a1), (2, .int a2), (3, .int a3), (4, .int a4)]) hx hb dX8_part_65 hl (by decide) rfl (fun ls hl => ?_)
          refine lv_aload_n hx hb dX8_part_67 rfl (lv_at hl 2 rfl) ?_
          refine lv_bipush (v := 8) hx hb dX8_part_68 (by decide) ?_
          refine lv_aload_n hx hb dX8_part_70 rfl (lv_at hl 2 rfl) ?_
          refine lv_iload_n hx hb dX8_part_71 rfl (lv_at hl 3 rfl) ?_
          refine lv_aload_n hx hb dX8_part_72 rfl (lv_at hl 2 rfl) ?_
          refine va_get (D := D) (ci := 6) (C := RX8) (T := TX8) (N := 28) hx hb hts hinX8 hown hK hP 0 rfl rfl 0 (by decide) (hts _ (List.mem_of_getElem? (i := 4) rfl)) (fun _ h9 => h9) rfl dX8_part_73 ?_
          refine lv_iload hx hb dX8_part_76 (lv_at hl 1 rfl) ?_
          refine va_iald (D := D) hx hb hK hP 1 0 rfl rfl hw.1 dX8_part_78 ?_
          have hw := hw.2
          refine lv_iload_n hx hb dX8_part_79 rfl (lv_at hl 5 rfl) ?_
          refine lv_ishr hx hb dX8_part_80 ?_
          refine lv_iload hx hb dX8_part_81 (lv_at hl 0 rfl) ?_
          refine lv_iand hx hb dX8_part_83 ?_
          refine lv_aload_n hx hb dX8_part_84 rfl (lv_at hl 2 rfl) ?_
          refine va_get (D := D) (ci := 6) (C := RX8) (T := TX8) (N := 28) hx hb hts hinX8 hown hK hP 0 rfl rfl 1 (by decide) (hts _ (List.mem_of_getElem? (i := 5) rfl)) (fun _ h9 => h9) rfl dX8_part_85 ?_
          refine lv_iload hx hb dX8_part_88 (lv_at hl 1 rfl) ?_
          refine va_iald (D := D) hx hb hK hP 2 0 rfl rfl hw.1 dX8_part_90 ?_
          have hw := hw.2
          refine lv_iload_n hx hb dX8_part_91 rfl (lv_at hl 5 rfl) ?_
          refine lv_ishr hx hb dX8_part_92 ?_
          refine lv_iload hx hb dX8_part_93 (lv_at hl 0 rfl) ?_
          refine lv_iand hx hb dX8_part_95 ?_
          refine lv_aload_n hx hb dX8_part_96 rfl (lv_at hl 2 rfl) ?_
          refine va_get (D := D) (ci := 6) (C := RX8) (T := TX8) (N := 28) hx hb hts hinX8 hown hK hP 0 rfl rfl 2 (by decide) (hts _ (List.mem_of_getElem? (i := 6) rfl)) (fun _ h9 => h9) rfl dX8_part_97 ?_
          refine lv_iload hx hb dX8_part_100 (lv_at hl 1 rfl) ?_
          refine va_iald (D := D) hx hb hK hP 3 0 rfl rfl hw.1 dX8_part_102 ?_
          have hw := hw.2
          refine G_calli (As := [.int a1, .int (((σ5.2.1 0 x6.toNatClampNeg) >>> (a3 &&& 31)) &&& x7), .int (((σ5.2.1 1 x6.toNatClampNeg) >>> (a3 &&& 31)) &&& x7), .int (σ5.2.1 2 x6.toNatClampNeg)]) (rest := [.int (8 : Int32), .ref (ad 0)]) ⟨hx, hb, hml, hown, hts⟩ hK hP hD hS 0 6 rfl rfl (c_X8_become l D cI cZ ad A σ5 a1 (((σ5.2.1 0 x6.toNatClampNeg) >>> (a3 &&& 31)) &&& x7) (((σ5.2.1 1 x6.toNatClampNeg) >>> (a3 &&& 31)) &&& x7) (σ5.2.1 2 x6.toNatClampNeg) _ hw) (cwV 4 hts gX8_part_X8_become rfl rfl rfl (by decide +kernel) ⟨Nat.le_of_ble_eq_true rfl, Nat.le_of_ble_eq_true rfl⟩) rfl hl.1 rfl (Nat.le_of_ble_eq_true rfl) dX8_part_103 ⟨Nat.zero_le _, Nat.zero_le _⟩ (fun x9 σ8 hw H locs hP hD hS => ?_)
          refine G_calli (As := [.int (8 : Int32), .int x9]) (rest := []) ⟨hx, hb, hml, hown, hts⟩ hK hP hD hS 0 6 rfl rfl (c_X8_tick l D cI cZ ad A σ8 (8 : Int32) x9 _ hw) (cwV 2 hts gX8_part_X8_tick rfl rfl rfl (by decide +kernel) ⟨Nat.le_of_ble_eq_true rfl, Nat.le_of_ble_eq_true rfl⟩) rfl hl.1 rfl (Nat.le_of_ble_eq_true rfl) dX8_part_106 ⟨Nat.zero_le _, Nat.zero_le _⟩ (fun x11 σ10 hw H locs hP hD hS => ?_)
          exact G_iret hx hb hr hlocks hw hP hK hD hS dX8_part_109
        · have hw := hw.2 c9
          refine lv_ldc (v := -1000000002) hx hb hown (hts _ (List.mem_of_getElem? (i := 3) rfl)) dX8_part_45 ?_
          exact G_iret hx hb hr hlocks hw hP hK hD hS dX8_part_47
    · have hw := hw.2 c9
      refine lv_ldc (v := -1000000001) hx hb hown (hts _ (List.mem_of_getElem? (i := 1) rfl)) dX8_part_14 ?_
      exact G_iret hx hb hr hlocks hw hP hK hD hS dX8_part_16

def wp_X8_storeNow (σ : St) (a1 : Int32) (a2 : Int32) (K : Int32 → St → Prop) : Prop :=
  vp_in a2 32 ∧ ∀ σ1 : St, σ1 = sA σ 3 (upd (σ.2.1 3) a2.toNatClampNeg (vp_nar .boolean (0 : Int32))) → vp_in a1 40 ∧ vp_in a1 40 ∧ vp_in a1 40 ∧ wp_X8_become σ1 ((8 : Int32) + a2) (σ1.2.1 0 a1.toNatClampNeg) (σ1.2.1 1 a1.toNatClampNeg) (σ1.2.1 2 a1.toNatClampNeg) (fun x3 σ2 => K x3 σ2)
set_option maxHeartbeats 4000000 in
set_option maxRecDepth 100000 in
theorem c_X8_storeNow (l : Launch) (D : va_G) (cI cZ : ClassId) (ad : Nat → Nat) (A : Nat → Prop) (σ : St) (a1 : Int32) (a2 : Int32) (K : Int32 → St → Prop) (hw : wp_X8_storeNow σ a1 a2 K) : Met l yX8_storeNow wsX8_storeNow ({ frames := 2, cells := 0, slots := 0, locals := 46 }) (va_Pc [.ref (ad 0), .int a1, .int a2] (GW D [(cI, FieldType.int), (cZ, FieldType.boolean)] (wM cI cZ ad) A σ)) (va_Qi K (GW D [(cI, FieldType.int), (cZ, FieldType.boolean)] (wM cI cZ ad) A) A) 0 0 A := by
  refine Met.ofW (cc := cX8_storeNow) (maxL := 3) (ret := (some .int)) (by decide) rfl ?_
  intro p e s m args below meth c s₁ B hml hv
  obtain ⟨rfl, hP, hK, hD⟩ := hv
  have hx := B.exec
  have hb := B.bytes
  have hr := B.returns
  have hts := atoms_spec (ws := wsX8_storeNow) B.pre
  have hown : s.vm.findClass RX8 = some m.cls := findClass_of_methodNamed B.named
  have hlocks := B.notSynchronized
  have hS : va_S A s.heap s.heap [] := va_S.rf
  have hinX8 : ∀ w ∈ wsX80, w ∈ wsX8_storeNow := fun _ h => List.mem_cons_of_mem _ (List.mem_append_right _ (h))
  have hl := lv_entry ([.ref (ad 0), .int a1, .int a2]) (n := 3) (Nat.le_of_ble_eq_true rfl)
  rw [lg_entry_eq]
  generalize (lg_sl ([.ref (ad 0), .int a1, .int a2]) ++ List.replicate (3 - (lg_sl ([.ref (ad 0), .int a1, .int a2])).length) Slot.unset).toArray = ls at hl ⊢
  have hl : lv_has ls 3 [(0, .ref (ad 0)), (1, .int a1), (2, .int a2)] := hl
  have hP : va_P D vwCl (wM cI cZ ad σ) s.heap := hP
  refine lv_aload_n hx hb dX8_storeNow_0 rfl (lv_at hl 0 rfl) ?_
  refine va_get (D := D) (ci := 6) (C := RX8) (T := TX8) (N := 28) hx hb hts hinX8 hown hK hP 0 rfl rfl 3 (by decide) (hts _ (List.mem_of_getElem? (i := 1) rfl)) (fun _ h9 => h9) rfl dX8_storeNow_1 ?_
  refine lv_iload_n hx hb dX8_storeNow_4 rfl (lv_at hl 2 rfl) ?_
  refine lv_iconst (v := 0) hx hb dX8_storeNow_5 (by decide) ?_
  refine va_zast (D := D) hx hb hK hP hD hS 4 1 rfl rfl hw.1 dX8_storeNow_6 (fun H locs hP hD hS => ?_)
  obtain ⟨σ1, eσ1⟩ : ∃ z : St, z = sA σ 3 (upd (σ.2.1 3) a2.toNatClampNeg (vp_nar .boolean (0 : Int32))) := ⟨_, rfl⟩
  have hP : va_P D vwCl (wM cI cZ ad σ1) H := by rw [eσ1]; exact hP
  have hD : va_D A (wM cI cZ ad σ1) := by rw [eσ1]; exact hD
  have hw := hw.2 σ1 eσ1
  refine lv_aload_n hx hb dX8_storeNow_7 rfl (lv_at hl 0 rfl) ?_
  refine lv_bipush (v := 8) hx hb dX8_storeNow_8 (by decide) ?_
  refine lv_iload_n hx hb dX8_storeNow_10 rfl (lv_at hl 2 rfl) ?_
  refine lv_iadd hx hb dX8_storeNow_11 ?_
  refine lv_aload_n hx hb dX8_storeNow_12 rfl (lv_at hl 0 rfl) ?_
  refine va_get (D := D) (ci := 6) (C := RX8) (T := TX8) (N := 28) hx hb hts hinX8 hown hK hP 0 rfl rfl 0 (by decide) (hts _ (List.mem_of_getElem? (i := 2) rfl)) (fun _ h9 => h9) rfl dX8_storeNow_13 ?_
  refine lv_iload_n hx hb dX8_storeNow_16 rfl (lv_at hl 1 rfl) ?_
  refine va_iald (D := D) hx hb hK hP 1 0 rfl rfl hw.1 dX8_storeNow_17 ?_
  have hw := hw.2
  refine lv_aload_n hx hb dX8_storeNow_18 rfl (lv_at hl 0 rfl) ?_
  refine va_get (D := D) (ci := 6) (C := RX8) (T := TX8) (N := 28) hx hb hts hinX8 hown hK hP 0 rfl rfl 1 (by decide) (hts _ (List.mem_of_getElem? (i := 3) rfl)) (fun _ h9 => h9) rfl dX8_storeNow_19 ?_
  refine lv_iload_n hx hb dX8_storeNow_22 rfl (lv_at hl 1 rfl) ?_
  refine va_iald (D := D) hx hb hK hP 2 0 rfl rfl hw.1 dX8_storeNow_23 ?_
  have hw := hw.2
  refine lv_aload_n hx hb dX8_storeNow_24 rfl (lv_at hl 0 rfl) ?_
  refine va_get (D := D) (ci := 6) (C := RX8) (T := TX8) (N := 28) hx hb hts hinX8 hown hK hP 0 rfl rfl 2 (by decide) (hts _ (List.mem_of_getElem? (i := 4) rfl)) (fun _ h9 => h9) rfl dX8_storeNow_25 ?_
  refine lv_iload_n hx hb dX8_storeNow_28 rfl (lv_at hl 1 rfl) ?_
  refine va_iald (D := D) hx hb hK hP 3 0 rfl rfl hw.1 dX8_storeNow_29 ?_
  have hw := hw.2
  refine G_calli (As := [.int ((8 : Int32) + a2), .int (σ1.2.1 0 a1.toNatClampNeg), .int (σ1.2.1 1 a1.toNatClampNeg), .int (σ1.2.1 2 a1.toNatClampNeg)]) (rest := []) ⟨hx, hb, hml, hown, hts⟩ hK hP hD hS 0 6 rfl rfl (c_X8_become l D cI cZ ad A σ1 ((8 : Int32) + a2) (σ1.2.1 0 a1.toNatClampNeg) (σ1.2.1 1 a1.toNatClampNeg) (σ1.2.1 2 a1.toNatClampNeg) _ hw) (cwV 4 hts gX8_storeNow_X8_become rfl rfl rfl (by decide +kernel) ⟨Nat.le_of_ble_eq_true rfl, Nat.le_of_ble_eq_true rfl⟩) rfl hl.1 rfl (Nat.le_of_ble_eq_true rfl) dX8_storeNow_30 ⟨Nat.zero_le _, Nat.zero_le _⟩ (fun x3 σ2 hw H locs hP hD hS => ?_)
  exact G_iret hx hb hr hlocks hw hP hK hD hS dX8_storeNow_33

def wp_X8_store (σ : St) (a1 : Int32) (a2 : Int32) (K : Int32 → St → Prop) : Prop :=
  wp_X8_isRegister a1 (fun x1 => ((x1 = 0 → K (-1000000001 : Int32) σ) ∧ (¬ x1 = 0 → wp_X8_isOctet a2 (fun x2 => ((¬ x2 = 0 → wp_X8_storeNow σ a1 a2 (fun x4 σ3 => wp_X8_tick σ3 (3 : Int32) x4 (fun x6 σ5 => K x6 σ5))) ∧ (x2 = 0 → K (-1000000001 : Int32) σ))))))
set_option maxHeartbeats 4000000 in
set_option maxRecDepth 100000 in
theorem c_X8_store (l : Launch) (D : va_G) (cI cZ : ClassId) (ad : Nat → Nat) (A : Nat → Prop) (σ : St) (a1 : Int32) (a2 : Int32) (K : Int32 → St → Prop) (hw : wp_X8_store σ a1 a2 K) : Met l yX8_store wsX8_store ({ frames := 3, cells := 0, slots := 0, locals := 68 }) (va_Pc [.ref (ad 0), .int a1, .int a2] (GW D [(cI, FieldType.int), (cZ, FieldType.boolean)] (wM cI cZ ad) A σ)) (va_Qi K (GW D [(cI, FieldType.int), (cZ, FieldType.boolean)] (wM cI cZ ad) A) A) 0 0 A := by
  refine Met.ofW (cc := cX8_store) (maxL := 3) (ret := (some .int)) (by decide) rfl ?_
  intro p e s m args below meth c s₁ B hml hv
  obtain ⟨rfl, hP, hK, hD⟩ := hv
  have hx := B.exec
  have hb := B.bytes
  have hr := B.returns
  have hts := atoms_spec (ws := wsX8_store) B.pre
  have hown : s.vm.findClass RX8 = some m.cls := findClass_of_methodNamed B.named
  have hlocks := B.notSynchronized
  have hS : va_S A s.heap s.heap [] := va_S.rf
  have hinX8 : ∀ w ∈ wsX80, w ∈ wsX8_store := fun _ h => List.mem_cons_of_mem _ (List.mem_append_right _ (h))
  have hl := lv_entry ([.ref (ad 0), .int a1, .int a2]) (n := 3) (Nat.le_of_ble_eq_true rfl)
  rw [lg_entry_eq]
  generalize (lg_sl ([.ref (ad 0), .int a1, .int a2]) ++ List.replicate (3 - (lg_sl ([.ref (ad 0), .int a1, .int a2])).length) Slot.unset).toArray = ls at hl ⊢
  have hl : lv_has ls 3 [(0, .ref (ad 0)), (1, .int a1), (2, .int a2)] := hl
  have hP : va_P D vwCl (wM cI cZ ad σ) s.heap := hP
  refine lv_iload_n hx hb dX8_store_0 rfl (lv_at hl 1 rfl) ?_
  refine S_calli (As := [.int a1]) (rest := []) ⟨hx, hb, hml, hown, hts⟩ (c_X8_isRegister l a1 _ hw) (va_cwS 1 hts gX8_store_X8_isRegister rfl rfl rfl (by decide +kernel) ⟨Nat.le_of_ble_eq_true rfl, Nat.le_of_ble_eq_true rfl⟩) rfl hl.1 rfl (Nat.le_of_ble_eq_true rfl) dX8_store_1 ⟨Nat.zero_le _, Nat.zero_le _⟩ (fun x1 hw => ?_)
  refine lv_if_eq (tgt := 14) hx hb dX8_store_4 (by decide) (fun c9 => ?_) (fun c9 => ?_)
  · have hw := hw.1 c9
    refine lv_ldc (v := -1000000001) hx hb hown (hts _ (List.mem_of_getElem? (i := 1) rfl)) dX8_store_14 ?_
    exact G_iret hx hb hr hlocks hw hP hK hD hS dX8_store_16
  · have hw := hw.2 c9
    refine lv_iload_n hx hb dX8_store_7 rfl (lv_at hl 2 rfl) ?_
    refine S_calli (As := [.int a2]) (rest := []) ⟨hx, hb, hml, hown, hts⟩ (c_X8_isOctet l a2 _ hw) (va_cwS 1 hts gX8_store_X8_isOctet rfl rfl rfl (by decide +kernel) ⟨Nat.le_of_ble_eq_true rfl, Nat.le_of_ble_eq_true rfl⟩) rfl hl.1 rfl (Nat.le_of_ble_eq_true rfl) dX8_store_8 ⟨Nat.zero_le _, Nat.zero_le _⟩ (fun x2 hw => ?_)
    refine lv_if_ne (tgt := 17) hx hb dX8_store_11 (by decide) (fun c9 => ?_) (fun c9 => ?_)
    · have hw := hw.1 c9
      refine lv_aload_n hx hb dX8_store_17 rfl (lv_at hl 0 rfl) ?_
      refine lv_iconst (v := 3) hx hb dX8_store_18 (by decide) ?_
      refine lv_aload_n hx hb dX8_store_19 rfl (lv_at hl 0 rfl) ?_
      refine lv_iload_n hx hb dX8_store_20 rfl (lv_at hl 1 rfl) ?_
      refine lv_iload_n hx hb dX8_store_21 rfl (lv_at hl 2 rfl) ?_
      refine G_calli (As := [.int a1, .int a2]) (rest := [.int (3 : Int32), .ref (ad 0)]) ⟨hx, hb, hml, hown, hts⟩ hK hP hD hS 0 6 rfl rfl (c_X8_storeNow l D cI cZ ad A σ a1 a2 _ hw) (cwV 2 hts gX8_store_X8_storeNow rfl rfl rfl (by decide +kernel) ⟨Nat.le_of_ble_eq_true rfl, Nat.le_of_ble_eq_true rfl⟩) rfl hl.1 rfl (Nat.le_of_ble_eq_true rfl) dX8_store_22 ⟨Nat.zero_le _, Nat.zero_le _⟩ (fun x4 σ3 hw H locs hP hD hS => ?_)
      refine G_calli (As := [.int (3 : Int32), .int x4]) (rest := []) ⟨hx, hb, hml, hown, hts⟩ hK hP hD hS 0 6 rfl rfl (c_X8_tick l D cI cZ ad A σ3 (3 : Int32) x4 _ hw) (cwV 2 hts gX8_store_X8_tick rfl rfl rfl (by decide +kernel) ⟨Nat.le_of_ble_eq_true rfl, Nat.le_of_ble_eq_true rfl⟩) rfl hl.1 rfl (Nat.le_of_ble_eq_true rfl) dX8_store_25 ⟨Nat.zero_le _, Nat.zero_le _⟩ (fun x6 σ5 hw H locs hP hD hS => ?_)
      exact G_iret hx hb hr hlocks hw hP hK hD hS dX8_store_28
    · have hw := hw.2 c9
      refine lv_ldc (v := -1000000001) hx hb hown (hts _ (List.mem_of_getElem? (i := 1) rfl)) dX8_store_14 ?_
      exact G_iret hx hb hr hlocks hw hP hK hD hS dX8_store_16

def wp_X8_placeBy (σ : St) (a1 : Int32) (K : Int32 → St → Prop) : Prop :=
  vp_in a1 40 ∧ ((((σ.2.1 1 a1.toNatClampNeg) &&& (31 : Int32)) = 0 → vp_in a1 40 ∧ K ((σ.2.1 0 a1.toNatClampNeg) &&& (31 : Int32)) σ) ∧ (¬ ((σ.2.1 1 a1.toNatClampNeg) &&& (31 : Int32)) = 0 → vp_in a1 40 ∧ wp_X8_cries σ (1 : Int32) (σ.2.1 2 a1.toNatClampNeg) (fun σ1 => vp_in a1 40 ∧ K ((σ1.2.1 0 a1.toNatClampNeg) &&& (31 : Int32)) σ1)))
set_option maxHeartbeats 4000000 in
set_option maxRecDepth 100000 in
theorem c_X8_placeBy (l : Launch) (D : va_G) (cI cZ : ClassId) (ad : Nat → Nat) (A : Nat → Prop) (σ : St) (a1 : Int32) (K : Int32 → St → Prop) (hw : wp_X8_placeBy σ a1 K) : Met l yX8_placeBy wsX8_placeBy ({ frames := 1, cells := 0, slots := 0, locals := 22 }) (va_Pc [.ref (ad 0), .int a1] (GW D [(cI, FieldType.int), (cZ, FieldType.boolean)] (wM cI cZ ad) A σ)) (va_Qi K (GW D [(cI, FieldType.int), (cZ, FieldType.boolean)] (wM cI cZ ad) A) A) 0 0 A := by
  refine Met.ofW (cc := cX8_placeBy) (maxL := 2) (ret := (some .int)) (by decide) rfl ?_
  intro p e s m args below meth c s₁ B hml hv
  obtain ⟨rfl, hP, hK, hD⟩ := hv
  have hx := B.exec
  have hb := B.bytes
  have hr := B.returns
  have hts := atoms_spec (ws := wsX8_placeBy) B.pre
  have hown : s.vm.findClass RX8 = some m.cls := findClass_of_methodNamed B.named
  have hlocks := B.notSynchronized
  have hS : va_S A s.heap s.heap [] := va_S.rf
  have hinX8 : ∀ w ∈ wsX80, w ∈ wsX8_placeBy := fun _ h => List.mem_cons_of_mem _ (List.mem_append_right _ (h))
  have hl := lv_entry ([.ref (ad 0), .int a1]) (n := 2) (Nat.le_of_ble_eq_true rfl)
  rw [lg_entry_eq]
  generalize (lg_sl ([.ref (ad 0), .int a1]) ++ List.replicate (2 - (lg_sl ([.ref (ad 0), .int a1])).length) Slot.unset).toArray = ls at hl ⊢
  have hl : lv_has ls 2 [(0, .ref (ad 0)), (1, .int a1)] := hl
  have hP : va_P D vwCl (wM cI cZ ad σ) s.heap := hP
  refine lv_aload_n hx hb dX8_placeBy_0 rfl (lv_at hl 0 rfl) ?_
  refine va_get (D := D) (ci := 6) (C := RX8) (T := TX8) (N := 28) hx hb hts hinX8 hown hK hP 0 rfl rfl 1 (by decide) (hts _ (List.mem_of_getElem? (i := 1) rfl)) (fun _ h9 => h9) rfl dX8_placeBy_1 ?_
  refine lv_iload_n hx hb dX8_placeBy_4 rfl (lv_at hl 1 rfl) ?_
  refine va_iald (D := D) hx hb hK hP 2 0 rfl rfl hw.1 dX8_placeBy_5 ?_
  have hw := hw.2
  refine lv_bipush (v := 31) hx hb dX8_placeBy_6 (by decide) ?_
  refine lv_iand hx hb dX8_placeBy_8 ?_
  refine lv_if_eq (tgt := 23) hx hb dX8_placeBy_9 (by decide) (fun c9 => ?_) (fun c9 => ?_)
  · have hw := hw.1 c9
    refine lv_aload_n hx hb dX8_placeBy_23 rfl (lv_at hl 0 rfl) ?_
    refine va_get (D := D) (ci := 6) (C := RX8) (T := TX8) (N := 28) hx hb hts hinX8 hown hK hP 0 rfl rfl 0 (by decide) (hts _ (List.mem_of_getElem? (i := 3) rfl)) (fun _ h9 => h9) rfl dX8_placeBy_24 ?_
    refine lv_iload_n hx hb dX8_placeBy_27 rfl (lv_at hl 1 rfl) ?_
    refine va_iald (D := D) hx hb hK hP 1 0 rfl rfl hw.1 dX8_placeBy_28 ?_
    have hw := hw.2
    refine lv_bipush (v := 31) hx hb dX8_placeBy_29 (by decide) ?_
    refine lv_iand hx hb dX8_placeBy_31 ?_
    exact G_iret hx hb hr hlocks hw hP hK hD hS dX8_placeBy_32
  · have hw := hw.2 c9
    refine lv_aload_n hx hb dX8_placeBy_12 rfl (lv_at hl 0 rfl) ?_
    refine lv_iconst (v := 1) hx hb dX8_placeBy_13 (by decide) ?_
    refine lv_aload_n hx hb dX8_placeBy_14 rfl (lv_at hl 0 rfl) ?_
    refine va_get (D := D) (ci := 6) (C := RX8) (T := TX8) (N := 28) hx hb hts hinX8 hown hK hP 0 rfl rfl 2 (by decide) (hts _ (List.mem_of_getElem? (i := 2) rfl)) (fun _ h9 => h9) rfl dX8_placeBy_15 ?_
    refine lv_iload_n hx hb dX8_placeBy_18 rfl (lv_at hl 1 rfl) ?_
    refine va_iald (D := D) hx hb hK hP 3 0 rfl rfl hw.1 dX8_placeBy_19 ?_
    have hw := hw.2
    refine G_callv (As := [.int (1 : Int32), .int (σ.2.1 2 a1.toNatClampNeg)]) (rest := []) ⟨hx, hb, hml, hown, hts⟩ hK hP hD hS 0 6 rfl rfl (c_X8_cries l D cI cZ ad A σ (1 : Int32) (σ.2.1 2 a1.toNatClampNeg) _ hw) (cwV 2 hts gX8_placeBy_X8_cries rfl rfl rfl (by decide +kernel) ⟨Nat.le_of_ble_eq_true rfl, Nat.le_of_ble_eq_true rfl⟩) rfl hl.1 rfl (Nat.le_of_ble_eq_true rfl) dX8_placeBy_20 ⟨Nat.zero_le _, Nat.zero_le _⟩ (fun σ1 hw H locs hP hD hS => ?_)
    refine lv_aload_n hx hb dX8_placeBy_23 rfl (lv_at hl 0 rfl) ?_
    refine va_get (D := D) (ci := 6) (C := RX8) (T := TX8) (N := 28) hx hb hts hinX8 hown hK hP 0 rfl rfl 0 (by decide) (hts _ (List.mem_of_getElem? (i := 3) rfl)) (fun _ h9 => h9) rfl dX8_placeBy_24 ?_
    refine lv_iload_n hx hb dX8_placeBy_27 rfl (lv_at hl 1 rfl) ?_
    refine va_iald (D := D) hx hb hK hP 1 0 rfl rfl hw.1 dX8_placeBy_28 ?_
    have hw := hw.2
    refine lv_bipush (v := 31) hx hb dX8_placeBy_29 (by decide) ?_
    refine lv_iand hx hb dX8_placeBy_31 ?_
    exact G_iret hx hb hr hlocks hw hP hK hD hS dX8_placeBy_32

def wp_X8_loadAt (σ : St) (a1 : Int32) (a2 : Int32) (K : Int32 → St → Prop) : Prop :=
  wp_X8_isRegister a1 (fun x1 => ((x1 = 0 → K (-1000000001 : Int32) σ) ∧ (¬ x1 = 0 → wp_X8_isRegister a2 (fun x2 => ((¬ x2 = 0 → wp_X8_placeBy σ a2 (fun x4 σ3 => wp_X8_loadNow σ3 a1 x4 (fun x6 σ5 => wp_X8_tick σ5 (9 : Int32) x6 (fun x8 σ7 => K x8 σ7)))) ∧ (x2 = 0 → K (-1000000001 : Int32) σ))))))
set_option maxHeartbeats 4000000 in
set_option maxRecDepth 100000 in
theorem c_X8_loadAt (l : Launch) (D : va_G) (cI cZ : ClassId) (ad : Nat → Nat) (A : Nat → Prop) (σ : St) (a1 : Int32) (a2 : Int32) (K : Int32 → St → Prop) (hw : wp_X8_loadAt σ a1 a2 K) : Met l yX8_loadAt wsX8_loadAt ({ frames := 3, cells := 0, slots := 0, locals := 69 }) (va_Pc [.ref (ad 0), .int a1, .int a2] (GW D [(cI, FieldType.int), (cZ, FieldType.boolean)] (wM cI cZ ad) A σ)) (va_Qi K (GW D [(cI, FieldType.int), (cZ, FieldType.boolean)] (wM cI cZ ad) A) A) 0 0 A := by
  refine Met.ofW (cc := cX8_loadAt) (maxL := 3) (ret := (some .int)) (by decide) rfl ?_
  intro p e s m args below meth c s₁ B hml hv
  obtain ⟨rfl, hP, hK, hD⟩ := hv
  have hx := B.exec
  have hb := B.bytes
  have hr := B.returns
  have hts := atoms_spec (ws := wsX8_loadAt) B.pre
  have hown : s.vm.findClass RX8 = some m.cls := findClass_of_methodNamed B.named
  have hlocks := B.notSynchronized
  have hS : va_S A s.heap s.heap [] := va_S.rf
  have hinX8 : ∀ w ∈ wsX80, w ∈ wsX8_loadAt := fun _ h => List.mem_cons_of_mem _ (List.mem_append_right _ (h))
  have hl := lv_entry ([.ref (ad 0), .int a1, .int a2]) (n := 3) (Nat.le_of_ble_eq_true rfl)
  rw [lg_entry_eq]
  generalize (lg_sl ([.ref (ad 0), .int a1, .int a2]) ++ List.replicate (3 - (lg_sl ([.ref (ad 0), .int a1, .int a2])).length) Slot.unset).toArray = ls at hl ⊢
  have hl : lv_has ls 3 [(0, .ref (ad 0)), (1, .int a1), (2, .int a2)] := hl
  have hP : va_P D vwCl (wM cI cZ ad σ) s.heap := hP
  refine lv_iload_n hx hb dX8_loadAt_0 rfl (lv_at hl 1 rfl) ?_
  refine S_calli (As := [.int a1]) (rest := []) ⟨hx, hb, hml, hown, hts⟩ (c_X8_isRegister l a1 _ hw) (va_cwS 1 hts gX8_loadAt_X8_isRegister rfl rfl rfl (by decide +kernel) ⟨Nat.le_of_ble_eq_true rfl, Nat.le_of_ble_eq_true rfl⟩) rfl hl.1 rfl (Nat.le_of_ble_eq_true rfl) dX8_loadAt_1 ⟨Nat.zero_le _, Nat.zero_le _⟩ (fun x1 hw => ?_)
  refine lv_if_eq (tgt := 14) hx hb dX8_loadAt_4 (by decide) (fun c9 => ?_) (fun c9 => ?_)
  · have hw := hw.1 c9
    refine lv_ldc (v := -1000000001) hx hb hown (hts _ (List.mem_of_getElem? (i := 1) rfl)) dX8_loadAt_14 ?_
    exact G_iret hx hb hr hlocks hw hP hK hD hS dX8_loadAt_16
  · have hw := hw.2 c9
    refine lv_iload_n hx hb dX8_loadAt_7 rfl (lv_at hl 2 rfl) ?_
    refine S_calli (As := [.int a2]) (rest := []) ⟨hx, hb, hml, hown, hts⟩ (c_X8_isRegister l a2 _ hw) (va_cwS 1 hts gX8_loadAt_X8_isRegister rfl rfl rfl (by decide +kernel) ⟨Nat.le_of_ble_eq_true rfl, Nat.le_of_ble_eq_true rfl⟩) rfl hl.1 rfl (Nat.le_of_ble_eq_true rfl) dX8_loadAt_8 ⟨Nat.zero_le _, Nat.zero_le _⟩ (fun x2 hw => ?_)
    refine lv_if_ne (tgt := 17) hx hb dX8_loadAt_11 (by decide) (fun c9 => ?_) (fun c9 => ?_)
    · have hw := hw.1 c9
      refine lv_aload_n hx hb dX8_loadAt_17 rfl (lv_at hl 0 rfl) ?_
      refine lv_bipush (v := 9) hx hb dX8_loadAt_18 (by decide) ?_
      refine lv_aload_n hx hb dX8_loadAt_20 rfl (lv_at hl 0 rfl) ?_
      refine lv_iload_n hx hb dX8_loadAt_21 rfl (lv_at hl 1 rfl) ?_
      refine lv_aload_n hx hb dX8_loadAt_22 rfl (lv_at hl 0 rfl) ?_
      refine lv_iload_n hx hb dX8_loadAt_23 rfl (lv_at hl 2 rfl) ?_
      refine G_calli (As := [.int a2]) (rest := [.int a1, .ref (ad 0), .int (9 : Int32), .ref (ad 0)]) ⟨hx, hb, hml, hown, hts⟩ hK hP hD hS 0 6 rfl rfl (c_X8_placeBy l D cI cZ ad A σ a2 _ hw) (cwV 1 hts gX8_loadAt_X8_placeBy rfl rfl rfl (by decide +kernel) ⟨Nat.le_of_ble_eq_true rfl, Nat.le_of_ble_eq_true rfl⟩) rfl hl.1 rfl (Nat.le_of_ble_eq_true rfl) dX8_loadAt_24 ⟨Nat.zero_le _, Nat.zero_le _⟩ (fun x4 σ3 hw H locs hP hD hS => ?_)
      refine G_calli (As := [.int a1, .int x4]) (rest := [.int (9 : Int32), .ref (ad 0)]) ⟨hx, hb, hml, hown, hts⟩ hK hP hD hS 0 6 rfl rfl (c_X8_loadNow l D cI cZ ad A σ3 a1 x4 _ hw) (cwV 2 hts gX8_loadAt_X8_loadNow rfl rfl rfl (by decide +kernel) ⟨Nat.le_of_ble_eq_true rfl, Nat.le_of_ble_eq_true rfl⟩) rfl hl.1 rfl (Nat.le_of_ble_eq_true rfl) dX8_loadAt_27 ⟨Nat.zero_le _, Nat.zero_le _⟩ (fun x6 σ5 hw H locs hP hD hS => ?_)
      refine G_calli (As := [.int (9 : Int32), .int x6]) (rest := []) ⟨hx, hb, hml, hown, hts⟩ hK hP hD hS 0 6 rfl rfl (c_X8_tick l D cI cZ ad A σ5 (9 : Int32) x6 _ hw) (cwV 2 hts gX8_loadAt_X8_tick rfl rfl rfl (by decide +kernel) ⟨Nat.le_of_ble_eq_true rfl, Nat.le_of_ble_eq_true rfl⟩) rfl hl.1 rfl (Nat.le_of_ble_eq_true rfl) dX8_loadAt_30 ⟨Nat.zero_le _, Nat.zero_le _⟩ (fun x8 σ7 hw H locs hP hD hS => ?_)
      exact G_iret hx hb hr hlocks hw hP hK hD hS dX8_loadAt_33
    · have hw := hw.2 c9
      refine lv_ldc (v := -1000000001) hx hb hown (hts _ (List.mem_of_getElem? (i := 1) rfl)) dX8_loadAt_14 ?_
      exact G_iret hx hb hr hlocks hw hP hK hD hS dX8_loadAt_16

def wp_X8_storeAt (σ : St) (a1 : Int32) (a2 : Int32) (K : Int32 → St → Prop) : Prop :=
  wp_X8_isRegister a1 (fun x1 => ((x1 = 0 → K (-1000000001 : Int32) σ) ∧ (¬ x1 = 0 → wp_X8_isRegister a2 (fun x2 => ((¬ x2 = 0 → wp_X8_placeBy σ a2 (fun x4 σ3 => wp_X8_storeNow σ3 a1 x4 (fun x6 σ5 => wp_X8_tick σ5 (10 : Int32) x6 (fun x8 σ7 => K x8 σ7)))) ∧ (x2 = 0 → K (-1000000001 : Int32) σ))))))
set_option maxHeartbeats 4000000 in
set_option maxRecDepth 100000 in
theorem c_X8_storeAt (l : Launch) (D : va_G) (cI cZ : ClassId) (ad : Nat → Nat) (A : Nat → Prop) (σ : St) (a1 : Int32) (a2 : Int32) (K : Int32 → St → Prop) (hw : wp_X8_storeAt σ a1 a2 K) : Met l yX8_storeAt wsX8_storeAt ({ frames := 3, cells := 0, slots := 0, locals := 68 }) (va_Pc [.ref (ad 0), .int a1, .int a2] (GW D [(cI, FieldType.int), (cZ, FieldType.boolean)] (wM cI cZ ad) A σ)) (va_Qi K (GW D [(cI, FieldType.int), (cZ, FieldType.boolean)] (wM cI cZ ad) A) A) 0 0 A := by
  refine Met.ofW (cc := cX8_storeAt) (maxL := 3) (ret := (some .int)) (by decide) rfl ?_
  intro p e s m args below meth c s₁ B hml hv
  obtain ⟨rfl, hP, hK, hD⟩ := hv
  have hx := B.exec
  have hb := B.bytes
  have hr := B.returns
  have hts := atoms_spec (ws := wsX8_storeAt) B.pre
  have hown : s.vm.findClass RX8 = some m.cls := findClass_of_methodNamed B.named
  have hlocks := B.notSynchronized
  have hS : va_S A s.heap s.heap [] := va_S.rf
  have hinX8 : ∀ w ∈ wsX80, w ∈ wsX8_storeAt := fun _ h => List.mem_cons_of_mem _ (List.mem_append_right _ (h))
  have hl := lv_entry ([.ref (ad 0), .int a1, .int a2]) (n := 3) (Nat.le_of_ble_eq_true rfl)
  rw [lg_entry_eq]
  generalize (lg_sl ([.ref (ad 0), .int a1, .int a2]) ++ List.replicate (3 - (lg_sl ([.ref (ad 0), .int a1, .int a2])).length) Slot.unset).toArray = ls at hl ⊢
  have hl : lv_has ls 3 [(0, .ref (ad 0)), (1, .int a1), (2, .int a2)] := hl
  have hP : va_P D vwCl (wM cI cZ ad σ) s.heap := hP
  refine lv_iload_n hx hb dX8_storeAt_0 rfl (lv_at hl 1 rfl) ?_
  refine S_calli (As := [.int a1]) (rest := []) ⟨hx, hb, hml, hown, hts⟩ (c_X8_isRegister l a1 _ hw) (va_cwS 1 hts gX8_storeAt_X8_isRegister rfl rfl rfl (by decide +kernel) ⟨Nat.le_of_ble_eq_true rfl, Nat.le_of_ble_eq_true rfl⟩) rfl hl.1 rfl (Nat.le_of_ble_eq_true rfl) dX8_storeAt_1 ⟨Nat.zero_le _, Nat.zero_le _⟩ (fun x1 hw => ?_)
  refine lv_if_eq (tgt := 14) hx hb dX8_storeAt_4 (by decide) (fun c9 => ?_) (fun c9 => ?_)
  · have hw := hw.1 c9
    refine lv_ldc (v := -1000000001) hx hb hown (hts _ (List.mem_of_getElem? (i := 1) rfl)) dX8_storeAt_14 ?_
    exact G_iret hx hb hr hlocks hw hP hK hD hS dX8_storeAt_16
  · have hw := hw.2 c9
    refine lv_iload_n hx hb dX8_storeAt_7 rfl (lv_at hl 2 rfl) ?_
    refine S_calli (As := [.int a2]) (rest := []) ⟨hx, hb, hml, hown, hts⟩ (c_X8_isRegister l a2 _ hw) (va_cwS 1 hts gX8_storeAt_X8_isRegister rfl rfl rfl (by decide +kernel) ⟨Nat.le_of_ble_eq_true rfl, Nat.le_of_ble_eq_true rfl⟩) rfl hl.1 rfl (Nat.le_of_ble_eq_true rfl) dX8_storeAt_8 ⟨Nat.zero_le _, Nat.zero_le _⟩ (fun x2 hw => ?_)
    refine lv_if_ne (tgt := 17) hx hb dX8_storeAt_11 (by decide) (fun c9 => ?_) (fun c9 => ?_)
    · have hw := hw.1 c9
      refine lv_aload_n hx hb dX8_storeAt_17 rfl (lv_at hl 0 rfl) ?_
      refine lv_bipush (v := 10) hx hb dX8_storeAt_18 (by decide) ?_
      refine lv_aload_n hx hb dX8_storeAt_20 rfl (lv_at hl 0 rfl) ?_
      refine lv_iload_n hx hb dX8_storeAt_21 rfl (lv_at hl 1 rfl) ?_
      refine lv_aload_n hx hb dX8_storeAt_22 rfl (lv_at hl 0 rfl) ?_
      refine lv_iload_n hx hb dX8_storeAt_23 rfl (lv_at hl 2 rfl) ?_
      refine G_calli (As := [.int a2]) (rest := [.int a1, .ref (ad 0), .int (10 : Int32), .ref (ad 0)]) ⟨hx, hb, hml, hown, hts⟩ hK hP hD hS 0 6 rfl rfl (c_X8_placeBy l D cI cZ ad A σ a2 _ hw) (cwV 1 hts gX8_storeAt_X8_placeBy rfl rfl rfl (by decide +kernel) ⟨Nat.le_of_ble_eq_true rfl, Nat.le_of_ble_eq_true rfl⟩) rfl hl.1 rfl (Nat.le_of_ble_eq_true rfl) dX8_storeAt_24 ⟨Nat.zero_le _, Nat.zero_le _⟩ (fun x4 σ3 hw H locs hP hD hS => ?_)
      refine G_calli (As := [.int a1, .int x4]) (rest := [.int (10 : Int32), .ref (ad 0)]) ⟨hx, hb, hml, hown, hts⟩ hK hP hD hS 0 6 rfl rfl (c_X8_storeNow l D cI cZ ad A σ3 a1 x4 _ hw) (cwV 2 hts gX8_storeAt_X8_storeNow rfl rfl rfl (by decide +kernel) ⟨Nat.le_of_ble_eq_true rfl, Nat.le_of_ble_eq_true rfl⟩) rfl hl.1 rfl (Nat.le_of_ble_eq_true rfl) dX8_storeAt_27 ⟨Nat.zero_le _, Nat.zero_le _⟩ (fun x6 σ5 hw H locs hP hD hS => ?_)
      refine G_calli (As := [.int (10 : Int32), .int x6]) (rest := []) ⟨hx, hb, hml, hown, hts⟩ hK hP hD hS 0 6 rfl rfl (c_X8_tick l D cI cZ ad A σ5 (10 : Int32) x6 _ hw) (cwV 2 hts gX8_storeAt_X8_tick rfl rfl rfl (by decide +kernel) ⟨Nat.le_of_ble_eq_true rfl, Nat.le_of_ble_eq_true rfl⟩) rfl hl.1 rfl (Nat.le_of_ble_eq_true rfl) dX8_storeAt_30 ⟨Nat.zero_le _, Nat.zero_le _⟩ (fun x8 σ7 hw H locs hP hD hS => ?_)
      exact G_iret hx hb hr hlocks hw hP hK hD hS dX8_storeAt_33
    · have hw := hw.2 c9
      refine lv_ldc (v := -1000000001) hx hb hown (hts _ (List.mem_of_getElem? (i := 1) rfl)) dX8_storeAt_14 ?_
      exact G_iret hx hb hr hlocks hw hP hK hD hS dX8_storeAt_16
