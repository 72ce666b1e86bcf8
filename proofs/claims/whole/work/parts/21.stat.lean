def wp_X7_isRegister (a1 : Int32) (K : Int32 → Prop) : Prop :=
  ((a1 < 0 → K (0 : Int32)) ∧ (¬ a1 < 0 → (((8 : Int32) ≤ a1 → K (0 : Int32)) ∧ (¬ (8 : Int32) ≤ a1 → K (1 : Int32)))))
set_option maxHeartbeats 4000000 in
set_option maxRecDepth 100000 in
theorem c_X7_isRegister (l : Launch) (a1 : Int32) (K : Int32 → Prop) (hw : wp_X7_isRegister a1 K) : Met l yX7_isRegister wsX7_isRegister ({ frames := 0, cells := 0, slots := 0, locals := 0 }) (va_Pc [.int a1] (fun _ => True)) (vp_Si K) 0 0 (fun _ => False) := by
  refine Met.ofW (cc := cX7_isRegister) (maxL := 1) (ret := (some .boolean)) (by decide) rfl ?_
  intro p e s m args below meth c s₁ B hml hv
  obtain ⟨rfl, -⟩ := hv
  have hx := B.exec
  have hb := B.bytes
  have hr := B.returns
  have hts := atoms_spec (ws := wsX7_isRegister) B.pre
  have hown : s.vm.findClass RX7 = some m.cls := findClass_of_methodNamed B.named
  have hlocks := B.notSynchronized
  have hl := lv_entry ([.int a1]) (n := 1) (Nat.le_of_ble_eq_true rfl)
  rw [lg_entry_eq]
  generalize (lg_sl ([.int a1]) ++ List.replicate (1 - (lg_sl ([.int a1])).length) Slot.unset).toArray = ls at hl ⊢
  have hl : lv_has ls 1 [(0, .int a1)] := hl
  refine lv_iload_n hx hb dX7_isRegister_0 rfl (lv_at hl 0 rfl) ?_
  refine lv_if_lt (tgt := 14) hx hb dX7_isRegister_1 (by decide) (fun c9 => ?_) (fun c9 => ?_)
  · have hw := hw.1 c9
    refine lv_iconst (v := 0) hx hb dX7_isRegister_14 (by decide) ?_
    exact S_zret hx hb hr hlocks rfl hw dX7_isRegister_15
  · have hw := hw.2 c9
    refine lv_iload_n hx hb dX7_isRegister_4 rfl (lv_at hl 0 rfl) ?_
    refine lv_bipush (v := 8) hx hb dX7_isRegister_5 (by decide) ?_
    refine lv_icmp_ge (tgt := 14) hx hb dX7_isRegister_7 (by decide) (fun c9 => ?_) (fun c9 => ?_)
    · have hw := hw.1 c9
      refine lv_iconst (v := 0) hx hb dX7_isRegister_14 (by decide) ?_
      exact S_zret hx hb hr hlocks rfl hw dX7_isRegister_15
    · have hw := hw.2 c9
      refine lv_iconst (v := 1) hx hb dX7_isRegister_10 (by decide) ?_
      refine lv_goto (tgt := 15) hx hb dX7_isRegister_11 (by decide) ?_
      exact S_zret hx hb hr hlocks rfl hw dX7_isRegister_15

def wp_X7_isByte (a1 : Int32) (K : Int32 → Prop) : Prop :=
  ((a1 < 0 → K (0 : Int32)) ∧ (¬ a1 < 0 → (((255 : Int32) < a1 → K (0 : Int32)) ∧ (¬ (255 : Int32) < a1 → K (1 : Int32)))))
set_option maxHeartbeats 4000000 in
set_option maxRecDepth 100000 in
theorem c_X7_isByte (l : Launch) (a1 : Int32) (K : Int32 → Prop) (hw : wp_X7_isByte a1 K) : Met l yX7_isByte wsX7_isByte ({ frames := 0, cells := 0, slots := 0, locals := 0 }) (va_Pc [.int a1] (fun _ => True)) (vp_Si K) 0 0 (fun _ => False) := by
  refine Met.ofW (cc := cX7_isByte) (maxL := 1) (ret := (some .boolean)) (by decide) rfl ?_
  intro p e s m args below meth c s₁ B hml hv
  obtain ⟨rfl, -⟩ := hv
  have hx := B.exec
  have hb := B.bytes
  have hr := B.returns
  have hts := atoms_spec (ws := wsX7_isByte) B.pre
  have hown : s.vm.findClass RX7 = some m.cls := findClass_of_methodNamed B.named
  have hlocks := B.notSynchronized
  have hl := lv_entry ([.int a1]) (n := 1) (Nat.le_of_ble_eq_true rfl)
  rw [lg_entry_eq]
  generalize (lg_sl ([.int a1]) ++ List.replicate (1 - (lg_sl ([.int a1])).length) Slot.unset).toArray = ls at hl ⊢
  have hl : lv_has ls 1 [(0, .int a1)] := hl
  refine lv_iload_n hx hb dX7_isByte_0 rfl (lv_at hl 0 rfl) ?_
  refine lv_if_lt (tgt := 15) hx hb dX7_isByte_1 (by decide) (fun c9 => ?_) (fun c9 => ?_)
  · have hw := hw.1 c9
    refine lv_iconst (v := 0) hx hb dX7_isByte_15 (by decide) ?_
    exact S_zret hx hb hr hlocks rfl hw dX7_isByte_16
  · have hw := hw.2 c9
    refine lv_iload_n hx hb dX7_isByte_4 rfl (lv_at hl 0 rfl) ?_
    refine lv_sipush (v := 255) hx hb dX7_isByte_5 (by decide) ?_
    refine lv_icmp_gt (tgt := 15) hx hb dX7_isByte_8 (by decide) (fun c9 => ?_) (fun c9 => ?_)
    · have hw := hw.1 c9
      refine lv_iconst (v := 0) hx hb dX7_isByte_15 (by decide) ?_
      exact S_zret hx hb hr hlocks rfl hw dX7_isByte_16
    · have hw := hw.2 c9
      refine lv_iconst (v := 1) hx hb dX7_isByte_11 (by decide) ?_
      refine lv_goto (tgt := 16) hx hb dX7_isByte_12 (by decide) ?_
      exact S_zret hx hb hr hlocks rfl hw dX7_isByte_16

def wp_X0_valueOf (a1 : Int32) (K : Int32 → Prop) : Prop :=
  K (a1 &&& (255 : Int32))
set_option maxHeartbeats 4000000 in
set_option maxRecDepth 100000 in
theorem c_X0_valueOf (l : Launch) (a1 : Int32) (K : Int32 → Prop) (hw : wp_X0_valueOf a1 K) : Met l yX0_valueOf wsX0_valueOf ({ frames := 0, cells := 0, slots := 0, locals := 0 }) (va_Pc [.int a1] (fun _ => True)) (vp_Si K) 0 0 (fun _ => False) := by
  refine Met.ofW (cc := cX0_valueOf) (maxL := 1) (ret := (some .int)) (by decide) rfl ?_
  intro p e s m args below meth c s₁ B hml hv
  obtain ⟨rfl, -⟩ := hv
  have hx := B.exec
  have hb := B.bytes
  have hr := B.returns
  have hts := atoms_spec (ws := wsX0_valueOf) B.pre
  have hown : s.vm.findClass RX0 = some m.cls := findClass_of_methodNamed B.named
  have hlocks := B.notSynchronized
  have hl := lv_entry ([.int a1]) (n := 1) (Nat.le_of_ble_eq_true rfl)
  rw [lg_entry_eq]
  generalize (lg_sl ([.int a1]) ++ List.replicate (1 - (lg_sl ([.int a1])).length) Slot.unset).toArray = ls at hl ⊢
  have hl : lv_has ls 1 [(0, .int a1)] := hl
  refine lv_iload_n hx hb dX0_valueOf_0 rfl (lv_at hl 0 rfl) ?_
  refine lv_sipush (v := 255) hx hb dX0_valueOf_1 (by decide) ?_
  refine lv_iand hx hb dX0_valueOf_4 ?_
  exact S_iret hx hb hr hlocks hw dX0_valueOf_5

def wp_X0_of (a1 : Int32) (a2 : Int32) (a3 : Int32) (K : Int32 → Prop) : Prop :=
  ((¬ a2 = 0 → K ((a1 ||| (a2 <<< ((8 : Int32) &&& 31))) ||| (a3 <<< ((16 : Int32) &&& 31)))) ∧ (a2 = 0 → K ((a1 ||| (a2 <<< ((8 : Int32) &&& 31))) ||| ((0 : Int32) <<< ((16 : Int32) &&& 31)))))
set_option maxHeartbeats 4000000 in
set_option maxRecDepth 100000 in
theorem c_X0_of (l : Launch) (a1 : Int32) (a2 : Int32) (a3 : Int32) (K : Int32 → Prop) (hw : wp_X0_of a1 a2 a3 K) : Met l yX0_of wsX0_of ({ frames := 0, cells := 0, slots := 0, locals := 0 }) (va_Pc [.int a1, .int a2, .int a3] (fun _ => True)) (vp_Si K) 0 0 (fun _ => False) := by
  refine Met.ofW (cc := cX0_of) (maxL := 4) (ret := (some .int)) (by decide) rfl ?_
  intro p e s m args below meth c s₁ B hml hv
  obtain ⟨rfl, -⟩ := hv
  have hx := B.exec
  have hb := B.bytes
  have hr := B.returns
  have hts := atoms_spec (ws := wsX0_of) B.pre
  have hown : s.vm.findClass RX0 = some m.cls := findClass_of_methodNamed B.named
  have hlocks := B.notSynchronized
  have hl := lv_entry ([.int a1, .int a2, .int a3]) (n := 4) (Nat.le_of_ble_eq_true rfl)
  rw [lg_entry_eq]
  generalize (lg_sl ([.int a1, .int a2, .int a3]) ++ List.replicate (4 - (lg_sl ([.int a1, .int a2, .int a3])).length) Slot.unset).toArray = ls at hl ⊢
  have hl : lv_has ls 4 [(0, .int a1), (1, .int a2), (2, .int a3)] := hl
  refine lv_iload_n hx hb dX0_of_0 rfl (lv_at hl 1 rfl) ?_
  refine lv_if_ne (tgt := 8) hx hb dX0_of_1 (by decide) (fun c9 => ?_) (fun c9 => ?_)
  · have hw := hw.1 c9
    refine lv_iload_n hx hb dX0_of_8 rfl (lv_at hl 2 rfl) ?_
    refine lv_istore_n (lv' := [(3, .int a3), (0, .int a1), (1, .int a2), (2, .int a3)]) hx hb dX0_of_9 rfl hl (by decide) rfl (fun ls hl => ?_)
    refine lv_iload_n hx hb dX0_of_10 rfl (lv_at hl 1 rfl) ?_
    refine lv_iload_n hx hb dX0_of_11 rfl (lv_at hl 2 rfl) ?_
    refine lv_bipush (v := 8) hx hb dX0_of_12 (by decide) ?_
    refine lv_ishl hx hb dX0_of_14 ?_
    refine lv_ior hx hb dX0_of_15 ?_
    refine lv_iload_n hx hb dX0_of_16 rfl (lv_at hl 0 rfl) ?_
    refine lv_bipush (v := 16) hx hb dX0_of_17 (by decide) ?_
    refine lv_ishl hx hb dX0_of_19 ?_
    refine lv_ior hx hb dX0_of_20 ?_
    exact S_iret hx hb hr hlocks hw dX0_of_21
  · have hw := hw.2 c9
    refine lv_iconst (v := 0) hx hb dX0_of_4 (by decide) ?_
    refine lv_goto (tgt := 9) hx hb dX0_of_5 (by decide) ?_
    refine lv_istore_n (lv' := [(3, .int (0 : Int32)), (0, .int a1), (1, .int a2), (2, .int a3)]) hx hb dX0_of_9 rfl hl (by decide) rfl (fun ls hl => ?_)
    refine lv_iload_n hx hb dX0_of_10 rfl (lv_at hl 1 rfl) ?_
    refine lv_iload_n hx hb dX0_of_11 rfl (lv_at hl 2 rfl) ?_
    refine lv_bipush (v := 8) hx hb dX0_of_12 (by decide) ?_
    refine lv_ishl hx hb dX0_of_14 ?_
    refine lv_ior hx hb dX0_of_15 ?_
    refine lv_iload_n hx hb dX0_of_16 rfl (lv_at hl 0 rfl) ?_
    refine lv_bipush (v := 16) hx hb dX0_of_17 (by decide) ?_
    refine lv_ishl hx hb dX0_of_19 ?_
    refine lv_ior hx hb dX0_of_20 ?_
    exact S_iret hx hb hr hlocks hw dX0_of_21

def wp_X0_shadowOf (a1 : Int32) (K : Int32 → Prop) : Prop :=
  K ((a1 >>> ((8 : Int32) &&& 31)) &&& (255 : Int32))
set_option maxHeartbeats 4000000 in
set_option maxRecDepth 100000 in
theorem c_X0_shadowOf (l : Launch) (a1 : Int32) (K : Int32 → Prop) (hw : wp_X0_shadowOf a1 K) : Met l yX0_shadowOf wsX0_shadowOf ({ frames := 0, cells := 0, slots := 0, locals := 0 }) (va_Pc [.int a1] (fun _ => True)) (vp_Si K) 0 0 (fun _ => False) := by
  refine Met.ofW (cc := cX0_shadowOf) (maxL := 1) (ret := (some .int)) (by decide) rfl ?_
  intro p e s m args below meth c s₁ B hml hv
  obtain ⟨rfl, -⟩ := hv
  have hx := B.exec
  have hb := B.bytes
  have hr := B.returns
  have hts := atoms_spec (ws := wsX0_shadowOf) B.pre
  have hown : s.vm.findClass RX0 = some m.cls := findClass_of_methodNamed B.named
  have hlocks := B.notSynchronized
  have hl := lv_entry ([.int a1]) (n := 1) (Nat.le_of_ble_eq_true rfl)
  rw [lg_entry_eq]
  generalize (lg_sl ([.int a1]) ++ List.replicate (1 - (lg_sl ([.int a1])).length) Slot.unset).toArray = ls at hl ⊢
  have hl : lv_has ls 1 [(0, .int a1)] := hl
  refine lv_iload_n hx hb dX0_shadowOf_0 rfl (lv_at hl 0 rfl) ?_
  refine lv_bipush (v := 8) hx hb dX0_shadowOf_1 (by decide) ?_
  refine lv_ishr hx hb dX0_shadowOf_3 ?_
  refine lv_sipush (v := 255) hx hb dX0_shadowOf_4 (by decide) ?_
  refine lv_iand hx hb dX0_shadowOf_7 ?_
  exact S_iret hx hb hr hlocks hw dX0_shadowOf_8

def wp_X0_fromOf (a1 : Int32) (K : Int32 → Prop) : Prop :=
  K (a1 >>> ((16 : Int32) &&& 31))
set_option maxHeartbeats 4000000 in
set_option maxRecDepth 100000 in
theorem c_X0_fromOf (l : Launch) (a1 : Int32) (K : Int32 → Prop) (hw : wp_X0_fromOf a1 K) : Met l yX0_fromOf wsX0_fromOf ({ frames := 0, cells := 0, slots := 0, locals := 0 }) (va_Pc [.int a1] (fun _ => True)) (vp_Si K) 0 0 (fun _ => False) := by
  refine Met.ofW (cc := cX0_fromOf) (maxL := 1) (ret := (some .int)) (by decide) rfl ?_
  intro p e s m args below meth c s₁ B hml hv
  obtain ⟨rfl, -⟩ := hv
  have hx := B.exec
  have hb := B.bytes
  have hr := B.returns
  have hts := atoms_spec (ws := wsX0_fromOf) B.pre
  have hown : s.vm.findClass RX0 = some m.cls := findClass_of_methodNamed B.named
  have hlocks := B.notSynchronized
  have hl := lv_entry ([.int a1]) (n := 1) (Nat.le_of_ble_eq_true rfl)
  rw [lg_entry_eq]
  generalize (lg_sl ([.int a1]) ++ List.replicate (1 - (lg_sl ([.int a1])).length) Slot.unset).toArray = ls at hl ⊢
  have hl : lv_has ls 1 [(0, .int a1)] := hl
  refine lv_iload_n hx hb dX0_fromOf_0 rfl (lv_at hl 0 rfl) ?_
  refine lv_bipush (v := 16) hx hb dX0_fromOf_1 (by decide) ?_
  refine lv_ishr hx hb dX0_fromOf_3 ?_
  exact S_iret hx hb hr hlocks hw dX0_fromOf_4

def wp_X7_isOctet (a1 : Int32) (K : Int32 → Prop) : Prop :=
  ((a1 < 0 → K (0 : Int32)) ∧ (¬ a1 < 0 → (((32 : Int32) ≤ a1 → K (0 : Int32)) ∧ (¬ (32 : Int32) ≤ a1 → K (1 : Int32)))))
set_option maxHeartbeats 4000000 in
set_option maxRecDepth 100000 in
theorem c_X7_isOctet (l : Launch) (a1 : Int32) (K : Int32 → Prop) (hw : wp_X7_isOctet a1 K) : Met l yX7_isOctet wsX7_isOctet ({ frames := 0, cells := 0, slots := 0, locals := 0 }) (va_Pc [.int a1] (fun _ => True)) (vp_Si K) 0 0 (fun _ => False) := by
  refine Met.ofW (cc := cX7_isOctet) (maxL := 1) (ret := (some .boolean)) (by decide) rfl ?_
  intro p e s m args below meth c s₁ B hml hv
  obtain ⟨rfl, -⟩ := hv
  have hx := B.exec
  have hb := B.bytes
  have hr := B.returns
  have hts := atoms_spec (ws := wsX7_isOctet) B.pre
  have hown : s.vm.findClass RX7 = some m.cls := findClass_of_methodNamed B.named
  have hlocks := B.notSynchronized
  have hl := lv_entry ([.int a1]) (n := 1) (Nat.le_of_ble_eq_true rfl)
  rw [lg_entry_eq]
  generalize (lg_sl ([.int a1]) ++ List.replicate (1 - (lg_sl ([.int a1])).length) Slot.unset).toArray = ls at hl ⊢
  have hl : lv_has ls 1 [(0, .int a1)] := hl
  refine lv_iload_n hx hb dX7_isOctet_0 rfl (lv_at hl 0 rfl) ?_
  refine lv_if_lt (tgt := 14) hx hb dX7_isOctet_1 (by decide) (fun c9 => ?_) (fun c9 => ?_)
  · have hw := hw.1 c9
    refine lv_iconst (v := 0) hx hb dX7_isOctet_14 (by decide) ?_
    exact S_zret hx hb hr hlocks rfl hw dX7_isOctet_15
  · have hw := hw.2 c9
    refine lv_iload_n hx hb dX7_isOctet_4 rfl (lv_at hl 0 rfl) ?_
    refine lv_bipush (v := 32) hx hb dX7_isOctet_5 (by decide) ?_
    refine lv_icmp_ge (tgt := 14) hx hb dX7_isOctet_7 (by decide) (fun c9 => ?_) (fun c9 => ?_)
    · have hw := hw.1 c9
      refine lv_iconst (v := 0) hx hb dX7_isOctet_14 (by decide) ?_
      exact S_zret hx hb hr hlocks rfl hw dX7_isOctet_15
    · have hw := hw.2 c9
      refine lv_iconst (v := 1) hx hb dX7_isOctet_10 (by decide) ?_
      refine lv_goto (tgt := 15) hx hb dX7_isOctet_11 (by decide) ?_
      exact S_zret hx hb hr hlocks rfl hw dX7_isOctet_15

def wp_X0_partOf (a1 : Int32) (a2 : Int32) (a3 : Int32) (K : Int32 → Prop) : Prop :=
  ∀ x1 : Int32, x1 = ((1 : Int32) <<< (a3 &&& 31)) - (1 : Int32) → wp_X0_valueOf a1 (fun x2 => wp_X0_shadowOf a1 (fun x3 => wp_X0_fromOf a1 (fun x4 => wp_X0_of ((x2 >>> (a2 &&& 31)) &&& x1) ((x3 >>> (a2 &&& 31)) &&& x1) x4 (fun x5 => K x5))))
set_option maxHeartbeats 4000000 in
set_option maxRecDepth 100000 in
theorem c_X0_partOf (l : Launch) (a1 : Int32) (a2 : Int32) (a3 : Int32) (K : Int32 → Prop) (hw : wp_X0_partOf a1 a2 a3 K) : Met l yX0_partOf wsX0_partOf ({ frames := 1, cells := 0, slots := 0, locals := 23 }) (va_Pc [.int a1, .int a2, .int a3] (fun _ => True)) (vp_Si K) 0 0 (fun _ => False) := by
  refine Met.ofW (cc := cX0_partOf) (maxL := 4) (ret := (some .int)) (by decide) rfl ?_
  intro p e s m args below meth c s₁ B hml hv
  obtain ⟨rfl, -⟩ := hv
  have hx := B.exec
  have hb := B.bytes
  have hr := B.returns
  have hts := atoms_spec (ws := wsX0_partOf) B.pre
  have hown : s.vm.findClass RX0 = some m.cls := findClass_of_methodNamed B.named
  have hlocks := B.notSynchronized
  have hl := lv_entry ([.int a1, .int a2, .int a3]) (n := 4) (Nat.le_of_ble_eq_true rfl)
  rw [lg_entry_eq]
  generalize (lg_sl ([.int a1, .int a2, .int a3]) ++ List.replicate (4 - (lg_sl ([.int a1, .int a2, .int a3])).length) Slot.unset).toArray = ls at hl ⊢
  have hl : lv_has ls 4 [(0, .int a1), (1, .int a2), (2, .int a3)] := hl
  refine lv_iconst (v := 1) hx hb dX0_partOf_0 (by decide) ?_
  refine lv_iload_n hx hb dX0_partOf_1 rfl (lv_at hl 2 rfl) ?_
  refine lv_ishl hx hb dX0_partOf_2 ?_
  refine lv_iconst (v := 1) hx hb dX0_partOf_3 (by decide) ?_
  refine lv_isub hx hb dX0_partOf_4 ?_
  refine lv_topi (fun x1 ex1 => ?_)
  have hw := hw x1 ex1
  refine lv_istore_n (lv' := [(3, .int x1), (0, .int a1), (1, .int a2), (2, .int a3)]) hx hb dX0_partOf_5 rfl hl (by decide) rfl (fun ls hl => ?_)
  refine lv_iload_n hx hb dX0_partOf_6 rfl (lv_at hl 1 rfl) ?_
  refine S_calli (As := [.int a1]) (rest := []) ⟨hx, hb, hml, hown, hts⟩ (c_X0_valueOf l a1 _ hw) (va_cwS 1 hts gX0_partOf_X0_valueOf rfl rfl rfl (by decide +kernel) ⟨Nat.le_of_ble_eq_true rfl, Nat.le_of_ble_eq_true rfl⟩) rfl hl.1 rfl (Nat.le_of_ble_eq_true rfl) dX0_partOf_7 ⟨Nat.zero_le _, Nat.zero_le _⟩ (fun x2 hw => ?_)
  refine lv_iload_n hx hb dX0_partOf_10 rfl (lv_at hl 2 rfl) ?_
  refine lv_ishr hx hb dX0_partOf_11 ?_
  refine lv_iload_n hx hb dX0_partOf_12 rfl (lv_at hl 0 rfl) ?_
  refine lv_iand hx hb dX0_partOf_13 ?_
  refine lv_iload_n hx hb dX0_partOf_14 rfl (lv_at hl 1 rfl) ?_
  refine S_calli (As := [.int a1]) (rest := [.int ((x2 >>> (a2 &&& 31)) &&& x1)]) ⟨hx, hb, hml, hown, hts⟩ (c_X0_shadowOf l a1 _ hw) (va_cwS 1 hts gX0_partOf_X0_shadowOf rfl rfl rfl (by decide +kernel) ⟨Nat.le_of_ble_eq_true rfl, Nat.le_of_ble_eq_true rfl⟩) rfl hl.1 rfl (Nat.le_of_ble_eq_true rfl) dX0_partOf_15 ⟨Nat.zero_le _, Nat.zero_le _⟩ (fun x3 hw => ?_)
  refine lv_iload_n hx hb dX0_partOf_18 rfl (lv_at hl 2 rfl) ?_
  refine lv_ishr hx hb dX0_partOf_19 ?_
  refine lv_iload_n hx hb dX0_partOf_20 rfl (lv_at hl 0 rfl) ?_
  refine lv_iand hx hb dX0_partOf_21 ?_
  refine lv_iload_n hx hb dX0_partOf_22 rfl (lv_at hl 1 rfl) ?_
  refine S_calli (As := [.int a1]) (rest := [.int ((x3 >>> (a2 &&& 31)) &&& x1), .int ((x2 >>> (a2 &&& 31)) &&& x1)]) ⟨hx, hb, hml, hown, hts⟩ (c_X0_fromOf l a1 _ hw) (va_cwS 1 hts gX0_partOf_X0_fromOf rfl rfl rfl (by decide +kernel) ⟨Nat.le_of_ble_eq_true rfl, Nat.le_of_ble_eq_true rfl⟩) rfl hl.1 rfl (Nat.le_of_ble_eq_true rfl) dX0_partOf_23 ⟨Nat.zero_le _, Nat.zero_le _⟩ (fun x4 hw => ?_)
  refine S_calli (As := [.int ((x2 >>> (a2 &&& 31)) &&& x1), .int ((x3 >>> (a2 &&& 31)) &&& x1), .int x4]) (rest := []) ⟨hx, hb, hml, hown, hts⟩ (c_X0_of l ((x2 >>> (a2 &&& 31)) &&& x1) ((x3 >>> (a2 &&& 31)) &&& x1) x4 _ hw) (va_cwS 3 hts gX0_partOf_X0_of rfl rfl rfl (by decide +kernel) ⟨Nat.le_of_ble_eq_true rfl, Nat.le_of_ble_eq_true rfl⟩) rfl hl.1 rfl (Nat.le_of_ble_eq_true rfl) dX0_partOf_26 ⟨Nat.zero_le _, Nat.zero_le _⟩ (fun x5 hw => ?_)
  exact S_iret hx hb hr hlocks hw dX0_partOf_29

def wp_X7_octetSet (a1 : Int32) (a2 : Int32) (K : Int32 → Prop) : Prop :=
  K ((((1 : Int32) <<< (a2 &&& 31)) - (1 : Int32)) <<< (a1 &&& 31))
set_option maxHeartbeats 4000000 in
set_option maxRecDepth 100000 in
theorem c_X7_octetSet (l : Launch) (a1 : Int32) (a2 : Int32) (K : Int32 → Prop) (hw : wp_X7_octetSet a1 a2 K) : Met l yX7_octetSet wsX7_octetSet ({ frames := 0, cells := 0, slots := 0, locals := 0 }) (va_Pc [.int a1, .int a2] (fun _ => True)) (vp_Si K) 0 0 (fun _ => False) := by
  refine Met.ofW (cc := cX7_octetSet) (maxL := 2) (ret := (some .int)) (by decide) rfl ?_
  intro p e s m args below meth c s₁ B hml hv
  obtain ⟨rfl, -⟩ := hv
  have hx := B.exec
  have hb := B.bytes
  have hr := B.returns
  have hts := atoms_spec (ws := wsX7_octetSet) B.pre
  have hown : s.vm.findClass RX7 = some m.cls := findClass_of_methodNamed B.named
  have hlocks := B.notSynchronized
  have hl := lv_entry ([.int a1, .int a2]) (n := 2) (Nat.le_of_ble_eq_true rfl)
  rw [lg_entry_eq]
  generalize (lg_sl ([.int a1, .int a2]) ++ List.replicate (2 - (lg_sl ([.int a1, .int a2])).length) Slot.unset).toArray = ls at hl ⊢
  have hl : lv_has ls 2 [(0, .int a1), (1, .int a2)] := hl
  refine lv_iconst (v := 1) hx hb dX7_octetSet_0 (by decide) ?_
  refine lv_iload_n hx hb dX7_octetSet_1 rfl (lv_at hl 1 rfl) ?_
  refine lv_ishl hx hb dX7_octetSet_2 ?_
  refine lv_iconst (v := 1) hx hb dX7_octetSet_3 (by decide) ?_
  refine lv_isub hx hb dX7_octetSet_4 ?_
  refine lv_iload_n hx hb dX7_octetSet_5 rfl (lv_at hl 0 rfl) ?_
  refine lv_ishl hx hb dX7_octetSet_6 ?_
  exact S_iret hx hb hr hlocks hw dX7_octetSet_7

def wp_X7_isSort (a1 : Int32) (K : Int32 → Prop) : Prop :=
  ((a1 < 0 → K (0 : Int32)) ∧ (¬ a1 < 0 → (((7 : Int32) ≤ a1 → K (0 : Int32)) ∧ (¬ (7 : Int32) ≤ a1 → K (1 : Int32)))))
set_option maxHeartbeats 4000000 in
set_option maxRecDepth 100000 in
theorem c_X7_isSort (l : Launch) (a1 : Int32) (K : Int32 → Prop) (hw : wp_X7_isSort a1 K) : Met l yX7_isSort wsX7_isSort ({ frames := 0, cells := 0, slots := 0, locals := 0 }) (va_Pc [.int a1] (fun _ => True)) (vp_Si K) 0 0 (fun _ => False) := by
  refine Met.ofW (cc := cX7_isSort) (maxL := 1) (ret := (some .boolean)) (by decide) rfl ?_
  intro p e s m args below meth c s₁ B hml hv
  obtain ⟨rfl, -⟩ := hv
  have hx := B.exec
  have hb := B.bytes
  have hr := B.returns
  have hts := atoms_spec (ws := wsX7_isSort) B.pre
  have hown : s.vm.findClass RX7 = some m.cls := findClass_of_methodNamed B.named
  have hlocks := B.notSynchronized
  have hl := lv_entry ([.int a1]) (n := 1) (Nat.le_of_ble_eq_true rfl)
  rw [lg_entry_eq]
  generalize (lg_sl ([.int a1]) ++ List.replicate (1 - (lg_sl ([.int a1])).length) Slot.unset).toArray = ls at hl ⊢
  have hl : lv_has ls 1 [(0, .int a1)] := hl
  refine lv_iload_n hx hb dX7_isSort_0 rfl (lv_at hl 0 rfl) ?_
  refine lv_if_lt (tgt := 14) hx hb dX7_isSort_1 (by decide) (fun c9 => ?_) (fun c9 => ?_)
  · have hw := hw.1 c9
    refine lv_iconst (v := 0) hx hb dX7_isSort_14 (by decide) ?_
    exact S_zret hx hb hr hlocks rfl hw dX7_isSort_15
  · have hw := hw.2 c9
    refine lv_iload_n hx hb dX7_isSort_4 rfl (lv_at hl 0 rfl) ?_
    refine lv_bipush (v := 7) hx hb dX7_isSort_5 (by decide) ?_
    refine lv_icmp_ge (tgt := 14) hx hb dX7_isSort_7 (by decide) (fun c9 => ?_) (fun c9 => ?_)
    · have hw := hw.1 c9
      refine lv_iconst (v := 0) hx hb dX7_isSort_14 (by decide) ?_
      exact S_zret hx hb hr hlocks rfl hw dX7_isSort_15
    · have hw := hw.2 c9
      refine lv_iconst (v := 1) hx hb dX7_isSort_10 (by decide) ?_
      refine lv_goto (tgt := 15) hx hb dX7_isSort_11 (by decide) ?_
      exact S_zret hx hb hr hlocks rfl hw dX7_isSort_15

def wp_X6_valueBy (a1 : Int32) (a2 : Int32) (a3 : Int32) (K : Int32 → Prop) : Prop :=
  ((a1 = (0 : Int32) → K (a2 &&& a3)) ∧ (¬ a1 = (0 : Int32) → ((a1 = (1 : Int32) → K (a2 ||| a3)) ∧ (¬ a1 = (1 : Int32) → ((a1 = (2 : Int32) → K (a2 ^^^ a3)) ∧ (¬ a1 = (2 : Int32) → ((a1 = (3 : Int32) → K ((a2 + a3) &&& (255 : Int32))) ∧ (¬ a1 = (3 : Int32) → ((a1 = (4 : Int32) → K ((a2 - a3) &&& (255 : Int32))) ∧ (¬ a1 = (4 : Int32) → ((a1 = (5 : Int32) → K ((a2 <<< ((a3 &&& (7 : Int32)) &&& 31)) &&& (255 : Int32))) ∧ (¬ a1 = (5 : Int32) → K (a2 >>> ((a3 &&& (7 : Int32)) &&& 31))))))))))))))
set_option maxHeartbeats 4000000 in
set_option maxRecDepth 100000 in
theorem c_X6_valueBy (l : Launch) (a1 : Int32) (a2 : Int32) (a3 : Int32) (K : Int32 → Prop) (hw : wp_X6_valueBy a1 a2 a3 K) : Met l yX6_valueBy wsX6_valueBy ({ frames := 0, cells := 0, slots := 0, locals := 0 }) (va_Pc [.int a1, .int a2, .int a3] (fun _ => True)) (vp_Si K) 0 0 (fun _ => False) := by
  refine Met.ofW (cc := cX6_valueBy) (maxL := 3) (ret := (some .int)) (by decide) rfl ?_
  intro p e s m args below meth c s₁ B hml hv
  obtain ⟨rfl, -⟩ := hv
  have hx := B.exec
  have hb := B.bytes
  have hr := B.returns
  have hts := atoms_spec (ws := wsX6_valueBy) B.pre
  have hown : s.vm.findClass RX6 = some m.cls := findClass_of_methodNamed B.named
  have hlocks := B.notSynchronized
  have hl := lv_entry ([.int a1, .int a2, .int a3]) (n := 3) (Nat.le_of_ble_eq_true rfl)
  rw [lg_entry_eq]
  generalize (lg_sl ([.int a1, .int a2, .int a3]) ++ List.replicate (3 - (lg_sl ([.int a1, .int a2, .int a3])).length) Slot.unset).toArray = ls at hl ⊢
  have hl : lv_has ls 3 [(0, .int a1), (1, .int a2), (2, .int a3)] := hl
  refine lv_iload_n hx hb dX6_valueBy_0 rfl (lv_at hl 0 rfl) ?_
  by_cases q0 : a1 = (0 : Int32)
  · have hw := hw.1 q0
    refine lv_tableIn (off := 39) (tgt := 40) hx hb dX6_valueBy_1 (by rw [q0]; decide) (by rw [q0]; decide) (by rw [q0]; rfl) (by decide) ?_
    refine lv_iload_n hx hb dX6_valueBy_40 rfl (lv_at hl 1 rfl) ?_
    refine lv_iload_n hx hb dX6_valueBy_41 rfl (lv_at hl 2 rfl) ?_
    refine lv_iand hx hb dX6_valueBy_42 ?_
    exact S_iret hx hb hr hlocks hw dX6_valueBy_43
  · have hw := hw.2 q0
    by_cases q1 : a1 = (1 : Int32)
    · have hw := hw.1 q1
      refine lv_tableIn (off := 43) (tgt := 44) hx hb dX6_valueBy_1 (by rw [q1]; decide) (by rw [q1]; decide) (by rw [q1]; rfl) (by decide) ?_
      refine lv_iload_n hx hb dX6_valueBy_44 rfl (lv_at hl 1 rfl) ?_
      refine lv_iload_n hx hb dX6_valueBy_45 rfl (lv_at hl 2 rfl) ?_
      refine lv_ior hx hb dX6_valueBy_46 ?_
      exact S_iret hx hb hr hlocks hw dX6_valueBy_47
    · have hw := hw.2 q1
      by_cases q2 : a1 = (2 : Int32)
      · have hw := hw.1 q2
        refine lv_tableIn (off := 47) (tgt := 48) hx hb dX6_valueBy_1 (by rw [q2]; decide) (by rw [q2]; decide) (by rw [q2]; rfl) (by decide) ?_
        refine lv_iload_n hx hb dX6_valueBy_48 rfl (lv_at hl 1 rfl) ?_
        refine lv_iload_n hx hb dX6_valueBy_49 rfl (lv_at hl 2 rfl) ?_
        refine lv_ixor hx hb dX6_valueBy_50 ?_
        exact S_iret hx hb hr hlocks hw dX6_valueBy_51
      · have hw := hw.2 q2
        by_cases q3 : a1 = (3 : Int32)
        · have hw := hw.1 q3
          refine lv_tableIn (off := 51) (tgt := 52) hx hb dX6_valueBy_1 (by rw [q3]; decide) (by rw [q3]; decide) (by rw [q3]; rfl) (by decide) ?_
          refine lv_iload_n hx hb dX6_valueBy_52 rfl (lv_at hl 1 rfl) ?_
          refine lv_iload_n hx hb dX6_valueBy_53 rfl (lv_at hl 2 rfl) ?_
          refine lv_iadd hx hb dX6_valueBy_54 ?_
          refine lv_sipush (v := 255) hx hb dX6_valueBy_55 (by decide) ?_
          refine lv_iand hx hb dX6_valueBy_58 ?_
          exact S_iret hx hb hr hlocks hw dX6_valueBy_59
        · have hw := hw.2 q3
          by_cases q4 : a1 = (4 : Int32)
          · have hw := hw.1 q4
            refine lv_tableIn (off := 59) (tgt := 60) hx hb dX6_valueBy_1 (by rw [q4]; decide) (by rw [q4]; decide) (by rw [q4]; rfl) (by decide) ?_
            refine lv_iload_n hx hb dX6_valueBy_60 rfl (lv_at hl 1 rfl) ?_
            refine lv_iload_n hx hb dX6_valueBy_61 rfl (lv_at hl 2 rfl) ?_
            refine lv_isub hx hb dX6_valueBy_62 ?_
            refine lv_sipush (v := 255) hx hb dX6_valueBy_63 (by decide) ?_
            refine lv_iand hx hb dX6_valueBy_66 ?_
            exact S_iret hx hb hr hlocks hw dX6_valueBy_67
          · have hw := hw.2 q4
            by_cases q5 : a1 = (5 : Int32)
            · have hw := hw.1 q5
              refine lv_tableIn (off := 67) (tgt := 68) hx hb dX6_valueBy_1 (by rw [q5]; decide) (by rw [q5]; decide) (by rw [q5]; rfl) (by decide) ?_
              refine lv_iload_n hx hb dX6_valueBy_68 rfl (lv_at hl 1 rfl) ?_
              refine lv_iload_n hx hb dX6_valueBy_69 rfl (lv_at hl 2 rfl) ?_
              refine lv_bipush (v := 7) hx hb dX6_valueBy_70 (by decide) ?_
              refine lv_iand hx hb dX6_valueBy_72 ?_
              refine lv_ishl hx hb dX6_valueBy_73 ?_
              refine lv_sipush (v := 255) hx hb dX6_valueBy_74 (by decide) ?_
              refine lv_iand hx hb dX6_valueBy_77 ?_
              exact S_iret hx hb hr hlocks hw dX6_valueBy_78
            · have hw := hw.2 q5
              have r0 := lv_neT q0 (a := 0) (by decide)
              have r1 := lv_neT q1 (a := 1) (by decide)
              have r2 := lv_neT q2 (a := 2) (by decide)
              have r3 := lv_neT q3 (a := 3) (by decide)
              have r4 := lv_neT q4 (a := 4) (by decide)
              have r5 := lv_neT q5 (a := 5) (by decide)
              refine lv_tableOut (tgt := 79) hx hb dX6_valueBy_1 (by omega) (by decide) ?_
              refine lv_iload_n hx hb dX6_valueBy_79 rfl (lv_at hl 1 rfl) ?_
              refine lv_iload_n hx hb dX6_valueBy_80 rfl (lv_at hl 2 rfl) ?_
              refine lv_bipush (v := 7) hx hb dX6_valueBy_81 (by decide) ?_
              refine lv_iand hx hb dX6_valueBy_83 ?_
              refine lv_ishr hx hb dX6_valueBy_84 ?_
              exact S_iret hx hb hr hlocks hw dX6_valueBy_85

def wp_X6_shadowBy (a1 : Int32) (a2 : Int32) (a3 : Int32) (a4 : Int32) (a5 : Int32) (K : Int32 → Prop) : Prop :=
  ∀ x1 : Int32, x1 = a2 &&& (a3 ^^^ (-1 : Int32)) → ∀ x2 : Int32, x2 = a2 ||| a3 → ∀ x3 : Int32, x3 = a4 &&& (a5 ^^^ (-1 : Int32)) → ∀ x4 : Int32, x4 = a4 ||| a5 → ((a1 = (0 : Int32) → K (((a3 ||| a5) &&& x2) &&& x4)) ∧ (¬ a1 = (0 : Int32) → ((a1 = (1 : Int32) → K (((a3 ||| a5) &&& (x1 ^^^ (-1 : Int32))) &&& (x3 ^^^ (-1 : Int32)))) ∧ (¬ a1 = (1 : Int32) → ((a1 = (2 : Int32) → K (a3 ||| a5)) ∧ (¬ a1 = (2 : Int32) → ((a1 = (3 : Int32) → K (((((x1 + x3) ^^^ (x2 + x4)) ||| a3) ||| a5) &&& (255 : Int32))) ∧ (¬ a1 = (3 : Int32) → ((a1 = (4 : Int32) → K (((((x1 - x4) ^^^ (x2 - x3)) ||| a3) ||| a5) &&& (255 : Int32))) ∧ (¬ a1 = (4 : Int32) → (((a5 &&& (7 : Int32)) = 0 → wp_X6_valueBy a1 a3 a4 (fun x5 => K x5)) ∧ (¬ (a5 &&& (7 : Int32)) = 0 → K (255 : Int32)))))))))))))
set_option maxHeartbeats 4000000 in
set_option maxRecDepth 100000 in
theorem c_X6_shadowBy (l : Launch) (a1 : Int32) (a2 : Int32) (a3 : Int32) (a4 : Int32) (a5 : Int32) (K : Int32 → Prop) (hw : wp_X6_shadowBy a1 a2 a3 a4 a5 K) : Met l yX6_shadowBy wsX6_shadowBy ({ frames := 1, cells := 0, slots := 0, locals := 22 }) (va_Pc [.int a1, .int a2, .int a3, .int a4, .int a5] (fun _ => True)) (vp_Si K) 0 0 (fun _ => False) := by
  refine Met.ofW (cc := cX6_shadowBy) (maxL := 9) (ret := (some .int)) (by decide) rfl ?_
  intro p e s m args below meth c s₁ B hml hv
  obtain ⟨rfl, -⟩ := hv
  have hx := B.exec
  have hb := B.bytes
  have hr := B.returns
  have hts := atoms_spec (ws := wsX6_shadowBy) B.pre
  have hown : s.vm.findClass RX6 = some m.cls := findClass_of_methodNamed B.named
  have hlocks := B.notSynchronized
  have hl := lv_entry ([.int a1, .int a2, .int a3, .int a4, .int a5]) (n := 9) (Nat.le_of_ble_eq_true rfl)
  rw [lg_entry_eq]
  generalize (lg_sl ([.int a1, .int a2, .int a3, .int a4, .int a5]) ++ List.replicate (9 - (lg_sl ([.int a1, .int a2, .int a3, .int a4, .int a5])).length) Slot.unset).toArray = ls at hl ⊢
  have hl : lv_has ls 9 [(0, .int a1), (1, .int a2), (2, .int a3), (3, .int a4), (4, .int a5)] := hl
  refine lv_iload_n hx hb dX6_shadowBy_0 rfl (lv_at hl 1 rfl) ?_
  refine lv_iload_n hx hb dX6_shadowBy_1 rfl (lv_at hl 2 rfl) ?_
  refine lv_iconst (v := -1) hx hb dX6_shadowBy_2 (by decide) ?_
  refine lv_ixor hx hb dX6_shadowBy_3 ?_
  refine lv_iand hx hb dX6_shadowBy_4 ?_
  refine lv_topi (fun x1 ex1 => ?_)
  have hw := hw x1 ex1
  refine lv_istore (lv' := [(5, .int x1), (0, .int a1), (1, .int a2), (2, .int a3), (3, .int a4), (4, .int a5)]) hx hb dX6_shadowBy_5 hl (by decide) rfl (fun ls hl => ?_)
  refine lv_iload_n hx hb dX6_shadowBy_7 rfl (lv_at hl 2 rfl) ?_
  refine lv_iload_n hx hb dX6_shadowBy_8 rfl (lv_at hl 3 rfl) ?_
  refine lv_ior hx hb dX6_shadowBy_9 ?_
  refine lv_topi (fun x2 ex2 => ?_)
  have hw := hw x2 ex2
  refine lv_istore (lv' := [(6, .int x2), (5, .int x1), (0, .int a1), (1, .int a2), (2, .int a3), (3, .int a4), (4, .int a5)]) hx hb dX6_shadowBy_10 hl (by decide) rfl (fun ls hl => ?_)
  refine lv_iload_n hx hb dX6_shadowBy_12 rfl (lv_at hl 5 rfl) ?_
  refine lv_iload hx hb dX6_shadowBy_13 (lv_at hl 6 rfl) ?_
  refine lv_iconst (v := -1) hx hb dX6_shadowBy_15 (by decide) ?_
  refine lv_ixor hx hb dX6_shadowBy_16 ?_
  refine lv_iand hx hb dX6_shadowBy_17 ?_
  refine lv_topi (fun x3 ex3 => ?_)
  have hw := hw x3 ex3
  refine lv_istore (lv' := [(7, .int x3), (6, .int x2), (5, .int x1), (0, .int a1), (1, .int a2), (2, .int a3), (3, .int a4), (4, .int a5)]) hx hb dX6_shadowBy_18 hl (by decide) rfl (fun ls hl => ?_)
  refine lv_iload_n hx hb dX6_shadowBy_20 rfl (lv_at hl 6 rfl) ?_
  refine lv_iload hx hb dX6_shadowBy_21 (lv_at hl 7 rfl) ?_
  refine lv_ior hx hb dX6_shadowBy_23 ?_
  refine lv_topi (fun x4 ex4 => ?_)
  have hw := hw x4 ex4
  refine lv_istore (lv' := [(8, .int x4), (7, .int x3), (6, .int x2), (5, .int x1), (0, .int a1), (1, .int a2), (2, .int a3), (3, .int a4), (4, .int a5)]) hx hb dX6_shadowBy_24 hl (by decide) rfl (fun ls hl => ?_)
  refine lv_iload_n hx hb dX6_shadowBy_26 rfl (lv_at hl 4 rfl) ?_
  by_cases q0 : a1 = (0 : Int32)
  · have hw := hw.1 q0
    refine lv_tableIn (off := 33) (tgt := 60) hx hb dX6_shadowBy_27 (by rw [q0]; decide) (by rw [q0]; decide) (by rw [q0]; rfl) (by decide) ?_
    refine lv_iload_n hx hb dX6_shadowBy_60 rfl (lv_at hl 6 rfl) ?_
    refine lv_iload hx hb dX6_shadowBy_61 (lv_at hl 8 rfl) ?_
    refine lv_ior hx hb dX6_shadowBy_63 ?_
    refine lv_iload hx hb dX6_shadowBy_64 (lv_at hl 2 rfl) ?_
    refine lv_iand hx hb dX6_shadowBy_66 ?_
    refine lv_iload hx hb dX6_shadowBy_67 (lv_at hl 0 rfl) ?_
    refine lv_iand hx hb dX6_shadowBy_69 ?_
    exact S_iret hx hb hr hlocks hw dX6_shadowBy_70
  · have hw := hw.2 q0
    by_cases q1 : a1 = (1 : Int32)
    · have hw := hw.1 q1
      refine lv_tableIn (off := 44) (tgt := 71) hx hb dX6_shadowBy_27 (by rw [q1]; decide) (by rw [q1]; decide) (by rw [q1]; rfl) (by decide) ?_
      refine lv_iload_n hx hb dX6_shadowBy_71 rfl (lv_at hl 6 rfl) ?_
      refine lv_iload hx hb dX6_shadowBy_72 (lv_at hl 8 rfl) ?_
      refine lv_ior hx hb dX6_shadowBy_74 ?_
      refine lv_iload hx hb dX6_shadowBy_75 (lv_at hl 3 rfl) ?_
      refine lv_iconst (v := -1) hx hb dX6_shadowBy_77 (by decide) ?_
      refine lv_ixor hx hb dX6_shadowBy_78 ?_
      refine lv_iand hx hb dX6_shadowBy_79 ?_
      refine lv_iload hx hb dX6_shadowBy_80 (lv_at hl 1 rfl) ?_
      refine lv_iconst (v := -1) hx hb dX6_shadowBy_82 (by decide) ?_
      refine lv_ixor hx hb dX6_shadowBy_83 ?_
      refine lv_iand hx hb dX6_shadowBy_84 ?_
      exact S_iret hx hb hr hlocks hw dX6_shadowBy_85
    · have hw := hw.2 q1
      by_cases q2 : a1 = (2 : Int32)
      · have hw := hw.1 q2
        refine lv_tableIn (off := 59) (tgt := 86) hx hb dX6_shadowBy_27 (by rw [q2]; decide) (by rw [q2]; decide) (by rw [q2]; rfl) (by decide) ?_
        refine lv_iload_n hx hb dX6_shadowBy_86 rfl (lv_at hl 6 rfl) ?_
        refine lv_iload hx hb dX6_shadowBy_87 (lv_at hl 8 rfl) ?_
        refine lv_ior hx hb dX6_shadowBy_89 ?_
        exact S_iret hx hb hr hlocks hw dX6_shadowBy_90
      · have hw := hw.2 q2
        by_cases q3 : a1 = (3 : Int32)
        · have hw := hw.1 q3
          refine lv_tableIn (off := 64) (tgt := 91) hx hb dX6_shadowBy_27 (by rw [q3]; decide) (by rw [q3]; decide) (by rw [q3]; rfl) (by decide) ?_
          refine lv_iload hx hb dX6_shadowBy_91 (lv_at hl 3 rfl) ?_
          refine lv_iload hx hb dX6_shadowBy_93 (lv_at hl 1 rfl) ?_
          refine lv_iadd hx hb dX6_shadowBy_95 ?_
          refine lv_iload hx hb dX6_shadowBy_96 (lv_at hl 2 rfl) ?_
          refine lv_iload hx hb dX6_shadowBy_98 (lv_at hl 0 rfl) ?_
          refine lv_iadd hx hb dX6_shadowBy_100 ?_
          refine lv_ixor hx hb dX6_shadowBy_101 ?_
          refine lv_iload_n hx hb dX6_shadowBy_102 rfl (lv_at hl 6 rfl) ?_
          refine lv_ior hx hb dX6_shadowBy_103 ?_
          refine lv_iload hx hb dX6_shadowBy_104 (lv_at hl 8 rfl) ?_
          refine lv_ior hx hb dX6_shadowBy_106 ?_
          refine lv_sipush (v := 255) hx hb dX6_shadowBy_107 (by decide) ?_
          refine lv_iand hx hb dX6_shadowBy_110 ?_
          exact S_iret hx hb hr hlocks hw dX6_shadowBy_111
        · have hw := hw.2 q3
          by_cases q4 : a1 = (4 : Int32)
          · have hw := hw.1 q4
            refine lv_tableIn (off := 85) (tgt := 112) hx hb dX6_shadowBy_27 (by rw [q4]; decide) (by rw [q4]; decide) (by rw [q4]; rfl) (by decide) ?_
            refine lv_iload hx hb dX6_shadowBy_112 (lv_at hl 3 rfl) ?_
            refine lv_iload hx hb dX6_shadowBy_114 (lv_at hl 0 rfl) ?_
            refine lv_isub hx hb dX6_shadowBy_116 ?_
            refine lv_iload hx hb dX6_shadowBy_117 (lv_at hl 2 rfl) ?_
            refine lv_iload hx hb dX6_shadowBy_119 (lv_at hl 1 rfl) ?_
            refine lv_isub hx hb dX6_shadowBy_121 ?_
            refine lv_ixor hx hb dX6_shadowBy_122 ?_
            refine lv_iload_n hx hb dX6_shadowBy_123 rfl (lv_at hl 6 rfl) ?_
            refine lv_ior hx hb dX6_shadowBy_124 ?_
            refine lv_iload hx hb dX6_shadowBy_125 (lv_at hl 8 rfl) ?_
            refine lv_ior hx hb dX6_shadowBy_127 ?_
            refine lv_sipush (v := 255) hx hb dX6_shadowBy_128 (by decide) ?_
            refine lv_iand hx hb dX6_shadowBy_131 ?_
            exact S_iret hx hb hr hlocks hw dX6_shadowBy_132
          · have hw := hw.2 q4
            have r0 := lv_neT q0 (a := 0) (by decide)
            have r1 := lv_neT q1 (a := 1) (by decide)
            have r2 := lv_neT q2 (a := 2) (by decide)
            have r3 := lv_neT q3 (a := 3) (by decide)
            have r4 := lv_neT q4 (a := 4) (by decide)
            refine lv_tableOut (tgt := 133) hx hb dX6_shadowBy_27 (by omega) (by decide) ?_
            refine lv_iload hx hb dX6_shadowBy_133 (lv_at hl 8 rfl) ?_
            refine lv_bipush (v := 7) hx hb dX6_shadowBy_135 (by decide) ?_
            refine lv_iand hx hb dX6_shadowBy_137 ?_
            refine lv_if_eq (tgt := 147) hx hb dX6_shadowBy_138 (by decide) (fun c9 => ?_) (fun c9 => ?_)
            · have hw := hw.1 c9
              refine lv_iload_n hx hb dX6_shadowBy_147 rfl (lv_at hl 4 rfl) ?_
              refine lv_iload_n hx hb dX6_shadowBy_148 rfl (lv_at hl 6 rfl) ?_
              refine lv_iload_n hx hb dX6_shadowBy_149 rfl (lv_at hl 7 rfl) ?_
              refine S_calli (As := [.int a1, .int a3, .int a4]) (rest := []) ⟨hx, hb, hml, hown, hts⟩ (c_X6_valueBy l a1 a3 a4 _ hw) (va_cwS 3 hts gX6_shadowBy_X6_valueBy rfl rfl rfl (by decide +kernel) ⟨Nat.le_of_ble_eq_true rfl, Nat.le_of_ble_eq_true rfl⟩) rfl hl.1 rfl (Nat.le_of_ble_eq_true rfl) dX6_shadowBy_150 ⟨Nat.zero_le _, Nat.zero_le _⟩ (fun x5 hw => ?_)
              exact S_iret hx hb hr hlocks hw dX6_shadowBy_153
            · have hw := hw.2 c9
              refine lv_sipush (v := 255) hx hb dX6_shadowBy_141 (by decide) ?_
              refine lv_goto (tgt := 153) hx hb dX6_shadowBy_144 (by decide) ?_
              exact S_iret hx hb hr hlocks hw dX6_shadowBy_153

def wl_X6_exactShift_11 (K : Int32 → Prop) : Nat → Int32 → Int32 → Int32 → Int32 → Int32 → Int32 → Int32 → Int32 → Prop
  | 0, _, _, _, _, _, _, _, _ => False
  | n + 1, v0, v1, v2, v3, v4, v5, v6, v7 => (((7 : Int32) < v7 → K (v5 &&& (v6 ^^^ (-1 : Int32)))) ∧ (¬ (7 : Int32) < v7 → ((¬ (((v7 ^^^ v3) &&& (v4 ^^^ (-1 : Int32))) &&& (7 : Int32)) = 0 → ∀ x1 : Int32, x1 = v7 + 1 → wl_X6_exactShift_11 K n v0 v1 v2 v3 v4 v5 v6 x1) ∧ ((((v7 ^^^ v3) &&& (v4 ^^^ (-1 : Int32))) &&& (7 : Int32)) = 0 → wp_X6_valueBy v0 (v1 ||| v2) v7 (fun x2 => ∀ x3 : Int32, x3 = v5 ||| x2 → wp_X6_valueBy v0 (v1 &&& (v2 ^^^ (-1 : Int32))) v7 (fun x4 => ∀ x5 : Int32, x5 = v6 &&& x4 → ∀ x6 : Int32, x6 = v7 + 1 → wl_X6_exactShift_11 K n v0 v1 v2 v3 v4 x3 x5 x6))))))
def wp_X6_exactShift (a1 : Int32) (a2 : Int32) (a3 : Int32) (a4 : Int32) (a5 : Int32) (K : Int32 → Prop) : Prop :=
  (∃ nn : Nat, wl_X6_exactShift_11 K nn a1 a2 a3 a4 a5 (0 : Int32) (255 : Int32) (0 : Int32))
set_option maxHeartbeats 4000000 in
set_option maxRecDepth 100000 in
theorem c_X6_exactShift (l : Launch) (a1 : Int32) (a2 : Int32) (a3 : Int32) (a4 : Int32) (a5 : Int32) (K : Int32 → Prop) (hw : wp_X6_exactShift a1 a2 a3 a4 a5 K) : Met l yX6_exactShift wsX6_exactShift ({ frames := 1, cells := 0, slots := 0, locals := 22 }) (va_Pc [.int a1, .int a2, .int a3, .int a4, .int a5] (fun _ => True)) (vp_Si K) 0 0 (fun _ => False) := by
  refine Met.ofW (cc := cX6_exactShift) (maxL := 9) (ret := (some .int)) (by decide) rfl ?_
  intro p e s m args below meth c s₁ B hml hv
  obtain ⟨rfl, -⟩ := hv
  have hx := B.exec
  have hb := B.bytes
  have hr := B.returns
  have hts := atoms_spec (ws := wsX6_exactShift) B.pre
  have hown : s.vm.findClass RX6 = some m.cls := findClass_of_methodNamed B.named
  have hlocks := B.notSynchronized
  have hwl_X6_exactShift_11 : ∀ (n : Nat) (v0 : Int32) (v1 : Int32) (v2 : Int32) (v3 : Int32) (v4 : Int32) (v5 : Int32) (v6 : Int32) (v7 : Int32), wl_X6_exactShift_11 K n v0 v1 v2 v3 v4 v5 v6 v7 → ∀ ls : Array Slot, lv_has ls 9 [(0, .int v0), (1, .int v1), (2, .int v2), (3, .int v3), (4, .int v4), (5, .int v5), (6, .int v6), (7, .int v7)] → W p l e (headSpec wsX6_exactShift ({ frames := 1, cells := 0, slots := 0, locals := 22 })).room s m ([.int a1, .int a2, .int a3, .int a4, .int a5] : List Value).toArray below meth c s.heap [] 0 0 (MQ below (vp_Si K) ([.int a1, .int a2, .int a3, .int a4, .int a5] : List Value).toArray s 0 0 (fun _ => False)) (F0 m 11 ls []) := by
    intro n
    induction n with
    | zero => intro v0 v1 v2 v3 v4 v5 v6 v7 hw; exact hw.elim
    | succ n ih =>
      intro v0 v1 v2 v3 v4 v5 v6 v7 hw ls hl
      refine lv_iload hx hb dX6_exactShift_11 (lv_at hl 7 rfl) ?_
      refine lv_bipush (v := 7) hx hb dX6_exactShift_13 (by decide) ?_
      refine lv_icmp_gt (tgt := 81) hx hb dX6_exactShift_15 (by decide) (fun c9 => ?_) (fun c9 => ?_)
      · have hw := hw.1 c9
        refine lv_iload hx hb dX6_exactShift_81 (lv_at hl 5 rfl) ?_
        refine lv_iload hx hb dX6_exactShift_83 (lv_at hl 6 rfl) ?_
        refine lv_iconst (v := -1) hx hb dX6_exactShift_85 (by decide) ?_
        refine lv_ixor hx hb dX6_exactShift_86 ?_
        refine lv_iand hx hb dX6_exactShift_87 ?_
        exact S_iret hx hb hr hlocks hw dX6_exactShift_88
      · have hw := hw.2 c9
        refine lv_iload hx hb dX6_exactShift_18 (lv_at hl 7 rfl) ?_
        refine lv_iload_n hx hb dX6_exactShift_20 rfl (lv_at hl 3 rfl) ?_
        refine lv_ixor hx hb dX6_exactShift_21 ?_
        refine lv_iload hx hb dX6_exactShift_22 (lv_at hl 4 rfl) ?_
        refine lv_iconst (v := -1) hx hb dX6_exactShift_24 (by decide) ?_
        refine lv_ixor hx hb dX6_exactShift_25 ?_
        refine lv_iand hx hb dX6_exactShift_26 ?_
        refine lv_bipush (v := 7) hx hb dX6_exactShift_27 (by decide) ?_
        refine lv_iand hx hb dX6_exactShift_29 ?_
        refine lv_if_ne (tgt := 37) hx hb dX6_exactShift_30 (by decide) (fun c9 => ?_) (fun c9 => ?_)
        · have hw := hw.1 c9
          refine lv_iconst (v := 0) hx hb dX6_exactShift_37 (by decide) ?_
          refine lv_istore (lv' := [(8, .int (0 : Int32)), (0, .int v0), (1, .int v1), (2, .int v2), (3, .int v3), (4, .int v4), (5, .int v5), (6, .int v6), (7, .int v7)]) hx hb dX6_exactShift_38 hl (by decide) rfl (fun ls hl => ?_)
          refine lv_iload hx hb dX6_exactShift_40 (lv_at hl 0 rfl) ?_
          refine lv_if_eq (tgt := 75) hx hb dX6_exactShift_42 (by decide) (fun _ => ?_) (fun c9 => absurd (by decide) c9)
          obtain ⟨x1, ex1⟩ : ∃ y : Int32, y = v7 + 1 := ⟨_, rfl⟩
          have hw := hw x1 ex1
          refine lv_iinc (v := x1) (lv' := [(7, .int x1), (8, .int (0 : Int32)), (0, .int v0), (1, .int v1), (2, .int v2), (3, .int v3), (4, .int v4), (5, .int v5), (6, .int v6)]) hx hb dX6_exactShift_75 hl (k := 8) rfl (by rw [ex1]; rfl) (by decide) rfl (fun ls hl => ?_)
          refine lv_goto (tgt := 11) hx hb dX6_exactShift_78 (by decide) ?_
          exact ih v0 v1 v2 v3 v4 v5 v6 x1 hw ls (lv_sub hl [2, 3, 4, 5, 6, 7, 8, 0] rfl)
        · have hw := hw.2 c9
          refine lv_iconst (v := 1) hx hb dX6_exactShift_33 (by decide) ?_
          refine lv_goto (tgt := 38) hx hb dX6_exactShift_34 (by decide) ?_
          refine lv_istore (lv' := [(8, .int (1 : Int32)), (0, .int v0), (1, .int v1), (2, .int v2), (3, .int v3), (4, .int v4), (5, .int v5), (6, .int v6), (7, .int v7)]) hx hb dX6_exactShift_38 hl (by decide) rfl (fun ls hl => ?_)
          refine lv_iload hx hb dX6_exactShift_40 (lv_at hl 0 rfl) ?_
          refine lv_if_eq (tgt := 75) hx hb dX6_exactShift_42 (by decide) (fun c9 => absurd c9 (by decide)) (fun _ => ?_)
          refine lv_iload hx hb dX6_exactShift_45 (lv_at hl 6 rfl) ?_
          refine lv_iload_n hx hb dX6_exactShift_47 rfl (lv_at hl 1 rfl) ?_
          refine lv_iload_n hx hb dX6_exactShift_48 rfl (lv_at hl 2 rfl) ?_
          refine lv_iload_n hx hb dX6_exactShift_49 rfl (lv_at hl 3 rfl) ?_
          refine lv_ior hx hb dX6_exactShift_50 ?_
          refine lv_iload hx hb dX6_exactShift_51 (lv_at hl 8 rfl) ?_
          refine S_calli (As := [.int v0, .int (v1 ||| v2), .int v7]) (rest := [.int v5]) ⟨hx, hb, hml, hown, hts⟩ (c_X6_valueBy l v0 (v1 ||| v2) v7 _ hw) (va_cwS 3 hts gX6_exactShift_X6_valueBy rfl rfl rfl (by decide +kernel) ⟨Nat.le_of_ble_eq_true rfl, Nat.le_of_ble_eq_true rfl⟩) rfl hl.1 rfl (Nat.le_of_ble_eq_true rfl) dX6_exactShift_53 ⟨Nat.zero_le _, Nat.zero_le _⟩ (fun x2 hw => ?_)
          refine lv_ior hx hb dX6_exactShift_56 ?_
          refine lv_topi (fun x3 ex3 => ?_)
          have hw := hw x3 ex3
          refine lv_istore (lv' := [(5, .int x3), (8, .int (1 : Int32)), (0, .int v0), (1, .int v1), (2, .int v2), (3, .int v3), (4, .int v4), (6, .int v6), (7, .int v7)]) hx hb dX6_exactShift_57 hl (by decide) rfl (fun ls hl => ?_)
          refine lv_iload hx hb dX6_exactShift_59 (lv_at hl 7 rfl) ?_
          refine lv_iload_n hx hb dX6_exactShift_61 rfl (lv_at hl 2 rfl) ?_
          refine lv_iload_n hx hb dX6_exactShift_62 rfl (lv_at hl 3 rfl) ?_
          refine lv_iload_n hx hb dX6_exactShift_63 rfl (lv_at hl 4 rfl) ?_
          refine lv_iconst (v := -1) hx hb dX6_exactShift_64 (by decide) ?_
          refine lv_ixor hx hb dX6_exactShift_65 ?_
          refine lv_iand hx hb dX6_exactShift_66 ?_
          refine lv_iload hx hb dX6_exactShift_67 (lv_at hl 8 rfl) ?_
          refine S_calli (As := [.int v0, .int (v1 &&& (v2 ^^^ (-1 : Int32))), .int v7]) (rest := [.int v6]) ⟨hx, hb, hml, hown, hts⟩ (c_X6_valueBy l v0 (v1 &&& (v2 ^^^ (-1 : Int32))) v7 _ hw) (va_cwS 3 hts gX6_exactShift_X6_valueBy rfl rfl rfl (by decide +kernel) ⟨Nat.le_of_ble_eq_true rfl, Nat.le_of_ble_eq_true rfl⟩) rfl hl.1 rfl (Nat.le_of_ble_eq_true rfl) dX6_exactShift_69 ⟨Nat.zero_le _, Nat.zero_le _⟩ (fun x4 hw => ?_)
          refine lv_iand hx hb dX6_exactShift_72 ?_
          refine lv_topi (fun x5 ex5 => ?_)
          have hw := hw x5 ex5
          refine lv_istore (lv' := [(6, .int x5), (5, .int x3), (8, .int (1 : Int32)), (0, .int v0), (1, .int v1), (2, .int v2), (3, .int v3), (4, .int v4), (7, .int v7)]) hx hb dX6_exactShift_73 hl (by decide) rfl (fun ls hl => ?_)
          obtain ⟨x6, ex6⟩ : ∃ y : Int32, y = v7 + 1 := ⟨_, rfl⟩
          have hw := hw x6 ex6
          refine lv_iinc (v := x6) (lv' := [(7, .int x6), (6, .int x5), (5, .int x3), (8, .int (1 : Int32)), (0, .int v0), (1, .int v1), (2, .int v2), (3, .int v3), (4, .int v4)]) hx hb dX6_exactShift_75 hl (k := 8) rfl (by rw [ex6]; rfl) (by decide) rfl (fun ls hl => ?_)
          refine lv_goto (tgt := 11) hx hb dX6_exactShift_78 (by decide) ?_
          exact ih v0 v1 v2 v3 v4 x3 x5 x6 hw ls (lv_sub hl [4, 5, 6, 7, 8, 2, 1, 0] rfl)
  have hl := lv_entry ([.int a1, .int a2, .int a3, .int a4, .int a5]) (n := 9) (Nat.le_of_ble_eq_true rfl)
  rw [lg_entry_eq]
  generalize (lg_sl ([.int a1, .int a2, .int a3, .int a4, .int a5]) ++ List.replicate (9 - (lg_sl ([.int a1, .int a2, .int a3, .int a4, .int a5])).length) Slot.unset).toArray = ls at hl ⊢
  have hl : lv_has ls 9 [(0, .int a1), (1, .int a2), (2, .int a3), (3, .int a4), (4, .int a5)] := hl
  refine lv_iconst (v := 0) hx hb dX6_exactShift_0 (by decide) ?_
  refine lv_istore (lv' := [(5, .int (0 : Int32)), (0, .int a1), (1, .int a2), (2, .int a3), (3, .int a4), (4, .int a5)]) hx hb dX6_exactShift_1 hl (by decide) rfl (fun ls hl => ?_)
  refine lv_sipush (v := 255) hx hb dX6_exactShift_3 (by decide) ?_
  refine lv_istore (lv' := [(6, .int (255 : Int32)), (5, .int (0 : Int32)), (0, .int a1), (1, .int a2), (2, .int a3), (3, .int a4), (4, .int a5)]) hx hb dX6_exactShift_6 hl (by decide) rfl (fun ls hl => ?_)
  refine lv_iconst (v := 0) hx hb dX6_exactShift_8 (by decide) ?_
  refine lv_istore (lv' := [(7, .int (0 : Int32)), (6, .int (255 : Int32)), (5, .int (0 : Int32)), (0, .int a1), (1, .int a2), (2, .int a3), (3, .int a4), (4, .int a5)]) hx hb dX6_exactShift_9 hl (by decide) rfl (fun ls hl => ?_)
  obtain ⟨nn, hw⟩ := hw
  exact hwl_X6_exactShift_11 nn a1 a2 a3 a4 a5 (0 : Int32) (255 : Int32) (0 : Int32) hw ls (lv_sub hl [3, 4, 5, 6, 7, 2, 1, 0] rfl)

def wp_X6_exactBy (a1 : Int32) (a2 : Int32) (a3 : Int32) (a4 : Int32) (a5 : Int32) (K : Int32 → Prop) : Prop :=
  (((5 : Int32) ≤ a1 → wp_X6_exactShift a1 a2 a3 a4 a5 (fun x1 => K x1)) ∧ (¬ (5 : Int32) ≤ a1 → wp_X6_shadowBy a1 a2 a3 a4 a5 (fun x2 => K x2)))
set_option maxHeartbeats 4000000 in
set_option maxRecDepth 100000 in
theorem c_X6_exactBy (l : Launch) (a1 : Int32) (a2 : Int32) (a3 : Int32) (a4 : Int32) (a5 : Int32) (K : Int32 → Prop) (hw : wp_X6_exactBy a1 a2 a3 a4 a5 K) : Met l yX6_exactBy wsX6_exactBy ({ frames := 2, cells := 0, slots := 0, locals := 50 }) (va_Pc [.int a1, .int a2, .int a3, .int a4, .int a5] (fun _ => True)) (vp_Si K) 0 0 (fun _ => False) := by
  refine Met.ofW (cc := cX6_exactBy) (maxL := 5) (ret := (some .int)) (by decide) rfl ?_
  intro p e s m args below meth c s₁ B hml hv
  obtain ⟨rfl, -⟩ := hv
  have hx := B.exec
  have hb := B.bytes
  have hr := B.returns
  have hts := atoms_spec (ws := wsX6_exactBy) B.pre
  have hown : s.vm.findClass RX6 = some m.cls := findClass_of_methodNamed B.named
  have hlocks := B.notSynchronized
  have hl := lv_entry ([.int a1, .int a2, .int a3, .int a4, .int a5]) (n := 5) (Nat.le_of_ble_eq_true rfl)
  rw [lg_entry_eq]
  generalize (lg_sl ([.int a1, .int a2, .int a3, .int a4, .int a5]) ++ List.replicate (5 - (lg_sl ([.int a1, .int a2, .int a3, .int a4, .int a5])).length) Slot.unset).toArray = ls at hl ⊢
  have hl : lv_has ls 5 [(0, .int a1), (1, .int a2), (2, .int a3), (3, .int a4), (4, .int a5)] := hl
  refine lv_iload_n hx hb dX6_exactBy_0 rfl (lv_at hl 0 rfl) ?_
  refine lv_iconst (v := 5) hx hb dX6_exactBy_1 (by decide) ?_
  refine lv_icmp_ge (tgt := 17) hx hb dX6_exactBy_2 (by decide) (fun c9 => ?_) (fun c9 => ?_)
  · have hw := hw.1 c9
    refine lv_iload_n hx hb dX6_exactBy_17 rfl (lv_at hl 0 rfl) ?_
    refine lv_iload_n hx hb dX6_exactBy_18 rfl (lv_at hl 1 rfl) ?_
    refine lv_iload_n hx hb dX6_exactBy_19 rfl (lv_at hl 2 rfl) ?_
    refine lv_iload_n hx hb dX6_exactBy_20 rfl (lv_at hl 3 rfl) ?_
    refine lv_iload hx hb dX6_exactBy_21 (lv_at hl 4 rfl) ?_
    refine S_calli (As := [.int a1, .int a2, .int a3, .int a4, .int a5]) (rest := []) ⟨hx, hb, hml, hown, hts⟩ (c_X6_exactShift l a1 a2 a3 a4 a5 _ hw) (va_cwS 5 hts gX6_exactBy_X6_exactShift rfl rfl rfl (by decide +kernel) ⟨Nat.le_of_ble_eq_true rfl, Nat.le_of_ble_eq_true rfl⟩) rfl hl.1 rfl (Nat.le_of_ble_eq_true rfl) dX6_exactBy_23 ⟨Nat.zero_le _, Nat.zero_le _⟩ (fun x1 hw => ?_)
    exact S_iret hx hb hr hlocks hw dX6_exactBy_26
  · have hw := hw.2 c9
    refine lv_iload_n hx hb dX6_exactBy_5 rfl (lv_at hl 0 rfl) ?_
    refine lv_iload_n hx hb dX6_exactBy_6 rfl (lv_at hl 1 rfl) ?_
    refine lv_iload_n hx hb dX6_exactBy_7 rfl (lv_at hl 2 rfl) ?_
    refine lv_iload_n hx hb dX6_exactBy_8 rfl (lv_at hl 3 rfl) ?_
    refine lv_iload hx hb dX6_exactBy_9 (lv_at hl 4 rfl) ?_
    refine S_calli (As := [.int a1, .int a2, .int a3, .int a4, .int a5]) (rest := []) ⟨hx, hb, hml, hown, hts⟩ (c_X6_shadowBy l a1 a2 a3 a4 a5 _ hw) (va_cwS 5 hts gX6_exactBy_X6_shadowBy rfl rfl rfl (by decide +kernel) ⟨Nat.le_of_ble_eq_true rfl, Nat.le_of_ble_eq_true rfl⟩) rfl hl.1 rfl (Nat.le_of_ble_eq_true rfl) dX6_exactBy_11 ⟨Nat.zero_le _, Nat.zero_le _⟩ (fun x2 hw => ?_)
    refine lv_goto (tgt := 26) hx hb dX6_exactBy_14 (by decide) ?_
    exact S_iret hx hb hr hlocks hw dX6_exactBy_26

def wp_J6_bitCount_0f7a4 (a1 : Int32) (K : Int32 → Prop) : Prop :=
  ∀ x1 : Int32, x1 = a1 - (((a1.toUInt32 >>> ((1 : Int32).toUInt32 &&& Int32.toUInt32 31)).toInt32) &&& (1431655765 : Int32)) → ∀ x2 : Int32, x2 = (x1 &&& (858993459 : Int32)) + (((x1.toUInt32 >>> ((2 : Int32).toUInt32 &&& Int32.toUInt32 31)).toInt32) &&& (858993459 : Int32)) → ∀ x3 : Int32, x3 = (x2 + ((x2.toUInt32 >>> ((4 : Int32).toUInt32 &&& Int32.toUInt32 31)).toInt32)) &&& (252645135 : Int32) → ∀ x4 : Int32, x4 = x3 + ((x3.toUInt32 >>> ((8 : Int32).toUInt32 &&& Int32.toUInt32 31)).toInt32) → ∀ x5 : Int32, x5 = x4 + ((x4.toUInt32 >>> ((16 : Int32).toUInt32 &&& Int32.toUInt32 31)).toInt32) → K (x5 &&& (63 : Int32))
set_option maxHeartbeats 4000000 in
set_option maxRecDepth 100000 in
theorem c_J6_bitCount_0f7a4 (l : Launch) (a1 : Int32) (K : Int32 → Prop) (hw : wp_J6_bitCount_0f7a4 a1 K) : Met l yJ6_bitCount_0f7a4 wsJ6_bitCount_0f7a4 ({ frames := 0, cells := 0, slots := 0, locals := 0 }) (va_Pc [.int a1] (fun _ => True)) (vp_Si K) 0 0 (fun _ => False) := by
  refine Met.ofW (cc := cJ6_bitCount_0f7a4) (maxL := 1) (ret := (some .int)) (by decide) rfl ?_
  intro p e s m args below meth c s₁ B hml hv
  obtain ⟨rfl, -⟩ := hv
  have hx := B.exec
  have hb := B.bytes
  have hr := B.returns
  have hts := atoms_spec (ws := wsJ6_bitCount_0f7a4) B.pre
  have hown : s.vm.findClass RJ6 = some m.cls := findClass_of_methodNamed B.named
  have hlocks := B.notSynchronized
  have hl := lv_entry ([.int a1]) (n := 1) (Nat.le_of_ble_eq_true rfl)
  rw [lg_entry_eq]
  generalize (lg_sl ([.int a1]) ++ List.replicate (1 - (lg_sl ([.int a1])).length) Slot.unset).toArray = ls at hl ⊢
  have hl : lv_has ls 1 [(0, .int a1)] := hl
  refine lv_iload_n hx hb dJ6_bitCount_0f7a4_0 rfl (lv_at hl 0 rfl) ?_
  refine lv_iload_n hx hb dJ6_bitCount_0f7a4_1 rfl (lv_at hl 0 rfl) ?_
  refine lv_iconst (v := 1) hx hb dJ6_bitCount_0f7a4_2 (by decide) ?_
  refine lv_iushr hx hb dJ6_bitCount_0f7a4_3 rfl ?_
  refine lv_ldcw (v := 1431655765) hx hb hown (hts _ (List.mem_of_getElem? (i := 1) rfl)) dJ6_bitCount_0f7a4_4 ?_
  refine lv_iand hx hb dJ6_bitCount_0f7a4_7 ?_
  refine lv_isub hx hb dJ6_bitCount_0f7a4_8 ?_
  refine lv_topi (fun x1 ex1 => ?_)
  have hw := hw x1 ex1
  refine lv_istore_n (lv' := [(0, .int x1)]) hx hb dJ6_bitCount_0f7a4_9 rfl hl (by decide) rfl (fun ls hl => ?_)
  refine lv_iload_n hx hb dJ6_bitCount_0f7a4_10 rfl (lv_at hl 0 rfl) ?_
  refine lv_ldcw (v := 858993459) hx hb hown (hts _ (List.mem_of_getElem? (i := 2) rfl)) dJ6_bitCount_0f7a4_11 ?_
  refine lv_iand hx hb dJ6_bitCount_0f7a4_14 ?_
  refine lv_iload_n hx hb dJ6_bitCount_0f7a4_15 rfl (lv_at hl 0 rfl) ?_
  refine lv_iconst (v := 2) hx hb dJ6_bitCount_0f7a4_16 (by decide) ?_
  refine lv_iushr hx hb dJ6_bitCount_0f7a4_17 rfl ?_
  refine lv_ldcw (v := 858993459) hx hb hown (hts _ (List.mem_of_getElem? (i := 2) rfl)) dJ6_bitCount_0f7a4_18 ?_
  refine lv_iand hx hb dJ6_bitCount_0f7a4_21 ?_
  refine lv_iadd hx hb dJ6_bitCount_0f7a4_22 ?_
  refine lv_topi (fun x2 ex2 => ?_)
  have hw := hw x2 ex2
  refine lv_istore_n (lv' := [(0, .int x2)]) hx hb dJ6_bitCount_0f7a4_23 rfl hl (by decide) rfl (fun ls hl => ?_)
  refine lv_iload_n hx hb dJ6_bitCount_0f7a4_24 rfl (lv_at hl 0 rfl) ?_
  refine lv_iload_n hx hb dJ6_bitCount_0f7a4_25 rfl (lv_at hl 0 rfl) ?_
  refine lv_iconst (v := 4) hx hb dJ6_bitCount_0f7a4_26 (by decide) ?_
  refine lv_iushr hx hb dJ6_bitCount_0f7a4_27 rfl ?_
  refine lv_iadd hx hb dJ6_bitCount_0f7a4_28 ?_
  refine lv_ldcw (v := 252645135) hx hb hown (hts _ (List.mem_of_getElem? (i := 3) rfl)) dJ6_bitCount_0f7a4_29 ?_
  refine lv_iand hx hb dJ6_bitCount_0f7a4_32 ?_
  refine lv_topi (fun x3 ex3 => ?_)
  have hw := hw x3 ex3
  refine lv_istore_n (lv' := [(0, .int x3)]) hx hb dJ6_bitCount_0f7a4_33 rfl hl (by decide) rfl (fun ls hl => ?_)
  refine lv_iload_n hx hb dJ6_bitCount_0f7a4_34 rfl (lv_at hl 0 rfl) ?_
  refine lv_iload_n hx hb dJ6_bitCount_0f7a4_35 rfl (lv_at hl 0 rfl) ?_
  refine lv_bipush (v := 8) hx hb dJ6_bitCount_0f7a4_36 (by decide) ?_
  refine lv_iushr hx hb dJ6_bitCount_0f7a4_38 rfl ?_
  refine lv_iadd hx hb dJ6_bitCount_0f7a4_39 ?_
  refine lv_topi (fun x4 ex4 => ?_)
  have hw := hw x4 ex4
  refine lv_istore_n (lv' := [(0, .int x4)]) hx hb dJ6_bitCount_0f7a4_40 rfl hl (by decide) rfl (fun ls hl => ?_)
  refine lv_iload_n hx hb dJ6_bitCount_0f7a4_41 rfl (lv_at hl 0 rfl) ?_
  refine lv_iload_n hx hb dJ6_bitCount_0f7a4_42 rfl (lv_at hl 0 rfl) ?_
  refine lv_bipush (v := 16) hx hb dJ6_bitCount_0f7a4_43 (by decide) ?_
  refine lv_iushr hx hb dJ6_bitCount_0f7a4_45 rfl ?_
  refine lv_iadd hx hb dJ6_bitCount_0f7a4_46 ?_
  refine lv_topi (fun x5 ex5 => ?_)
  have hw := hw x5 ex5
  refine lv_istore_n (lv' := [(0, .int x5)]) hx hb dJ6_bitCount_0f7a4_47 rfl hl (by decide) rfl (fun ls hl => ?_)
  refine lv_iload_n hx hb dJ6_bitCount_0f7a4_48 rfl (lv_at hl 0 rfl) ?_
  refine lv_bipush (v := 63) hx hb dJ6_bitCount_0f7a4_49 (by decide) ?_
  refine lv_iand hx hb dJ6_bitCount_0f7a4_51 ?_
  exact S_iret hx hb hr hlocks hw dJ6_bitCount_0f7a4_52

def wp_X6_slackOf (a1 : Int32) (a2 : Int32) (a3 : Int32) (K : Int32 → Prop) : Prop :=
  wp_X0_valueOf a2 (fun x1 => wp_X0_shadowOf a2 (fun x2 => wp_X0_valueOf a3 (fun x3 => wp_X0_shadowOf a3 (fun x4 => wp_X6_shadowBy a1 x1 x2 x3 x4 (fun x5 => wp_X6_exactBy a1 x1 x2 x3 x4 (fun x6 => wp_J6_bitCount_0f7a4 (x5 &&& (x6 ^^^ (-1 : Int32))) (fun x7 => K x7)))))))
set_option maxHeartbeats 4000000 in
set_option maxRecDepth 100000 in
theorem c_X6_slackOf (l : Launch) (a1 : Int32) (a2 : Int32) (a3 : Int32) (K : Int32 → Prop) (hw : wp_X6_slackOf a1 a2 a3 K) : Met l yX6_slackOf wsX6_slackOf ({ frames := 3, cells := 0, slots := 0, locals := 74 }) (va_Pc [.int a1, .int a2, .int a3] (fun _ => True)) (vp_Si K) 0 0 (fun _ => False) := by
  refine Met.ofW (cc := cX6_slackOf) (maxL := 7) (ret := (some .int)) (by decide) rfl ?_
  intro p e s m args below meth c s₁ B hml hv
  obtain ⟨rfl, -⟩ := hv
  have hx := B.exec
  have hb := B.bytes
  have hr := B.returns
  have hts := atoms_spec (ws := wsX6_slackOf) B.pre
  have hown : s.vm.findClass RX6 = some m.cls := findClass_of_methodNamed B.named
  have hlocks := B.notSynchronized
  have hl := lv_entry ([.int a1, .int a2, .int a3]) (n := 7) (Nat.le_of_ble_eq_true rfl)
  rw [lg_entry_eq]
  generalize (lg_sl ([.int a1, .int a2, .int a3]) ++ List.replicate (7 - (lg_sl ([.int a1, .int a2, .int a3])).length) Slot.unset).toArray = ls at hl ⊢
  have hl : lv_has ls 7 [(0, .int a1), (1, .int a2), (2, .int a3)] := hl
  refine lv_iload_n hx hb dX6_slackOf_0 rfl (lv_at hl 1 rfl) ?_
  refine S_calli (As := [.int a2]) (rest := []) ⟨hx, hb, hml, hown, hts⟩ (c_X0_valueOf l a2 _ hw) (va_cwS 1 hts gX6_slackOf_X0_valueOf rfl rfl rfl (by decide +kernel) ⟨Nat.le_of_ble_eq_true rfl, Nat.le_of_ble_eq_true rfl⟩) rfl hl.1 rfl (Nat.le_of_ble_eq_true rfl) dX6_slackOf_1 ⟨Nat.zero_le _, Nat.zero_le _⟩ (fun x1 hw => ?_)
  refine lv_istore_n (lv' := [(3, .int x1), (0, .int a1), (1, .int a2), (2, .int a3)]) hx hb dX6_slackOf_4 rfl hl (by decide) rfl (fun ls hl => ?_)
  refine lv_iload_n hx hb dX6_slackOf_5 rfl (lv_at hl 2 rfl) ?_
  refine S_calli (As := [.int a2]) (rest := []) ⟨hx, hb, hml, hown, hts⟩ (c_X0_shadowOf l a2 _ hw) (va_cwS 1 hts gX6_slackOf_X0_shadowOf rfl rfl rfl (by decide +kernel) ⟨Nat.le_of_ble_eq_true rfl, Nat.le_of_ble_eq_true rfl⟩) rfl hl.1 rfl (Nat.le_of_ble_eq_true rfl) dX6_slackOf_6 ⟨Nat.zero_le _, Nat.zero_le _⟩ (fun x2 hw => ?_)
  refine lv_istore (lv' := [(4, .int x2), (3, .int x1), (0, .int a1), (1, .int a2), (2, .int a3)]) hx hb dX6_slackOf_9 hl (by decide) rfl (fun ls hl => ?_)
  refine lv_iload_n hx hb dX6_slackOf_11 rfl (lv_at hl 4 rfl) ?_
  refine S_calli (As := [.int a3]) (rest := []) ⟨hx, hb, hml, hown, hts⟩ (c_X0_valueOf l a3 _ hw) (va_cwS 1 hts gX6_slackOf_X0_valueOf rfl rfl rfl (by decide +kernel) ⟨Nat.le_of_ble_eq_true rfl, Nat.le_of_ble_eq_true rfl⟩) rfl hl.1 rfl (Nat.le_of_ble_eq_true rfl) dX6_slackOf_12 ⟨Nat.zero_le _, Nat.zero_le _⟩ (fun x3 hw => ?_)
  refine lv_istore (lv' := [(5, .int x3), (4, .int x2), (3, .int x1), (0, .int a1), (1, .int a2), (2, .int a3)]) hx hb dX6_slackOf_15 hl (by decide) rfl (fun ls hl => ?_)
  refine lv_iload_n hx hb dX6_slackOf_17 rfl (lv_at hl 5 rfl) ?_
  refine S_calli (As := [.int a3]) (rest := []) ⟨hx, hb, hml, hown, hts⟩ (c_X0_shadowOf l a3 _ hw) (va_cwS 1 hts gX6_slackOf_X0_shadowOf rfl rfl rfl (by decide +kernel) ⟨Nat.le_of_ble_eq_true rfl, Nat.le_of_ble_eq_true rfl⟩) rfl hl.1 rfl (Nat.le_of_ble_eq_true rfl) dX6_slackOf_18 ⟨Nat.zero_le _, Nat.zero_le _⟩ (fun x4 hw => ?_)
  refine lv_istore (lv' := [(6, .int x4), (5, .int x3), (4, .int x2), (3, .int x1), (0, .int a1), (1, .int a2), (2, .int a3)]) hx hb dX6_slackOf_21 hl (by decide) rfl (fun ls hl => ?_)
  refine lv_iload_n hx hb dX6_slackOf_23 rfl (lv_at hl 4 rfl) ?_
  refine lv_iload_n hx hb dX6_slackOf_24 rfl (lv_at hl 3 rfl) ?_
  refine lv_iload hx hb dX6_slackOf_25 (lv_at hl 2 rfl) ?_
  refine lv_iload hx hb dX6_slackOf_27 (lv_at hl 1 rfl) ?_
  refine lv_iload hx hb dX6_slackOf_29 (lv_at hl 0 rfl) ?_
  refine S_calli (As := [.int a1, .int x1, .int x2, .int x3, .int x4]) (rest := []) ⟨hx, hb, hml, hown, hts⟩ (c_X6_shadowBy l a1 x1 x2 x3 x4 _ hw) (va_cwS 5 hts gX6_slackOf_X6_shadowBy rfl rfl rfl (by decide +kernel) ⟨Nat.le_of_ble_eq_true rfl, Nat.le_of_ble_eq_true rfl⟩) rfl hl.1 rfl (Nat.le_of_ble_eq_true rfl) dX6_slackOf_31 ⟨Nat.zero_le _, Nat.zero_le _⟩ (fun x5 hw => ?_)
  refine lv_iload_n hx hb dX6_slackOf_34 rfl (lv_at hl 4 rfl) ?_
  refine lv_iload_n hx hb dX6_slackOf_35 rfl (lv_at hl 3 rfl) ?_
  refine lv_iload hx hb dX6_slackOf_36 (lv_at hl 2 rfl) ?_
  refine lv_iload hx hb dX6_slackOf_38 (lv_at hl 1 rfl) ?_
  refine lv_iload hx hb dX6_slackOf_40 (lv_at hl 0 rfl) ?_
  refine S_calli (As := [.int a1, .int x1, .int x2, .int x3, .int x4]) (rest := [.int x5]) ⟨hx, hb, hml, hown, hts⟩ (c_X6_exactBy l a1 x1 x2 x3 x4 _ hw) (va_cwS 5 hts gX6_slackOf_X6_exactBy rfl rfl rfl (by decide +kernel) ⟨Nat.le_of_ble_eq_true rfl, Nat.le_of_ble_eq_true rfl⟩) rfl hl.1 rfl (Nat.le_of_ble_eq_true rfl) dX6_slackOf_42 ⟨Nat.zero_le _, Nat.zero_le _⟩ (fun x6 hw => ?_)
  refine lv_iconst (v := -1) hx hb dX6_slackOf_45 (by decide) ?_
  refine lv_ixor hx hb dX6_slackOf_46 ?_
  refine lv_iand hx hb dX6_slackOf_47 ?_
  refine S_calli (As := [.int (x5 &&& (x6 ^^^ (-1 : Int32)))]) (rest := []) ⟨hx, hb, hml, hown, hts⟩ (c_J6_bitCount_0f7a4 l (x5 &&& (x6 ^^^ (-1 : Int32))) _ hw) (va_cwS 1 hts gX6_slackOf_J6_bitCount_0f7a4 rfl rfl rfl (by decide +kernel) ⟨Nat.le_of_ble_eq_true rfl, Nat.le_of_ble_eq_true rfl⟩) rfl hl.1 rfl (Nat.le_of_ble_eq_true rfl) dX6_slackOf_48 ⟨Nat.zero_le _, Nat.zero_le _⟩ (fun x7 hw => ?_)
  exact S_iret hx hb hr hlocks hw dX6_slackOf_51

def wp_X6_cellBy (a1 : Int32) (a2 : Int32) (a3 : Int32) (K : Int32 → Prop) : Prop :=
  wp_X0_valueOf a2 (fun x1 => wp_X0_valueOf a3 (fun x2 => wp_X0_shadowOf a2 (fun x3 => wp_X0_shadowOf a3 (fun x4 => wp_X6_shadowBy a1 x1 x3 x2 x4 (fun x5 => wp_X6_valueBy a1 x1 x2 (fun x6 => wp_X0_fromOf a2 (fun x7 => wp_X0_fromOf a3 (fun x8 => wp_X0_of x6 x5 (x7 ||| x8) (fun x9 => K x9)))))))))
set_option maxHeartbeats 4000000 in
set_option maxRecDepth 100000 in
theorem c_X6_cellBy (l : Launch) (a1 : Int32) (a2 : Int32) (a3 : Int32) (K : Int32 → Prop) (hw : wp_X6_cellBy a1 a2 a3 K) : Met l yX6_cellBy wsX6_cellBy ({ frames := 2, cells := 0, slots := 0, locals := 50 }) (va_Pc [.int a1, .int a2, .int a3] (fun _ => True)) (vp_Si K) 0 0 (fun _ => False) := by
  refine Met.ofW (cc := cX6_cellBy) (maxL := 6) (ret := (some .int)) (by decide) rfl ?_
  intro p e s m args below meth c s₁ B hml hv
  obtain ⟨rfl, -⟩ := hv
  have hx := B.exec
  have hb := B.bytes
  have hr := B.returns
  have hts := atoms_spec (ws := wsX6_cellBy) B.pre
  have hown : s.vm.findClass RX6 = some m.cls := findClass_of_methodNamed B.named
  have hlocks := B.notSynchronized
  have hl := lv_entry ([.int a1, .int a2, .int a3]) (n := 6) (Nat.le_of_ble_eq_true rfl)
  rw [lg_entry_eq]
  generalize (lg_sl ([.int a1, .int a2, .int a3]) ++ List.replicate (6 - (lg_sl ([.int a1, .int a2, .int a3])).length) Slot.unset).toArray = ls at hl ⊢
  have hl : lv_has ls 6 [(0, .int a1), (1, .int a2), (2, .int a3)] := hl
  refine lv_iload_n hx hb dX6_cellBy_0 rfl (lv_at hl 1 rfl) ?_
  refine S_calli (As := [.int a2]) (rest := []) ⟨hx, hb, hml, hown, hts⟩ (c_X0_valueOf l a2 _ hw) (va_cwS 1 hts gX6_cellBy_X0_valueOf rfl rfl rfl (by decide +kernel) ⟨Nat.le_of_ble_eq_true rfl, Nat.le_of_ble_eq_true rfl⟩) rfl hl.1 rfl (Nat.le_of_ble_eq_true rfl) dX6_cellBy_1 ⟨Nat.zero_le _, Nat.zero_le _⟩ (fun x1 hw => ?_)
  refine lv_istore_n (lv' := [(3, .int x1), (0, .int a1), (1, .int a2), (2, .int a3)]) hx hb dX6_cellBy_4 rfl hl (by decide) rfl (fun ls hl => ?_)
  refine lv_iload_n hx hb dX6_cellBy_5 rfl (lv_at hl 3 rfl) ?_
  refine S_calli (As := [.int a3]) (rest := []) ⟨hx, hb, hml, hown, hts⟩ (c_X0_valueOf l a3 _ hw) (va_cwS 1 hts gX6_cellBy_X0_valueOf rfl rfl rfl (by decide +kernel) ⟨Nat.le_of_ble_eq_true rfl, Nat.le_of_ble_eq_true rfl⟩) rfl hl.1 rfl (Nat.le_of_ble_eq_true rfl) dX6_cellBy_6 ⟨Nat.zero_le _, Nat.zero_le _⟩ (fun x2 hw => ?_)
  refine lv_istore (lv' := [(4, .int x2), (3, .int x1), (0, .int a1), (1, .int a2), (2, .int a3)]) hx hb dX6_cellBy_9 hl (by decide) rfl (fun ls hl => ?_)
  refine lv_iload_n hx hb dX6_cellBy_11 rfl (lv_at hl 2 rfl) ?_
  refine lv_iload_n hx hb dX6_cellBy_12 rfl (lv_at hl 1 rfl) ?_
  refine lv_iload_n hx hb dX6_cellBy_13 rfl (lv_at hl 3 rfl) ?_
  refine S_calli (As := [.int a2]) (rest := [.int x1, .int a1]) ⟨hx, hb, hml, hown, hts⟩ (c_X0_shadowOf l a2 _ hw) (va_cwS 1 hts gX6_cellBy_X0_shadowOf rfl rfl rfl (by decide +kernel) ⟨Nat.le_of_ble_eq_true rfl, Nat.le_of_ble_eq_true rfl⟩) rfl hl.1 rfl (Nat.le_of_ble_eq_true rfl) dX6_cellBy_14 ⟨Nat.zero_le _, Nat.zero_le _⟩ (fun x3 hw => ?_)
  refine lv_iload hx hb dX6_cellBy_17 (lv_at hl 0 rfl) ?_
  refine lv_iload_n hx hb dX6_cellBy_19 rfl (lv_at hl 4 rfl) ?_
  refine S_calli (As := [.int a3]) (rest := [.int x2, .int x3, .int x1, .int a1]) ⟨hx, hb, hml, hown, hts⟩ (c_X0_shadowOf l a3 _ hw) (va_cwS 1 hts gX6_cellBy_X0_shadowOf rfl rfl rfl (by decide +kernel) ⟨Nat.le_of_ble_eq_true rfl, Nat.le_of_ble_eq_true rfl⟩) rfl hl.1 rfl (Nat.le_of_ble_eq_true rfl) dX6_cellBy_20 ⟨Nat.zero_le _, Nat.zero_le _⟩ (fun x4 hw => ?_)
  refine S_calli (As := [.int a1, .int x1, .int x3, .int x2, .int x4]) (rest := []) ⟨hx, hb, hml, hown, hts⟩ (c_X6_shadowBy l a1 x1 x3 x2 x4 _ hw) (va_cwS 5 hts gX6_cellBy_X6_shadowBy rfl rfl rfl (by decide +kernel) ⟨Nat.le_of_ble_eq_true rfl, Nat.le_of_ble_eq_true rfl⟩) rfl hl.1 rfl (Nat.le_of_ble_eq_true rfl) dX6_cellBy_23 ⟨Nat.zero_le _, Nat.zero_le _⟩ (fun x5 hw => ?_)
  refine lv_istore (lv' := [(5, .int x5), (4, .int x2), (3, .int x1), (0, .int a1), (1, .int a2), (2, .int a3)]) hx hb dX6_cellBy_26 hl (by decide) rfl (fun ls hl => ?_)
  refine lv_iload_n hx hb dX6_cellBy_28 rfl (lv_at hl 3 rfl) ?_
  refine lv_iload_n hx hb dX6_cellBy_29 rfl (lv_at hl 2 rfl) ?_
  refine lv_iload hx hb dX6_cellBy_30 (lv_at hl 1 rfl) ?_
  refine S_calli (As := [.int a1, .int x1, .int x2]) (rest := []) ⟨hx, hb, hml, hown, hts⟩ (c_X6_valueBy l a1 x1 x2 _ hw) (va_cwS 3 hts gX6_cellBy_X6_valueBy rfl rfl rfl (by decide +kernel) ⟨Nat.le_of_ble_eq_true rfl, Nat.le_of_ble_eq_true rfl⟩) rfl hl.1 rfl (Nat.le_of_ble_eq_true rfl) dX6_cellBy_32 ⟨Nat.zero_le _, Nat.zero_le _⟩ (fun x6 hw => ?_)
  refine lv_iload hx hb dX6_cellBy_35 (lv_at hl 0 rfl) ?_
  refine lv_iload_n hx hb dX6_cellBy_37 rfl (lv_at hl 4 rfl) ?_
  refine S_calli (As := [.int a2]) (rest := [.int x5, .int x6]) ⟨hx, hb, hml, hown, hts⟩ (c_X0_fromOf l a2 _ hw) (va_cwS 1 hts gX6_cellBy_X0_fromOf rfl rfl rfl (by decide +kernel) ⟨Nat.le_of_ble_eq_true rfl, Nat.le_of_ble_eq_true rfl⟩) rfl hl.1 rfl (Nat.le_of_ble_eq_true rfl) dX6_cellBy_38 ⟨Nat.zero_le _, Nat.zero_le _⟩ (fun x7 hw => ?_)
  refine lv_iload_n hx hb dX6_cellBy_41 rfl (lv_at hl 5 rfl) ?_
  refine S_calli (As := [.int a3]) (rest := [.int x7, .int x5, .int x6]) ⟨hx, hb, hml, hown, hts⟩ (c_X0_fromOf l a3 _ hw) (va_cwS 1 hts gX6_cellBy_X0_fromOf rfl rfl rfl (by decide +kernel) ⟨Nat.le_of_ble_eq_true rfl, Nat.le_of_ble_eq_true rfl⟩) rfl hl.1 rfl (Nat.le_of_ble_eq_true rfl) dX6_cellBy_42 ⟨Nat.zero_le _, Nat.zero_le _⟩ (fun x8 hw => ?_)
  refine lv_ior hx hb dX6_cellBy_45 ?_
  refine S_calli (As := [.int x6, .int x5, .int (x7 ||| x8)]) (rest := []) ⟨hx, hb, hml, hown, hts⟩ (c_X0_of l x6 x5 (x7 ||| x8) _ hw) (va_cwS 3 hts gX6_cellBy_X0_of rfl rfl rfl (by decide +kernel) ⟨Nat.le_of_ble_eq_true rfl, Nat.le_of_ble_eq_true rfl⟩) rfl hl.1 rfl (Nat.le_of_ble_eq_true rfl) dX6_cellBy_46 ⟨Nat.zero_le _, Nat.zero_le _⟩ (fun x9 hw => ?_)
  exact S_iret hx hb hr hlocks hw dX6_cellBy_49

def wp_X0_leastOf (a1 : Int32) (K : Int32 → Prop) : Prop :=
  wp_X0_valueOf a1 (fun x1 => wp_X0_shadowOf a1 (fun x2 => K (x1 &&& (x2 ^^^ (-1 : Int32)))))
set_option maxHeartbeats 4000000 in
set_option maxRecDepth 100000 in
theorem c_X0_leastOf (l : Launch) (a1 : Int32) (K : Int32 → Prop) (hw : wp_X0_leastOf a1 K) : Met l yX0_leastOf wsX0_leastOf ({ frames := 1, cells := 0, slots := 0, locals := 20 }) (va_Pc [.int a1] (fun _ => True)) (vp_Si K) 0 0 (fun _ => False) := by
  refine Met.ofW (cc := cX0_leastOf) (maxL := 1) (ret := (some .int)) (by decide) rfl ?_
  intro p e s m args below meth c s₁ B hml hv
  obtain ⟨rfl, -⟩ := hv
  have hx := B.exec
  have hb := B.bytes
  have hr := B.returns
  have hts := atoms_spec (ws := wsX0_leastOf) B.pre
  have hown : s.vm.findClass RX0 = some m.cls := findClass_of_methodNamed B.named
  have hlocks := B.notSynchronized
  have hl := lv_entry ([.int a1]) (n := 1) (Nat.le_of_ble_eq_true rfl)
  rw [lg_entry_eq]
  generalize (lg_sl ([.int a1]) ++ List.replicate (1 - (lg_sl ([.int a1])).length) Slot.unset).toArray = ls at hl ⊢
  have hl : lv_has ls 1 [(0, .int a1)] := hl
  refine lv_iload_n hx hb dX0_leastOf_0 rfl (lv_at hl 0 rfl) ?_
  refine S_calli (As := [.int a1]) (rest := []) ⟨hx, hb, hml, hown, hts⟩ (c_X0_valueOf l a1 _ hw) (va_cwS 1 hts gX0_leastOf_X0_valueOf rfl rfl rfl (by decide +kernel) ⟨Nat.le_of_ble_eq_true rfl, Nat.le_of_ble_eq_true rfl⟩) rfl hl.1 rfl (Nat.le_of_ble_eq_true rfl) dX0_leastOf_1 ⟨Nat.zero_le _, Nat.zero_le _⟩ (fun x1 hw => ?_)
  refine lv_iload_n hx hb dX0_leastOf_4 rfl (lv_at hl 0 rfl) ?_
  refine S_calli (As := [.int a1]) (rest := [.int x1]) ⟨hx, hb, hml, hown, hts⟩ (c_X0_shadowOf l a1 _ hw) (va_cwS 1 hts gX0_leastOf_X0_shadowOf rfl rfl rfl (by decide +kernel) ⟨Nat.le_of_ble_eq_true rfl, Nat.le_of_ble_eq_true rfl⟩) rfl hl.1 rfl (Nat.le_of_ble_eq_true rfl) dX0_leastOf_5 ⟨Nat.zero_le _, Nat.zero_le _⟩ (fun x2 hw => ?_)
  refine lv_iconst (v := -1) hx hb dX0_leastOf_8 (by decide) ?_
  refine lv_ixor hx hb dX0_leastOf_9 ?_
  refine lv_iand hx hb dX0_leastOf_10 ?_
  exact S_iret hx hb hr hlocks hw dX0_leastOf_11

def wp_X0_isDecided (a1 : Int32) (K : Int32 → Prop) : Prop :=
  wp_X0_leastOf a1 (fun x1 => ((¬ x1 = 0 → K (1 : Int32)) ∧ (x1 = 0 → wp_X0_shadowOf a1 (fun x2 => ((¬ x2 = 0 → K (0 : Int32)) ∧ (x2 = 0 → K (1 : Int32)))))))
set_option maxHeartbeats 4000000 in
set_option maxRecDepth 100000 in
theorem c_X0_isDecided (l : Launch) (a1 : Int32) (K : Int32 → Prop) (hw : wp_X0_isDecided a1 K) : Met l yX0_isDecided wsX0_isDecided ({ frames := 2, cells := 0, slots := 0, locals := 40 }) (va_Pc [.int a1] (fun _ => True)) (vp_Si K) 0 0 (fun _ => False) := by
  refine Met.ofW (cc := cX0_isDecided) (maxL := 1) (ret := (some .boolean)) (by decide) rfl ?_
  intro p e s m args below meth c s₁ B hml hv
  obtain ⟨rfl, -⟩ := hv
  have hx := B.exec
  have hb := B.bytes
  have hr := B.returns
  have hts := atoms_spec (ws := wsX0_isDecided) B.pre
  have hown : s.vm.findClass RX0 = some m.cls := findClass_of_methodNamed B.named
  have hlocks := B.notSynchronized
  have hl := lv_entry ([.int a1]) (n := 1) (Nat.le_of_ble_eq_true rfl)
  rw [lg_entry_eq]
  generalize (lg_sl ([.int a1]) ++ List.replicate (1 - (lg_sl ([.int a1])).length) Slot.unset).toArray = ls at hl ⊢
  have hl : lv_has ls 1 [(0, .int a1)] := hl
  refine lv_iload_n hx hb dX0_isDecided_0 rfl (lv_at hl 0 rfl) ?_
  refine S_calli (As := [.int a1]) (rest := []) ⟨hx, hb, hml, hown, hts⟩ (c_X0_leastOf l a1 _ hw) (va_cwS 1 hts gX0_isDecided_X0_leastOf rfl rfl rfl (by decide +kernel) ⟨Nat.le_of_ble_eq_true rfl, Nat.le_of_ble_eq_true rfl⟩) rfl hl.1 rfl (Nat.le_of_ble_eq_true rfl) dX0_isDecided_1 ⟨Nat.zero_le _, Nat.zero_le _⟩ (fun x1 hw => ?_)
  refine lv_if_ne (tgt := 14) hx hb dX0_isDecided_4 (by decide) (fun c9 => ?_) (fun c9 => ?_)
  · have hw := hw.1 c9
    refine lv_iconst (v := 1) hx hb dX0_isDecided_14 (by decide) ?_
    refine lv_goto (tgt := 19) hx hb dX0_isDecided_15 (by decide) ?_
    exact S_zret hx hb hr hlocks rfl hw dX0_isDecided_19
  · have hw := hw.2 c9
    refine lv_iload_n hx hb dX0_isDecided_7 rfl (lv_at hl 0 rfl) ?_
    refine S_calli (As := [.int a1]) (rest := []) ⟨hx, hb, hml, hown, hts⟩ (c_X0_shadowOf l a1 _ hw) (va_cwS 1 hts gX0_isDecided_X0_shadowOf rfl rfl rfl (by decide +kernel) ⟨Nat.le_of_ble_eq_true rfl, Nat.le_of_ble_eq_true rfl⟩) rfl hl.1 rfl (Nat.le_of_ble_eq_true rfl) dX0_isDecided_8 ⟨Nat.zero_le _, Nat.zero_le _⟩ (fun x2 hw => ?_)
    refine lv_if_ne (tgt := 18) hx hb dX0_isDecided_11 (by decide) (fun c9 => ?_) (fun c9 => ?_)
    · have hw := hw.1 c9
      refine lv_iconst (v := 0) hx hb dX0_isDecided_18 (by decide) ?_
      exact S_zret hx hb hr hlocks rfl hw dX0_isDecided_19
    · have hw := hw.2 c9
      refine lv_iconst (v := 1) hx hb dX0_isDecided_14 (by decide) ?_
      refine lv_goto (tgt := 19) hx hb dX0_isDecided_15 (by decide) ?_
      exact S_zret hx hb hr hlocks rfl hw dX0_isDecided_19

def wp_X0_mostOf (a1 : Int32) (K : Int32 → Prop) : Prop :=
  wp_X0_valueOf a1 (fun x1 => wp_X0_shadowOf a1 (fun x2 => K (x1 ||| x2)))
set_option maxHeartbeats 4000000 in
set_option maxRecDepth 100000 in
theorem c_X0_mostOf (l : Launch) (a1 : Int32) (K : Int32 → Prop) (hw : wp_X0_mostOf a1 K) : Met l yX0_mostOf wsX0_mostOf ({ frames := 1, cells := 0, slots := 0, locals := 20 }) (va_Pc [.int a1] (fun _ => True)) (vp_Si K) 0 0 (fun _ => False) := by
  refine Met.ofW (cc := cX0_mostOf) (maxL := 1) (ret := (some .int)) (by decide) rfl ?_
  intro p e s m args below meth c s₁ B hml hv
  obtain ⟨rfl, -⟩ := hv
  have hx := B.exec
  have hb := B.bytes
  have hr := B.returns
  have hts := atoms_spec (ws := wsX0_mostOf) B.pre
  have hown : s.vm.findClass RX0 = some m.cls := findClass_of_methodNamed B.named
  have hlocks := B.notSynchronized
  have hl := lv_entry ([.int a1]) (n := 1) (Nat.le_of_ble_eq_true rfl)
  rw [lg_entry_eq]
  generalize (lg_sl ([.int a1]) ++ List.replicate (1 - (lg_sl ([.int a1])).length) Slot.unset).toArray = ls at hl ⊢
  have hl : lv_has ls 1 [(0, .int a1)] := hl
  refine lv_iload_n hx hb dX0_mostOf_0 rfl (lv_at hl 0 rfl) ?_
  refine S_calli (As := [.int a1]) (rest := []) ⟨hx, hb, hml, hown, hts⟩ (c_X0_valueOf l a1 _ hw) (va_cwS 1 hts gX0_mostOf_X0_valueOf rfl rfl rfl (by decide +kernel) ⟨Nat.le_of_ble_eq_true rfl, Nat.le_of_ble_eq_true rfl⟩) rfl hl.1 rfl (Nat.le_of_ble_eq_true rfl) dX0_mostOf_1 ⟨Nat.zero_le _, Nat.zero_le _⟩ (fun x1 hw => ?_)
  refine lv_iload_n hx hb dX0_mostOf_4 rfl (lv_at hl 0 rfl) ?_
  refine S_calli (As := [.int a1]) (rest := [.int x1]) ⟨hx, hb, hml, hown, hts⟩ (c_X0_shadowOf l a1 _ hw) (va_cwS 1 hts gX0_mostOf_X0_shadowOf rfl rfl rfl (by decide +kernel) ⟨Nat.le_of_ble_eq_true rfl, Nat.le_of_ble_eq_true rfl⟩) rfl hl.1 rfl (Nat.le_of_ble_eq_true rfl) dX0_mostOf_5 ⟨Nat.zero_le _, Nat.zero_le _⟩ (fun x2 hw => ?_)
  refine lv_ior hx hb dX0_mostOf_8 ?_
  exact S_iret hx hb hr hlocks hw dX0_mostOf_9

def wp_X7_isImage (a1 : Int32) (K : Int32 → Prop) : Prop :=
  ((a1 < 0 → K (0 : Int32)) ∧ (¬ a1 < 0 → (((2 : Int32) ≤ a1 → K (0 : Int32)) ∧ (¬ (2 : Int32) ≤ a1 → K (1 : Int32)))))
set_option maxHeartbeats 4000000 in
set_option maxRecDepth 100000 in
theorem c_X7_isImage (l : Launch) (a1 : Int32) (K : Int32 → Prop) (hw : wp_X7_isImage a1 K) : Met l yX7_isImage wsX7_isImage ({ frames := 0, cells := 0, slots := 0, locals := 0 }) (va_Pc [.int a1] (fun _ => True)) (vp_Si K) 0 0 (fun _ => False) := by
  refine Met.ofW (cc := cX7_isImage) (maxL := 1) (ret := (some .boolean)) (by decide) rfl ?_
  intro p e s m args below meth c s₁ B hml hv
  obtain ⟨rfl, -⟩ := hv
  have hx := B.exec
  have hb := B.bytes
  have hr := B.returns
  have hts := atoms_spec (ws := wsX7_isImage) B.pre
  have hown : s.vm.findClass RX7 = some m.cls := findClass_of_methodNamed B.named
  have hlocks := B.notSynchronized
  have hl := lv_entry ([.int a1]) (n := 1) (Nat.le_of_ble_eq_true rfl)
  rw [lg_entry_eq]
  generalize (lg_sl ([.int a1]) ++ List.replicate (1 - (lg_sl ([.int a1])).length) Slot.unset).toArray = ls at hl ⊢
  have hl : lv_has ls 1 [(0, .int a1)] := hl
  refine lv_iload_n hx hb dX7_isImage_0 rfl (lv_at hl 0 rfl) ?_
  refine lv_if_lt (tgt := 13) hx hb dX7_isImage_1 (by decide) (fun c9 => ?_) (fun c9 => ?_)
  · have hw := hw.1 c9
    refine lv_iconst (v := 0) hx hb dX7_isImage_13 (by decide) ?_
    exact S_zret hx hb hr hlocks rfl hw dX7_isImage_14
  · have hw := hw.2 c9
    refine lv_iload_n hx hb dX7_isImage_4 rfl (lv_at hl 0 rfl) ?_
    refine lv_iconst (v := 2) hx hb dX7_isImage_5 (by decide) ?_
    refine lv_icmp_ge (tgt := 13) hx hb dX7_isImage_6 (by decide) (fun c9 => ?_) (fun c9 => ?_)
    · have hw := hw.1 c9
      refine lv_iconst (v := 0) hx hb dX7_isImage_13 (by decide) ?_
      exact S_zret hx hb hr hlocks rfl hw dX7_isImage_14
    · have hw := hw.2 c9
      refine lv_iconst (v := 1) hx hb dX7_isImage_9 (by decide) ?_
      refine lv_goto (tgt := 14) hx hb dX7_isImage_10 (by decide) ?_
      exact S_zret hx hb hr hlocks rfl hw dX7_isImage_14

def wp_X8_in (a1 : Int64) (a2 : Int64) (a3 : Int64) (K : Int32 → Prop) : Prop :=
  (((lg_cmp a1 a2) < 0 → K (0 : Int32)) ∧ (¬ (lg_cmp a1 a2) < 0 → ((0 < (lg_cmp a1 a3) → K (0 : Int32)) ∧ (¬ 0 < (lg_cmp a1 a3) → K (1 : Int32)))))
set_option maxHeartbeats 4000000 in
set_option maxRecDepth 100000 in
theorem c_X8_in (l : Launch) (a1 : Int64) (a2 : Int64) (a3 : Int64) (K : Int32 → Prop) (hw : wp_X8_in a1 a2 a3 K) : Met l yX8_in wsX8_in ({ frames := 0, cells := 0, slots := 0, locals := 0 }) (va_Pc [.long a1, .long a2, .long a3] (fun _ => True)) (vp_Si K) 0 0 (fun _ => False) := by
  refine Met.ofW (cc := cX8_in) (maxL := 6) (ret := (some .boolean)) (by decide) rfl ?_
  intro p e s m args below meth c s₁ B hml hv
  obtain ⟨rfl, -⟩ := hv
  have hx := B.exec
  have hb := B.bytes
  have hr := B.returns
  have hts := atoms_spec (ws := wsX8_in) B.pre
  have hown : s.vm.findClass RX8 = some m.cls := findClass_of_methodNamed B.named
  have hlocks := B.notSynchronized
  have hl := lv_entry ([.long a1, .long a2, .long a3]) (n := 6) (Nat.le_of_ble_eq_true rfl)
  rw [lg_entry_eq]
  generalize (lg_sl ([.long a1, .long a2, .long a3]) ++ List.replicate (6 - (lg_sl ([.long a1, .long a2, .long a3])).length) Slot.unset).toArray = ls at hl ⊢
  have hl : lv_has ls 6 [(0, .long a1), (2, .long a2), (4, .long a3)] := hl
  refine lv_lload_n hx hb dX8_in_0 rfl (lv_at hl 0 rfl) ?_
  refine lv_lload_n hx hb dX8_in_1 rfl (lv_at hl 1 rfl) ?_
  refine W.lcmp hx hb dX8_in_2 ?_
  refine lv_if_lt (tgt := 17) hx hb dX8_in_3 (by decide) (fun c9 => ?_) (fun c9 => ?_)
  · have hw := hw.1 c9
    refine lv_iconst (v := 0) hx hb dX8_in_17 (by decide) ?_
    exact S_zret hx hb hr hlocks rfl hw dX8_in_18
  · have hw := hw.2 c9
    refine lv_lload_n hx hb dX8_in_6 rfl (lv_at hl 0 rfl) ?_
    refine lv_lload hx hb dX8_in_7 (lv_at hl 2 rfl) ?_
    refine W.lcmp hx hb dX8_in_9 ?_
    refine lv_if_gt (tgt := 17) hx hb dX8_in_10 (by decide) (fun c9 => ?_) (fun c9 => ?_)
    · have hw := hw.1 c9
      refine lv_iconst (v := 0) hx hb dX8_in_17 (by decide) ?_
      exact S_zret hx hb hr hlocks rfl hw dX8_in_18
    · have hw := hw.2 c9
      refine lv_iconst (v := 1) hx hb dX8_in_13 (by decide) ?_
      refine lv_goto (tgt := 18) hx hb dX8_in_14 (by decide) ?_
      exact S_zret hx hb hr hlocks rfl hw dX8_in_18

def wp_X8_isRegister (a1 : Int32) (K : Int32 → Prop) : Prop :=
  wp_X8_in (a1.toInt64) (0 : Int64) (7 : Int64) (fun x1 => narrow .boolean (.int x1) = .int x1 ∧ K x1)
set_option maxHeartbeats 4000000 in
set_option maxRecDepth 100000 in
theorem c_X8_isRegister (l : Launch) (a1 : Int32) (K : Int32 → Prop) (hw : wp_X8_isRegister a1 K) : Met l yX8_isRegister wsX8_isRegister ({ frames := 1, cells := 0, slots := 0, locals := 25 }) (va_Pc [.int a1] (fun _ => True)) (vp_Si K) 0 0 (fun _ => False) := by
  refine Met.ofW (cc := cX8_isRegister) (maxL := 1) (ret := (some .boolean)) (by decide) rfl ?_
  intro p e s m args below meth c s₁ B hml hv
  obtain ⟨rfl, -⟩ := hv
  have hx := B.exec
  have hb := B.bytes
  have hr := B.returns
  have hts := atoms_spec (ws := wsX8_isRegister) B.pre
  have hown : s.vm.findClass RX8 = some m.cls := findClass_of_methodNamed B.named
  have hlocks := B.notSynchronized
  have hl := lv_entry ([.int a1]) (n := 1) (Nat.le_of_ble_eq_true rfl)
  rw [lg_entry_eq]
  generalize (lg_sl ([.int a1]) ++ List.replicate (1 - (lg_sl ([.int a1])).length) Slot.unset).toArray = ls at hl ⊢
  have hl : lv_has ls 1 [(0, .int a1)] := hl
  refine lv_iload_n hx hb dX8_isRegister_0 rfl (lv_at hl 0 rfl) ?_
  refine lv_i2l hx hb dX8_isRegister_1 rfl ?_
  refine lv_lconst (v := 0) hx hb dX8_isRegister_2 (by decide) ?_
  refine lv_ldc2 (v := 7) hx hb hown (hts _ (List.mem_of_getElem? (i := 1) rfl)) dX8_isRegister_3 ?_
  refine S_calli (As := [.long (a1.toInt64), .long (0 : Int64), .long (7 : Int64)]) (rest := []) ⟨hx, hb, hml, hown, hts⟩ (c_X8_in l (a1.toInt64) (0 : Int64) (7 : Int64) _ hw) (va_cwS 3 hts gX8_isRegister_X8_in rfl rfl rfl (by decide +kernel) ⟨Nat.le_of_ble_eq_true rfl, Nat.le_of_ble_eq_true rfl⟩) rfl hl.1 rfl (Nat.le_of_ble_eq_true rfl) dX8_isRegister_6 ⟨Nat.zero_le _, Nat.zero_le _⟩ (fun x1 hw => ?_)
  exact S_zret hx hb hr hlocks hw.1 hw.2 dX8_isRegister_9

def wp_X8_isByte (a1 : Int32) (K : Int32 → Prop) : Prop :=
  wp_X8_in (a1.toInt64) (0 : Int64) (255 : Int64) (fun x1 => narrow .boolean (.int x1) = .int x1 ∧ K x1)
set_option maxHeartbeats 4000000 in
set_option maxRecDepth 100000 in
theorem c_X8_isByte (l : Launch) (a1 : Int32) (K : Int32 → Prop) (hw : wp_X8_isByte a1 K) : Met l yX8_isByte wsX8_isByte ({ frames := 1, cells := 0, slots := 0, locals := 25 }) (va_Pc [.int a1] (fun _ => True)) (vp_Si K) 0 0 (fun _ => False) := by
  refine Met.ofW (cc := cX8_isByte) (maxL := 1) (ret := (some .boolean)) (by decide) rfl ?_
  intro p e s m args below meth c s₁ B hml hv
  obtain ⟨rfl, -⟩ := hv
  have hx := B.exec
  have hb := B.bytes
  have hr := B.returns
  have hts := atoms_spec (ws := wsX8_isByte) B.pre
  have hown : s.vm.findClass RX8 = some m.cls := findClass_of_methodNamed B.named
  have hlocks := B.notSynchronized
  have hl := lv_entry ([.int a1]) (n := 1) (Nat.le_of_ble_eq_true rfl)
  rw [lg_entry_eq]
  generalize (lg_sl ([.int a1]) ++ List.replicate (1 - (lg_sl ([.int a1])).length) Slot.unset).toArray = ls at hl ⊢
  have hl : lv_has ls 1 [(0, .int a1)] := hl
  refine lv_iload_n hx hb dX8_isByte_0 rfl (lv_at hl 0 rfl) ?_
  refine lv_i2l hx hb dX8_isByte_1 rfl ?_
  refine lv_lconst (v := 0) hx hb dX8_isByte_2 (by decide) ?_
  refine lv_ldc2 (v := 255) hx hb hown (hts _ (List.mem_of_getElem? (i := 1) rfl)) dX8_isByte_3 ?_
  refine S_calli (As := [.long (a1.toInt64), .long (0 : Int64), .long (255 : Int64)]) (rest := []) ⟨hx, hb, hml, hown, hts⟩ (c_X8_in l (a1.toInt64) (0 : Int64) (255 : Int64) _ hw) (va_cwS 3 hts gX8_isByte_X8_in rfl rfl rfl (by decide +kernel) ⟨Nat.le_of_ble_eq_true rfl, Nat.le_of_ble_eq_true rfl⟩) rfl hl.1 rfl (Nat.le_of_ble_eq_true rfl) dX8_isByte_6 ⟨Nat.zero_le _, Nat.zero_le _⟩ (fun x1 hw => ?_)
  exact S_zret hx hb hr hlocks hw.1 hw.2 dX8_isByte_9

def wp_X8_isOctet (a1 : Int32) (K : Int32 → Prop) : Prop :=
  wp_X8_in (a1.toInt64) (0 : Int64) (31 : Int64) (fun x1 => narrow .boolean (.int x1) = .int x1 ∧ K x1)
set_option maxHeartbeats 4000000 in
set_option maxRecDepth 100000 in
theorem c_X8_isOctet (l : Launch) (a1 : Int32) (K : Int32 → Prop) (hw : wp_X8_isOctet a1 K) : Met l yX8_isOctet wsX8_isOctet ({ frames := 1, cells := 0, slots := 0, locals := 25 }) (va_Pc [.int a1] (fun _ => True)) (vp_Si K) 0 0 (fun _ => False) := by
  refine Met.ofW (cc := cX8_isOctet) (maxL := 1) (ret := (some .boolean)) (by decide) rfl ?_
  intro p e s m args below meth c s₁ B hml hv
  obtain ⟨rfl, -⟩ := hv
  have hx := B.exec
  have hb := B.bytes
  have hr := B.returns
  have hts := atoms_spec (ws := wsX8_isOctet) B.pre
  have hown : s.vm.findClass RX8 = some m.cls := findClass_of_methodNamed B.named
  have hlocks := B.notSynchronized
  have hl := lv_entry ([.int a1]) (n := 1) (Nat.le_of_ble_eq_true rfl)
  rw [lg_entry_eq]
  generalize (lg_sl ([.int a1]) ++ List.replicate (1 - (lg_sl ([.int a1])).length) Slot.unset).toArray = ls at hl ⊢
  have hl : lv_has ls 1 [(0, .int a1)] := hl
  refine lv_iload_n hx hb dX8_isOctet_0 rfl (lv_at hl 0 rfl) ?_
  refine lv_i2l hx hb dX8_isOctet_1 rfl ?_
  refine lv_lconst (v := 0) hx hb dX8_isOctet_2 (by decide) ?_
  refine lv_ldc2 (v := 31) hx hb hown (hts _ (List.mem_of_getElem? (i := 1) rfl)) dX8_isOctet_3 ?_
  refine S_calli (As := [.long (a1.toInt64), .long (0 : Int64), .long (31 : Int64)]) (rest := []) ⟨hx, hb, hml, hown, hts⟩ (c_X8_in l (a1.toInt64) (0 : Int64) (31 : Int64) _ hw) (va_cwS 3 hts gX8_isOctet_X8_in rfl rfl rfl (by decide +kernel) ⟨Nat.le_of_ble_eq_true rfl, Nat.le_of_ble_eq_true rfl⟩) rfl hl.1 rfl (Nat.le_of_ble_eq_true rfl) dX8_isOctet_6 ⟨Nat.zero_le _, Nat.zero_le _⟩ (fun x1 hw => ?_)
  exact S_zret hx hb hr hlocks hw.1 hw.2 dX8_isOctet_9

def wp_X8_shadowBy (a1 : Int32) (a2 : Int32) (a3 : Int32) (a4 : Int32) (a5 : Int32) (K : Int32 → Prop) : Prop :=
  ∀ x1 : Int32, x1 = a3 ||| a5 → ∀ x2 : Int32, x2 = a2 &&& (a3 ^^^ (-1 : Int32)) → ∀ x3 : Int32, x3 = a2 ||| a3 → ∀ x4 : Int32, x4 = a4 &&& (a5 ^^^ (-1 : Int32)) → ∀ x5 : Int32, x5 = a4 ||| a5 → ((a1 = (0 : Int32) → K ((x1 &&& x3) &&& x5)) ∧ (¬ a1 = (0 : Int32) → ((a1 = (1 : Int32) → K (x1 &&& ((x2 ||| x4) ^^^ (-1 : Int32)))) ∧ (¬ a1 = (1 : Int32) → ((a1 = (2 : Int32) → K x1) ∧ (¬ a1 = (2 : Int32) → ((a1 = (3 : Int32) → K ((((x2 + x4) ^^^ (x3 + x5)) ||| x1) &&& (255 : Int32))) ∧ (¬ a1 = (3 : Int32) → ((a1 = (4 : Int32) → K ((((x2 - x5) ^^^ (x3 - x4)) ||| x1) &&& (255 : Int32))) ∧ (¬ a1 = (4 : Int32) → ((a1 = (5 : Int32) → (((a5 &&& (7 : Int32)) = 0 → K ((a3 <<< ((a4 &&& (7 : Int32)) &&& 31)) &&& (255 : Int32))) ∧ (¬ (a5 &&& (7 : Int32)) = 0 → K (255 : Int32)))) ∧ (¬ a1 = (5 : Int32) → (((a5 &&& (7 : Int32)) = 0 → K (a3 >>> ((a4 &&& (7 : Int32)) &&& 31))) ∧ (¬ (a5 &&& (7 : Int32)) = 0 → K (255 : Int32)))))))))))))))
set_option maxHeartbeats 4000000 in
set_option maxRecDepth 100000 in
theorem c_X8_shadowBy (l : Launch) (a1 : Int32) (a2 : Int32) (a3 : Int32) (a4 : Int32) (a5 : Int32) (K : Int32 → Prop) (hw : wp_X8_shadowBy a1 a2 a3 a4 a5 K) : Met l yX8_shadowBy wsX8_shadowBy ({ frames := 0, cells := 0, slots := 0, locals := 0 }) (va_Pc [.int a1, .int a2, .int a3, .int a4, .int a5] (fun _ => True)) (vp_Si K) 0 0 (fun _ => False) := by
  refine Met.ofW (cc := cX8_shadowBy) (maxL := 10) (ret := (some .int)) (by decide) rfl ?_
  intro p e s m args below meth c s₁ B hml hv
  obtain ⟨rfl, -⟩ := hv
  have hx := B.exec
  have hb := B.bytes
  have hr := B.returns
  have hts := atoms_spec (ws := wsX8_shadowBy) B.pre
  have hown : s.vm.findClass RX8 = some m.cls := findClass_of_methodNamed B.named
  have hlocks := B.notSynchronized
  have hl := lv_entry ([.int a1, .int a2, .int a3, .int a4, .int a5]) (n := 10) (Nat.le_of_ble_eq_true rfl)
  rw [lg_entry_eq]
  generalize (lg_sl ([.int a1, .int a2, .int a3, .int a4, .int a5]) ++ List.replicate (10 - (lg_sl ([.int a1, .int a2, .int a3, .int a4, .int a5])).length) Slot.unset).toArray = ls at hl ⊢
  have hl : lv_has ls 10 [(0, .int a1), (1, .int a2), (2, .int a3), (3, .int a4), (4, .int a5)] := hl
  refine lv_iload_n hx hb dX8_shadowBy_0 rfl (lv_at hl 2 rfl) ?_
  refine lv_iload hx hb dX8_shadowBy_1 (lv_at hl 4 rfl) ?_
  refine lv_ior hx hb dX8_shadowBy_3 ?_
  refine lv_topi (fun x1 ex1 => ?_)
  have hw := hw x1 ex1
  refine lv_istore (lv' := [(5, .int x1), (0, .int a1), (1, .int a2), (2, .int a3), (3, .int a4), (4, .int a5)]) hx hb dX8_shadowBy_4 hl (by decide) rfl (fun ls hl => ?_)
  refine lv_iload_n hx hb dX8_shadowBy_6 rfl (lv_at hl 2 rfl) ?_
  refine lv_iload_n hx hb dX8_shadowBy_7 rfl (lv_at hl 3 rfl) ?_
  refine lv_iconst (v := -1) hx hb dX8_shadowBy_8 (by decide) ?_
  refine lv_ixor hx hb dX8_shadowBy_9 ?_
  refine lv_iand hx hb dX8_shadowBy_10 ?_
  refine lv_topi (fun x2 ex2 => ?_)
  have hw := hw x2 ex2
  refine lv_istore (lv' := [(6, .int x2), (5, .int x1), (0, .int a1), (1, .int a2), (2, .int a3), (3, .int a4), (4, .int a5)]) hx hb dX8_shadowBy_11 hl (by decide) rfl (fun ls hl => ?_)
  refine lv_iload_n hx hb dX8_shadowBy_13 rfl (lv_at hl 3 rfl) ?_
  refine lv_iload_n hx hb dX8_shadowBy_14 rfl (lv_at hl 4 rfl) ?_
  refine lv_ior hx hb dX8_shadowBy_15 ?_
  refine lv_topi (fun x3 ex3 => ?_)
  have hw := hw x3 ex3
  refine lv_istore (lv' := [(7, .int x3), (6, .int x2), (5, .int x1), (0, .int a1), (1, .int a2), (2, .int a3), (3, .int a4), (4, .int a5)]) hx hb dX8_shadowBy_16 hl (by decide) rfl (fun ls hl => ?_)
  refine lv_iload_n hx hb dX8_shadowBy_18 rfl (lv_at hl 6 rfl) ?_
  refine lv_iload hx hb dX8_shadowBy_19 (lv_at hl 7 rfl) ?_
  refine lv_iconst (v := -1) hx hb dX8_shadowBy_21 (by decide) ?_
  refine lv_ixor hx hb dX8_shadowBy_22 ?_
  refine lv_iand hx hb dX8_shadowBy_23 ?_
  refine lv_topi (fun x4 ex4 => ?_)
  have hw := hw x4 ex4
  refine lv_istore (lv' := [(8, .int x4), (7, .int x3), (6, .int x2), (5, .int x1), (0, .int a1), (1, .int a2), (2, .int a3), (3, .int a4), (4, .int a5)]) hx hb dX8_shadowBy_24 hl (by decide) rfl (fun ls hl => ?_)
  refine lv_iload_n hx hb dX8_shadowBy_26 rfl (lv_at hl 7 rfl) ?_
  refine lv_iload hx hb dX8_shadowBy_27 (lv_at hl 8 rfl) ?_
  refine lv_ior hx hb dX8_shadowBy_29 ?_
  refine lv_topi (fun x5 ex5 => ?_)
  have hw := hw x5 ex5
  refine lv_istore (lv' := [(9, .int x5), (8, .int x4), (7, .int x3), (6, .int x2), (5, .int x1), (0, .int a1), (1, .int a2), (2, .int a3), (3, .int a4), (4, .int a5)]) hx hb dX8_shadowBy_30 hl (by decide) rfl (fun ls hl => ?_)
  refine lv_iload_n hx hb dX8_shadowBy_32 rfl (lv_at hl 5 rfl) ?_
  by_cases q0 : a1 = (0 : Int32)
  · have hw := hw.1 q0
    refine lv_tableIn (off := 39) (tgt := 72) hx hb dX8_shadowBy_33 (by rw [q0]; decide) (by rw [q0]; decide) (by rw [q0]; rfl) (by decide) ?_
    refine lv_iload hx hb dX8_shadowBy_72 (lv_at hl 4 rfl) ?_
    refine lv_iload hx hb dX8_shadowBy_74 (lv_at hl 2 rfl) ?_
    refine lv_iand hx hb dX8_shadowBy_76 ?_
    refine lv_iload hx hb dX8_shadowBy_77 (lv_at hl 0 rfl) ?_
    refine lv_iand hx hb dX8_shadowBy_79 ?_
    exact S_iret hx hb hr hlocks hw dX8_shadowBy_80
  · have hw := hw.2 q0
    by_cases q1 : a1 = (1 : Int32)
    · have hw := hw.1 q1
      refine lv_tableIn (off := 48) (tgt := 81) hx hb dX8_shadowBy_33 (by rw [q1]; decide) (by rw [q1]; decide) (by rw [q1]; rfl) (by decide) ?_
      refine lv_iload hx hb dX8_shadowBy_81 (lv_at hl 4 rfl) ?_
      refine lv_iload hx hb dX8_shadowBy_83 (lv_at hl 3 rfl) ?_
      refine lv_iload hx hb dX8_shadowBy_85 (lv_at hl 1 rfl) ?_
      refine lv_ior hx hb dX8_shadowBy_87 ?_
      refine lv_iconst (v := -1) hx hb dX8_shadowBy_88 (by decide) ?_
      refine lv_ixor hx hb dX8_shadowBy_89 ?_
      refine lv_iand hx hb dX8_shadowBy_90 ?_
      exact S_iret hx hb hr hlocks hw dX8_shadowBy_91
    · have hw := hw.2 q1
      by_cases q2 : a1 = (2 : Int32)
      · have hw := hw.1 q2
        refine lv_tableIn (off := 59) (tgt := 92) hx hb dX8_shadowBy_33 (by rw [q2]; decide) (by rw [q2]; decide) (by rw [q2]; rfl) (by decide) ?_
        refine lv_iload hx hb dX8_shadowBy_92 (lv_at hl 4 rfl) ?_
        exact S_iret hx hb hr hlocks hw dX8_shadowBy_94
      · have hw := hw.2 q2
        by_cases q3 : a1 = (3 : Int32)
        · have hw := hw.1 q3
          refine lv_tableIn (off := 62) (tgt := 95) hx hb dX8_shadowBy_33 (by rw [q3]; decide) (by rw [q3]; decide) (by rw [q3]; rfl) (by decide) ?_
          refine lv_iload hx hb dX8_shadowBy_95 (lv_at hl 3 rfl) ?_
          refine lv_iload hx hb dX8_shadowBy_97 (lv_at hl 1 rfl) ?_
          refine lv_iadd hx hb dX8_shadowBy_99 ?_
          refine lv_iload hx hb dX8_shadowBy_100 (lv_at hl 2 rfl) ?_
          refine lv_iload hx hb dX8_shadowBy_102 (lv_at hl 0 rfl) ?_
          refine lv_iadd hx hb dX8_shadowBy_104 ?_
          refine lv_ixor hx hb dX8_shadowBy_105 ?_
          refine lv_iload hx hb dX8_shadowBy_106 (lv_at hl 4 rfl) ?_
          refine lv_ior hx hb dX8_shadowBy_108 ?_
          refine lv_sipush (v := 255) hx hb dX8_shadowBy_109 (by decide) ?_
          refine lv_iand hx hb dX8_shadowBy_112 ?_
          exact S_iret hx hb hr hlocks hw dX8_shadowBy_113
        · have hw := hw.2 q3
          by_cases q4 : a1 = (4 : Int32)
          · have hw := hw.1 q4
            refine lv_tableIn (off := 81) (tgt := 114) hx hb dX8_shadowBy_33 (by rw [q4]; decide) (by rw [q4]; decide) (by rw [q4]; rfl) (by decide) ?_
            refine lv_iload hx hb dX8_shadowBy_114 (lv_at hl 3 rfl) ?_
            refine lv_iload hx hb dX8_shadowBy_116 (lv_at hl 0 rfl) ?_
            refine lv_isub hx hb dX8_shadowBy_118 ?_
            refine lv_iload hx hb dX8_shadowBy_119 (lv_at hl 2 rfl) ?_
            refine lv_iload hx hb dX8_shadowBy_121 (lv_at hl 1 rfl) ?_
            refine lv_isub hx hb dX8_shadowBy_123 ?_
            refine lv_ixor hx hb dX8_shadowBy_124 ?_
            refine lv_iload hx hb dX8_shadowBy_125 (lv_at hl 4 rfl) ?_
            refine lv_ior hx hb dX8_shadowBy_127 ?_
            refine lv_sipush (v := 255) hx hb dX8_shadowBy_128 (by decide) ?_
            refine lv_iand hx hb dX8_shadowBy_131 ?_
            exact S_iret hx hb hr hlocks hw dX8_shadowBy_132
          · have hw := hw.2 q4
            by_cases q5 : a1 = (5 : Int32)
            · have hw := hw.1 q5
              refine lv_tableIn (off := 100) (tgt := 133) hx hb dX8_shadowBy_33 (by rw [q5]; decide) (by rw [q5]; decide) (by rw [q5]; rfl) (by decide) ?_
              refine lv_iload hx hb dX8_shadowBy_133 (lv_at hl 9 rfl) ?_
              refine lv_bipush (v := 7) hx hb dX8_shadowBy_135 (by decide) ?_
              refine lv_iand hx hb dX8_shadowBy_137 ?_
              refine lv_if_eq (tgt := 147) hx hb dX8_shadowBy_138 (by decide) (fun c9 => ?_) (fun c9 => ?_)
              · have hw := hw.1 c9
                refine lv_iload_n hx hb dX8_shadowBy_147 rfl (lv_at hl 7 rfl) ?_
                refine lv_iload_n hx hb dX8_shadowBy_148 rfl (lv_at hl 8 rfl) ?_
                refine lv_bipush (v := 7) hx hb dX8_shadowBy_149 (by decide) ?_
                refine lv_iand hx hb dX8_shadowBy_151 ?_
                refine lv_ishl hx hb dX8_shadowBy_152 ?_
                refine lv_sipush (v := 255) hx hb dX8_shadowBy_153 (by decide) ?_
                refine lv_iand hx hb dX8_shadowBy_156 ?_
                exact S_iret hx hb hr hlocks hw dX8_shadowBy_157
              · have hw := hw.2 c9
                refine lv_sipush (v := 255) hx hb dX8_shadowBy_141 (by decide) ?_
                refine lv_goto (tgt := 157) hx hb dX8_shadowBy_144 (by decide) ?_
                exact S_iret hx hb hr hlocks hw dX8_shadowBy_157
            · have hw := hw.2 q5
              have r0 := lv_neT q0 (a := 0) (by decide)
              have r1 := lv_neT q1 (a := 1) (by decide)
              have r2 := lv_neT q2 (a := 2) (by decide)
              have r3 := lv_neT q3 (a := 3) (by decide)
              have r4 := lv_neT q4 (a := 4) (by decide)
              have r5 := lv_neT q5 (a := 5) (by decide)
              refine lv_tableOut (tgt := 158) hx hb dX8_shadowBy_33 (by omega) (by decide) ?_
              refine lv_iload hx hb dX8_shadowBy_158 (lv_at hl 9 rfl) ?_
              refine lv_bipush (v := 7) hx hb dX8_shadowBy_160 (by decide) ?_
              refine lv_iand hx hb dX8_shadowBy_162 ?_
              refine lv_if_eq (tgt := 172) hx hb dX8_shadowBy_163 (by decide) (fun c9 => ?_) (fun c9 => ?_)
              · have hw := hw.1 c9
                refine lv_iload_n hx hb dX8_shadowBy_172 rfl (lv_at hl 7 rfl) ?_
                refine lv_iload_n hx hb dX8_shadowBy_173 rfl (lv_at hl 8 rfl) ?_
                refine lv_bipush (v := 7) hx hb dX8_shadowBy_174 (by decide) ?_
                refine lv_iand hx hb dX8_shadowBy_176 ?_
                refine lv_ishr hx hb dX8_shadowBy_177 ?_
                exact S_iret hx hb hr hlocks hw dX8_shadowBy_178
              · have hw := hw.2 c9
                refine lv_sipush (v := 255) hx hb dX8_shadowBy_166 (by decide) ?_
                refine lv_goto (tgt := 178) hx hb dX8_shadowBy_169 (by decide) ?_
                exact S_iret hx hb hr hlocks hw dX8_shadowBy_178

def wp_X8_valueBy (a1 : Int32) (a2 : Int32) (a3 : Int32) (K : Int32 → Prop) : Prop :=
  ((a1 = (0 : Int32) → K (a2 &&& a3)) ∧ (¬ a1 = (0 : Int32) → ((a1 = (1 : Int32) → K (a2 ||| a3)) ∧ (¬ a1 = (1 : Int32) → ((a1 = (2 : Int32) → K (a2 ^^^ a3)) ∧ (¬ a1 = (2 : Int32) → ((a1 = (3 : Int32) → K ((a2 + a3) &&& (255 : Int32))) ∧ (¬ a1 = (3 : Int32) → ((a1 = (4 : Int32) → K ((a2 - a3) &&& (255 : Int32))) ∧ (¬ a1 = (4 : Int32) → ((a1 = (5 : Int32) → K ((a2 <<< ((a3 &&& (7 : Int32)) &&& 31)) &&& (255 : Int32))) ∧ (¬ a1 = (5 : Int32) → K (a2 >>> ((a3 &&& (7 : Int32)) &&& 31))))))))))))))
set_option maxHeartbeats 4000000 in
set_option maxRecDepth 100000 in
theorem c_X8_valueBy (l : Launch) (a1 : Int32) (a2 : Int32) (a3 : Int32) (K : Int32 → Prop) (hw : wp_X8_valueBy a1 a2 a3 K) : Met l yX8_valueBy wsX8_valueBy ({ frames := 0, cells := 0, slots := 0, locals := 0 }) (va_Pc [.int a1, .int a2, .int a3] (fun _ => True)) (vp_Si K) 0 0 (fun _ => False) := by
  refine Met.ofW (cc := cX8_valueBy) (maxL := 3) (ret := (some .int)) (by decide) rfl ?_
  intro p e s m args below meth c s₁ B hml hv
  obtain ⟨rfl, -⟩ := hv
  have hx := B.exec
  have hb := B.bytes
  have hr := B.returns
  have hts := atoms_spec (ws := wsX8_valueBy) B.pre
  have hown : s.vm.findClass RX8 = some m.cls := findClass_of_methodNamed B.named
  have hlocks := B.notSynchronized
  have hl := lv_entry ([.int a1, .int a2, .int a3]) (n := 3) (Nat.le_of_ble_eq_true rfl)
  rw [lg_entry_eq]
  generalize (lg_sl ([.int a1, .int a2, .int a3]) ++ List.replicate (3 - (lg_sl ([.int a1, .int a2, .int a3])).length) Slot.unset).toArray = ls at hl ⊢
  have hl : lv_has ls 3 [(0, .int a1), (1, .int a2), (2, .int a3)] := hl
  refine lv_iload_n hx hb dX8_valueBy_0 rfl (lv_at hl 0 rfl) ?_
  by_cases q0 : a1 = (0 : Int32)
  · have hw := hw.1 q0
    refine lv_tableIn (off := 39) (tgt := 40) hx hb dX8_valueBy_1 (by rw [q0]; decide) (by rw [q0]; decide) (by rw [q0]; rfl) (by decide) ?_
    refine lv_iload_n hx hb dX8_valueBy_40 rfl (lv_at hl 1 rfl) ?_
    refine lv_iload_n hx hb dX8_valueBy_41 rfl (lv_at hl 2 rfl) ?_
    refine lv_iand hx hb dX8_valueBy_42 ?_
    exact S_iret hx hb hr hlocks hw dX8_valueBy_43
  · have hw := hw.2 q0
    by_cases q1 : a1 = (1 : Int32)
    · have hw := hw.1 q1
      refine lv_tableIn (off := 43) (tgt := 44) hx hb dX8_valueBy_1 (by rw [q1]; decide) (by rw [q1]; decide) (by rw [q1]; rfl) (by decide) ?_
      refine lv_iload_n hx hb dX8_valueBy_44 rfl (lv_at hl 1 rfl) ?_
      refine lv_iload_n hx hb dX8_valueBy_45 rfl (lv_at hl 2 rfl) ?_
      refine lv_ior hx hb dX8_valueBy_46 ?_
      exact S_iret hx hb hr hlocks hw dX8_valueBy_47
    · have hw := hw.2 q1
      by_cases q2 : a1 = (2 : Int32)
      · have hw := hw.1 q2
        refine lv_tableIn (off := 47) (tgt := 48) hx hb dX8_valueBy_1 (by rw [q2]; decide) (by rw [q2]; decide) (by rw [q2]; rfl) (by decide) ?_
        refine lv_iload_n hx hb dX8_valueBy_48 rfl (lv_at hl 1 rfl) ?_
        refine lv_iload_n hx hb dX8_valueBy_49 rfl (lv_at hl 2 rfl) ?_
        refine lv_ixor hx hb dX8_valueBy_50 ?_
        exact S_iret hx hb hr hlocks hw dX8_valueBy_51
      · have hw := hw.2 q2
        by_cases q3 : a1 = (3 : Int32)
        · have hw := hw.1 q3
          refine lv_tableIn (off := 51) (tgt := 52) hx hb dX8_valueBy_1 (by rw [q3]; decide) (by rw [q3]; decide) (by rw [q3]; rfl) (by decide) ?_
          refine lv_iload_n hx hb dX8_valueBy_52 rfl (lv_at hl 1 rfl) ?_
          refine lv_iload_n hx hb dX8_valueBy_53 rfl (lv_at hl 2 rfl) ?_
          refine lv_iadd hx hb dX8_valueBy_54 ?_
          refine lv_sipush (v := 255) hx hb dX8_valueBy_55 (by decide) ?_
          refine lv_iand hx hb dX8_valueBy_58 ?_
          exact S_iret hx hb hr hlocks hw dX8_valueBy_59
        · have hw := hw.2 q3
          by_cases q4 : a1 = (4 : Int32)
          · have hw := hw.1 q4
            refine lv_tableIn (off := 59) (tgt := 60) hx hb dX8_valueBy_1 (by rw [q4]; decide) (by rw [q4]; decide) (by rw [q4]; rfl) (by decide) ?_
            refine lv_iload_n hx hb dX8_valueBy_60 rfl (lv_at hl 1 rfl) ?_
            refine lv_iload_n hx hb dX8_valueBy_61 rfl (lv_at hl 2 rfl) ?_
            refine lv_isub hx hb dX8_valueBy_62 ?_
            refine lv_sipush (v := 255) hx hb dX8_valueBy_63 (by decide) ?_
            refine lv_iand hx hb dX8_valueBy_66 ?_
            exact S_iret hx hb hr hlocks hw dX8_valueBy_67
          · have hw := hw.2 q4
            by_cases q5 : a1 = (5 : Int32)
            · have hw := hw.1 q5
              refine lv_tableIn (off := 67) (tgt := 68) hx hb dX8_valueBy_1 (by rw [q5]; decide) (by rw [q5]; decide) (by rw [q5]; rfl) (by decide) ?_
              refine lv_iload_n hx hb dX8_valueBy_68 rfl (lv_at hl 1 rfl) ?_
              refine lv_iload_n hx hb dX8_valueBy_69 rfl (lv_at hl 2 rfl) ?_
              refine lv_bipush (v := 7) hx hb dX8_valueBy_70 (by decide) ?_
              refine lv_iand hx hb dX8_valueBy_72 ?_
              refine lv_ishl hx hb dX8_valueBy_73 ?_
              refine lv_sipush (v := 255) hx hb dX8_valueBy_74 (by decide) ?_
              refine lv_iand hx hb dX8_valueBy_77 ?_
              exact S_iret hx hb hr hlocks hw dX8_valueBy_78
            · have hw := hw.2 q5
              have r0 := lv_neT q0 (a := 0) (by decide)
              have r1 := lv_neT q1 (a := 1) (by decide)
              have r2 := lv_neT q2 (a := 2) (by decide)
              have r3 := lv_neT q3 (a := 3) (by decide)
              have r4 := lv_neT q4 (a := 4) (by decide)
              have r5 := lv_neT q5 (a := 5) (by decide)
              refine lv_tableOut (tgt := 79) hx hb dX8_valueBy_1 (by omega) (by decide) ?_
              refine lv_iload_n hx hb dX8_valueBy_79 rfl (lv_at hl 1 rfl) ?_
              refine lv_iload_n hx hb dX8_valueBy_80 rfl (lv_at hl 2 rfl) ?_
              refine lv_bipush (v := 7) hx hb dX8_valueBy_81 (by decide) ?_
              refine lv_iand hx hb dX8_valueBy_83 ?_
              refine lv_ishr hx hb dX8_valueBy_84 ?_
              exact S_iret hx hb hr hlocks hw dX8_valueBy_85

def wl_X8_exactBy_25 (K : Int32 → Prop) (Ko : Int32 → Int32 → Int32 → Int32 → Int32 → Int32 → Int32 → Int32 → Prop) : Nat → Int32 → Int32 → Int32 → Int32 → Int32 → Int32 → Int32 → Int32 → Int32 → Prop
  | 0, _, _, _, _, _, _, _, _, _ => False
  | n + 1, v0, v1, v2, v3, v4, v5, v6, v7, v8 => (((256 : Int32) ≤ v8 → ∀ x2 : Int32, x2 = v7 + 1 → Ko v0 v1 v2 v3 v4 v5 v6 x2) ∧ (¬ (256 : Int32) ≤ v8 → ((¬ (v7 &&& (v2 ^^^ (-1 : Int32))) = 0 → ∀ x3 : Int32, x3 = v7 + 1 → Ko v0 v1 v2 v3 v4 v5 v6 x3) ∧ ((v7 &&& (v2 ^^^ (-1 : Int32))) = 0 → ((¬ (v8 &&& (v4 ^^^ (-1 : Int32))) = 0 → ∀ x4 : Int32, x4 = v6 ||| (0 : Int32) → ∀ x5 : Int32, x5 = v8 + 1 → wl_X8_exactBy_25 K Ko n v0 v1 v2 v3 v4 v5 x4 v7 x5) ∧ ((v8 &&& (v4 ^^^ (-1 : Int32))) = 0 → wp_X8_valueBy v0 ((v1 &&& (v2 ^^^ (-1 : Int32))) ||| v7) ((v3 &&& (v4 ^^^ (-1 : Int32))) ||| v8) (fun x6 => ∀ x7 : Int32, x7 = v6 ||| (x6 ^^^ v5) → ∀ x8 : Int32, x8 = v8 + 1 → wl_X8_exactBy_25 K Ko n v0 v1 v2 v3 v4 v5 x7 v7 x8)))))))
def wl_X8_exactBy_14 (K : Int32 → Prop) : Nat → Int32 → Int32 → Int32 → Int32 → Int32 → Int32 → Int32 → Int32 → Prop
  | 0, _, _, _, _, _, _, _, _ => False
  | n + 1, v0, v1, v2, v3, v4, v5, v6, v7 => (((256 : Int32) ≤ v7 → K v6) ∧ (¬ (256 : Int32) ≤ v7 → (∃ nn : Nat, wl_X8_exactBy_25 K (fun o0 o1 o2 o3 o4 o5 o6 o7 => wl_X8_exactBy_14 K n o0 o1 o2 o3 o4 o5 o6 o7) nn v0 v1 v2 v3 v4 v5 v6 v7 (0 : Int32))))
def wp_X8_exactBy (a1 : Int32) (a2 : Int32) (a3 : Int32) (a4 : Int32) (a5 : Int32) (K : Int32 → Prop) : Prop :=
  wp_X8_valueBy a1 a2 a4 (fun x1 => (∃ nn : Nat, wl_X8_exactBy_14 K nn a1 a2 a3 a4 a5 x1 (0 : Int32) (0 : Int32)))
set_option maxHeartbeats 4000000 in
set_option maxRecDepth 100000 in
theorem c_X8_exactBy (l : Launch) (a1 : Int32) (a2 : Int32) (a3 : Int32) (a4 : Int32) (a5 : Int32) (K : Int32 → Prop) (hw : wp_X8_exactBy a1 a2 a3 a4 a5 K) : Met l yX8_exactBy wsX8_exactBy ({ frames := 1, cells := 0, slots := 0, locals := 22 }) (va_Pc [.int a1, .int a2, .int a3, .int a4, .int a5] (fun _ => True)) (vp_Si K) 0 0 (fun _ => False) := by
  refine Met.ofW (cc := cX8_exactBy) (maxL := 10) (ret := (some .int)) (by decide) rfl ?_
  intro p e s m args below meth c s₁ B hml hv
  obtain ⟨rfl, -⟩ := hv
  have hx := B.exec
  have hb := B.bytes
  have hr := B.returns
  have hts := atoms_spec (ws := wsX8_exactBy) B.pre
  have hown : s.vm.findClass RX8 = some m.cls := findClass_of_methodNamed B.named
  have hlocks := B.notSynchronized
  have hwl_X8_exactBy_14 : ∀ (n : Nat) (v0 : Int32) (v1 : Int32) (v2 : Int32) (v3 : Int32) (v4 : Int32) (v5 : Int32) (v6 : Int32) (v7 : Int32), wl_X8_exactBy_14 K n v0 v1 v2 v3 v4 v5 v6 v7 → ∀ ls : Array Slot, lv_has ls 10 [(0, .int v0), (1, .int v1), (2, .int v2), (3, .int v3), (4, .int v4), (5, .int v5), (6, .int v6), (7, .int v7)] → W p l e (headSpec wsX8_exactBy ({ frames := 1, cells := 0, slots := 0, locals := 22 })).room s m ([.int a1, .int a2, .int a3, .int a4, .int a5] : List Value).toArray below meth c s.heap [] 0 0 (MQ below (vp_Si K) ([.int a1, .int a2, .int a3, .int a4, .int a5] : List Value).toArray s 0 0 (fun _ => False)) (F0 m 14 ls []) := by
    intro n
    induction n with
    | zero => intro v0 v1 v2 v3 v4 v5 v6 v7 hw; exact hw.elim
    | succ n ih =>
      intro v0 v1 v2 v3 v4 v5 v6 v7 hw ls hl
      refine lv_iload hx hb dX8_exactBy_14 (lv_at hl 7 rfl) ?_
      refine lv_sipush (v := 256) hx hb dX8_exactBy_16 (by decide) ?_
      refine lv_icmp_ge (tgt := 109) hx hb dX8_exactBy_19 (by decide) (fun c9 => ?_) (fun c9 => ?_)
      · have hw := hw.1 c9
        refine lv_iload hx hb dX8_exactBy_109 (lv_at hl 6 rfl) ?_
        exact S_iret hx hb hr hlocks hw dX8_exactBy_111
      · have hw := hw.2 c9
        refine lv_iconst (v := 0) hx hb dX8_exactBy_22 (by decide) ?_
        refine lv_istore (lv' := [(8, .int (0 : Int32)), (0, .int v0), (1, .int v1), (2, .int v2), (3, .int v3), (4, .int v4), (5, .int v5), (6, .int v6), (7, .int v7)]) hx hb dX8_exactBy_23 hl (by decide) rfl (fun ls hl => ?_)
        have hwl_X8_exactBy_25 : ∀ (n2 : Nat) (v0 : Int32) (v1 : Int32) (v2 : Int32) (v3 : Int32) (v4 : Int32) (v5 : Int32) (v6 : Int32) (v7 : Int32) (v8 : Int32), wl_X8_exactBy_25 K (fun o0 o1 o2 o3 o4 o5 o6 o7 => wl_X8_exactBy_14 K n o0 o1 o2 o3 o4 o5 o6 o7) n2 v0 v1 v2 v3 v4 v5 v6 v7 v8 → ∀ ls : Array Slot, lv_has ls 10 [(0, .int v0), (1, .int v1), (2, .int v2), (3, .int v3), (4, .int v4), (5, .int v5), (6, .int v6), (7, .int v7), (8, .int v8)] → W p l e (headSpec wsX8_exactBy ({ frames := 1, cells := 0, slots := 0, locals := 22 })).room s m ([.int a1, .int a2, .int a3, .int a4, .int a5] : List Value).toArray below meth c s.heap [] 0 0 (MQ below (vp_Si K) ([.int a1, .int a2, .int a3, .int a4, .int a5] : List Value).toArray s 0 0 (fun _ => False)) (F0 m 25 ls []) := by
          intro n2
          induction n2 with
          | zero => intro v0 v1 v2 v3 v4 v5 v6 v7 v8 hw; exact hw.elim
          | succ n2 ih2 =>
            intro v0 v1 v2 v3 v4 v5 v6 v7 v8 hw ls hl
            refine lv_iload hx hb dX8_exactBy_25 (lv_at hl 8 rfl) ?_
            refine lv_sipush (v := 256) hx hb dX8_exactBy_27 (by decide) ?_
            refine lv_icmp_ge (tgt := 103) hx hb dX8_exactBy_30 (by decide) (fun c9 => ?_) (fun c9 => ?_)
            · have hw := hw.1 c9
              obtain ⟨x2, ex2⟩ : ∃ y : Int32, y = v7 + 1 := ⟨_, rfl⟩
              have hw := hw x2 ex2
              refine lv_iinc (v := x2) (lv' := [(7, .int x2), (0, .int v0), (1, .int v1), (2, .int v2), (3, .int v3), (4, .int v4), (5, .int v5), (6, .int v6), (8, .int v8)]) hx hb dX8_exactBy_103 hl (k := 7) rfl (by rw [ex2]; rfl) (by decide) rfl (fun ls hl => ?_)
              refine lv_goto (tgt := 14) hx hb dX8_exactBy_106 (by decide) ?_
              exact ih v0 v1 v2 v3 v4 v5 v6 x2 hw ls (lv_sub hl [1, 2, 3, 4, 5, 6, 7, 0] rfl)
            · have hw := hw.2 c9
              refine lv_iload hx hb dX8_exactBy_33 (lv_at hl 7 rfl) ?_
              refine lv_iload_n hx hb dX8_exactBy_35 rfl (lv_at hl 2 rfl) ?_
              refine lv_iconst (v := -1) hx hb dX8_exactBy_36 (by decide) ?_
              refine lv_ixor hx hb dX8_exactBy_37 ?_
              refine lv_iand hx hb dX8_exactBy_38 ?_
              refine lv_if_ne (tgt := 103) hx hb dX8_exactBy_39 (by decide) (fun c9 => ?_) (fun c9 => ?_)
              · have hw := hw.1 c9
                obtain ⟨x3, ex3⟩ : ∃ y : Int32, y = v7 + 1 := ⟨_, rfl⟩
                have hw := hw x3 ex3
                refine lv_iinc (v := x3) (lv' := [(7, .int x3), (0, .int v0), (1, .int v1), (2, .int v2), (3, .int v3), (4, .int v4), (5, .int v5), (6, .int v6), (8, .int v8)]) hx hb dX8_exactBy_103 hl (k := 7) rfl (by rw [ex3]; rfl) (by decide) rfl (fun ls hl => ?_)
                refine lv_goto (tgt := 14) hx hb dX8_exactBy_106 (by decide) ?_
                exact ih v0 v1 v2 v3 v4 v5 v6 x3 hw ls (lv_sub hl [1, 2, 3, 4, 5, 6, 7, 0] rfl)
              · have hw := hw.2 c9
                refine lv_iload hx hb dX8_exactBy_42 (lv_at hl 8 rfl) ?_
                refine lv_iload hx hb dX8_exactBy_44 (lv_at hl 4 rfl) ?_
                refine lv_iconst (v := -1) hx hb dX8_exactBy_46 (by decide) ?_
                refine lv_ixor hx hb dX8_exactBy_47 ?_
                refine lv_iand hx hb dX8_exactBy_48 ?_
                refine lv_if_ne (tgt := 56) hx hb dX8_exactBy_49 (by decide) (fun c9 => ?_) (fun c9 => ?_)
                · have hw := hw.1 c9
                  refine lv_iconst (v := 0) hx hb dX8_exactBy_56 (by decide) ?_
                  refine lv_istore (lv' := [(9, .int (0 : Int32)), (0, .int v0), (1, .int v1), (2, .int v2), (3, .int v3), (4, .int v4), (5, .int v5), (6, .int v6), (7, .int v7), (8, .int v8)]) hx hb dX8_exactBy_57 hl (by decide) rfl (fun ls hl => ?_)
                  refine lv_iload hx hb dX8_exactBy_59 (lv_at hl 7 rfl) ?_
                  refine lv_iload hx hb dX8_exactBy_61 (lv_at hl 0 rfl) ?_
                  refine lv_if_eq (tgt := 93) hx hb dX8_exactBy_63 (by decide) (fun _ => ?_) (fun c9 => absurd (by decide) c9)
                  refine lv_iconst (v := 0) hx hb dX8_exactBy_93 (by decide) ?_
                  refine lv_ior hx hb dX8_exactBy_94 ?_
                  refine lv_topi (fun x4 ex4 => ?_)
                  have hw := hw x4 ex4
                  refine lv_istore (lv' := [(6, .int x4), (9, .int (0 : Int32)), (0, .int v0), (1, .int v1), (2, .int v2), (3, .int v3), (4, .int v4), (5, .int v5), (7, .int v7), (8, .int v8)]) hx hb dX8_exactBy_95 hl (by decide) rfl (fun ls hl => ?_)
                  obtain ⟨x5, ex5⟩ : ∃ y : Int32, y = v8 + 1 := ⟨_, rfl⟩
                  have hw := hw x5 ex5
                  refine lv_iinc (v := x5) (lv' := [(8, .int x5), (6, .int x4), (9, .int (0 : Int32)), (0, .int v0), (1, .int v1), (2, .int v2), (3, .int v3), (4, .int v4), (5, .int v5), (7, .int v7)]) hx hb dX8_exactBy_97 hl (k := 9) rfl (by rw [ex5]; rfl) (by decide) rfl (fun ls hl => ?_)
                  refine lv_goto (tgt := 25) hx hb dX8_exactBy_100 (by decide) ?_
                  exact ih2 v0 v1 v2 v3 v4 v5 x4 v7 x5 hw ls (lv_sub hl [3, 4, 5, 6, 7, 8, 1, 9, 0] rfl)
                · have hw := hw.2 c9
                  refine lv_iconst (v := 1) hx hb dX8_exactBy_52 (by decide) ?_
                  refine lv_goto (tgt := 57) hx hb dX8_exactBy_53 (by decide) ?_
                  refine lv_istore (lv' := [(9, .int (1 : Int32)), (0, .int v0), (1, .int v1), (2, .int v2), (3, .int v3), (4, .int v4), (5, .int v5), (6, .int v6), (7, .int v7), (8, .int v8)]) hx hb dX8_exactBy_57 hl (by decide) rfl (fun ls hl => ?_)
                  refine lv_iload hx hb dX8_exactBy_59 (lv_at hl 7 rfl) ?_
                  refine lv_iload hx hb dX8_exactBy_61 (lv_at hl 0 rfl) ?_
                  refine lv_if_eq (tgt := 93) hx hb dX8_exactBy_63 (by decide) (fun c9 => absurd c9 (by decide)) (fun _ => ?_)
                  refine lv_iload_n hx hb dX8_exactBy_66 rfl (lv_at hl 1 rfl) ?_
                  refine lv_iload_n hx hb dX8_exactBy_67 rfl (lv_at hl 2 rfl) ?_
                  refine lv_iload_n hx hb dX8_exactBy_68 rfl (lv_at hl 3 rfl) ?_
                  refine lv_iconst (v := -1) hx hb dX8_exactBy_69 (by decide) ?_
                  refine lv_ixor hx hb dX8_exactBy_70 ?_
                  refine lv_iand hx hb dX8_exactBy_71 ?_
                  refine lv_iload hx hb dX8_exactBy_72 (lv_at hl 8 rfl) ?_
                  refine lv_ior hx hb dX8_exactBy_74 ?_
                  refine lv_iload_n hx hb dX8_exactBy_75 rfl (lv_at hl 4 rfl) ?_
                  refine lv_iload hx hb dX8_exactBy_76 (lv_at hl 5 rfl) ?_
                  refine lv_iconst (v := -1) hx hb dX8_exactBy_78 (by decide) ?_
                  refine lv_ixor hx hb dX8_exactBy_79 ?_
                  refine lv_iand hx hb dX8_exactBy_80 ?_
                  refine lv_iload hx hb dX8_exactBy_81 (lv_at hl 9 rfl) ?_
                  refine lv_ior hx hb dX8_exactBy_83 ?_
                  refine S_calli (As := [.int v0, .int ((v1 &&& (v2 ^^^ (-1 : Int32))) ||| v7), .int ((v3 &&& (v4 ^^^ (-1 : Int32))) ||| v8)]) (rest := [.int v6]) ⟨hx, hb, hml, hown, hts⟩ (c_X8_valueBy l v0 ((v1 &&& (v2 ^^^ (-1 : Int32))) ||| v7) ((v3 &&& (v4 ^^^ (-1 : Int32))) ||| v8) _ hw) (va_cwS 3 hts gX8_exactBy_X8_valueBy rfl rfl rfl (by decide +kernel) ⟨Nat.le_of_ble_eq_true rfl, Nat.le_of_ble_eq_true rfl⟩) rfl hl.1 rfl (Nat.le_of_ble_eq_true rfl) dX8_exactBy_84 ⟨Nat.zero_le _, Nat.zero_le _⟩ (fun x6 hw => ?_)
                  refine lv_iload hx hb dX8_exactBy_87 (lv_at hl 6 rfl) ?_
                  refine lv_ixor hx hb dX8_exactBy_89 ?_
                  refine lv_goto (tgt := 94) hx hb dX8_exactBy_90 (by decide) ?_
                  refine lv_ior hx hb dX8_exactBy_94 ?_
                  refine lv_topi (fun x7 ex7 => ?_)
                  have hw := hw x7 ex7
                  refine lv_istore (lv' := [(6, .int x7), (9, .int (1 : Int32)), (0, .int v0), (1, .int v1), (2, .int v2), (3, .int v3), (4, .int v4), (5, .int v5), (7, .int v7), (8, .int v8)]) hx hb dX8_exactBy_95 hl (by decide) rfl (fun ls hl => ?_)
                  obtain ⟨x8, ex8⟩ : ∃ y : Int32, y = v8 + 1 := ⟨_, rfl⟩
                  have hw := hw x8 ex8
                  refine lv_iinc (v := x8) (lv' := [(8, .int x8), (6, .int x7), (9, .int (1 : Int32)), (0, .int v0), (1, .int v1), (2, .int v2), (3, .int v3), (4, .int v4), (5, .int v5), (7, .int v7)]) hx hb dX8_exactBy_97 hl (k := 9) rfl (by rw [ex8]; rfl) (by decide) rfl (fun ls hl => ?_)
                  refine lv_goto (tgt := 25) hx hb dX8_exactBy_100 (by decide) ?_
                  exact ih2 v0 v1 v2 v3 v4 v5 x7 v7 x8 hw ls (lv_sub hl [3, 4, 5, 6, 7, 8, 1, 9, 0] rfl)
        obtain ⟨nn, hw⟩ := hw
        exact hwl_X8_exactBy_25 nn v0 v1 v2 v3 v4 v5 v6 v7 (0 : Int32) hw ls (lv_sub hl [1, 2, 3, 4, 5, 6, 7, 8, 0] rfl)
  have hl := lv_entry ([.int a1, .int a2, .int a3, .int a4, .int a5]) (n := 10) (Nat.le_of_ble_eq_true rfl)
  rw [lg_entry_eq]
  generalize (lg_sl ([.int a1, .int a2, .int a3, .int a4, .int a5]) ++ List.replicate (10 - (lg_sl ([.int a1, .int a2, .int a3, .int a4, .int a5])).length) Slot.unset).toArray = ls at hl ⊢
  have hl : lv_has ls 10 [(0, .int a1), (1, .int a2), (2, .int a3), (3, .int a4), (4, .int a5)] := hl
  refine lv_iload_n hx hb dX8_exactBy_0 rfl (lv_at hl 0 rfl) ?_
  refine lv_iload_n hx hb dX8_exactBy_1 rfl (lv_at hl 1 rfl) ?_
  refine lv_iload_n hx hb dX8_exactBy_2 rfl (lv_at hl 3 rfl) ?_
  refine S_calli (As := [.int a1, .int a2, .int a4]) (rest := []) ⟨hx, hb, hml, hown, hts⟩ (c_X8_valueBy l a1 a2 a4 _ hw) (va_cwS 3 hts gX8_exactBy_X8_valueBy rfl rfl rfl (by decide +kernel) ⟨Nat.le_of_ble_eq_true rfl, Nat.le_of_ble_eq_true rfl⟩) rfl hl.1 rfl (Nat.le_of_ble_eq_true rfl) dX8_exactBy_3 ⟨Nat.zero_le _, Nat.zero_le _⟩ (fun x1 hw => ?_)
  refine lv_istore (lv' := [(5, .int x1), (0, .int a1), (1, .int a2), (2, .int a3), (3, .int a4), (4, .int a5)]) hx hb dX8_exactBy_6 hl (by decide) rfl (fun ls hl => ?_)
  refine lv_iconst (v := 0) hx hb dX8_exactBy_8 (by decide) ?_
  refine lv_istore (lv' := [(6, .int (0 : Int32)), (5, .int x1), (0, .int a1), (1, .int a2), (2, .int a3), (3, .int a4), (4, .int a5)]) hx hb dX8_exactBy_9 hl (by decide) rfl (fun ls hl => ?_)
  refine lv_iconst (v := 0) hx hb dX8_exactBy_11 (by decide) ?_
  refine lv_istore (lv' := [(7, .int (0 : Int32)), (6, .int (0 : Int32)), (5, .int x1), (0, .int a1), (1, .int a2), (2, .int a3), (3, .int a4), (4, .int a5)]) hx hb dX8_exactBy_12 hl (by decide) rfl (fun ls hl => ?_)
  obtain ⟨nn, hw⟩ := hw
  exact hwl_X8_exactBy_14 nn a1 a2 a3 a4 a5 x1 (0 : Int32) (0 : Int32) hw ls (lv_sub hl [3, 4, 5, 6, 7, 2, 1, 0] rfl)

def wl_X8_bits_4 (K : Int32 → Prop) : Nat → Int32 → Int32 → Int32 → Prop
  | 0, _, _, _ => False
  | n + 1, v0, v1, v2 => (((16 : Int32) ≤ v2 → K v1) ∧ (¬ (16 : Int32) ≤ v2 → ∀ x1 : Int32, x1 = v1 + ((v0 >>> (v2 &&& 31)) &&& (1 : Int32)) → ∀ x2 : Int32, x2 = v2 + 1 → wl_X8_bits_4 K n v0 x1 x2))
def wp_X8_bits (a1 : Int32) (K : Int32 → Prop) : Prop :=
  (∃ nn : Nat, wl_X8_bits_4 K nn a1 (0 : Int32) (0 : Int32))
set_option maxHeartbeats 4000000 in
set_option maxRecDepth 100000 in
theorem c_X8_bits (l : Launch) (a1 : Int32) (K : Int32 → Prop) (hw : wp_X8_bits a1 K) : Met l yX8_bits wsX8_bits ({ frames := 0, cells := 0, slots := 0, locals := 0 }) (va_Pc [.int a1] (fun _ => True)) (vp_Si K) 0 0 (fun _ => False) := by
  refine Met.ofW (cc := cX8_bits) (maxL := 3) (ret := (some .int)) (by decide) rfl ?_
  intro p e s m args below meth c s₁ B hml hv
  obtain ⟨rfl, -⟩ := hv
  have hx := B.exec
  have hb := B.bytes
  have hr := B.returns
  have hts := atoms_spec (ws := wsX8_bits) B.pre
  have hown : s.vm.findClass RX8 = some m.cls := findClass_of_methodNamed B.named
  have hlocks := B.notSynchronized
  have hwl_X8_bits_4 : ∀ (n : Nat) (v0 : Int32) (v1 : Int32) (v2 : Int32), wl_X8_bits_4 K n v0 v1 v2 → ∀ ls : Array Slot, lv_has ls 3 [(0, .int v0), (1, .int v1), (2, .int v2)] → W p l e (headSpec wsX8_bits ({ frames := 0, cells := 0, slots := 0, locals := 0 })).room s m ([.int a1] : List Value).toArray below meth c s.heap [] 0 0 (MQ below (vp_Si K) ([.int a1] : List Value).toArray s 0 0 (fun _ => False)) (F0 m 4 ls []) := by
    intro n
    induction n with
    | zero => intro v0 v1 v2 hw; exact hw.elim
    | succ n ih =>
      intro v0 v1 v2 hw ls hl
      refine lv_iload_n hx hb dX8_bits_4 rfl (lv_at hl 2 rfl) ?_
      refine lv_bipush (v := 16) hx hb dX8_bits_5 (by decide) ?_
      refine lv_icmp_ge (tgt := 24) hx hb dX8_bits_7 (by decide) (fun c9 => ?_) (fun c9 => ?_)
      · have hw := hw.1 c9
        refine lv_iload_n hx hb dX8_bits_24 rfl (lv_at hl 1 rfl) ?_
        exact S_iret hx hb hr hlocks hw dX8_bits_25
      · have hw := hw.2 c9
        refine lv_iload_n hx hb dX8_bits_10 rfl (lv_at hl 1 rfl) ?_
        refine lv_iload_n hx hb dX8_bits_11 rfl (lv_at hl 0 rfl) ?_
        refine lv_iload_n hx hb dX8_bits_12 rfl (lv_at hl 2 rfl) ?_
        refine lv_ishr hx hb dX8_bits_13 ?_
        refine lv_iconst (v := 1) hx hb dX8_bits_14 (by decide) ?_
        refine lv_iand hx hb dX8_bits_15 ?_
        refine lv_iadd hx hb dX8_bits_16 ?_
        refine lv_topi (fun x1 ex1 => ?_)
        have hw := hw x1 ex1
        refine lv_istore_n (lv' := [(1, .int x1), (0, .int v0), (2, .int v2)]) hx hb dX8_bits_17 rfl hl (by decide) rfl (fun ls hl => ?_)
        obtain ⟨x2, ex2⟩ : ∃ y : Int32, y = v2 + 1 := ⟨_, rfl⟩
        have hw := hw x2 ex2
        refine lv_iinc (v := x2) (lv' := [(2, .int x2), (1, .int x1), (0, .int v0)]) hx hb dX8_bits_18 hl (k := 2) rfl (by rw [ex2]; rfl) (by decide) rfl (fun ls hl => ?_)
        refine lv_goto (tgt := 4) hx hb dX8_bits_21 (by decide) ?_
        exact ih v0 x1 x2 hw ls (lv_sub hl [2, 1, 0] rfl)
  have hl := lv_entry ([.int a1]) (n := 3) (Nat.le_of_ble_eq_true rfl)
  rw [lg_entry_eq]
  generalize (lg_sl ([.int a1]) ++ List.replicate (3 - (lg_sl ([.int a1])).length) Slot.unset).toArray = ls at hl ⊢
  have hl : lv_has ls 3 [(0, .int a1)] := hl
  refine lv_iconst (v := 0) hx hb dX8_bits_0 (by decide) ?_
  refine lv_istore_n (lv' := [(1, .int (0 : Int32)), (0, .int a1)]) hx hb dX8_bits_1 rfl hl (by decide) rfl (fun ls hl => ?_)
  refine lv_iconst (v := 0) hx hb dX8_bits_2 (by decide) ?_
  refine lv_istore_n (lv' := [(2, .int (0 : Int32)), (1, .int (0 : Int32)), (0, .int a1)]) hx hb dX8_bits_3 rfl hl (by decide) rfl (fun ls hl => ?_)
  obtain ⟨nn, hw⟩ := hw
  exact hwl_X8_bits_4 nn a1 (0 : Int32) (0 : Int32) hw ls (lv_sub hl [2, 1, 0] rfl)

def wp_X8_areWell (a1 : Int32) (a2 : Int32) (a3 : Int32) (a4 : Int32) (a5 : Int32) (K : Int32 → Prop) : Prop :=
  wp_X8_in (a1.toInt64) (0 : Int64) (6 : Int64) (fun x1 => ((x1 = 0 → K (0 : Int32)) ∧ (¬ x1 = 0 → wp_X8_isByte a2 (fun x2 => ((x2 = 0 → K (0 : Int32)) ∧ (¬ x2 = 0 → wp_X8_isByte a3 (fun x3 => ((x3 = 0 → K (0 : Int32)) ∧ (¬ x3 = 0 → wp_X8_isByte a4 (fun x4 => ((x4 = 0 → K (0 : Int32)) ∧ (¬ x4 = 0 → wp_X8_isByte a5 (fun x5 => ((x5 = 0 → K (0 : Int32)) ∧ (¬ x5 = 0 → K (1 : Int32))))))))))))))))
set_option maxHeartbeats 4000000 in
set_option maxRecDepth 100000 in
theorem c_X8_areWell (l : Launch) (a1 : Int32) (a2 : Int32) (a3 : Int32) (a4 : Int32) (a5 : Int32) (K : Int32 → Prop) (hw : wp_X8_areWell a1 a2 a3 a4 a5 K) : Met l yX8_areWell wsX8_areWell ({ frames := 2, cells := 0, slots := 0, locals := 45 }) (va_Pc [.int a1, .int a2, .int a3, .int a4, .int a5] (fun _ => True)) (vp_Si K) 0 0 (fun _ => False) := by
  refine Met.ofW (cc := cX8_areWell) (maxL := 5) (ret := (some .boolean)) (by decide) rfl ?_
  intro p e s m args below meth c s₁ B hml hv
  obtain ⟨rfl, -⟩ := hv
  have hx := B.exec
  have hb := B.bytes
  have hr := B.returns
  have hts := atoms_spec (ws := wsX8_areWell) B.pre
  have hown : s.vm.findClass RX8 = some m.cls := findClass_of_methodNamed B.named
  have hlocks := B.notSynchronized
  have hl := lv_entry ([.int a1, .int a2, .int a3, .int a4, .int a5]) (n := 5) (Nat.le_of_ble_eq_true rfl)
  rw [lg_entry_eq]
  generalize (lg_sl ([.int a1, .int a2, .int a3, .int a4, .int a5]) ++ List.replicate (5 - (lg_sl ([.int a1, .int a2, .int a3, .int a4, .int a5])).length) Slot.unset).toArray = ls at hl ⊢
  have hl : lv_has ls 5 [(0, .int a1), (1, .int a2), (2, .int a3), (3, .int a4), (4, .int a5)] := hl
  refine lv_iload_n hx hb dX8_areWell_0 rfl (lv_at hl 0 rfl) ?_
  refine lv_i2l hx hb dX8_areWell_1 rfl ?_
  refine lv_lconst (v := 0) hx hb dX8_areWell_2 (by decide) ?_
  refine lv_ldc2 (v := 6) hx hb hown (hts _ (List.mem_of_getElem? (i := 1) rfl)) dX8_areWell_3 ?_
  refine S_calli (As := [.long (a1.toInt64), .long (0 : Int64), .long (6 : Int64)]) (rest := []) ⟨hx, hb, hml, hown, hts⟩ (c_X8_in l (a1.toInt64) (0 : Int64) (6 : Int64) _ hw) (va_cwS 3 hts gX8_areWell_X8_in rfl rfl rfl (by decide +kernel) ⟨Nat.le_of_ble_eq_true rfl, Nat.le_of_ble_eq_true rfl⟩) rfl hl.1 rfl (Nat.le_of_ble_eq_true rfl) dX8_areWell_6 ⟨Nat.zero_le _, Nat.zero_le _⟩ (fun x1 hw => ?_)
  refine lv_if_eq (tgt := 45) hx hb dX8_areWell_9 (by decide) (fun c9 => ?_) (fun c9 => ?_)
  · have hw := hw.1 c9
    refine lv_iconst (v := 0) hx hb dX8_areWell_45 (by decide) ?_
    exact S_zret hx hb hr hlocks rfl hw dX8_areWell_46
  · have hw := hw.2 c9
    refine lv_iload_n hx hb dX8_areWell_12 rfl (lv_at hl 1 rfl) ?_
    refine S_calli (As := [.int a2]) (rest := []) ⟨hx, hb, hml, hown, hts⟩ (c_X8_isByte l a2 _ hw) (va_cwS 1 hts gX8_areWell_X8_isByte rfl rfl rfl (by decide +kernel) ⟨Nat.le_of_ble_eq_true rfl, Nat.le_of_ble_eq_true rfl⟩) rfl hl.1 rfl (Nat.le_of_ble_eq_true rfl) dX8_areWell_13 ⟨Nat.zero_le _, Nat.zero_le _⟩ (fun x2 hw => ?_)
    refine lv_if_eq (tgt := 45) hx hb dX8_areWell_16 (by decide) (fun c9 => ?_) (fun c9 => ?_)
    · have hw := hw.1 c9
      refine lv_iconst (v := 0) hx hb dX8_areWell_45 (by decide) ?_
      exact S_zret hx hb hr hlocks rfl hw dX8_areWell_46
    · have hw := hw.2 c9
      refine lv_iload_n hx hb dX8_areWell_19 rfl (lv_at hl 2 rfl) ?_
      refine S_calli (As := [.int a3]) (rest := []) ⟨hx, hb, hml, hown, hts⟩ (c_X8_isByte l a3 _ hw) (va_cwS 1 hts gX8_areWell_X8_isByte rfl rfl rfl (by decide +kernel) ⟨Nat.le_of_ble_eq_true rfl, Nat.le_of_ble_eq_true rfl⟩) rfl hl.1 rfl (Nat.le_of_ble_eq_true rfl) dX8_areWell_20 ⟨Nat.zero_le _, Nat.zero_le _⟩ (fun x3 hw => ?_)
      refine lv_if_eq (tgt := 45) hx hb dX8_areWell_23 (by decide) (fun c9 => ?_) (fun c9 => ?_)
      · have hw := hw.1 c9
        refine lv_iconst (v := 0) hx hb dX8_areWell_45 (by decide) ?_
        exact S_zret hx hb hr hlocks rfl hw dX8_areWell_46
      · have hw := hw.2 c9
        refine lv_iload_n hx hb dX8_areWell_26 rfl (lv_at hl 3 rfl) ?_
        refine S_calli (As := [.int a4]) (rest := []) ⟨hx, hb, hml, hown, hts⟩ (c_X8_isByte l a4 _ hw) (va_cwS 1 hts gX8_areWell_X8_isByte rfl rfl rfl (by decide +kernel) ⟨Nat.le_of_ble_eq_true rfl, Nat.le_of_ble_eq_true rfl⟩) rfl hl.1 rfl (Nat.le_of_ble_eq_true rfl) dX8_areWell_27 ⟨Nat.zero_le _, Nat.zero_le _⟩ (fun x4 hw => ?_)
        refine lv_if_eq (tgt := 45) hx hb dX8_areWell_30 (by decide) (fun c9 => ?_) (fun c9 => ?_)
        · have hw := hw.1 c9
          refine lv_iconst (v := 0) hx hb dX8_areWell_45 (by decide) ?_
          exact S_zret hx hb hr hlocks rfl hw dX8_areWell_46
        · have hw := hw.2 c9
          refine lv_iload hx hb dX8_areWell_33 (lv_at hl 4 rfl) ?_
          refine S_calli (As := [.int a5]) (rest := []) ⟨hx, hb, hml, hown, hts⟩ (c_X8_isByte l a5 _ hw) (va_cwS 1 hts gX8_areWell_X8_isByte rfl rfl rfl (by decide +kernel) ⟨Nat.le_of_ble_eq_true rfl, Nat.le_of_ble_eq_true rfl⟩) rfl hl.1 rfl (Nat.le_of_ble_eq_true rfl) dX8_areWell_35 ⟨Nat.zero_le _, Nat.zero_le _⟩ (fun x5 hw => ?_)
          refine lv_if_eq (tgt := 45) hx hb dX8_areWell_38 (by decide) (fun c9 => ?_) (fun c9 => ?_)
          · have hw := hw.1 c9
            refine lv_iconst (v := 0) hx hb dX8_areWell_45 (by decide) ?_
            exact S_zret hx hb hr hlocks rfl hw dX8_areWell_46
          · have hw := hw.2 c9
            refine lv_iconst (v := 1) hx hb dX8_areWell_41 (by decide) ?_
            refine lv_goto (tgt := 46) hx hb dX8_areWell_42 (by decide) ?_
            exact S_zret hx hb hr hlocks rfl hw dX8_areWell_46
