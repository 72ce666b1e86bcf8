set_option maxHeartbeats 4000000 in
set_option maxRecDepth 100000 in
theorem c_X7_imageOf0 (l : Launch) (D : va_G) (cI : ClassId) (ad : Nat → Nat) (A : Nat → Prop) (σ : St) (a1 : Int32) (hw : a1 = 0) : Met l yX7_imageOf wsX7_imageOf ({ frames := 0, cells := 0, slots := 0, locals := 0 }) (va_Pc [.ref (ad 0), .int a1] (GW D [(cI, FieldType.int)] (wC cI ad) A σ)) (va_Qr (fun _ : Unit => True) (fun _ a t => a = ad 3 ∧ GW D [(cI, FieldType.int)] (wC cI ad) A σ t) A) 0 0 A := by
  refine Met.ofW (cc := cX7_imageOf) (maxL := 2) (ret := (some (.object "BitShadows$House"))) (by decide) rfl ?_
  intro p e s m args below meth c s₁ B hml hv
  obtain ⟨rfl, hP, hK, hD⟩ := hv
  have hx := B.exec
  have hb := B.bytes
  have hr := B.returns
  have hts := atoms_spec (ws := wsX7_imageOf) B.pre
  have hown : s.vm.findClass RX7 = some m.cls := findClass_of_methodNamed B.named
  have hlocks := B.notSynchronized
  have hS : va_S A s.heap s.heap [] := va_S.rf
  have hinX7 : ∀ w ∈ wsX70, w ∈ wsX7_imageOf := fun _ h => List.mem_cons_of_mem _ (List.mem_append_right _ (h))
  have hl := lv_entry ([.ref (ad 0), .int a1]) (n := 2) (Nat.le_of_ble_eq_true rfl)
  rw [lg_entry_eq]
  generalize (lg_sl ([.ref (ad 0), .int a1]) ++ List.replicate (2 - (lg_sl ([.ref (ad 0), .int a1])).length) Slot.unset).toArray = ls at hl ⊢
  have hl : lv_has ls 2 [(0, .ref (ad 0)), (1, .int a1)] := hl
  have hP : va_P D vwCl (wC cI ad σ) s.heap := hP
  refine lv_iload_n hx hb dX7_imageOf_0 rfl (lv_at hl 1 rfl) ?_
  refine lv_if_ne (tgt := 11) hx hb dX7_imageOf_1 (by decide) (fun c9 => absurd hw c9) (fun c9 => ?_)
  refine lv_aload_n hx hb dX7_imageOf_4 rfl (lv_at hl 0 rfl) ?_
  refine va_get (D := D) (ci := 5) (C := RX7) (T := TX7) (N := 12) hx hb hts hinX7 hown hK hP 0 rfl rfl 1 (by decide) (hts (.fieldLink RX7 16 "BitShadows" "firstImage" "LBitShadows$House;") (by decide +kernel)) (fun _ h9 => h9) rfl dX7_imageOf_5 ?_
  refine lv_goto (tgt := 15) hx hb dX7_imageOf_8 (by decide) ?_
  exact W.aret hx hb hr (Or.inl ⟨_, rfl⟩) (Or.inr ⟨_, rfl⟩) (fun t ht hW => ⟨⟨(), ad 3, rfl, trivial, rfl, by rw [ht]; exact hP, va_K.moved hW.alike hK, hD⟩, hS.F ht⟩) hS.2.2 dX7_imageOf_15

set_option maxHeartbeats 4000000 in
set_option maxRecDepth 100000 in
theorem c_X7_imageOf1 (l : Launch) (D : va_G) (cI : ClassId) (ad : Nat → Nat) (A : Nat → Prop) (σ : St) (a1 : Int32) (hw : ¬ a1 = 0) : Met l yX7_imageOf wsX7_imageOf ({ frames := 0, cells := 0, slots := 0, locals := 0 }) (va_Pc [.ref (ad 0), .int a1] (GW D [(cI, FieldType.int)] (wC cI ad) A σ)) (va_Qr (fun _ : Unit => True) (fun _ a t => a = ad 5 ∧ GW D [(cI, FieldType.int)] (wC cI ad) A σ t) A) 0 0 A := by
  refine Met.ofW (cc := cX7_imageOf) (maxL := 2) (ret := (some (.object "BitShadows$House"))) (by decide) rfl ?_
  intro p e s m args below meth c s₁ B hml hv
  obtain ⟨rfl, hP, hK, hD⟩ := hv
  have hx := B.exec
  have hb := B.bytes
  have hr := B.returns
  have hts := atoms_spec (ws := wsX7_imageOf) B.pre
  have hown : s.vm.findClass RX7 = some m.cls := findClass_of_methodNamed B.named
  have hlocks := B.notSynchronized
  have hS : va_S A s.heap s.heap [] := va_S.rf
  have hinX7 : ∀ w ∈ wsX70, w ∈ wsX7_imageOf := fun _ h => List.mem_cons_of_mem _ (List.mem_append_right _ (h))
  have hl := lv_entry ([.ref (ad 0), .int a1]) (n := 2) (Nat.le_of_ble_eq_true rfl)
  rw [lg_entry_eq]
  generalize (lg_sl ([.ref (ad 0), .int a1]) ++ List.replicate (2 - (lg_sl ([.ref (ad 0), .int a1])).length) Slot.unset).toArray = ls at hl ⊢
  have hl : lv_has ls 2 [(0, .ref (ad 0)), (1, .int a1)] := hl
  have hP : va_P D vwCl (wC cI ad σ) s.heap := hP
  refine lv_iload_n hx hb dX7_imageOf_0 rfl (lv_at hl 1 rfl) ?_
  refine lv_if_ne (tgt := 11) hx hb dX7_imageOf_1 (by decide) (fun c9 => ?_) (fun c9 => absurd c9 hw)
  refine lv_aload_n hx hb dX7_imageOf_11 rfl (lv_at hl 0 rfl) ?_
  refine va_get (D := D) (ci := 5) (C := RX7) (T := TX7) (N := 12) hx hb hts hinX7 hown hK hP 0 rfl rfl 2 (by decide) (hts (.fieldLink RX7 19 "BitShadows" "secondImage" "LBitShadows$House;") (by decide +kernel)) (fun _ h9 => h9) rfl dX7_imageOf_12 ?_
  exact W.aret hx hb hr (Or.inl ⟨_, rfl⟩) (Or.inr ⟨_, rfl⟩) (fun t ht hW => ⟨⟨(), ad 5, rfl, trivial, rfl, by rw [ht]; exact hP, va_K.moved hW.alike hK, hD⟩, hS.F ht⟩) hS.2.2 dX7_imageOf_15
def wl_X4_clear_1_2 (K : St → Prop) : Nat → Int32 → St → Prop
  | 0, _, _ => False
  | n + 1, v1, σ => (((40 : Int32) ≤ v1 → ∀ σ1 : St, σ1 = sI σ 0 (0 : Int32) → K σ1) ∧ (¬ (40 : Int32) ≤ v1 → vp_in v1 40 ∧ ∀ σ2 : St, σ2 = sA σ 0 (upd (σ.2.1 0) v1.toNatClampNeg (0 : Int32)) → ∀ x3 : Int32, x3 = v1 + 1 → wl_X4_clear_1_2 K n x3 σ2))
def wp_X4_clear_1 (σ : St) (K : St → Prop) : Prop :=
  (∃ nn : Nat, wl_X4_clear_1_2 K nn (0 : Int32) σ)
set_option maxHeartbeats 4000000 in
set_option maxRecDepth 100000 in
theorem c_X4_clear_1 (l : Launch) (D : va_G) (cI : ClassId) (ad : Nat → Nat) (A : Nat → Prop) (σ : St) (K : St → Prop) (hw : wp_X4_clear_1 σ K) : Met l yX4_clear wsX4_clear ({ frames := 0, cells := 0, slots := 0, locals := 0 }) (va_Pc [.ref (ad 1)] (GW D [(cI, FieldType.int)] (wC cI ad) A σ)) (va_Qv K (GW D [(cI, FieldType.int)] (wC cI ad) A) A) 0 0 A := by
  refine Met.ofW (cc := cX4_clear) (maxL := 2) (ret := none) (by decide) rfl ?_
  intro p e s m args below meth c s₁ B hml hv
  obtain ⟨rfl, hP, hK, hD⟩ := hv
  have hx := B.exec
  have hb := B.bytes
  have hr := B.returns
  have hts := atoms_spec (ws := wsX4_clear) B.pre
  have hown : s.vm.findClass RX4 = some m.cls := findClass_of_methodNamed B.named
  have hlocks := B.notSynchronized
  have hS : va_S A s.heap s.heap [] := va_S.rf
  have hinX4 : ∀ w ∈ wsX40, w ∈ wsX4_clear := fun _ h => List.mem_cons_of_mem _ (List.mem_append_right _ (h))
  have hwl_X4_clear_1_2 : ∀ (n : Nat) (v1 : Int32) (σ : St), wl_X4_clear_1_2 K n v1 σ → ∀ (H : Heap) (locs : List Loc), va_P D vwCl (wC cI ad σ) H → va_D A (wC cI ad σ) → va_S A s.heap H locs → ∀ ls : Array Slot, lv_has ls 2 [(0, .ref (ad 1)), (1, .int v1)] → W p l e (headSpec wsX4_clear ({ frames := 0, cells := 0, slots := 0, locals := 0 })).room s m ([.ref (ad 1)] : List Value).toArray below meth c H locs 0 0 (MQ below (va_Qv K (GW D [(cI, FieldType.int)] (wC cI ad) A) A) ([.ref (ad 1)] : List Value).toArray s 0 0 A) (F0 m 2 ls []) := by
    intro n
    induction n with
    | zero => intro v1 σ hw; exact hw.elim
    | succ n ih =>
      intro v1 σ hw H locs hP hD hS ls hl
      refine lv_iload_n hx hb dX4_clear_2 rfl (lv_at hl 1 rfl) ?_
      refine lv_bipush (v := 40) hx hb dX4_clear_3 (by decide) ?_
      refine lv_icmp_ge (tgt := 21) hx hb dX4_clear_5 (by decide) (fun c9 => ?_) (fun c9 => ?_)
      · have hw := hw.1 c9
        refine lv_aload_n hx hb dX4_clear_21 rfl (lv_at hl 0 rfl) ?_
        refine lv_iconst (v := 0) hx hb dX4_clear_22 (by decide) ?_
        refine va_put (D := D) (ci := 3) (ty := .int) (C := RX4) (T := TX4) (N := 2) hx hb hts hinX4 tyX4 tyX4_ok nmX4 hown hK hP hD hS 1 rfl rfl 1 (by decide) (hts _ (List.mem_of_getElem? (i := 2) rfl)) (fun _ h9 => h9) rfl (by decide +kernel) rfl rfl (Nat.le_of_ble_eq_true rfl) dX4_clear_23 (fun H locs hP hD hS => ?_)
        obtain ⟨σ1, eσ1⟩ : ∃ z : St, z = sI σ 0 (0 : Int32) := ⟨_, rfl⟩
        have hP : va_P D vwCl (wC cI ad σ1) H := by rw [eσ1]; exact hP
        have hD : va_D A (wC cI ad σ1) := by rw [eσ1]; exact hD
        have hw := hw σ1 eσ1
        exact G_vret hx hb hr hlocks hw hP hK hD hS dX4_clear_26
      · have hw := hw.2 c9
        refine lv_aload_n hx hb dX4_clear_8 rfl (lv_at hl 0 rfl) ?_
        refine va_get (D := D) (ci := 3) (C := RX4) (T := TX4) (N := 2) hx hb hts hinX4 hown hK hP 1 rfl rfl 0 (by decide) (hts _ (List.mem_of_getElem? (i := 1) rfl)) (fun _ h9 => h9) rfl dX4_clear_9 ?_
        refine lv_iload_n hx hb dX4_clear_12 rfl (lv_at hl 1 rfl) ?_
        refine lv_iconst (v := 0) hx hb dX4_clear_13 (by decide) ?_
        refine va_iast (D := D) hx hb hK hP hD hS 2 0 rfl rfl hw.1 dX4_clear_14 (fun H locs hP hD hS => ?_)
        obtain ⟨σ2, eσ2⟩ : ∃ z : St, z = sA σ 0 (upd (σ.2.1 0) v1.toNatClampNeg (0 : Int32)) := ⟨_, rfl⟩
        have hP : va_P D vwCl (wC cI ad σ2) H := by rw [eσ2]; exact hP
        have hD : va_D A (wC cI ad σ2) := by rw [eσ2]; exact hD
        have hw := hw.2 σ2 eσ2
        obtain ⟨x3, ex3⟩ : ∃ y : Int32, y = v1 + 1 := ⟨_, rfl⟩
        have hw := hw x3 ex3
        refine lv_iinc (v := x3) (lv' := [(1, .int x3), (0, .ref (ad 1))]) hx hb dX4_clear_15 hl (k := 1) rfl (by rw [ex3]; rfl) (by decide) rfl (fun ls hl => ?_)
        refine lv_goto (tgt := 2) hx hb dX4_clear_18 (by decide) ?_
        exact ih x3 σ2 hw _ _ hP hD hS ls (lv_sub hl [1, 0] rfl)
  have hl := lv_entry ([.ref (ad 1)]) (n := 2) (Nat.le_of_ble_eq_true rfl)
  rw [lg_entry_eq]
  generalize (lg_sl ([.ref (ad 1)]) ++ List.replicate (2 - (lg_sl ([.ref (ad 1)])).length) Slot.unset).toArray = ls at hl ⊢
  have hl : lv_has ls 2 [(0, .ref (ad 1))] := hl
  have hP : va_P D vwCl (wC cI ad σ) s.heap := hP
  refine lv_iconst (v := 0) hx hb dX4_clear_0 (by decide) ?_
  refine lv_istore_n (lv' := [(1, .int (0 : Int32)), (0, .ref (ad 1))]) hx hb dX4_clear_1 rfl hl (by decide) rfl (fun ls hl => ?_)
  obtain ⟨nn, hw⟩ := hw
  exact hwl_X4_clear_1_2 nn (0 : Int32) σ hw _ _ hP hD hS ls (lv_sub hl [1, 0] rfl)

def wl_X3_clear_7_2 (K : St → Prop) : Nat → Int32 → St → Prop
  | 0, _, _ => False
  | n + 1, v1, σ => (((32 : Int32) ≤ v1 → ∀ σ1 : St, σ1 = sI σ 3 (0 : Int32) → ∀ σ2 : St, σ2 = sI σ1 4 (0 : Int32) → K σ2) ∧ (¬ (32 : Int32) ≤ v1 → vp_in v1 32 ∧ ∀ σ3 : St, σ3 = sA σ 5 (upd (σ.2.1 5) v1.toNatClampNeg (-1 : Int32)) → ∀ x4 : Int32, x4 = v1 + 1 → wl_X3_clear_7_2 K n x4 σ3))
def wp_X3_clear_7 (σ : St) (K : St → Prop) : Prop :=
  (∃ nn : Nat, wl_X3_clear_7_2 K nn (0 : Int32) σ)
set_option maxHeartbeats 4000000 in
set_option maxRecDepth 100000 in
theorem c_X3_clear_7 (l : Launch) (D : va_G) (cI : ClassId) (ad : Nat → Nat) (A : Nat → Prop) (σ : St) (K : St → Prop) (hw : wp_X3_clear_7 σ K) : Met l yX3_clear wsX3_clear ({ frames := 0, cells := 0, slots := 0, locals := 0 }) (va_Pc [.ref (ad 7)] (GW D [(cI, FieldType.int)] (wC cI ad) A σ)) (va_Qv K (GW D [(cI, FieldType.int)] (wC cI ad) A) A) 0 0 A := by
  refine Met.ofW (cc := cX3_clear) (maxL := 2) (ret := none) (by decide) rfl ?_
  intro p e s m args below meth c s₁ B hml hv
  obtain ⟨rfl, hP, hK, hD⟩ := hv
  have hx := B.exec
  have hb := B.bytes
  have hr := B.returns
  have hts := atoms_spec (ws := wsX3_clear) B.pre
  have hown : s.vm.findClass RX3 = some m.cls := findClass_of_methodNamed B.named
  have hlocks := B.notSynchronized
  have hS : va_S A s.heap s.heap [] := va_S.rf
  have hinX3 : ∀ w ∈ wsX30, w ∈ wsX3_clear := fun _ h => List.mem_cons_of_mem _ (List.mem_append_right _ (h))
  have hwl_X3_clear_7_2 : ∀ (n : Nat) (v1 : Int32) (σ : St), wl_X3_clear_7_2 K n v1 σ → ∀ (H : Heap) (locs : List Loc), va_P D vwCl (wC cI ad σ) H → va_D A (wC cI ad σ) → va_S A s.heap H locs → ∀ ls : Array Slot, lv_has ls 2 [(0, .ref (ad 7)), (1, .int v1)] → W p l e (headSpec wsX3_clear ({ frames := 0, cells := 0, slots := 0, locals := 0 })).room s m ([.ref (ad 7)] : List Value).toArray below meth c H locs 0 0 (MQ below (va_Qv K (GW D [(cI, FieldType.int)] (wC cI ad) A) A) ([.ref (ad 7)] : List Value).toArray s 0 0 A) (F0 m 2 ls []) := by
    intro n
    induction n with
    | zero => intro v1 σ hw; exact hw.elim
    | succ n ih =>
      intro v1 σ hw H locs hP hD hS ls hl
      refine lv_iload_n hx hb dX3_clear_2 rfl (lv_at hl 1 rfl) ?_
      refine lv_bipush (v := 32) hx hb dX3_clear_3 (by decide) ?_
      refine lv_icmp_ge (tgt := 21) hx hb dX3_clear_5 (by decide) (fun c9 => ?_) (fun c9 => ?_)
      · have hw := hw.1 c9
        refine lv_aload_n hx hb dX3_clear_21 rfl (lv_at hl 0 rfl) ?_
        refine lv_iconst (v := 0) hx hb dX3_clear_22 (by decide) ?_
        refine va_put (D := D) (ci := 2) (ty := .int) (C := RX3) (T := TX3) (N := 5) hx hb hts hinX3 tyX3 tyX3_ok nmX3 hown hK hP hD hS 7 rfl rfl 3 (by decide) (hts _ (List.mem_of_getElem? (i := 2) rfl)) (fun _ h9 => h9) rfl (by decide +kernel) rfl rfl (Nat.le_of_ble_eq_true rfl) dX3_clear_23 (fun H locs hP hD hS => ?_)
        obtain ⟨σ1, eσ1⟩ : ∃ z : St, z = sI σ 3 (0 : Int32) := ⟨_, rfl⟩
        have hP : va_P D vwCl (wC cI ad σ1) H := by rw [eσ1]; exact hP
        have hD : va_D A (wC cI ad σ1) := by rw [eσ1]; exact hD
        have hw := hw σ1 eσ1
        refine lv_aload_n hx hb dX3_clear_26 rfl (lv_at hl 0 rfl) ?_
        refine lv_iconst (v := 0) hx hb dX3_clear_27 (by decide) ?_
        refine va_put (D := D) (ci := 2) (ty := .int) (C := RX3) (T := TX3) (N := 5) hx hb hts hinX3 tyX3 tyX3_ok nmX3 hown hK hP hD hS 7 rfl rfl 4 (by decide) (hts _ (List.mem_of_getElem? (i := 3) rfl)) (fun _ h9 => h9) rfl (by decide +kernel) rfl rfl (Nat.le_of_ble_eq_true rfl) dX3_clear_28 (fun H locs hP hD hS => ?_)
        obtain ⟨σ2, eσ2⟩ : ∃ z : St, z = sI σ1 4 (0 : Int32) := ⟨_, rfl⟩
        have hP : va_P D vwCl (wC cI ad σ2) H := by rw [eσ2]; exact hP
        have hD : va_D A (wC cI ad σ2) := by rw [eσ2]; exact hD
        have hw := hw σ2 eσ2
        exact G_vret hx hb hr hlocks hw hP hK hD hS dX3_clear_31
      · have hw := hw.2 c9
        refine lv_aload_n hx hb dX3_clear_8 rfl (lv_at hl 0 rfl) ?_
        refine va_get (D := D) (ci := 2) (C := RX3) (T := TX3) (N := 5) hx hb hts hinX3 hown hK hP 7 rfl rfl 2 (by decide) (hts _ (List.mem_of_getElem? (i := 1) rfl)) (fun _ h9 => h9) rfl dX3_clear_9 ?_
        refine lv_iload_n hx hb dX3_clear_12 rfl (lv_at hl 1 rfl) ?_
        refine lv_iconst (v := -1) hx hb dX3_clear_13 (by decide) ?_
        refine va_iast (D := D) hx hb hK hP hD hS 10 0 rfl rfl hw.1 dX3_clear_14 (fun H locs hP hD hS => ?_)
        obtain ⟨σ3, eσ3⟩ : ∃ z : St, z = sA σ 5 (upd (σ.2.1 5) v1.toNatClampNeg (-1 : Int32)) := ⟨_, rfl⟩
        have hP : va_P D vwCl (wC cI ad σ3) H := by rw [eσ3]; exact hP
        have hD : va_D A (wC cI ad σ3) := by rw [eσ3]; exact hD
        have hw := hw.2 σ3 eσ3
        obtain ⟨x4, ex4⟩ : ∃ y : Int32, y = v1 + 1 := ⟨_, rfl⟩
        have hw := hw x4 ex4
        refine lv_iinc (v := x4) (lv' := [(1, .int x4), (0, .ref (ad 7))]) hx hb dX3_clear_15 hl (k := 1) rfl (by rw [ex4]; rfl) (by decide) rfl (fun ls hl => ?_)
        refine lv_goto (tgt := 2) hx hb dX3_clear_18 (by decide) ?_
        exact ih x4 σ3 hw _ _ hP hD hS ls (lv_sub hl [1, 0] rfl)
  have hl := lv_entry ([.ref (ad 7)]) (n := 2) (Nat.le_of_ble_eq_true rfl)
  rw [lg_entry_eq]
  generalize (lg_sl ([.ref (ad 7)]) ++ List.replicate (2 - (lg_sl ([.ref (ad 7)])).length) Slot.unset).toArray = ls at hl ⊢
  have hl : lv_has ls 2 [(0, .ref (ad 7))] := hl
  have hP : va_P D vwCl (wC cI ad σ) s.heap := hP
  refine lv_iconst (v := 0) hx hb dX3_clear_0 (by decide) ?_
  refine lv_istore_n (lv' := [(1, .int (0 : Int32)), (0, .ref (ad 7))]) hx hb dX3_clear_1 rfl hl (by decide) rfl (fun ls hl => ?_)
  obtain ⟨nn, hw⟩ := hw
  exact hwl_X3_clear_7_2 nn (0 : Int32) σ hw _ _ hP hD hS ls (lv_sub hl [1, 0] rfl)

def wp_X2_clear_11 (σ : St) (K : St → Prop) : Prop :=
  ∀ σ1 : St, σ1 = sI σ 5 (0 : Int32) → ∀ σ2 : St, σ2 = sI σ1 6 (0 : Int32) → K σ2
set_option maxHeartbeats 4000000 in
set_option maxRecDepth 100000 in
theorem c_X2_clear_11 (l : Launch) (D : va_G) (cI : ClassId) (ad : Nat → Nat) (A : Nat → Prop) (σ : St) (K : St → Prop) (hw : wp_X2_clear_11 σ K) : Met l yX2_clear wsX2_clear ({ frames := 0, cells := 0, slots := 0, locals := 0 }) (va_Pc [.ref (ad 11)] (GW D [(cI, FieldType.int)] (wC cI ad) A σ)) (va_Qv K (GW D [(cI, FieldType.int)] (wC cI ad) A) A) 0 0 A := by
  refine Met.ofW (cc := cX2_clear) (maxL := 1) (ret := none) (by decide) rfl ?_
  intro p e s m args below meth c s₁ B hml hv
  obtain ⟨rfl, hP, hK, hD⟩ := hv
  have hx := B.exec
  have hb := B.bytes
  have hr := B.returns
  have hts := atoms_spec (ws := wsX2_clear) B.pre
  have hown : s.vm.findClass RX2 = some m.cls := findClass_of_methodNamed B.named
  have hlocks := B.notSynchronized
  have hS : va_S A s.heap s.heap [] := va_S.rf
  have hinX2 : ∀ w ∈ wsX20, w ∈ wsX2_clear := fun _ h => List.mem_cons_of_mem _ (List.mem_append_right _ (h))
  have hl := lv_entry ([.ref (ad 11)]) (n := 1) (Nat.le_of_ble_eq_true rfl)
  rw [lg_entry_eq]
  generalize (lg_sl ([.ref (ad 11)]) ++ List.replicate (1 - (lg_sl ([.ref (ad 11)])).length) Slot.unset).toArray = ls at hl ⊢
  have hl : lv_has ls 1 [(0, .ref (ad 11))] := hl
  have hP : va_P D vwCl (wC cI ad σ) s.heap := hP
  refine lv_aload_n hx hb dX2_clear_0 rfl (lv_at hl 0 rfl) ?_
  refine lv_iconst (v := 0) hx hb dX2_clear_1 (by decide) ?_
  refine va_put (D := D) (ci := 1) (ty := .int) (C := RX2) (T := TX2) (N := 5) hx hb hts hinX2 tyX2 tyX2_ok nmX2 hown hK hP hD hS 11 rfl rfl 3 (by decide) (hts _ (List.mem_of_getElem? (i := 1) rfl)) (fun _ h9 => h9) rfl (by decide +kernel) rfl rfl (Nat.le_of_ble_eq_true rfl) dX2_clear_2 (fun H locs hP hD hS => ?_)
  obtain ⟨σ1, eσ1⟩ : ∃ z : St, z = sI σ 5 (0 : Int32) := ⟨_, rfl⟩
  have hP : va_P D vwCl (wC cI ad σ1) H := by rw [eσ1]; exact hP
  have hD : va_D A (wC cI ad σ1) := by rw [eσ1]; exact hD
  have hw := hw σ1 eσ1
  refine lv_aload_n hx hb dX2_clear_5 rfl (lv_at hl 0 rfl) ?_
  refine lv_iconst (v := 0) hx hb dX2_clear_6 (by decide) ?_
  refine va_put (D := D) (ci := 1) (ty := .int) (C := RX2) (T := TX2) (N := 5) hx hb hts hinX2 tyX2 tyX2_ok nmX2 hown hK hP hD hS 11 rfl rfl 4 (by decide) (hts _ (List.mem_of_getElem? (i := 2) rfl)) (fun _ h9 => h9) rfl (by decide +kernel) rfl rfl (Nat.le_of_ble_eq_true rfl) dX2_clear_7 (fun H locs hP hD hS => ?_)
  obtain ⟨σ2, eσ2⟩ : ∃ z : St, z = sI σ1 6 (0 : Int32) := ⟨_, rfl⟩
  have hP : va_P D vwCl (wC cI ad σ2) H := by rw [eσ2]; exact hP
  have hD : va_D A (wC cI ad σ2) := by rw [eσ2]; exact hD
  have hw := hw σ2 eσ2
  exact G_vret hx hb hr hlocks hw hP hK hD hS dX2_clear_10

def wp_X5_clear_15 (σ : St) (K : St → Prop) : Prop :=
  ∀ σ1 : St, σ1 = sI σ 7 (0 : Int32) → ∀ σ2 : St, σ2 = sI σ1 8 (0 : Int32) → K σ2
set_option maxHeartbeats 4000000 in
set_option maxRecDepth 100000 in
theorem c_X5_clear_15 (l : Launch) (D : va_G) (cI : ClassId) (ad : Nat → Nat) (A : Nat → Prop) (σ : St) (K : St → Prop) (hw : wp_X5_clear_15 σ K) : Met l yX5_clear wsX5_clear ({ frames := 0, cells := 0, slots := 0, locals := 0 }) (va_Pc [.ref (ad 15)] (GW D [(cI, FieldType.int)] (wC cI ad) A σ)) (va_Qv K (GW D [(cI, FieldType.int)] (wC cI ad) A) A) 0 0 A := by
  refine Met.ofW (cc := cX5_clear) (maxL := 1) (ret := none) (by decide) rfl ?_
  intro p e s m args below meth c s₁ B hml hv
  obtain ⟨rfl, hP, hK, hD⟩ := hv
  have hx := B.exec
  have hb := B.bytes
  have hr := B.returns
  have hts := atoms_spec (ws := wsX5_clear) B.pre
  have hown : s.vm.findClass RX5 = some m.cls := findClass_of_methodNamed B.named
  have hlocks := B.notSynchronized
  have hS : va_S A s.heap s.heap [] := va_S.rf
  have hinX5 : ∀ w ∈ wsX50, w ∈ wsX5_clear := fun _ h => List.mem_cons_of_mem _ (List.mem_append_right _ (h))
  have hl := lv_entry ([.ref (ad 15)]) (n := 1) (Nat.le_of_ble_eq_true rfl)
  rw [lg_entry_eq]
  generalize (lg_sl ([.ref (ad 15)]) ++ List.replicate (1 - (lg_sl ([.ref (ad 15)])).length) Slot.unset).toArray = ls at hl ⊢
  have hl : lv_has ls 1 [(0, .ref (ad 15))] := hl
  have hP : va_P D vwCl (wC cI ad σ) s.heap := hP
  refine lv_aload_n hx hb dX5_clear_0 rfl (lv_at hl 0 rfl) ?_
  refine lv_iconst (v := 0) hx hb dX5_clear_1 (by decide) ?_
  refine va_put (D := D) (ci := 4) (ty := .int) (C := RX5) (T := TX5) (N := 5) hx hb hts hinX5 tyX5 tyX5_ok nmX5 hown hK hP hD hS 15 rfl rfl 3 (by decide) (hts _ (List.mem_of_getElem? (i := 1) rfl)) (fun _ h9 => h9) rfl (by decide +kernel) rfl rfl (Nat.le_of_ble_eq_true rfl) dX5_clear_2 (fun H locs hP hD hS => ?_)
  obtain ⟨σ1, eσ1⟩ : ∃ z : St, z = sI σ 7 (0 : Int32) := ⟨_, rfl⟩
  have hP : va_P D vwCl (wC cI ad σ1) H := by rw [eσ1]; exact hP
  have hD : va_D A (wC cI ad σ1) := by rw [eσ1]; exact hD
  have hw := hw σ1 eσ1
  refine lv_aload_n hx hb dX5_clear_5 rfl (lv_at hl 0 rfl) ?_
  refine lv_iconst (v := 0) hx hb dX5_clear_6 (by decide) ?_
  refine va_put (D := D) (ci := 4) (ty := .int) (C := RX5) (T := TX5) (N := 5) hx hb hts hinX5 tyX5 tyX5_ok nmX5 hown hK hP hD hS 15 rfl rfl 4 (by decide) (hts _ (List.mem_of_getElem? (i := 2) rfl)) (fun _ h9 => h9) rfl (by decide +kernel) rfl rfl (Nat.le_of_ble_eq_true rfl) dX5_clear_7 (fun H locs hP hD hS => ?_)
  obtain ⟨σ2, eσ2⟩ : ∃ z : St, z = sI σ1 8 (0 : Int32) := ⟨_, rfl⟩
  have hP : va_P D vwCl (wC cI ad σ2) H := by rw [eσ2]; exact hP
  have hD : va_D A (wC cI ad σ2) := by rw [eσ2]; exact hD
  have hw := hw σ2 eσ2
  exact G_vret hx hb hr hlocks hw hP hK hD hS dX5_clear_10

def wp_X1_clear_19 (σ : St) (K : St → Prop) : Prop :=
  ∀ σ1 : St, σ1 = sI σ 9 (0 : Int32) → ∀ σ2 : St, σ2 = sI σ1 10 (0 : Int32) → K σ2
set_option maxHeartbeats 4000000 in
set_option maxRecDepth 100000 in
theorem c_X1_clear_19 (l : Launch) (D : va_G) (cI : ClassId) (ad : Nat → Nat) (A : Nat → Prop) (σ : St) (K : St → Prop) (hw : wp_X1_clear_19 σ K) : Met l yX1_clear wsX1_clear ({ frames := 0, cells := 0, slots := 0, locals := 0 }) (va_Pc [.ref (ad 19)] (GW D [(cI, FieldType.int)] (wC cI ad) A σ)) (va_Qv K (GW D [(cI, FieldType.int)] (wC cI ad) A) A) 0 0 A := by
  refine Met.ofW (cc := cX1_clear) (maxL := 1) (ret := none) (by decide) rfl ?_
  intro p e s m args below meth c s₁ B hml hv
  obtain ⟨rfl, hP, hK, hD⟩ := hv
  have hx := B.exec
  have hb := B.bytes
  have hr := B.returns
  have hts := atoms_spec (ws := wsX1_clear) B.pre
  have hown : s.vm.findClass RX1 = some m.cls := findClass_of_methodNamed B.named
  have hlocks := B.notSynchronized
  have hS : va_S A s.heap s.heap [] := va_S.rf
  have hinX1 : ∀ w ∈ wsX10, w ∈ wsX1_clear := fun _ h => List.mem_cons_of_mem _ (List.mem_append_right _ (h))
  have hl := lv_entry ([.ref (ad 19)]) (n := 1) (Nat.le_of_ble_eq_true rfl)
  rw [lg_entry_eq]
  generalize (lg_sl ([.ref (ad 19)]) ++ List.replicate (1 - (lg_sl ([.ref (ad 19)])).length) Slot.unset).toArray = ls at hl ⊢
  have hl : lv_has ls 1 [(0, .ref (ad 19))] := hl
  have hP : va_P D vwCl (wC cI ad σ) s.heap := hP
  refine lv_aload_n hx hb dX1_clear_0 rfl (lv_at hl 0 rfl) ?_
  refine lv_iconst (v := 0) hx hb dX1_clear_1 (by decide) ?_
  refine va_put (D := D) (ci := 0) (ty := .int) (C := RX1) (T := TX1) (N := 4) hx hb hts hinX1 tyX1 tyX1_ok nmX1 hown hK hP hD hS 19 rfl rfl 2 (by decide) (hts _ (List.mem_of_getElem? (i := 1) rfl)) (fun _ h9 => h9) rfl (by decide +kernel) rfl rfl (Nat.le_of_ble_eq_true rfl) dX1_clear_2 (fun H locs hP hD hS => ?_)
  obtain ⟨σ1, eσ1⟩ : ∃ z : St, z = sI σ 9 (0 : Int32) := ⟨_, rfl⟩
  have hP : va_P D vwCl (wC cI ad σ1) H := by rw [eσ1]; exact hP
  have hD : va_D A (wC cI ad σ1) := by rw [eσ1]; exact hD
  have hw := hw σ1 eσ1
  refine lv_aload_n hx hb dX1_clear_5 rfl (lv_at hl 0 rfl) ?_
  refine lv_iconst (v := 0) hx hb dX1_clear_6 (by decide) ?_
  refine va_put (D := D) (ci := 0) (ty := .int) (C := RX1) (T := TX1) (N := 4) hx hb hts hinX1 tyX1 tyX1_ok nmX1 hown hK hP hD hS 19 rfl rfl 3 (by decide) (hts _ (List.mem_of_getElem? (i := 2) rfl)) (fun _ h9 => h9) rfl (by decide +kernel) rfl rfl (Nat.le_of_ble_eq_true rfl) dX1_clear_7 (fun H locs hP hD hS => ?_)
  obtain ⟨σ2, eσ2⟩ : ∃ z : St, z = sI σ1 10 (0 : Int32) := ⟨_, rfl⟩
  have hP : va_P D vwCl (wC cI ad σ2) H := by rw [eσ2]; exact hP
  have hD : va_D A (wC cI ad σ2) := by rw [eσ2]; exact hD
  have hw := hw σ2 eσ2
  exact G_vret hx hb hr hlocks hw hP hK hD hS dX1_clear_10

def wp_X7_begin (σ : St) (K : St → Prop) : Prop :=
  wp_X4_clear_1 σ (fun σ1 => wp_X3_clear_7 σ1 (fun σ2 => wp_X2_clear_11 σ2 (fun σ3 => wp_X5_clear_15 σ3 (fun σ4 => wp_X1_clear_19 σ4 (fun σ5 => ∀ σ6 : St, σ6 = sI σ5 11 (0 : Int32) → ∀ σ7 : St, σ7 = sI σ6 12 (1 : Int32) → ∀ σ8 : St, σ8 = sI σ7 13 (0 : Int32) → ∀ σ9 : St, σ9 = sI σ8 14 (0 : Int32) → ∀ σ10 : St, σ10 = sL σ9 (0 : Int64) → K σ10)))))
set_option maxHeartbeats 4000000 in
set_option maxRecDepth 100000 in
theorem c_X7_begin (l : Launch) (D : va_G) (cI : ClassId) (ad : Nat → Nat) (A : Nat → Prop) (σ : St) (K : St → Prop) (hw : wp_X7_begin σ K) : Met l yX7_begin wsX7_begin ({ frames := 1, cells := 0, slots := 0, locals := 21 }) (va_Pc [.ref (ad 0)] (GW D [(cI, FieldType.int)] (wC cI ad) A σ)) (va_Qv K (GW D [(cI, FieldType.int)] (wC cI ad) A) A) 0 0 A := by
  refine Met.ofW (cc := cX7_begin) (maxL := 1) (ret := none) (by decide) rfl ?_
  intro p e s m args below meth c s₁ B hml hv
  obtain ⟨rfl, hP, hK, hD⟩ := hv
  have hx := B.exec
  have hb := B.bytes
  have hr := B.returns
  have hts := atoms_spec (ws := wsX7_begin) B.pre
  have hown : s.vm.findClass RX7 = some m.cls := findClass_of_methodNamed B.named
  have hlocks := B.notSynchronized
  have hS : va_S A s.heap s.heap [] := va_S.rf
  have hinX1 : ∀ w ∈ wsX10, w ∈ wsX7_begin := fun _ h => List.mem_cons_of_mem _ (List.mem_append_right _ (h))
  have hinX2 : ∀ w ∈ wsX20, w ∈ wsX7_begin := fun _ h => List.mem_cons_of_mem _ (List.mem_append_left _ (List.mem_append_left _ (List.mem_append_right _ (h))))
  have hinX3 : ∀ w ∈ wsX30, w ∈ wsX7_begin := fun _ h => List.mem_cons_of_mem _ (List.mem_append_left _ (List.mem_append_left _ (List.mem_append_left _ (List.mem_append_right _ (h)))))
  have hinX4 : ∀ w ∈ wsX40, w ∈ wsX7_begin := fun _ h => List.mem_cons_of_mem _ (List.mem_append_left _ (List.mem_append_left _ (List.mem_append_left _ (List.mem_append_left _ (List.mem_append_right _ (h))))))
  have hinX5 : ∀ w ∈ wsX50, w ∈ wsX7_begin := fun _ h => List.mem_cons_of_mem _ (List.mem_append_left _ (List.mem_append_right _ (h)))
  have hinX7 : ∀ w ∈ wsX70, w ∈ wsX7_begin := fun _ h => List.mem_cons_of_mem _ (List.mem_append_left _ (List.mem_append_left _ (List.mem_append_left _ (List.mem_append_left _ (List.mem_append_left _ (List.mem_append_right _ (h)))))))
  have hl := lv_entry ([.ref (ad 0)]) (n := 1) (Nat.le_of_ble_eq_true rfl)
  rw [lg_entry_eq]
  generalize (lg_sl ([.ref (ad 0)]) ++ List.replicate (1 - (lg_sl ([.ref (ad 0)])).length) Slot.unset).toArray = ls at hl ⊢
  have hl : lv_has ls 1 [(0, .ref (ad 0))] := hl
  have hP : va_P D vwCl (wC cI ad σ) s.heap := hP
  refine lv_aload_n hx hb dX7_begin_0 rfl (lv_at hl 0 rfl) ?_
  refine va_get (D := D) (ci := 5) (C := RX7) (T := TX7) (N := 12) hx hb hts hinX7 hown hK hP 0 rfl rfl 0 (by decide) (hts _ (List.mem_of_getElem? (i := 1) rfl)) (fun _ h9 => h9) rfl dX7_begin_1 ?_
  refine G_callv (As := []) (rest := []) ⟨hx, hb, hml, hown, hts⟩ hK hP hD hS 1 3 rfl rfl (c_X4_clear_1 l D cI ad A σ _ hw) (cwV 0 hts gX7_begin_X4_clear rfl rfl rfl (by decide +kernel) ⟨Nat.le_of_ble_eq_true rfl, Nat.le_of_ble_eq_true rfl⟩) rfl hl.1 rfl (Nat.le_of_ble_eq_true rfl) dX7_begin_4 ⟨Nat.zero_le _, Nat.zero_le _⟩ (fun σ1 hw H locs hP hD hS => ?_)
  refine lv_aload_n hx hb dX7_begin_7 rfl (lv_at hl 0 rfl) ?_
  refine va_get (D := D) (ci := 5) (C := RX7) (T := TX7) (N := 12) hx hb hts hinX7 hown hK hP 0 rfl rfl 3 (by decide) (hts _ (List.mem_of_getElem? (i := 2) rfl)) (fun _ h9 => h9) rfl dX7_begin_8 ?_
  refine G_callv (As := []) (rest := []) ⟨hx, hb, hml, hown, hts⟩ hK hP hD hS 7 2 rfl rfl (c_X3_clear_7 l D cI ad A σ1 _ hw) (cwV 0 hts gX7_begin_X3_clear rfl rfl rfl (by decide +kernel) ⟨Nat.le_of_ble_eq_true rfl, Nat.le_of_ble_eq_true rfl⟩) rfl hl.1 rfl (Nat.le_of_ble_eq_true rfl) dX7_begin_11 ⟨Nat.zero_le _, Nat.zero_le _⟩ (fun σ2 hw H locs hP hD hS => ?_)
  refine lv_aload_n hx hb dX7_begin_14 rfl (lv_at hl 0 rfl) ?_
  refine va_get (D := D) (ci := 5) (C := RX7) (T := TX7) (N := 12) hx hb hts hinX7 hown hK hP 0 rfl rfl 4 (by decide) (hts _ (List.mem_of_getElem? (i := 3) rfl)) (fun _ h9 => h9) rfl dX7_begin_15 ?_
  refine G_callv (As := []) (rest := []) ⟨hx, hb, hml, hown, hts⟩ hK hP hD hS 11 1 rfl rfl (c_X2_clear_11 l D cI ad A σ2 _ hw) (cwV 0 hts gX7_begin_X2_clear rfl rfl rfl (by decide +kernel) ⟨Nat.le_of_ble_eq_true rfl, Nat.le_of_ble_eq_true rfl⟩) rfl hl.1 rfl (Nat.le_of_ble_eq_true rfl) dX7_begin_18 ⟨Nat.zero_le _, Nat.zero_le _⟩ (fun σ3 hw H locs hP hD hS => ?_)
  refine lv_aload_n hx hb dX7_begin_21 rfl (lv_at hl 0 rfl) ?_
  refine va_get (D := D) (ci := 5) (C := RX7) (T := TX7) (N := 12) hx hb hts hinX7 hown hK hP 0 rfl rfl 5 (by decide) (hts _ (List.mem_of_getElem? (i := 4) rfl)) (fun _ h9 => h9) rfl dX7_begin_22 ?_
  refine G_callv (As := []) (rest := []) ⟨hx, hb, hml, hown, hts⟩ hK hP hD hS 15 4 rfl rfl (c_X5_clear_15 l D cI ad A σ3 _ hw) (cwV 0 hts gX7_begin_X5_clear rfl rfl rfl (by decide +kernel) ⟨Nat.le_of_ble_eq_true rfl, Nat.le_of_ble_eq_true rfl⟩) rfl hl.1 rfl (Nat.le_of_ble_eq_true rfl) dX7_begin_25 ⟨Nat.zero_le _, Nat.zero_le _⟩ (fun σ4 hw H locs hP hD hS => ?_)
  refine lv_aload_n hx hb dX7_begin_28 rfl (lv_at hl 0 rfl) ?_
  refine va_get (D := D) (ci := 5) (C := RX7) (T := TX7) (N := 12) hx hb hts hinX7 hown hK hP 0 rfl rfl 6 (by decide) (hts _ (List.mem_of_getElem? (i := 5) rfl)) (fun _ h9 => h9) rfl dX7_begin_29 ?_
  refine G_callv (As := []) (rest := []) ⟨hx, hb, hml, hown, hts⟩ hK hP hD hS 19 0 rfl rfl (c_X1_clear_19 l D cI ad A σ4 _ hw) (cwV 0 hts gX7_begin_X1_clear rfl rfl rfl (by decide +kernel) ⟨Nat.le_of_ble_eq_true rfl, Nat.le_of_ble_eq_true rfl⟩) rfl hl.1 rfl (Nat.le_of_ble_eq_true rfl) dX7_begin_32 ⟨Nat.zero_le _, Nat.zero_le _⟩ (fun σ5 hw H locs hP hD hS => ?_)
  refine lv_aload_n hx hb dX7_begin_35 rfl (lv_at hl 0 rfl) ?_
  refine lv_iconst (v := 0) hx hb dX7_begin_36 (by decide) ?_
  refine va_put (D := D) (ci := 5) (ty := .int) (C := RX7) (T := TX7) (N := 12) hx hb hts hinX7 tyX7 tyX7_ok nmX7 hown hK hP hD hS 0 rfl rfl 7 (by decide) (hts _ (List.mem_of_getElem? (i := 6) rfl)) (fun _ h9 => h9) rfl (by decide +kernel) rfl rfl (Nat.le_of_ble_eq_true rfl) dX7_begin_37 (fun H locs hP hD hS => ?_)
  obtain ⟨σ6, eσ6⟩ : ∃ z : St, z = sI σ5 11 (0 : Int32) := ⟨_, rfl⟩
  have hP : va_P D vwCl (wC cI ad σ6) H := by rw [eσ6]; exact hP
  have hD : va_D A (wC cI ad σ6) := by rw [eσ6]; exact hD
  have hw := hw σ6 eσ6
  refine lv_aload_n hx hb dX7_begin_40 rfl (lv_at hl 0 rfl) ?_
  refine lv_iconst (v := 1) hx hb dX7_begin_41 (by decide) ?_
  refine va_put (D := D) (ci := 5) (ty := .int) (C := RX7) (T := TX7) (N := 12) hx hb hts hinX7 tyX7 tyX7_ok nmX7 hown hK hP hD hS 0 rfl rfl 8 (by decide) (hts _ (List.mem_of_getElem? (i := 7) rfl)) (fun _ h9 => h9) rfl (by decide +kernel) rfl rfl (Nat.le_of_ble_eq_true rfl) dX7_begin_42 (fun H locs hP hD hS => ?_)
  obtain ⟨σ7, eσ7⟩ : ∃ z : St, z = sI σ6 12 (1 : Int32) := ⟨_, rfl⟩
  have hP : va_P D vwCl (wC cI ad σ7) H := by rw [eσ7]; exact hP
  have hD : va_D A (wC cI ad σ7) := by rw [eσ7]; exact hD
  have hw := hw σ7 eσ7
  refine lv_aload_n hx hb dX7_begin_45 rfl (lv_at hl 0 rfl) ?_
  refine lv_iconst (v := 0) hx hb dX7_begin_46 (by decide) ?_
  refine va_put (D := D) (ci := 5) (ty := .int) (C := RX7) (T := TX7) (N := 12) hx hb hts hinX7 tyX7 tyX7_ok nmX7 hown hK hP hD hS 0 rfl rfl 9 (by decide) (hts _ (List.mem_of_getElem? (i := 8) rfl)) (fun _ h9 => h9) rfl (by decide +kernel) rfl rfl (Nat.le_of_ble_eq_true rfl) dX7_begin_47 (fun H locs hP hD hS => ?_)
  obtain ⟨σ8, eσ8⟩ : ∃ z : St, z = sI σ7 13 (0 : Int32) := ⟨_, rfl⟩
  have hP : va_P D vwCl (wC cI ad σ8) H := by rw [eσ8]; exact hP
  have hD : va_D A (wC cI ad σ8) := by rw [eσ8]; exact hD
  have hw := hw σ8 eσ8
  refine lv_aload_n hx hb dX7_begin_50 rfl (lv_at hl 0 rfl) ?_
  refine lv_iconst (v := 0) hx hb dX7_begin_51 (by decide) ?_
  refine va_put (D := D) (ci := 5) (ty := .int) (C := RX7) (T := TX7) (N := 12) hx hb hts hinX7 tyX7 tyX7_ok nmX7 hown hK hP hD hS 0 rfl rfl 10 (by decide) (hts _ (List.mem_of_getElem? (i := 9) rfl)) (fun _ h9 => h9) rfl (by decide +kernel) rfl rfl (Nat.le_of_ble_eq_true rfl) dX7_begin_52 (fun H locs hP hD hS => ?_)
  obtain ⟨σ9, eσ9⟩ : ∃ z : St, z = sI σ8 14 (0 : Int32) := ⟨_, rfl⟩
  have hP : va_P D vwCl (wC cI ad σ9) H := by rw [eσ9]; exact hP
  have hD : va_D A (wC cI ad σ9) := by rw [eσ9]; exact hD
  have hw := hw σ9 eσ9
  refine lv_aload_n hx hb dX7_begin_55 rfl (lv_at hl 0 rfl) ?_
  refine lv_lconst (v := 0) hx hb dX7_begin_56 (by decide) ?_
  refine va_put (D := D) (ci := 5) (ty := .long) (C := RX7) (T := TX7) (N := 12) hx hb hts hinX7 tyX7 tyX7_ok nmX7 hown hK hP hD hS 0 rfl rfl 11 (by decide) (hts _ (List.mem_of_getElem? (i := 10) rfl)) (fun _ h9 => h9) rfl (by decide +kernel) rfl rfl (Nat.le_of_ble_eq_true rfl) dX7_begin_57 (fun H locs hP hD hS => ?_)
  obtain ⟨σ10, eσ10⟩ : ∃ z : St, z = sL σ9 (0 : Int64) := ⟨_, rfl⟩
  have hP : va_P D vwCl (wC cI ad σ10) H := by rw [eσ10]; exact hP
  have hD : va_D A (wC cI ad σ10) := by rw [eσ10]; exact hD
  have hw := hw σ10 eσ10
  exact G_vret hx hb hr hlocks hw hP hK hD hS dX7_begin_60

def wp_X7_start (σ : St) (K : Int32 → St → Prop) : Prop :=
  ∀ x1 : Int32, x1 = σ.1 13 → wp_X7_begin σ (fun σ2 => K x1 σ2)
set_option maxHeartbeats 4000000 in
set_option maxRecDepth 100000 in
theorem c_X7_start (l : Launch) (D : va_G) (cI : ClassId) (ad : Nat → Nat) (A : Nat → Prop) (σ : St) (K : Int32 → St → Prop) (hw : wp_X7_start σ K) : Met l yX7_start wsX7_start ({ frames := 2, cells := 0, slots := 0, locals := 41 }) (va_Pc [.ref (ad 0)] (GW D [(cI, FieldType.int)] (wC cI ad) A σ)) (va_Qi K (GW D [(cI, FieldType.int)] (wC cI ad) A) A) 0 0 A := by
  refine Met.ofW (cc := cX7_start) (maxL := 2) (ret := (some .int)) (by decide) rfl ?_
  intro p e s m args below meth c s₁ B hml hv
  obtain ⟨rfl, hP, hK, hD⟩ := hv
  have hx := B.exec
  have hb := B.bytes
  have hr := B.returns
  have hts := atoms_spec (ws := wsX7_start) B.pre
  have hown : s.vm.findClass RX7 = some m.cls := findClass_of_methodNamed B.named
  have hlocks := B.notSynchronized
  have hS : va_S A s.heap s.heap [] := va_S.rf
  have hinX1 : ∀ w ∈ wsX10, w ∈ wsX7_start := fun _ h => List.mem_cons_of_mem _ (List.mem_append_right _ (h))
  have hinX2 : ∀ w ∈ wsX20, w ∈ wsX7_start := fun _ h => List.mem_cons_of_mem _ (List.mem_append_left _ (List.mem_append_left _ (List.mem_append_right _ (h))))
  have hinX3 : ∀ w ∈ wsX30, w ∈ wsX7_start := fun _ h => List.mem_cons_of_mem _ (List.mem_append_left _ (List.mem_append_left _ (List.mem_append_left _ (List.mem_append_right _ (h)))))
  have hinX4 : ∀ w ∈ wsX40, w ∈ wsX7_start := fun _ h => List.mem_cons_of_mem _ (List.mem_append_left _ (List.mem_append_left _ (List.mem_append_left _ (List.mem_append_left _ (List.mem_append_right _ (h))))))
  have hinX5 : ∀ w ∈ wsX50, w ∈ wsX7_start := fun _ h => List.mem_cons_of_mem _ (List.mem_append_left _ (List.mem_append_right _ (h)))
  have hinX7 : ∀ w ∈ wsX70, w ∈ wsX7_start := fun _ h => List.mem_cons_of_mem _ (List.mem_append_left _ (List.mem_append_left _ (List.mem_append_left _ (List.mem_append_left _ (List.mem_append_left _ (List.mem_append_right _ (h)))))))
  have hl := lv_entry ([.ref (ad 0)]) (n := 2) (Nat.le_of_ble_eq_true rfl)
  rw [lg_entry_eq]
  generalize (lg_sl ([.ref (ad 0)]) ++ List.replicate (2 - (lg_sl ([.ref (ad 0)])).length) Slot.unset).toArray = ls at hl ⊢
  have hl : lv_has ls 2 [(0, .ref (ad 0))] := hl
  have hP : va_P D vwCl (wC cI ad σ) s.heap := hP
  refine lv_aload_n hx hb dX7_start_0 rfl (lv_at hl 0 rfl) ?_
  refine va_get (D := D) (ci := 5) (C := RX7) (T := TX7) (N := 12) hx hb hts hinX7 hown hK hP 0 rfl rfl 9 (by decide) (hts _ (List.mem_of_getElem? (i := 1) rfl)) (fun _ h9 => h9) rfl dX7_start_1 ?_
  refine lv_topi (fun x1 ex1 => ?_)
  have hw := hw x1 ex1
  refine lv_istore_n (lv' := [(1, .int x1), (0, .ref (ad 0))]) hx hb dX7_start_4 rfl hl (by decide) rfl (fun ls hl => ?_)
  refine lv_aload_n hx hb dX7_start_5 rfl (lv_at hl 1 rfl) ?_
  refine G_callv (As := []) (rest := []) ⟨hx, hb, hml, hown, hts⟩ hK hP hD hS 0 5 rfl rfl (c_X7_begin l D cI ad A σ _ hw) (cwV 0 hts gX7_start_X7_begin rfl rfl rfl (by decide +kernel) ⟨Nat.le_of_ble_eq_true rfl, Nat.le_of_ble_eq_true rfl⟩) rfl hl.1 rfl (Nat.le_of_ble_eq_true rfl) dX7_start_6 ⟨Nat.zero_le _, Nat.zero_le _⟩ (fun σ2 hw H locs hP hD hS => ?_)
  refine lv_iload_n hx hb dX7_start_9 rfl (lv_at hl 0 rfl) ?_
  exact G_iret hx hb hr hlocks hw hP hK hD hS dX7_start_10

def wp_X1_add_19 (σ : St) (a1 : Int32) (a2 : Int32) (K : St → Prop) : Prop :=
  vp_in (σ.1 10) 32 ∧ ∀ σ1 : St, σ1 = sA σ 12 (upd (σ.2.1 12) (σ.1 10).toNatClampNeg a1) → vp_in (σ1.1 10) 32 ∧ ∀ σ2 : St, σ2 = sA σ1 13 (upd (σ1.2.1 13) (σ1.1 10).toNatClampNeg a2) → ∀ σ3 : St, σ3 = sI σ2 10 (((σ2.1 10) + (1 : Int32)) &&& (31 : Int32)) → ∀ σ4 : St, σ4 = sI σ3 9 (if (32 : Int32) < ((σ3.1 9) + (1 : Int32)) then (32 : Int32) else ((σ3.1 9) + (1 : Int32))) → K σ4
set_option maxHeartbeats 4000000 in
set_option maxRecDepth 100000 in
theorem c_X1_add_19 (l : Launch) (D : va_G) (cI : ClassId) (ad : Nat → Nat) (A : Nat → Prop) (σ : St) (a1 : Int32) (a2 : Int32) (K : St → Prop) (hw : wp_X1_add_19 σ a1 a2 K) : Met l yX1_add wsX1_add ({ frames := 1, cells := 0, slots := 0, locals := 21 }) (va_Pc [.ref (ad 19), .int a1, .int a2] (GW D [(cI, FieldType.int)] (wC cI ad) A σ)) (va_Qv K (GW D [(cI, FieldType.int)] (wC cI ad) A) A) 0 0 A := by
  refine Met.ofW (cc := cX1_add) (maxL := 3) (ret := none) (by decide) rfl ?_
  intro p e s m args below meth c s₁ B hml hv
  obtain ⟨rfl, hP, hK, hD⟩ := hv
  have hx := B.exec
  have hb := B.bytes
  have hr := B.returns
  have hts := atoms_spec (ws := wsX1_add) B.pre
  have hown : s.vm.findClass RX1 = some m.cls := findClass_of_methodNamed B.named
  have hlocks := B.notSynchronized
  have hS : va_S A s.heap s.heap [] := va_S.rf
  have hinX1 : ∀ w ∈ wsX10, w ∈ wsX1_add := fun _ h => List.mem_cons_of_mem _ (List.mem_append_right _ (h))
  have hl := lv_entry ([.ref (ad 19), .int a1, .int a2]) (n := 3) (Nat.le_of_ble_eq_true rfl)
  rw [lg_entry_eq]
  generalize (lg_sl ([.ref (ad 19), .int a1, .int a2]) ++ List.replicate (3 - (lg_sl ([.ref (ad 19), .int a1, .int a2])).length) Slot.unset).toArray = ls at hl ⊢
  have hl : lv_has ls 3 [(0, .ref (ad 19)), (1, .int a1), (2, .int a2)] := hl
  have hP : va_P D vwCl (wC cI ad σ) s.heap := hP
  refine lv_aload_n hx hb dX1_add_0 rfl (lv_at hl 0 rfl) ?_
  refine va_get (D := D) (ci := 0) (C := RX1) (T := TX1) (N := 4) hx hb hts hinX1 hown hK hP 19 rfl rfl 0 (by decide) (hts _ (List.mem_of_getElem? (i := 1) rfl)) (fun _ h9 => h9) rfl dX1_add_1 ?_
  refine lv_aload_n hx hb dX1_add_4 rfl (lv_at hl 0 rfl) ?_
  refine va_get (D := D) (ci := 0) (C := RX1) (T := TX1) (N := 4) hx hb hts hinX1 hown hK hP 19 rfl rfl 3 (by decide) (hts _ (List.mem_of_getElem? (i := 2) rfl)) (fun _ h9 => h9) rfl dX1_add_5 ?_
  refine lv_iload_n hx hb dX1_add_8 rfl (lv_at hl 1 rfl) ?_
  refine va_iast (D := D) hx hb hK hP hD hS 20 0 rfl rfl hw.1 dX1_add_9 (fun H locs hP hD hS => ?_)
  obtain ⟨σ1, eσ1⟩ : ∃ z : St, z = sA σ 12 (upd (σ.2.1 12) (σ.1 10).toNatClampNeg a1) := ⟨_, rfl⟩
  have hP : va_P D vwCl (wC cI ad σ1) H := by rw [eσ1]; exact hP
  have hD : va_D A (wC cI ad σ1) := by rw [eσ1]; exact hD
  have hw := hw.2 σ1 eσ1
  refine lv_aload_n hx hb dX1_add_10 rfl (lv_at hl 0 rfl) ?_
  refine va_get (D := D) (ci := 0) (C := RX1) (T := TX1) (N := 4) hx hb hts hinX1 hown hK hP 19 rfl rfl 1 (by decide) (hts _ (List.mem_of_getElem? (i := 3) rfl)) (fun _ h9 => h9) rfl dX1_add_11 ?_
  refine lv_aload_n hx hb dX1_add_14 rfl (lv_at hl 0 rfl) ?_
  refine va_get (D := D) (ci := 0) (C := RX1) (T := TX1) (N := 4) hx hb hts hinX1 hown hK hP 19 rfl rfl 3 (by decide) (hts _ (List.mem_of_getElem? (i := 2) rfl)) (fun _ h9 => h9) rfl dX1_add_15 ?_
  refine lv_iload_n hx hb dX1_add_18 rfl (lv_at hl 2 rfl) ?_
  refine va_iast (D := D) hx hb hK hP hD hS 21 0 rfl rfl hw.1 dX1_add_19 (fun H locs hP hD hS => ?_)
  obtain ⟨σ2, eσ2⟩ : ∃ z : St, z = sA σ1 13 (upd (σ1.2.1 13) (σ1.1 10).toNatClampNeg a2) := ⟨_, rfl⟩
  have hP : va_P D vwCl (wC cI ad σ2) H := by rw [eσ2]; exact hP
  have hD : va_D A (wC cI ad σ2) := by rw [eσ2]; exact hD
  have hw := hw.2 σ2 eσ2
  refine lv_aload_n hx hb dX1_add_20 rfl (lv_at hl 0 rfl) ?_
  refine lv_aload_n hx hb dX1_add_21 rfl (lv_at hl 0 rfl) ?_
  refine va_get (D := D) (ci := 0) (C := RX1) (T := TX1) (N := 4) hx hb hts hinX1 hown hK hP 19 rfl rfl 3 (by decide) (hts _ (List.mem_of_getElem? (i := 2) rfl)) (fun _ h9 => h9) rfl dX1_add_22 ?_
  refine lv_iconst (v := 1) hx hb dX1_add_25 (by decide) ?_
  refine lv_iadd hx hb dX1_add_26 ?_
  refine lv_bipush (v := 31) hx hb dX1_add_27 (by decide) ?_
  refine lv_iand hx hb dX1_add_29 ?_
  refine va_put (D := D) (ci := 0) (ty := .int) (C := RX1) (T := TX1) (N := 4) hx hb hts hinX1 tyX1 tyX1_ok nmX1 hown hK hP hD hS 19 rfl rfl 3 (by decide) (hts _ (List.mem_of_getElem? (i := 2) rfl)) (fun _ h9 => h9) rfl (by decide +kernel) rfl rfl (Nat.le_of_ble_eq_true rfl) dX1_add_30 (fun H locs hP hD hS => ?_)
  obtain ⟨σ3, eσ3⟩ : ∃ z : St, z = sI σ2 10 (((σ2.1 10) + (1 : Int32)) &&& (31 : Int32)) := ⟨_, rfl⟩
  have hP : va_P D vwCl (wC cI ad σ3) H := by rw [eσ3]; exact hP
  have hD : va_D A (wC cI ad σ3) := by rw [eσ3]; exact hD
  have hw := hw σ3 eσ3
  refine lv_aload_n hx hb dX1_add_33 rfl (lv_at hl 0 rfl) ?_
  refine lv_aload_n hx hb dX1_add_34 rfl (lv_at hl 0 rfl) ?_
  refine va_get (D := D) (ci := 0) (C := RX1) (T := TX1) (N := 4) hx hb hts hinX1 hown hK hP 19 rfl rfl 2 (by decide) (hts _ (List.mem_of_getElem? (i := 4) rfl)) (fun _ h9 => h9) rfl dX1_add_35 ?_
  refine lv_iconst (v := 1) hx hb dX1_add_38 (by decide) ?_
  refine lv_iadd hx hb dX1_add_39 ?_
  refine lv_bipush (v := 32) hx hb dX1_add_40 (by decide) ?_
  refine va_mmin hx hb (hml.trans hl.1.symm) hown (hts _ (List.mem_of_getElem? (i := 5) rfl)) (hts _ (List.mem_of_getElem? (i := 6) rfl)) (hts _ (List.mem_of_getElem? (i := 7) rfl)) (hts _ (List.mem_of_getElem? (i := 8) rfl)) (Nat.le_of_ble_eq_true rfl) (Nat.le_of_ble_eq_true rfl) (Nat.zero_le _) (Nat.zero_le _) dX1_add_42 ?_
  refine va_put (D := D) (ci := 0) (ty := .int) (C := RX1) (T := TX1) (N := 4) hx hb hts hinX1 tyX1 tyX1_ok nmX1 hown hK hP hD hS 19 rfl rfl 2 (by decide) (hts _ (List.mem_of_getElem? (i := 4) rfl)) (fun _ h9 => h9) rfl (by decide +kernel) rfl rfl (Nat.le_of_ble_eq_true rfl) dX1_add_45 (fun H locs hP hD hS => ?_)
  obtain ⟨σ4, eσ4⟩ : ∃ z : St, z = sI σ3 9 (if (32 : Int32) < ((σ3.1 9) + (1 : Int32)) then (32 : Int32) else ((σ3.1 9) + (1 : Int32))) := ⟨_, rfl⟩
  have hP : va_P D vwCl (wC cI ad σ4) H := by rw [eσ4]; exact hP
  have hD : va_D A (wC cI ad σ4) := by rw [eσ4]; exact hD
  have hw := hw σ4 eσ4
  exact G_vret hx hb hr hlocks hw hP hK hD hS dX1_add_48

def wp_X7_changeRegister (σ : St) (a1 : Int32) (a2 : Int32) (K : St → Prop) : Prop :=
  vp_in a1 40 ∧ wp_X1_add_19 σ a1 (σ.2.1 0 a1.toNatClampNeg) (fun σ1 => vp_in a1 40 ∧ ∀ σ2 : St, σ2 = sA σ1 0 (upd (σ1.2.1 0) a1.toNatClampNeg a2) → K σ2)
set_option maxHeartbeats 4000000 in
set_option maxRecDepth 100000 in
theorem c_X7_changeRegister (l : Launch) (D : va_G) (cI : ClassId) (ad : Nat → Nat) (A : Nat → Prop) (σ : St) (a1 : Int32) (a2 : Int32) (K : St → Prop) (hw : wp_X7_changeRegister σ a1 a2 K) : Met l yX7_changeRegister wsX7_changeRegister ({ frames := 2, cells := 0, slots := 0, locals := 43 }) (va_Pc [.ref (ad 0), .int a1, .int a2] (GW D [(cI, FieldType.int)] (wC cI ad) A σ)) (va_Qv K (GW D [(cI, FieldType.int)] (wC cI ad) A) A) 0 0 A := by
  refine Met.ofW (cc := cX7_changeRegister) (maxL := 3) (ret := none) (by decide) rfl ?_
  intro p e s m args below meth c s₁ B hml hv
  obtain ⟨rfl, hP, hK, hD⟩ := hv
  have hx := B.exec
  have hb := B.bytes
  have hr := B.returns
  have hts := atoms_spec (ws := wsX7_changeRegister) B.pre
  have hown : s.vm.findClass RX7 = some m.cls := findClass_of_methodNamed B.named
  have hlocks := B.notSynchronized
  have hS : va_S A s.heap s.heap [] := va_S.rf
  have hinX1 : ∀ w ∈ wsX10, w ∈ wsX7_changeRegister := fun _ h => List.mem_cons_of_mem _ (List.mem_append_right _ (h))
  have hinX4 : ∀ w ∈ wsX40, w ∈ wsX7_changeRegister := fun _ h => List.mem_cons_of_mem _ (List.mem_append_left _ (List.mem_append_right _ (h)))
  have hinX7 : ∀ w ∈ wsX70, w ∈ wsX7_changeRegister := fun _ h => List.mem_cons_of_mem _ (List.mem_append_left _ (List.mem_append_left _ (List.mem_append_right _ (h))))
  have hl := lv_entry ([.ref (ad 0), .int a1, .int a2]) (n := 3) (Nat.le_of_ble_eq_true rfl)
  rw [lg_entry_eq]
  generalize (lg_sl ([.ref (ad 0), .int a1, .int a2]) ++ List.replicate (3 - (lg_sl ([.ref (ad 0), .int a1, .int a2])).length) Slot.unset).toArray = ls at hl ⊢
  have hl : lv_has ls 3 [(0, .ref (ad 0)), (1, .int a1), (2, .int a2)] := hl
  have hP : va_P D vwCl (wC cI ad σ) s.heap := hP
  refine lv_aload_n hx hb dX7_changeRegister_0 rfl (lv_at hl 0 rfl) ?_
  refine va_get (D := D) (ci := 5) (C := RX7) (T := TX7) (N := 12) hx hb hts hinX7 hown hK hP 0 rfl rfl 6 (by decide) (hts _ (List.mem_of_getElem? (i := 1) rfl)) (fun _ h9 => h9) rfl dX7_changeRegister_1 ?_
  refine lv_iload_n hx hb dX7_changeRegister_4 rfl (lv_at hl 1 rfl) ?_
  refine lv_aload_n hx hb dX7_changeRegister_5 rfl (lv_at hl 0 rfl) ?_
  refine va_get (D := D) (ci := 5) (C := RX7) (T := TX7) (N := 12) hx hb hts hinX7 hown hK hP 0 rfl rfl 0 (by decide) (hts _ (List.mem_of_getElem? (i := 2) rfl)) (fun _ h9 => h9) rfl dX7_changeRegister_6 ?_
  refine va_get (D := D) (ci := 3) (C := RX4) (T := TX4) (N := 2) hx hb hts hinX4 hown hK hP 1 rfl rfl 0 (by decide) (hts _ (List.mem_of_getElem? (i := 3) rfl)) (fun _ h9 => h9) rfl dX7_changeRegister_9 ?_
  refine lv_iload_n hx hb dX7_changeRegister_12 rfl (lv_at hl 1 rfl) ?_
  refine va_iald (D := D) hx hb hK hP 2 0 rfl rfl hw.1 dX7_changeRegister_13 ?_
  have hw := hw.2
  refine G_callv (As := [.int a1, .int (σ.2.1 0 a1.toNatClampNeg)]) (rest := []) ⟨hx, hb, hml, hown, hts⟩ hK hP hD hS 19 0 rfl rfl (c_X1_add_19 l D cI ad A σ a1 (σ.2.1 0 a1.toNatClampNeg) _ hw) (cwV 2 hts gX7_changeRegister_X1_add rfl rfl rfl (by decide +kernel) ⟨Nat.le_of_ble_eq_true rfl, Nat.le_of_ble_eq_true rfl⟩) rfl hl.1 rfl (Nat.le_of_ble_eq_true rfl) dX7_changeRegister_14 ⟨Nat.zero_le _, Nat.zero_le _⟩ (fun σ1 hw H locs hP hD hS => ?_)
  refine lv_aload_n hx hb dX7_changeRegister_17 rfl (lv_at hl 0 rfl) ?_
  refine va_get (D := D) (ci := 5) (C := RX7) (T := TX7) (N := 12) hx hb hts hinX7 hown hK hP 0 rfl rfl 0 (by decide) (hts _ (List.mem_of_getElem? (i := 2) rfl)) (fun _ h9 => h9) rfl dX7_changeRegister_18 ?_
  refine va_get (D := D) (ci := 3) (C := RX4) (T := TX4) (N := 2) hx hb hts hinX4 hown hK hP 1 rfl rfl 0 (by decide) (hts _ (List.mem_of_getElem? (i := 3) rfl)) (fun _ h9 => h9) rfl dX7_changeRegister_21 ?_
  refine lv_iload_n hx hb dX7_changeRegister_24 rfl (lv_at hl 1 rfl) ?_
  refine lv_iload_n hx hb dX7_changeRegister_25 rfl (lv_at hl 2 rfl) ?_
  refine va_iast (D := D) hx hb hK hP hD hS 2 0 rfl rfl hw.1 dX7_changeRegister_26 (fun H locs hP hD hS => ?_)
  obtain ⟨σ2, eσ2⟩ : ∃ z : St, z = sA σ1 0 (upd (σ1.2.1 0) a1.toNatClampNeg a2) := ⟨_, rfl⟩
  have hP : va_P D vwCl (wC cI ad σ2) H := by rw [eσ2]; exact hP
  have hD : va_D A (wC cI ad σ2) := by rw [eσ2]; exact hD
  have hw := hw.2 σ2 eσ2
  exact G_vret hx hb hr hlocks hw hP hK hD hS dX7_changeRegister_27

def wp_X5_add_15 (σ : St) (a1 : Int32) (a2 : Int32) (a3 : Int32) (K : St → Prop) : Prop :=
  vp_in (σ.1 8) 16 ∧ ∀ σ1 : St, σ1 = sA σ 9 (upd (σ.2.1 9) (σ.1 8).toNatClampNeg a1) → vp_in (σ1.1 8) 16 ∧ ∀ σ2 : St, σ2 = sA σ1 10 (upd (σ1.2.1 10) (σ1.1 8).toNatClampNeg a2) → vp_in (σ2.1 8) 16 ∧ ∀ σ3 : St, σ3 = sA σ2 11 (upd (σ2.2.1 11) (σ2.1 8).toNatClampNeg a3) → ∀ σ4 : St, σ4 = sI σ3 8 (((σ3.1 8) + (1 : Int32)) &&& (15 : Int32)) → ∀ σ5 : St, σ5 = sI σ4 7 (if (16 : Int32) < ((σ4.1 7) + (1 : Int32)) then (16 : Int32) else ((σ4.1 7) + (1 : Int32))) → K σ5
set_option maxHeartbeats 4000000 in
set_option maxRecDepth 100000 in
theorem c_X5_add_15 (l : Launch) (D : va_G) (cI : ClassId) (ad : Nat → Nat) (A : Nat → Prop) (σ : St) (a1 : Int32) (a2 : Int32) (a3 : Int32) (K : St → Prop) (hw : wp_X5_add_15 σ a1 a2 a3 K) : Met l yX5_add wsX5_add ({ frames := 1, cells := 0, slots := 0, locals := 21 }) (va_Pc [.ref (ad 15), .int a1, .int a2, .int a3] (GW D [(cI, FieldType.int)] (wC cI ad) A σ)) (va_Qv K (GW D [(cI, FieldType.int)] (wC cI ad) A) A) 0 0 A := by
  refine Met.ofW (cc := cX5_add) (maxL := 4) (ret := none) (by decide) rfl ?_
  intro p e s m args below meth c s₁ B hml hv
  obtain ⟨rfl, hP, hK, hD⟩ := hv
  have hx := B.exec
  have hb := B.bytes
  have hr := B.returns
  have hts := atoms_spec (ws := wsX5_add) B.pre
  have hown : s.vm.findClass RX5 = some m.cls := findClass_of_methodNamed B.named
  have hlocks := B.notSynchronized
  have hS : va_S A s.heap s.heap [] := va_S.rf
  have hinX5 : ∀ w ∈ wsX50, w ∈ wsX5_add := fun _ h => List.mem_cons_of_mem _ (List.mem_append_right _ (h))
  have hl := lv_entry ([.ref (ad 15), .int a1, .int a2, .int a3]) (n := 4) (Nat.le_of_ble_eq_true rfl)
  rw [lg_entry_eq]
  generalize (lg_sl ([.ref (ad 15), .int a1, .int a2, .int a3]) ++ List.replicate (4 - (lg_sl ([.ref (ad 15), .int a1, .int a2, .int a3])).length) Slot.unset).toArray = ls at hl ⊢
  have hl : lv_has ls 4 [(0, .ref (ad 15)), (1, .int a1), (2, .int a2), (3, .int a3)] := hl
  have hP : va_P D vwCl (wC cI ad σ) s.heap := hP
  refine lv_aload_n hx hb dX5_add_0 rfl (lv_at hl 0 rfl) ?_
  refine va_get (D := D) (ci := 4) (C := RX5) (T := TX5) (N := 5) hx hb hts hinX5 hown hK hP 15 rfl rfl 0 (by decide) (hts _ (List.mem_of_getElem? (i := 1) rfl)) (fun _ h9 => h9) rfl dX5_add_1 ?_
  refine lv_aload_n hx hb dX5_add_4 rfl (lv_at hl 0 rfl) ?_
  refine va_get (D := D) (ci := 4) (C := RX5) (T := TX5) (N := 5) hx hb hts hinX5 hown hK hP 15 rfl rfl 4 (by decide) (hts _ (List.mem_of_getElem? (i := 2) rfl)) (fun _ h9 => h9) rfl dX5_add_5 ?_
  refine lv_iload_n hx hb dX5_add_8 rfl (lv_at hl 1 rfl) ?_
  refine va_iast (D := D) hx hb hK hP hD hS 16 0 rfl rfl hw.1 dX5_add_9 (fun H locs hP hD hS => ?_)
  obtain ⟨σ1, eσ1⟩ : ∃ z : St, z = sA σ 9 (upd (σ.2.1 9) (σ.1 8).toNatClampNeg a1) := ⟨_, rfl⟩
  have hP : va_P D vwCl (wC cI ad σ1) H := by rw [eσ1]; exact hP
  have hD : va_D A (wC cI ad σ1) := by rw [eσ1]; exact hD
  have hw := hw.2 σ1 eσ1
  refine lv_aload_n hx hb dX5_add_10 rfl (lv_at hl 0 rfl) ?_
  refine va_get (D := D) (ci := 4) (C := RX5) (T := TX5) (N := 5) hx hb hts hinX5 hown hK hP 15 rfl rfl 1 (by decide) (hts _ (List.mem_of_getElem? (i := 3) rfl)) (fun _ h9 => h9) rfl dX5_add_11 ?_
  refine lv_aload_n hx hb dX5_add_14 rfl (lv_at hl 0 rfl) ?_
  refine va_get (D := D) (ci := 4) (C := RX5) (T := TX5) (N := 5) hx hb hts hinX5 hown hK hP 15 rfl rfl 4 (by decide) (hts _ (List.mem_of_getElem? (i := 2) rfl)) (fun _ h9 => h9) rfl dX5_add_15 ?_
  refine lv_iload_n hx hb dX5_add_18 rfl (lv_at hl 2 rfl) ?_
  refine va_iast (D := D) hx hb hK hP hD hS 17 0 rfl rfl hw.1 dX5_add_19 (fun H locs hP hD hS => ?_)
  obtain ⟨σ2, eσ2⟩ : ∃ z : St, z = sA σ1 10 (upd (σ1.2.1 10) (σ1.1 8).toNatClampNeg a2) := ⟨_, rfl⟩
  have hP : va_P D vwCl (wC cI ad σ2) H := by rw [eσ2]; exact hP
  have hD : va_D A (wC cI ad σ2) := by rw [eσ2]; exact hD
  have hw := hw.2 σ2 eσ2
  refine lv_aload_n hx hb dX5_add_20 rfl (lv_at hl 0 rfl) ?_
  refine va_get (D := D) (ci := 4) (C := RX5) (T := TX5) (N := 5) hx hb hts hinX5 hown hK hP 15 rfl rfl 2 (by decide) (hts _ (List.mem_of_getElem? (i := 4) rfl)) (fun _ h9 => h9) rfl dX5_add_21 ?_
  refine lv_aload_n hx hb dX5_add_24 rfl (lv_at hl 0 rfl) ?_
  refine va_get (D := D) (ci := 4) (C := RX5) (T := TX5) (N := 5) hx hb hts hinX5 hown hK hP 15 rfl rfl 4 (by decide) (hts _ (List.mem_of_getElem? (i := 2) rfl)) (fun _ h9 => h9) rfl dX5_add_25 ?_
  refine lv_iload_n hx hb dX5_add_28 rfl (lv_at hl 3 rfl) ?_
  refine va_iast (D := D) hx hb hK hP hD hS 18 0 rfl rfl hw.1 dX5_add_29 (fun H locs hP hD hS => ?_)
  obtain ⟨σ3, eσ3⟩ : ∃ z : St, z = sA σ2 11 (upd (σ2.2.1 11) (σ2.1 8).toNatClampNeg a3) := ⟨_, rfl⟩
  have hP : va_P D vwCl (wC cI ad σ3) H := by rw [eσ3]; exact hP
  have hD : va_D A (wC cI ad σ3) := by rw [eσ3]; exact hD
  have hw := hw.2 σ3 eσ3
  refine lv_aload_n hx hb dX5_add_30 rfl (lv_at hl 0 rfl) ?_
  refine lv_aload_n hx hb dX5_add_31 rfl (lv_at hl 0 rfl) ?_
  refine va_get (D := D) (ci := 4) (C := RX5) (T := TX5) (N := 5) hx hb hts hinX5 hown hK hP 15 rfl rfl 4 (by decide) (hts _ (List.mem_of_getElem? (i := 2) rfl)) (fun _ h9 => h9) rfl dX5_add_32 ?_
  refine lv_iconst (v := 1) hx hb dX5_add_35 (by decide) ?_
  refine lv_iadd hx hb dX5_add_36 ?_
  refine lv_bipush (v := 15) hx hb dX5_add_37 (by decide) ?_
  refine lv_iand hx hb dX5_add_39 ?_
  refine va_put (D := D) (ci := 4) (ty := .int) (C := RX5) (T := TX5) (N := 5) hx hb hts hinX5 tyX5 tyX5_ok nmX5 hown hK hP hD hS 15 rfl rfl 4 (by decide) (hts _ (List.mem_of_getElem? (i := 2) rfl)) (fun _ h9 => h9) rfl (by decide +kernel) rfl rfl (Nat.le_of_ble_eq_true rfl) dX5_add_40 (fun H locs hP hD hS => ?_)
  obtain ⟨σ4, eσ4⟩ : ∃ z : St, z = sI σ3 8 (((σ3.1 8) + (1 : Int32)) &&& (15 : Int32)) := ⟨_, rfl⟩
  have hP : va_P D vwCl (wC cI ad σ4) H := by rw [eσ4]; exact hP
  have hD : va_D A (wC cI ad σ4) := by rw [eσ4]; exact hD
  have hw := hw σ4 eσ4
  refine lv_aload_n hx hb dX5_add_43 rfl (lv_at hl 0 rfl) ?_
  refine lv_aload_n hx hb dX5_add_44 rfl (lv_at hl 0 rfl) ?_
  refine va_get (D := D) (ci := 4) (C := RX5) (T := TX5) (N := 5) hx hb hts hinX5 hown hK hP 15 rfl rfl 3 (by decide) (hts _ (List.mem_of_getElem? (i := 5) rfl)) (fun _ h9 => h9) rfl dX5_add_45 ?_
  refine lv_iconst (v := 1) hx hb dX5_add_48 (by decide) ?_
  refine lv_iadd hx hb dX5_add_49 ?_
  refine lv_bipush (v := 16) hx hb dX5_add_50 (by decide) ?_
  refine va_mmin hx hb (hml.trans hl.1.symm) hown (hts _ (List.mem_of_getElem? (i := 6) rfl)) (hts _ (List.mem_of_getElem? (i := 7) rfl)) (hts _ (List.mem_of_getElem? (i := 8) rfl)) (hts _ (List.mem_of_getElem? (i := 9) rfl)) (Nat.le_of_ble_eq_true rfl) (Nat.le_of_ble_eq_true rfl) (Nat.zero_le _) (Nat.zero_le _) dX5_add_52 ?_
  refine va_put (D := D) (ci := 4) (ty := .int) (C := RX5) (T := TX5) (N := 5) hx hb hts hinX5 tyX5 tyX5_ok nmX5 hown hK hP hD hS 15 rfl rfl 3 (by decide) (hts _ (List.mem_of_getElem? (i := 5) rfl)) (fun _ h9 => h9) rfl (by decide +kernel) rfl rfl (Nat.le_of_ble_eq_true rfl) dX5_add_55 (fun H locs hP hD hS => ?_)
  obtain ⟨σ5, eσ5⟩ : ∃ z : St, z = sI σ4 7 (if (16 : Int32) < ((σ4.1 7) + (1 : Int32)) then (16 : Int32) else ((σ4.1 7) + (1 : Int32))) := ⟨_, rfl⟩
  have hP : va_P D vwCl (wC cI ad σ5) H := by rw [eσ5]; exact hP
  have hD : va_D A (wC cI ad σ5) := by rw [eσ5]; exact hD
  have hw := hw σ5 eσ5
  exact G_vret hx hb hr hlocks hw hP hK hD hS dX5_add_58

def wp_X7_tick (σ : St) (a1 : Int32) (a2 : Int32) (K : Int32 → St → Prop) : Prop :=
  wp_X5_add_15 σ a1 (σ.1 13) a2 (fun σ1 => ∀ σ2 : St, σ2 = sL σ1 (((31 : Int64) * (σ1.2.2)) + (a2.toInt64)) → ∀ σ3 : St, σ3 = sI σ2 13 ((σ2.1 13) + (1 : Int32)) → K a2 σ3)
set_option maxHeartbeats 4000000 in
set_option maxRecDepth 100000 in
theorem c_X7_tick (l : Launch) (D : va_G) (cI : ClassId) (ad : Nat → Nat) (A : Nat → Prop) (σ : St) (a1 : Int32) (a2 : Int32) (K : Int32 → St → Prop) (hw : wp_X7_tick σ a1 a2 K) : Met l yX7_tick wsX7_tick ({ frames := 2, cells := 0, slots := 0, locals := 44 }) (va_Pc [.ref (ad 0), .int a1, .int a2] (GW D [(cI, FieldType.int)] (wC cI ad) A σ)) (va_Qi K (GW D [(cI, FieldType.int)] (wC cI ad) A) A) 0 0 A := by
  refine Met.ofW (cc := cX7_tick) (maxL := 3) (ret := (some .int)) (by decide) rfl ?_
  intro p e s m args below meth c s₁ B hml hv
  obtain ⟨rfl, hP, hK, hD⟩ := hv
  have hx := B.exec
  have hb := B.bytes
  have hr := B.returns
  have hts := atoms_spec (ws := wsX7_tick) B.pre
  have hown : s.vm.findClass RX7 = some m.cls := findClass_of_methodNamed B.named
  have hlocks := B.notSynchronized
  have hS : va_S A s.heap s.heap [] := va_S.rf
  have hinX5 : ∀ w ∈ wsX50, w ∈ wsX7_tick := fun _ h => List.mem_cons_of_mem _ (List.mem_append_right _ (h))
  have hinX7 : ∀ w ∈ wsX70, w ∈ wsX7_tick := fun _ h => List.mem_cons_of_mem _ (List.mem_append_left _ (List.mem_append_right _ (h)))
  have hl := lv_entry ([.ref (ad 0), .int a1, .int a2]) (n := 3) (Nat.le_of_ble_eq_true rfl)
  rw [lg_entry_eq]
  generalize (lg_sl ([.ref (ad 0), .int a1, .int a2]) ++ List.replicate (3 - (lg_sl ([.ref (ad 0), .int a1, .int a2])).length) Slot.unset).toArray = ls at hl ⊢
  have hl : lv_has ls 3 [(0, .ref (ad 0)), (1, .int a1), (2, .int a2)] := hl
  have hP : va_P D vwCl (wC cI ad σ) s.heap := hP
  refine lv_aload_n hx hb dX7_tick_0 rfl (lv_at hl 0 rfl) ?_
  refine va_get (D := D) (ci := 5) (C := RX7) (T := TX7) (N := 12) hx hb hts hinX7 hown hK hP 0 rfl rfl 5 (by decide) (hts _ (List.mem_of_getElem? (i := 1) rfl)) (fun _ h9 => h9) rfl dX7_tick_1 ?_
  refine lv_iload_n hx hb dX7_tick_4 rfl (lv_at hl 1 rfl) ?_
  refine lv_aload_n hx hb dX7_tick_5 rfl (lv_at hl 0 rfl) ?_
  refine va_get (D := D) (ci := 5) (C := RX7) (T := TX7) (N := 12) hx hb hts hinX7 hown hK hP 0 rfl rfl 9 (by decide) (hts _ (List.mem_of_getElem? (i := 2) rfl)) (fun _ h9 => h9) rfl dX7_tick_6 ?_
  refine lv_iload_n hx hb dX7_tick_9 rfl (lv_at hl 2 rfl) ?_
  refine G_callv (As := [.int a1, .int (σ.1 13), .int a2]) (rest := []) ⟨hx, hb, hml, hown, hts⟩ hK hP hD hS 15 4 rfl rfl (c_X5_add_15 l D cI ad A σ a1 (σ.1 13) a2 _ hw) (cwV 3 hts gX7_tick_X5_add rfl rfl rfl (by decide +kernel) ⟨Nat.le_of_ble_eq_true rfl, Nat.le_of_ble_eq_true rfl⟩) rfl hl.1 rfl (Nat.le_of_ble_eq_true rfl) dX7_tick_10 ⟨Nat.zero_le _, Nat.zero_le _⟩ (fun σ1 hw H locs hP hD hS => ?_)
  refine lv_aload_n hx hb dX7_tick_13 rfl (lv_at hl 0 rfl) ?_
  refine lv_ldc2 (v := 31) hx hb hown (hts _ (List.mem_of_getElem? (i := 3) rfl)) dX7_tick_14 ?_
  refine lv_aload_n hx hb dX7_tick_17 rfl (lv_at hl 0 rfl) ?_
  refine va_get (D := D) (ci := 5) (C := RX7) (T := TX7) (N := 12) hx hb hts hinX7 hown hK hP 0 rfl rfl 11 (by decide) (hts _ (List.mem_of_getElem? (i := 4) rfl)) (fun _ h9 => h9) rfl dX7_tick_18 ?_
  refine lv_lmul hx hb dX7_tick_21 ?_
  refine lv_iload_n hx hb dX7_tick_22 rfl (lv_at hl 2 rfl) ?_
  refine lv_i2l hx hb dX7_tick_23 rfl ?_
  refine lv_ladd hx hb dX7_tick_24 ?_
  refine va_put (D := D) (ci := 5) (ty := .long) (C := RX7) (T := TX7) (N := 12) hx hb hts hinX7 tyX7 tyX7_ok nmX7 hown hK hP hD hS 0 rfl rfl 11 (by decide) (hts _ (List.mem_of_getElem? (i := 4) rfl)) (fun _ h9 => h9) rfl (by decide +kernel) rfl rfl (Nat.le_of_ble_eq_true rfl) dX7_tick_25 (fun H locs hP hD hS => ?_)
  obtain ⟨σ2, eσ2⟩ : ∃ z : St, z = sL σ1 (((31 : Int64) * (σ1.2.2)) + (a2.toInt64)) := ⟨_, rfl⟩
  have hP : va_P D vwCl (wC cI ad σ2) H := by rw [eσ2]; exact hP
  have hD : va_D A (wC cI ad σ2) := by rw [eσ2]; exact hD
  have hw := hw σ2 eσ2
  refine lv_aload_n hx hb dX7_tick_28 rfl (lv_at hl 0 rfl) ?_
  refine lv_dup hx hb dX7_tick_29 rfl ?_
  refine va_get (D := D) (ci := 5) (C := RX7) (T := TX7) (N := 12) hx hb hts hinX7 hown hK hP 0 rfl rfl 9 (by decide) (hts _ (List.mem_of_getElem? (i := 2) rfl)) (fun _ h9 => h9) rfl dX7_tick_30 ?_
  refine lv_iconst (v := 1) hx hb dX7_tick_33 (by decide) ?_
  refine lv_iadd hx hb dX7_tick_34 ?_
  refine va_put (D := D) (ci := 5) (ty := .int) (C := RX7) (T := TX7) (N := 12) hx hb hts hinX7 tyX7 tyX7_ok nmX7 hown hK hP hD hS 0 rfl rfl 9 (by decide) (hts _ (List.mem_of_getElem? (i := 2) rfl)) (fun _ h9 => h9) rfl (by decide +kernel) rfl rfl (Nat.le_of_ble_eq_true rfl) dX7_tick_35 (fun H locs hP hD hS => ?_)
  obtain ⟨σ3, eσ3⟩ : ∃ z : St, z = sI σ2 13 ((σ2.1 13) + (1 : Int32)) := ⟨_, rfl⟩
  have hP : va_P D vwCl (wC cI ad σ3) H := by rw [eσ3]; exact hP
  have hD : va_D A (wC cI ad σ3) := by rw [eσ3]; exact hD
  have hw := hw σ3 eσ3
  refine lv_iload_n hx hb dX7_tick_38 rfl (lv_at hl 2 rfl) ?_
  exact G_iret hx hb hr hlocks hw hP hK hD hS dX7_tick_39

def wp_X7_set (σ : St) (a1 : Int32) (a2 : Int32) (K : Int32 → St → Prop) : Prop :=
  wp_X7_isRegister a1 (fun x1 => ((¬ x1 = 0 → wp_X7_isByte a2 (fun x2 => ((¬ x2 = 0 → vp_in a1 40 ∧ wp_X0_valueOf (σ.2.1 0 a1.toNatClampNeg) (fun x3 => wp_X0_of a2 (0 : Int32) (0 : Int32) (fun x4 => wp_X7_changeRegister σ a1 x4 (fun σ5 => wp_X7_tick σ5 (0 : Int32) x3 (fun x7 σ6 => K x7 σ6))))) ∧ (x2 = 0 → K (-1000000002 : Int32) σ)))) ∧ (x1 = 0 → K (-1000000001 : Int32) σ)))
set_option maxHeartbeats 4000000 in
set_option maxRecDepth 100000 in
theorem c_X7_set (l : Launch) (D : va_G) (cI : ClassId) (ad : Nat → Nat) (A : Nat → Prop) (σ : St) (a1 : Int32) (a2 : Int32) (K : Int32 → St → Prop) (hw : wp_X7_set σ a1 a2 K) : Met l yX7_set wsX7_set ({ frames := 3, cells := 0, slots := 0, locals := 66 }) (va_Pc [.ref (ad 0), .int a1, .int a2] (GW D [(cI, FieldType.int)] (wC cI ad) A σ)) (va_Qi K (GW D [(cI, FieldType.int)] (wC cI ad) A) A) 0 0 A := by
  refine Met.ofW (cc := cX7_set) (maxL := 4) (ret := (some .int)) (by decide) rfl ?_
  intro p e s m args below meth c s₁ B hml hv
  obtain ⟨rfl, hP, hK, hD⟩ := hv
  have hx := B.exec
  have hb := B.bytes
  have hr := B.returns
  have hts := atoms_spec (ws := wsX7_set) B.pre
  have hown : s.vm.findClass RX7 = some m.cls := findClass_of_methodNamed B.named
  have hlocks := B.notSynchronized
  have hS : va_S A s.heap s.heap [] := va_S.rf
  have hinX1 : ∀ w ∈ wsX10, w ∈ wsX7_set := fun _ h => List.mem_cons_of_mem _ (List.mem_append_left _ (List.mem_append_right _ (h)))
  have hinX4 : ∀ w ∈ wsX40, w ∈ wsX7_set := fun _ h => List.mem_cons_of_mem _ (List.mem_append_left _ (List.mem_append_left _ (List.mem_append_right _ (h))))
  have hinX5 : ∀ w ∈ wsX50, w ∈ wsX7_set := fun _ h => List.mem_cons_of_mem _ (List.mem_append_right _ (h))
  have hinX7 : ∀ w ∈ wsX70, w ∈ wsX7_set := fun _ h => List.mem_cons_of_mem _ (List.mem_append_left _ (List.mem_append_left _ (List.mem_append_left _ (List.mem_append_right _ (h)))))
  have hl := lv_entry ([.ref (ad 0), .int a1, .int a2]) (n := 4) (Nat.le_of_ble_eq_true rfl)
  rw [lg_entry_eq]
  generalize (lg_sl ([.ref (ad 0), .int a1, .int a2]) ++ List.replicate (4 - (lg_sl ([.ref (ad 0), .int a1, .int a2])).length) Slot.unset).toArray = ls at hl ⊢
  have hl : lv_has ls 4 [(0, .ref (ad 0)), (1, .int a1), (2, .int a2)] := hl
  have hP : va_P D vwCl (wC cI ad σ) s.heap := hP
  refine lv_iload_n hx hb dX7_set_0 rfl (lv_at hl 1 rfl) ?_
  refine S_calli (As := [.int a1]) (rest := []) ⟨hx, hb, hml, hown, hts⟩ (c_X7_isRegister l a1 _ hw) (va_cwS 1 hts gX7_set_X7_isRegister rfl rfl rfl (by decide +kernel) ⟨Nat.le_of_ble_eq_true rfl, Nat.le_of_ble_eq_true rfl⟩) rfl hl.1 rfl (Nat.le_of_ble_eq_true rfl) dX7_set_1 ⟨Nat.zero_le _, Nat.zero_le _⟩ (fun x1 hw => ?_)
  refine lv_if_ne (tgt := 10) hx hb dX7_set_4 (by decide) (fun c9 => ?_) (fun c9 => ?_)
  · have hw := hw.1 c9
    refine lv_iload_n hx hb dX7_set_10 rfl (lv_at hl 2 rfl) ?_
    refine S_calli (As := [.int a2]) (rest := []) ⟨hx, hb, hml, hown, hts⟩ (c_X7_isByte l a2 _ hw) (va_cwS 1 hts gX7_set_X7_isByte rfl rfl rfl (by decide +kernel) ⟨Nat.le_of_ble_eq_true rfl, Nat.le_of_ble_eq_true rfl⟩) rfl hl.1 rfl (Nat.le_of_ble_eq_true rfl) dX7_set_11 ⟨Nat.zero_le _, Nat.zero_le _⟩ (fun x2 hw => ?_)
    refine lv_if_ne (tgt := 20) hx hb dX7_set_14 (by decide) (fun c9 => ?_) (fun c9 => ?_)
    · have hw := hw.1 c9
      refine lv_aload_n hx hb dX7_set_20 rfl (lv_at hl 0 rfl) ?_
      refine va_get (D := D) (ci := 5) (C := RX7) (T := TX7) (N := 12) hx hb hts hinX7 hown hK hP 0 rfl rfl 0 (by decide) (hts _ (List.mem_of_getElem? (i := 3) rfl)) (fun _ h9 => h9) rfl dX7_set_21 ?_
      refine va_get (D := D) (ci := 3) (C := RX4) (T := TX4) (N := 2) hx hb hts hinX4 hown hK hP 1 rfl rfl 0 (by decide) (hts _ (List.mem_of_getElem? (i := 4) rfl)) (fun _ h9 => h9) rfl dX7_set_24 ?_
      refine lv_iload_n hx hb dX7_set_27 rfl (lv_at hl 1 rfl) ?_
      refine va_iald (D := D) hx hb hK hP 2 0 rfl rfl hw.1 dX7_set_28 ?_
      have hw := hw.2
      refine S_calli (As := [.int (σ.2.1 0 a1.toNatClampNeg)]) (rest := []) ⟨hx, hb, hml, hown, hts⟩ (c_X0_valueOf l (σ.2.1 0 a1.toNatClampNeg) _ hw) (va_cwS 1 hts gX7_set_X0_valueOf rfl rfl rfl (by decide +kernel) ⟨Nat.le_of_ble_eq_true rfl, Nat.le_of_ble_eq_true rfl⟩) rfl hl.1 rfl (Nat.le_of_ble_eq_true rfl) dX7_set_29 ⟨Nat.zero_le _, Nat.zero_le _⟩ (fun x3 hw => ?_)
      refine lv_istore_n (lv' := [(3, .int x3), (0, .ref (ad 0)), (1, .int a1), (2, .int a2)]) hx hb dX7_set_32 rfl hl (by decide) rfl (fun ls hl => ?_)
      refine lv_aload_n hx hb dX7_set_33 rfl (lv_at hl 1 rfl) ?_
      refine lv_iload_n hx hb dX7_set_34 rfl (lv_at hl 2 rfl) ?_
      refine lv_iload_n hx hb dX7_set_35 rfl (lv_at hl 3 rfl) ?_
      refine lv_iconst (v := 0) hx hb dX7_set_36 (by decide) ?_
      refine lv_iconst (v := 0) hx hb dX7_set_37 (by decide) ?_
      refine S_calli (As := [.int a2, .int (0 : Int32), .int (0 : Int32)]) (rest := [.int a1, .ref (ad 0)]) ⟨hx, hb, hml, hown, hts⟩ (c_X0_of l a2 (0 : Int32) (0 : Int32) _ hw) (va_cwS 3 hts gX7_set_X0_of rfl rfl rfl (by decide +kernel) ⟨Nat.le_of_ble_eq_true rfl, Nat.le_of_ble_eq_true rfl⟩) rfl hl.1 rfl (Nat.le_of_ble_eq_true rfl) dX7_set_38 ⟨Nat.zero_le _, Nat.zero_le _⟩ (fun x4 hw => ?_)
      refine G_callv (As := [.int a1, .int x4]) (rest := []) ⟨hx, hb, hml, hown, hts⟩ hK hP hD hS 0 5 rfl rfl (c_X7_changeRegister l D cI ad A σ a1 x4 _ hw) (cwV 2 hts gX7_set_X7_changeRegister rfl rfl rfl (by decide +kernel) ⟨Nat.le_of_ble_eq_true rfl, Nat.le_of_ble_eq_true rfl⟩) rfl hl.1 rfl (Nat.le_of_ble_eq_true rfl) dX7_set_41 ⟨Nat.zero_le _, Nat.zero_le _⟩ (fun σ5 hw H locs hP hD hS => ?_)
      refine lv_aload_n hx hb dX7_set_44 rfl (lv_at hl 1 rfl) ?_
      refine lv_iconst (v := 0) hx hb dX7_set_45 (by decide) ?_
      refine lv_iload_n hx hb dX7_set_46 rfl (lv_at hl 0 rfl) ?_
      refine G_calli (As := [.int (0 : Int32), .int x3]) (rest := []) ⟨hx, hb, hml, hown, hts⟩ hK hP hD hS 0 5 rfl rfl (c_X7_tick l D cI ad A σ5 (0 : Int32) x3 _ hw) (cwV 2 hts gX7_set_X7_tick rfl rfl rfl (by decide +kernel) ⟨Nat.le_of_ble_eq_true rfl, Nat.le_of_ble_eq_true rfl⟩) rfl hl.1 rfl (Nat.le_of_ble_eq_true rfl) dX7_set_47 ⟨Nat.zero_le _, Nat.zero_le _⟩ (fun x7 σ6 hw H locs hP hD hS => ?_)
      exact G_iret hx hb hr hlocks hw hP hK hD hS dX7_set_50
    · have hw := hw.2 c9
      refine lv_ldc (v := -1000000002) hx hb hown (hts _ (List.mem_of_getElem? (i := 2) rfl)) dX7_set_17 ?_
      exact G_iret hx hb hr hlocks hw hP hK hD hS dX7_set_19
  · have hw := hw.2 c9
    refine lv_ldc (v := -1000000001) hx hb hown (hts _ (List.mem_of_getElem? (i := 1) rfl)) dX7_set_7 ?_
    exact G_iret hx hb hr hlocks hw hP hK hD hS dX7_set_9

def wp_X3_has_7 (σ : St) (a1 : Int32) (K : Int32 → St → Prop) : Prop :=
  ((a1 < 0 → K (0 : Int32) σ) ∧ (¬ a1 < 0 → (((σ.1 3) ≤ a1 → K (0 : Int32) σ) ∧ (¬ (σ.1 3) ≤ a1 → K (1 : Int32) σ))))
set_option maxHeartbeats 4000000 in
set_option maxRecDepth 100000 in
theorem c_X3_has_7 (l : Launch) (D : va_G) (cI : ClassId) (ad : Nat → Nat) (A : Nat → Prop) (σ : St) (a1 : Int32) (K : Int32 → St → Prop) (hw : wp_X3_has_7 σ a1 K) : Met l yX3_has wsX3_has ({ frames := 0, cells := 0, slots := 0, locals := 0 }) (va_Pc [.ref (ad 7), .int a1] (GW D [(cI, FieldType.int)] (wC cI ad) A σ)) (va_Qi K (GW D [(cI, FieldType.int)] (wC cI ad) A) A) 0 0 A := by
  refine Met.ofW (cc := cX3_has) (maxL := 2) (ret := (some .boolean)) (by decide) rfl ?_
  intro p e s m args below meth c s₁ B hml hv
  obtain ⟨rfl, hP, hK, hD⟩ := hv
  have hx := B.exec
  have hb := B.bytes
  have hr := B.returns
  have hts := atoms_spec (ws := wsX3_has) B.pre
  have hown : s.vm.findClass RX3 = some m.cls := findClass_of_methodNamed B.named
  have hlocks := B.notSynchronized
  have hS : va_S A s.heap s.heap [] := va_S.rf
  have hinX3 : ∀ w ∈ wsX30, w ∈ wsX3_has := fun _ h => List.mem_cons_of_mem _ (List.mem_append_right _ (h))
  have hl := lv_entry ([.ref (ad 7), .int a1]) (n := 2) (Nat.le_of_ble_eq_true rfl)
  rw [lg_entry_eq]
  generalize (lg_sl ([.ref (ad 7), .int a1]) ++ List.replicate (2 - (lg_sl ([.ref (ad 7), .int a1])).length) Slot.unset).toArray = ls at hl ⊢
  have hl : lv_has ls 2 [(0, .ref (ad 7)), (1, .int a1)] := hl
  have hP : va_P D vwCl (wC cI ad σ) s.heap := hP
  refine lv_iload_n hx hb dX3_has_0 rfl (lv_at hl 1 rfl) ?_
  refine lv_if_lt (tgt := 16) hx hb dX3_has_1 (by decide) (fun c9 => ?_) (fun c9 => ?_)
  · have hw := hw.1 c9
    refine lv_iconst (v := 0) hx hb dX3_has_16 (by decide) ?_
    exact G_zret hx hb hr hlocks rfl hw hP hK hD hS dX3_has_17
  · have hw := hw.2 c9
    refine lv_iload_n hx hb dX3_has_4 rfl (lv_at hl 1 rfl) ?_
    refine lv_aload_n hx hb dX3_has_5 rfl (lv_at hl 0 rfl) ?_
    refine va_get (D := D) (ci := 2) (C := RX3) (T := TX3) (N := 5) hx hb hts hinX3 hown hK hP 7 rfl rfl 3 (by decide) (hts _ (List.mem_of_getElem? (i := 1) rfl)) (fun _ h9 => h9) rfl dX3_has_6 ?_
    refine lv_icmp_ge (tgt := 16) hx hb dX3_has_9 (by decide) (fun c9 => ?_) (fun c9 => ?_)
    · have hw := hw.1 c9
      refine lv_iconst (v := 0) hx hb dX3_has_16 (by decide) ?_
      exact G_zret hx hb hr hlocks rfl hw hP hK hD hS dX3_has_17
    · have hw := hw.2 c9
      refine lv_iconst (v := 1) hx hb dX3_has_12 (by decide) ?_
      refine lv_goto (tgt := 17) hx hb dX3_has_13 (by decide) ?_
      exact G_zret hx hb hr hlocks rfl hw hP hK hD hS dX3_has_17

def wp_X7_forget (σ : St) (a1 : Int32) (a2 : Int32) (a3 : Int32) (K : Int32 → St → Prop) : Prop :=
  wp_X7_isRegister a1 (fun x1 => ((x1 = 0 → K (-1000000001 : Int32) σ) ∧ (¬ x1 = 0 → wp_X3_has_7 σ a3 (fun x3 σ2 => ((¬ x3 = 0 → ((a2 < (1 : Int32) → K (-1000000002 : Int32) σ2) ∧ (¬ a2 < (1 : Int32) → ((a2 ≤ (255 : Int32) → vp_in a1 40 ∧ ∀ x4 : Int32, x4 = σ2.2.1 0 a1.toNatClampNeg → wp_X0_shadowOf x4 (fun x5 => ∀ x6 : Int32, x6 = x5 ||| a2 → wp_X0_valueOf x4 (fun x7 => wp_X0_fromOf x4 (fun x8 => wp_X0_of x7 x6 (x8 ||| ((1 : Int32) <<< (a3 &&& 31))) (fun x9 => wp_X7_changeRegister σ2 a1 x9 (fun σ10 => wp_X7_tick σ10 (11 : Int32) x6 (fun x12 σ11 => K x12 σ11))))))) ∧ (¬ a2 ≤ (255 : Int32) → K (-1000000002 : Int32) σ2))))) ∧ (x3 = 0 → K (-1000000001 : Int32) σ2))))))
set_option maxHeartbeats 4000000 in
set_option maxRecDepth 100000 in
theorem c_X7_forget (l : Launch) (D : va_G) (cI : ClassId) (ad : Nat → Nat) (A : Nat → Prop) (σ : St) (a1 : Int32) (a2 : Int32) (a3 : Int32) (K : Int32 → St → Prop) (hw : wp_X7_forget σ a1 a2 a3 K) : Met l yX7_forget wsX7_forget ({ frames := 3, cells := 0, slots := 0, locals := 66 }) (va_Pc [.ref (ad 0), .int a1, .int a2, .int a3] (GW D [(cI, FieldType.int)] (wC cI ad) A σ)) (va_Qi K (GW D [(cI, FieldType.int)] (wC cI ad) A) A) 0 0 A := by
  refine Met.ofW (cc := cX7_forget) (maxL := 6) (ret := (some .int)) (by decide) rfl ?_
  intro p e s m args below meth c s₁ B hml hv
  obtain ⟨rfl, hP, hK, hD⟩ := hv
  have hx := B.exec
  have hb := B.bytes
  have hr := B.returns
  have hts := atoms_spec (ws := wsX7_forget) B.pre
  have hown : s.vm.findClass RX7 = some m.cls := findClass_of_methodNamed B.named
  have hlocks := B.notSynchronized
  have hS : va_S A s.heap s.heap [] := va_S.rf
  have hinX1 : ∀ w ∈ wsX10, w ∈ wsX7_forget := fun _ h => List.mem_cons_of_mem _ (List.mem_append_left _ (List.mem_append_right _ (h)))
  have hinX3 : ∀ w ∈ wsX30, w ∈ wsX7_forget := fun _ h => List.mem_cons_of_mem _ (List.mem_append_left _ (List.mem_append_left _ (List.mem_append_right _ (h))))
  have hinX4 : ∀ w ∈ wsX40, w ∈ wsX7_forget := fun _ h => List.mem_cons_of_mem _ (List.mem_append_left _ (List.mem_append_left _ (List.mem_append_left _ (List.mem_append_right _ (h)))))
  have hinX5 : ∀ w ∈ wsX50, w ∈ wsX7_forget := fun _ h => List.mem_cons_of_mem _ (List.mem_append_right _ (h))
  have hinX7 : ∀ w ∈ wsX70, w ∈ wsX7_forget := fun _ h => List.mem_cons_of_mem _ (List.mem_append_left _ (List.mem_append_left _ (List.mem_append_left _ (List.mem_append_left _ (List.mem_append_right _ (h))))))
  have hl := lv_entry ([.ref (ad 0), .int a1, .int a2, .int a3]) (n := 6) (Nat.le_of_ble_eq_true rfl)
  rw [lg_entry_eq]
  generalize (lg_sl ([.ref (ad 0), .int a1, .int a2, .int a3]) ++ List.replicate (6 - (lg_sl ([.ref (ad 0), .int a1, .int a2, .int a3])).length) Slot.unset).toArray = ls at hl ⊢
  have hl : lv_has ls 6 [(0, .ref (ad 0)), (1, .int a1), (2, .int a2), (3, .int a3)] := hl
  have hP : va_P D vwCl (wC cI ad σ) s.heap := hP
  refine lv_iload_n hx hb dX7_forget_0 rfl (lv_at hl 1 rfl) ?_
  refine S_calli (As := [.int a1]) (rest := []) ⟨hx, hb, hml, hown, hts⟩ (c_X7_isRegister l a1 _ hw) (va_cwS 1 hts gX7_forget_X7_isRegister rfl rfl rfl (by decide +kernel) ⟨Nat.le_of_ble_eq_true rfl, Nat.le_of_ble_eq_true rfl⟩) rfl hl.1 rfl (Nat.le_of_ble_eq_true rfl) dX7_forget_1 ⟨Nat.zero_le _, Nat.zero_le _⟩ (fun x1 hw => ?_)
  refine lv_if_eq (tgt := 18) hx hb dX7_forget_4 (by decide) (fun c9 => ?_) (fun c9 => ?_)
  · have hw := hw.1 c9
    refine lv_ldc (v := -1000000001) hx hb hown (hts _ (List.mem_of_getElem? (i := 2) rfl)) dX7_forget_18 ?_
    exact G_iret hx hb hr hlocks hw hP hK hD hS dX7_forget_20
  · have hw := hw.2 c9
    refine lv_aload_n hx hb dX7_forget_7 rfl (lv_at hl 0 rfl) ?_
    refine va_get (D := D) (ci := 5) (C := RX7) (T := TX7) (N := 12) hx hb hts hinX7 hown hK hP 0 rfl rfl 3 (by decide) (hts _ (List.mem_of_getElem? (i := 1) rfl)) (fun _ h9 => h9) rfl dX7_forget_8 ?_
    refine lv_iload_n hx hb dX7_forget_11 rfl (lv_at hl 3 rfl) ?_
    refine G_calli (As := [.int a3]) (rest := []) ⟨hx, hb, hml, hown, hts⟩ hK hP hD hS 7 2 rfl rfl (c_X3_has_7 l D cI ad A σ a3 _ hw) (cwV 1 hts gX7_forget_X3_has rfl rfl rfl (by decide +kernel) ⟨Nat.le_of_ble_eq_true rfl, Nat.le_of_ble_eq_true rfl⟩) rfl hl.1 rfl (Nat.le_of_ble_eq_true rfl) dX7_forget_12 ⟨Nat.zero_le _, Nat.zero_le _⟩ (fun x3 σ2 hw H locs hP hD hS => ?_)
    refine lv_if_ne (tgt := 21) hx hb dX7_forget_15 (by decide) (fun c9 => ?_) (fun c9 => ?_)
    · have hw := hw.1 c9
      refine lv_iload_n hx hb dX7_forget_21 rfl (lv_at hl 2 rfl) ?_
      refine lv_iconst (v := 1) hx hb dX7_forget_22 (by decide) ?_
      refine lv_icmp_lt (tgt := 33) hx hb dX7_forget_23 (by decide) (fun c9 => ?_) (fun c9 => ?_)
      · have hw := hw.1 c9
        refine lv_ldc (v := -1000000002) hx hb hown (hts _ (List.mem_of_getElem? (i := 3) rfl)) dX7_forget_33 ?_
        exact G_iret hx hb hr hlocks hw hP hK hD hS dX7_forget_35
      · have hw := hw.2 c9
        refine lv_iload_n hx hb dX7_forget_26 rfl (lv_at hl 2 rfl) ?_
        refine lv_sipush (v := 255) hx hb dX7_forget_27 (by decide) ?_
        refine lv_icmp_le (tgt := 36) hx hb dX7_forget_30 (by decide) (fun c9 => ?_) (fun c9 => ?_)
        · have hw := hw.1 c9
          refine lv_aload_n hx hb dX7_forget_36 rfl (lv_at hl 0 rfl) ?_
          refine va_get (D := D) (ci := 5) (C := RX7) (T := TX7) (N := 12) hx hb hts hinX7 hown hK hP 0 rfl rfl 0 (by decide) (hts _ (List.mem_of_getElem? (i := 4) rfl)) (fun _ h9 => h9) rfl dX7_forget_37 ?_
          refine va_get (D := D) (ci := 3) (C := RX4) (T := TX4) (N := 2) hx hb hts hinX4 hown hK hP 1 rfl rfl 0 (by decide) (hts _ (List.mem_of_getElem? (i := 5) rfl)) (fun _ h9 => h9) rfl dX7_forget_40 ?_
          refine lv_iload_n hx hb dX7_forget_43 rfl (lv_at hl 1 rfl) ?_
          refine va_iald (D := D) hx hb hK hP 2 0 rfl rfl hw.1 dX7_forget_44 ?_
          have hw := hw.2
          refine lv_topi (fun x4 ex4 => ?_)
          have hw := hw x4 ex4
          refine lv_istore (lv' := [(4, .int x4), (0, .ref (ad 0)), (1, .int a1), (2, .int a2), (3, .int a3)]) hx hb dX7_forget_45 hl (by decide) rfl (fun ls hl => ?_)
          refine lv_iload hx hb dX7_forget_47 (lv_at hl 0 rfl) ?_
          refine S_calli (As := [.int x4]) (rest := []) ⟨hx, hb, hml, hown, hts⟩ (c_X0_shadowOf l x4 _ hw) (va_cwS 1 hts gX7_forget_X0_shadowOf rfl rfl rfl (by decide +kernel) ⟨Nat.le_of_ble_eq_true rfl, Nat.le_of_ble_eq_true rfl⟩) rfl hl.1 rfl (Nat.le_of_ble_eq_true rfl) dX7_forget_49 ⟨Nat.zero_le _, Nat.zero_le _⟩ (fun x5 hw => ?_)
          refine lv_iload_n hx hb dX7_forget_52 rfl (lv_at hl 3 rfl) ?_
          refine lv_ior hx hb dX7_forget_53 ?_
          refine lv_topi (fun x6 ex6 => ?_)
          have hw := hw x6 ex6
          refine lv_istore (lv' := [(5, .int x6), (4, .int x4), (0, .ref (ad 0)), (1, .int a1), (2, .int a2), (3, .int a3)]) hx hb dX7_forget_54 hl (by decide) rfl (fun ls hl => ?_)
          refine lv_aload_n hx hb dX7_forget_56 rfl (lv_at hl 2 rfl) ?_
          refine lv_iload_n hx hb dX7_forget_57 rfl (lv_at hl 3 rfl) ?_
          refine lv_iload hx hb dX7_forget_58 (lv_at hl 1 rfl) ?_
          refine S_calli (As := [.int x4]) (rest := [.int a1, .ref (ad 0)]) ⟨hx, hb, hml, hown, hts⟩ (c_X0_valueOf l x4 _ hw) (va_cwS 1 hts gX7_forget_X0_valueOf rfl rfl rfl (by decide +kernel) ⟨Nat.le_of_ble_eq_true rfl, Nat.le_of_ble_eq_true rfl⟩) rfl hl.1 rfl (Nat.le_of_ble_eq_true rfl) dX7_forget_60 ⟨Nat.zero_le _, Nat.zero_le _⟩ (fun x7 hw => ?_)
          refine lv_iload hx hb dX7_forget_63 (lv_at hl 0 rfl) ?_
          refine lv_iload hx hb dX7_forget_65 (lv_at hl 1 rfl) ?_
          refine S_calli (As := [.int x4]) (rest := [.int x6, .int x7, .int a1, .ref (ad 0)]) ⟨hx, hb, hml, hown, hts⟩ (c_X0_fromOf l x4 _ hw) (va_cwS 1 hts gX7_forget_X0_fromOf rfl rfl rfl (by decide +kernel) ⟨Nat.le_of_ble_eq_true rfl, Nat.le_of_ble_eq_true rfl⟩) rfl hl.1 rfl (Nat.le_of_ble_eq_true rfl) dX7_forget_67 ⟨Nat.zero_le _, Nat.zero_le _⟩ (fun x8 hw => ?_)
          refine lv_iconst (v := 1) hx hb dX7_forget_70 (by decide) ?_
          refine lv_iload_n hx hb dX7_forget_71 rfl (lv_at hl 5 rfl) ?_
          refine lv_ishl hx hb dX7_forget_72 ?_
          refine lv_ior hx hb dX7_forget_73 ?_
          refine S_calli (As := [.int x7, .int x6, .int (x8 ||| ((1 : Int32) <<< (a3 &&& 31)))]) (rest := [.int a1, .ref (ad 0)]) ⟨hx, hb, hml, hown, hts⟩ (c_X0_of l x7 x6 (x8 ||| ((1 : Int32) <<< (a3 &&& 31))) _ hw) (va_cwS 3 hts gX7_forget_X0_of rfl rfl rfl (by decide +kernel) ⟨Nat.le_of_ble_eq_true rfl, Nat.le_of_ble_eq_true rfl⟩) rfl hl.1 rfl (Nat.le_of_ble_eq_true rfl) dX7_forget_74 ⟨Nat.zero_le _, Nat.zero_le _⟩ (fun x9 hw => ?_)
          refine G_callv (As := [.int a1, .int x9]) (rest := []) ⟨hx, hb, hml, hown, hts⟩ hK hP hD hS 0 5 rfl rfl (c_X7_changeRegister l D cI ad A σ2 a1 x9 _ hw) (cwV 2 hts gX7_forget_X7_changeRegister rfl rfl rfl (by decide +kernel) ⟨Nat.le_of_ble_eq_true rfl, Nat.le_of_ble_eq_true rfl⟩) rfl hl.1 rfl (Nat.le_of_ble_eq_true rfl) dX7_forget_77 ⟨Nat.zero_le _, Nat.zero_le _⟩ (fun σ10 hw H locs hP hD hS => ?_)
          refine lv_aload_n hx hb dX7_forget_80 rfl (lv_at hl 2 rfl) ?_
          refine lv_bipush (v := 11) hx hb dX7_forget_81 (by decide) ?_
          refine lv_iload hx hb dX7_forget_83 (lv_at hl 0 rfl) ?_
          refine G_calli (As := [.int (11 : Int32), .int x6]) (rest := []) ⟨hx, hb, hml, hown, hts⟩ hK hP hD hS 0 5 rfl rfl (c_X7_tick l D cI ad A σ10 (11 : Int32) x6 _ hw) (cwV 2 hts gX7_forget_X7_tick rfl rfl rfl (by decide +kernel) ⟨Nat.le_of_ble_eq_true rfl, Nat.le_of_ble_eq_true rfl⟩) rfl hl.1 rfl (Nat.le_of_ble_eq_true rfl) dX7_forget_85 ⟨Nat.zero_le _, Nat.zero_le _⟩ (fun x12 σ11 hw H locs hP hD hS => ?_)
          exact G_iret hx hb hr hlocks hw hP hK hD hS dX7_forget_88
        · have hw := hw.2 c9
          refine lv_ldc (v := -1000000002) hx hb hown (hts _ (List.mem_of_getElem? (i := 3) rfl)) dX7_forget_33 ?_
          exact G_iret hx hb hr hlocks hw hP hK hD hS dX7_forget_35
    · have hw := hw.2 c9
      refine lv_ldc (v := -1000000001) hx hb hown (hts _ (List.mem_of_getElem? (i := 2) rfl)) dX7_forget_18 ?_
      exact G_iret hx hb hr hlocks hw hP hK hD hS dX7_forget_20

def wp_X7_shadowOfRegister (σ : St) (a1 : Int32) (K : Int32 → St → Prop) : Prop :=
  vp_in a1 40 ∧ wp_X0_shadowOf (σ.2.1 0 a1.toNatClampNeg) (fun x1 => K x1 σ)
set_option maxHeartbeats 4000000 in
set_option maxRecDepth 100000 in
theorem c_X7_shadowOfRegister (l : Launch) (D : va_G) (cI : ClassId) (ad : Nat → Nat) (A : Nat → Prop) (σ : St) (a1 : Int32) (K : Int32 → St → Prop) (hw : wp_X7_shadowOfRegister σ a1 K) : Met l yX7_shadowOfRegister wsX7_shadowOfRegister ({ frames := 1, cells := 0, slots := 0, locals := 20 }) (va_Pc [.ref (ad 0), .int a1] (GW D [(cI, FieldType.int)] (wC cI ad) A σ)) (va_Qi K (GW D [(cI, FieldType.int)] (wC cI ad) A) A) 0 0 A := by
  refine Met.ofW (cc := cX7_shadowOfRegister) (maxL := 2) (ret := (some .int)) (by decide) rfl ?_
  intro p e s m args below meth c s₁ B hml hv
  obtain ⟨rfl, hP, hK, hD⟩ := hv
  have hx := B.exec
  have hb := B.bytes
  have hr := B.returns
  have hts := atoms_spec (ws := wsX7_shadowOfRegister) B.pre
  have hown : s.vm.findClass RX7 = some m.cls := findClass_of_methodNamed B.named
  have hlocks := B.notSynchronized
  have hS : va_S A s.heap s.heap [] := va_S.rf
  have hinX4 : ∀ w ∈ wsX40, w ∈ wsX7_shadowOfRegister := fun _ h => List.mem_cons_of_mem _ (List.mem_append_right _ (h))
  have hinX7 : ∀ w ∈ wsX70, w ∈ wsX7_shadowOfRegister := fun _ h => List.mem_cons_of_mem _ (List.mem_append_left _ (List.mem_append_right _ (h)))
  have hl := lv_entry ([.ref (ad 0), .int a1]) (n := 2) (Nat.le_of_ble_eq_true rfl)
  rw [lg_entry_eq]
  generalize (lg_sl ([.ref (ad 0), .int a1]) ++ List.replicate (2 - (lg_sl ([.ref (ad 0), .int a1])).length) Slot.unset).toArray = ls at hl ⊢
  have hl : lv_has ls 2 [(0, .ref (ad 0)), (1, .int a1)] := hl
  have hP : va_P D vwCl (wC cI ad σ) s.heap := hP
  refine lv_aload_n hx hb dX7_shadowOfRegister_0 rfl (lv_at hl 0 rfl) ?_
  refine va_get (D := D) (ci := 5) (C := RX7) (T := TX7) (N := 12) hx hb hts hinX7 hown hK hP 0 rfl rfl 0 (by decide) (hts _ (List.mem_of_getElem? (i := 1) rfl)) (fun _ h9 => h9) rfl dX7_shadowOfRegister_1 ?_
  refine va_get (D := D) (ci := 3) (C := RX4) (T := TX4) (N := 2) hx hb hts hinX4 hown hK hP 1 rfl rfl 0 (by decide) (hts _ (List.mem_of_getElem? (i := 2) rfl)) (fun _ h9 => h9) rfl dX7_shadowOfRegister_4 ?_
  refine lv_iload_n hx hb dX7_shadowOfRegister_7 rfl (lv_at hl 1 rfl) ?_
  refine va_iald (D := D) hx hb hK hP 2 0 rfl rfl hw.1 dX7_shadowOfRegister_8 ?_
  have hw := hw.2
  refine S_calli (As := [.int (σ.2.1 0 a1.toNatClampNeg)]) (rest := []) ⟨hx, hb, hml, hown, hts⟩ (c_X0_shadowOf l (σ.2.1 0 a1.toNatClampNeg) _ hw) (va_cwS 1 hts gX7_shadowOfRegister_X0_shadowOf rfl rfl rfl (by decide +kernel) ⟨Nat.le_of_ble_eq_true rfl, Nat.le_of_ble_eq_true rfl⟩) rfl hl.1 rfl (Nat.le_of_ble_eq_true rfl) dX7_shadowOfRegister_9 ⟨Nat.zero_le _, Nat.zero_le _⟩ (fun x1 hw => ?_)
  exact G_iret hx hb hr hlocks hw hP hK hD hS dX7_shadowOfRegister_12

def wp_X7_copy (σ : St) (a1 : Int32) (a2 : Int32) (K : Int32 → St → Prop) : Prop :=
  wp_X7_isRegister a1 (fun x1 => ((x1 = 0 → K (-1000000001 : Int32) σ) ∧ (¬ x1 = 0 → wp_X7_isRegister a2 (fun x2 => ((¬ x2 = 0 → vp_in a2 40 ∧ wp_X7_changeRegister σ a1 (σ.2.1 0 a2.toNatClampNeg) (fun σ3 => wp_X7_shadowOfRegister σ3 a1 (fun x5 σ4 => wp_X7_tick σ4 (1 : Int32) x5 (fun x7 σ6 => K x7 σ6)))) ∧ (x2 = 0 → K (-1000000001 : Int32) σ))))))
set_option maxHeartbeats 4000000 in
set_option maxRecDepth 100000 in
theorem c_X7_copy (l : Launch) (D : va_G) (cI : ClassId) (ad : Nat → Nat) (A : Nat → Prop) (σ : St) (a1 : Int32) (a2 : Int32) (K : Int32 → St → Prop) (hw : wp_X7_copy σ a1 a2 K) : Met l yX7_copy wsX7_copy ({ frames := 3, cells := 0, slots := 0, locals := 66 }) (va_Pc [.ref (ad 0), .int a1, .int a2] (GW D [(cI, FieldType.int)] (wC cI ad) A σ)) (va_Qi K (GW D [(cI, FieldType.int)] (wC cI ad) A) A) 0 0 A := by
  refine Met.ofW (cc := cX7_copy) (maxL := 3) (ret := (some .int)) (by decide) rfl ?_
  intro p e s m args below meth c s₁ B hml hv
  obtain ⟨rfl, hP, hK, hD⟩ := hv
  have hx := B.exec
  have hb := B.bytes
  have hr := B.returns
  have hts := atoms_spec (ws := wsX7_copy) B.pre
  have hown : s.vm.findClass RX7 = some m.cls := findClass_of_methodNamed B.named
  have hlocks := B.notSynchronized
  have hS : va_S A s.heap s.heap [] := va_S.rf
  have hinX1 : ∀ w ∈ wsX10, w ∈ wsX7_copy := fun _ h => List.mem_cons_of_mem _ (List.mem_append_left _ (List.mem_append_right _ (h)))
  have hinX4 : ∀ w ∈ wsX40, w ∈ wsX7_copy := fun _ h => List.mem_cons_of_mem _ (List.mem_append_left _ (List.mem_append_left _ (List.mem_append_right _ (h))))
  have hinX5 : ∀ w ∈ wsX50, w ∈ wsX7_copy := fun _ h => List.mem_cons_of_mem _ (List.mem_append_right _ (h))
  have hinX7 : ∀ w ∈ wsX70, w ∈ wsX7_copy := fun _ h => List.mem_cons_of_mem _ (List.mem_append_left _ (List.mem_append_left _ (List.mem_append_left _ (List.mem_append_right _ (h)))))
  have hl := lv_entry ([.ref (ad 0), .int a1, .int a2]) (n := 3) (Nat.le_of_ble_eq_true rfl)
  rw [lg_entry_eq]
  generalize (lg_sl ([.ref (ad 0), .int a1, .int a2]) ++ List.replicate (3 - (lg_sl ([.ref (ad 0), .int a1, .int a2])).length) Slot.unset).toArray = ls at hl ⊢
  have hl : lv_has ls 3 [(0, .ref (ad 0)), (1, .int a1), (2, .int a2)] := hl
  have hP : va_P D vwCl (wC cI ad σ) s.heap := hP
  refine lv_iload_n hx hb dX7_copy_0 rfl (lv_at hl 1 rfl) ?_
  refine S_calli (As := [.int a1]) (rest := []) ⟨hx, hb, hml, hown, hts⟩ (c_X7_isRegister l a1 _ hw) (va_cwS 1 hts gX7_copy_X7_isRegister rfl rfl rfl (by decide +kernel) ⟨Nat.le_of_ble_eq_true rfl, Nat.le_of_ble_eq_true rfl⟩) rfl hl.1 rfl (Nat.le_of_ble_eq_true rfl) dX7_copy_1 ⟨Nat.zero_le _, Nat.zero_le _⟩ (fun x1 hw => ?_)
  refine lv_if_eq (tgt := 14) hx hb dX7_copy_4 (by decide) (fun c9 => ?_) (fun c9 => ?_)
  · have hw := hw.1 c9
    refine lv_ldc (v := -1000000001) hx hb hown (hts _ (List.mem_of_getElem? (i := 1) rfl)) dX7_copy_14 ?_
    exact G_iret hx hb hr hlocks hw hP hK hD hS dX7_copy_16
  · have hw := hw.2 c9
    refine lv_iload_n hx hb dX7_copy_7 rfl (lv_at hl 2 rfl) ?_
    refine S_calli (As := [.int a2]) (rest := []) ⟨hx, hb, hml, hown, hts⟩ (c_X7_isRegister l a2 _ hw) (va_cwS 1 hts gX7_copy_X7_isRegister rfl rfl rfl (by decide +kernel) ⟨Nat.le_of_ble_eq_true rfl, Nat.le_of_ble_eq_true rfl⟩) rfl hl.1 rfl (Nat.le_of_ble_eq_true rfl) dX7_copy_8 ⟨Nat.zero_le _, Nat.zero_le _⟩ (fun x2 hw => ?_)
    refine lv_if_ne (tgt := 17) hx hb dX7_copy_11 (by decide) (fun c9 => ?_) (fun c9 => ?_)
    · have hw := hw.1 c9
      refine lv_aload_n hx hb dX7_copy_17 rfl (lv_at hl 0 rfl) ?_
      refine lv_iload_n hx hb dX7_copy_18 rfl (lv_at hl 1 rfl) ?_
      refine lv_aload_n hx hb dX7_copy_19 rfl (lv_at hl 0 rfl) ?_
      refine va_get (D := D) (ci := 5) (C := RX7) (T := TX7) (N := 12) hx hb hts hinX7 hown hK hP 0 rfl rfl 0 (by decide) (hts _ (List.mem_of_getElem? (i := 2) rfl)) (fun _ h9 => h9) rfl dX7_copy_20 ?_
      refine va_get (D := D) (ci := 3) (C := RX4) (T := TX4) (N := 2) hx hb hts hinX4 hown hK hP 1 rfl rfl 0 (by decide) (hts _ (List.mem_of_getElem? (i := 3) rfl)) (fun _ h9 => h9) rfl dX7_copy_23 ?_
      refine lv_iload_n hx hb dX7_copy_26 rfl (lv_at hl 2 rfl) ?_
      refine va_iald (D := D) hx hb hK hP 2 0 rfl rfl hw.1 dX7_copy_27 ?_
      have hw := hw.2
      refine G_callv (As := [.int a1, .int (σ.2.1 0 a2.toNatClampNeg)]) (rest := []) ⟨hx, hb, hml, hown, hts⟩ hK hP hD hS 0 5 rfl rfl (c_X7_changeRegister l D cI ad A σ a1 (σ.2.1 0 a2.toNatClampNeg) _ hw) (cwV 2 hts gX7_copy_X7_changeRegister rfl rfl rfl (by decide +kernel) ⟨Nat.le_of_ble_eq_true rfl, Nat.le_of_ble_eq_true rfl⟩) rfl hl.1 rfl (Nat.le_of_ble_eq_true rfl) dX7_copy_28 ⟨Nat.zero_le _, Nat.zero_le _⟩ (fun σ3 hw H locs hP hD hS => ?_)
      refine lv_aload_n hx hb dX7_copy_31 rfl (lv_at hl 0 rfl) ?_
      refine lv_iconst (v := 1) hx hb dX7_copy_32 (by decide) ?_
      refine lv_aload_n hx hb dX7_copy_33 rfl (lv_at hl 0 rfl) ?_
      refine lv_iload_n hx hb dX7_copy_34 rfl (lv_at hl 1 rfl) ?_
      refine G_calli (As := [.int a1]) (rest := [.int (1 : Int32), .ref (ad 0)]) ⟨hx, hb, hml, hown, hts⟩ hK hP hD hS 0 5 rfl rfl (c_X7_shadowOfRegister l D cI ad A σ3 a1 _ hw) (cwV 1 hts gX7_copy_X7_shadowOfRegister rfl rfl rfl (by decide +kernel) ⟨Nat.le_of_ble_eq_true rfl, Nat.le_of_ble_eq_true rfl⟩) rfl hl.1 rfl (Nat.le_of_ble_eq_true rfl) dX7_copy_35 ⟨Nat.zero_le _, Nat.zero_le _⟩ (fun x5 σ4 hw H locs hP hD hS => ?_)
      refine G_calli (As := [.int (1 : Int32), .int x5]) (rest := []) ⟨hx, hb, hml, hown, hts⟩ hK hP hD hS 0 5 rfl rfl (c_X7_tick l D cI ad A σ4 (1 : Int32) x5 _ hw) (cwV 2 hts gX7_copy_X7_tick rfl rfl rfl (by decide +kernel) ⟨Nat.le_of_ble_eq_true rfl, Nat.le_of_ble_eq_true rfl⟩) rfl hl.1 rfl (Nat.le_of_ble_eq_true rfl) dX7_copy_38 ⟨Nat.zero_le _, Nat.zero_le _⟩ (fun x7 σ6 hw H locs hP hD hS => ?_)
      exact G_iret hx hb hr hlocks hw hP hK hD hS dX7_copy_41
    · have hw := hw.2 c9
      refine lv_ldc (v := -1000000001) hx hb hown (hts _ (List.mem_of_getElem? (i := 1) rfl)) dX7_copy_14 ?_
      exact G_iret hx hb hr hlocks hw hP hK hD hS dX7_copy_16

def wp_X4_isDead_1 (σ : St) (a1 : Int32) (K : Int32 → St → Prop) : Prop :=
  ((((((σ.1 0).toUInt32 >>> (a1.toUInt32 &&& Int32.toUInt32 31)).toInt32) &&& (1 : Int32)) = 0 → K (0 : Int32) σ) ∧ (¬ ((((σ.1 0).toUInt32 >>> (a1.toUInt32 &&& Int32.toUInt32 31)).toInt32) &&& (1 : Int32)) = 0 → K (1 : Int32) σ))
set_option maxHeartbeats 4000000 in
set_option maxRecDepth 100000 in
theorem c_X4_isDead_1 (l : Launch) (D : va_G) (cI : ClassId) (ad : Nat → Nat) (A : Nat → Prop) (σ : St) (a1 : Int32) (K : Int32 → St → Prop) (hw : wp_X4_isDead_1 σ a1 K) : Met l yX4_isDead wsX4_isDead ({ frames := 0, cells := 0, slots := 0, locals := 0 }) (va_Pc [.ref (ad 1), .int a1] (GW D [(cI, FieldType.int)] (wC cI ad) A σ)) (va_Qi K (GW D [(cI, FieldType.int)] (wC cI ad) A) A) 0 0 A := by
  refine Met.ofW (cc := cX4_isDead) (maxL := 2) (ret := (some .boolean)) (by decide) rfl ?_
  intro p e s m args below meth c s₁ B hml hv
  obtain ⟨rfl, hP, hK, hD⟩ := hv
  have hx := B.exec
  have hb := B.bytes
  have hr := B.returns
  have hts := atoms_spec (ws := wsX4_isDead) B.pre
  have hown : s.vm.findClass RX4 = some m.cls := findClass_of_methodNamed B.named
  have hlocks := B.notSynchronized
  have hS : va_S A s.heap s.heap [] := va_S.rf
  have hinX4 : ∀ w ∈ wsX40, w ∈ wsX4_isDead := fun _ h => List.mem_cons_of_mem _ (List.mem_append_right _ (h))
  have hl := lv_entry ([.ref (ad 1), .int a1]) (n := 2) (Nat.le_of_ble_eq_true rfl)
  rw [lg_entry_eq]
  generalize (lg_sl ([.ref (ad 1), .int a1]) ++ List.replicate (2 - (lg_sl ([.ref (ad 1), .int a1])).length) Slot.unset).toArray = ls at hl ⊢
  have hl : lv_has ls 2 [(0, .ref (ad 1)), (1, .int a1)] := hl
  have hP : va_P D vwCl (wC cI ad σ) s.heap := hP
  refine lv_aload_n hx hb dX4_isDead_0 rfl (lv_at hl 0 rfl) ?_
  refine va_get (D := D) (ci := 3) (C := RX4) (T := TX4) (N := 2) hx hb hts hinX4 hown hK hP 1 rfl rfl 1 (by decide) (hts _ (List.mem_of_getElem? (i := 1) rfl)) (fun _ h9 => h9) rfl dX4_isDead_1 ?_
  refine lv_iload_n hx hb dX4_isDead_4 rfl (lv_at hl 1 rfl) ?_
  refine lv_iushr hx hb dX4_isDead_5 rfl ?_
  refine lv_iconst (v := 1) hx hb dX4_isDead_6 (by decide) ?_
  refine lv_iand hx hb dX4_isDead_7 ?_
  refine lv_if_eq (tgt := 15) hx hb dX4_isDead_8 (by decide) (fun c9 => ?_) (fun c9 => ?_)
  · have hw := hw.1 c9
    refine lv_iconst (v := 0) hx hb dX4_isDead_15 (by decide) ?_
    exact G_zret hx hb hr hlocks rfl hw hP hK hD hS dX4_isDead_16
  · have hw := hw.2 c9
    refine lv_iconst (v := 1) hx hb dX4_isDead_11 (by decide) ?_
    refine lv_goto (tgt := 16) hx hb dX4_isDead_12 (by decide) ?_
    exact G_zret hx hb hr hlocks rfl hw hP hK hD hS dX4_isDead_16

def wp_X2_add_11 (σ : St) (a1 : Int32) (a2 : Int32) (a3 : Int32) (K : St → Prop) : Prop :=
  ∀ σ1 : St, σ1 = sI σ 5 ((σ.1 5) + (1 : Int32)) → (((20 : Int32) ≤ (σ1.1 6) → K σ1) ∧ (¬ (20 : Int32) ≤ (σ1.1 6) → vp_in (σ1.1 6) 20 ∧ ∀ σ2 : St, σ2 = sA σ1 6 (upd (σ1.2.1 6) (σ1.1 6).toNatClampNeg a1) → vp_in (σ2.1 6) 20 ∧ ∀ σ3 : St, σ3 = sA σ2 7 (upd (σ2.2.1 7) (σ2.1 6).toNatClampNeg a2) → vp_in (σ3.1 6) 20 ∧ ∀ σ4 : St, σ4 = sA σ3 8 (upd (σ3.2.1 8) (σ3.1 6).toNatClampNeg a3) → ∀ σ5 : St, σ5 = sI σ4 6 ((σ4.1 6) + (1 : Int32)) → K σ5))
set_option maxHeartbeats 4000000 in
set_option maxRecDepth 100000 in
theorem c_X2_add_11 (l : Launch) (D : va_G) (cI : ClassId) (ad : Nat → Nat) (A : Nat → Prop) (σ : St) (a1 : Int32) (a2 : Int32) (a3 : Int32) (K : St → Prop) (hw : wp_X2_add_11 σ a1 a2 a3 K) : Met l yX2_add wsX2_add ({ frames := 0, cells := 0, slots := 0, locals := 0 }) (va_Pc [.ref (ad 11), .int a1, .int a2, .int a3] (GW D [(cI, FieldType.int)] (wC cI ad) A σ)) (va_Qv K (GW D [(cI, FieldType.int)] (wC cI ad) A) A) 0 0 A := by
  refine Met.ofW (cc := cX2_add) (maxL := 4) (ret := none) (by decide) rfl ?_
  intro p e s m args below meth c s₁ B hml hv
  obtain ⟨rfl, hP, hK, hD⟩ := hv
  have hx := B.exec
  have hb := B.bytes
  have hr := B.returns
  have hts := atoms_spec (ws := wsX2_add) B.pre
  have hown : s.vm.findClass RX2 = some m.cls := findClass_of_methodNamed B.named
  have hlocks := B.notSynchronized
  have hS : va_S A s.heap s.heap [] := va_S.rf
  have hinX2 : ∀ w ∈ wsX20, w ∈ wsX2_add := fun _ h => List.mem_cons_of_mem _ (List.mem_append_right _ (h))
  have hl := lv_entry ([.ref (ad 11), .int a1, .int a2, .int a3]) (n := 4) (Nat.le_of_ble_eq_true rfl)
  rw [lg_entry_eq]
  generalize (lg_sl ([.ref (ad 11), .int a1, .int a2, .int a3]) ++ List.replicate (4 - (lg_sl ([.ref (ad 11), .int a1, .int a2, .int a3])).length) Slot.unset).toArray = ls at hl ⊢
  have hl : lv_has ls 4 [(0, .ref (ad 11)), (1, .int a1), (2, .int a2), (3, .int a3)] := hl
  have hP : va_P D vwCl (wC cI ad σ) s.heap := hP
  refine lv_aload_n hx hb dX2_add_0 rfl (lv_at hl 0 rfl) ?_
  refine lv_dup hx hb dX2_add_1 rfl ?_
  refine va_get (D := D) (ci := 1) (C := RX2) (T := TX2) (N := 5) hx hb hts hinX2 hown hK hP 11 rfl rfl 3 (by decide) (hts _ (List.mem_of_getElem? (i := 1) rfl)) (fun _ h9 => h9) rfl dX2_add_2 ?_
  refine lv_iconst (v := 1) hx hb dX2_add_5 (by decide) ?_
  refine lv_iadd hx hb dX2_add_6 ?_
  refine va_put (D := D) (ci := 1) (ty := .int) (C := RX2) (T := TX2) (N := 5) hx hb hts hinX2 tyX2 tyX2_ok nmX2 hown hK hP hD hS 11 rfl rfl 3 (by decide) (hts _ (List.mem_of_getElem? (i := 1) rfl)) (fun _ h9 => h9) rfl (by decide +kernel) rfl rfl (Nat.le_of_ble_eq_true rfl) dX2_add_7 (fun H locs hP hD hS => ?_)
  obtain ⟨σ1, eσ1⟩ : ∃ z : St, z = sI σ 5 ((σ.1 5) + (1 : Int32)) := ⟨_, rfl⟩
  have hP : va_P D vwCl (wC cI ad σ1) H := by rw [eσ1]; exact hP
  have hD : va_D A (wC cI ad σ1) := by rw [eσ1]; exact hD
  have hw := hw σ1 eσ1
  refine lv_aload_n hx hb dX2_add_10 rfl (lv_at hl 0 rfl) ?_
  refine va_get (D := D) (ci := 1) (C := RX2) (T := TX2) (N := 5) hx hb hts hinX2 hown hK hP 11 rfl rfl 4 (by decide) (hts _ (List.mem_of_getElem? (i := 2) rfl)) (fun _ h9 => h9) rfl dX2_add_11 ?_
  refine lv_bipush (v := 20) hx hb dX2_add_14 (by decide) ?_
  refine lv_icmp_ge (tgt := 59) hx hb dX2_add_16 (by decide) (fun c9 => ?_) (fun c9 => ?_)
  · have hw := hw.1 c9
    exact G_vret hx hb hr hlocks hw hP hK hD hS dX2_add_59
  · have hw := hw.2 c9
    refine lv_aload_n hx hb dX2_add_19 rfl (lv_at hl 0 rfl) ?_
    refine va_get (D := D) (ci := 1) (C := RX2) (T := TX2) (N := 5) hx hb hts hinX2 hown hK hP 11 rfl rfl 0 (by decide) (hts _ (List.mem_of_getElem? (i := 3) rfl)) (fun _ h9 => h9) rfl dX2_add_20 ?_
    refine lv_aload_n hx hb dX2_add_23 rfl (lv_at hl 0 rfl) ?_
    refine va_get (D := D) (ci := 1) (C := RX2) (T := TX2) (N := 5) hx hb hts hinX2 hown hK hP 11 rfl rfl 4 (by decide) (hts _ (List.mem_of_getElem? (i := 2) rfl)) (fun _ h9 => h9) rfl dX2_add_24 ?_
    refine lv_iload_n hx hb dX2_add_27 rfl (lv_at hl 1 rfl) ?_
    refine va_iast (D := D) hx hb hK hP hD hS 12 0 rfl rfl hw.1 dX2_add_28 (fun H locs hP hD hS => ?_)
    obtain ⟨σ2, eσ2⟩ : ∃ z : St, z = sA σ1 6 (upd (σ1.2.1 6) (σ1.1 6).toNatClampNeg a1) := ⟨_, rfl⟩
    have hP : va_P D vwCl (wC cI ad σ2) H := by rw [eσ2]; exact hP
    have hD : va_D A (wC cI ad σ2) := by rw [eσ2]; exact hD
    have hw := hw.2 σ2 eσ2
    refine lv_aload_n hx hb dX2_add_29 rfl (lv_at hl 0 rfl) ?_
    refine va_get (D := D) (ci := 1) (C := RX2) (T := TX2) (N := 5) hx hb hts hinX2 hown hK hP 11 rfl rfl 1 (by decide) (hts _ (List.mem_of_getElem? (i := 4) rfl)) (fun _ h9 => h9) rfl dX2_add_30 ?_
    refine lv_aload_n hx hb dX2_add_33 rfl (lv_at hl 0 rfl) ?_
    refine va_get (D := D) (ci := 1) (C := RX2) (T := TX2) (N := 5) hx hb hts hinX2 hown hK hP 11 rfl rfl 4 (by decide) (hts _ (List.mem_of_getElem? (i := 2) rfl)) (fun _ h9 => h9) rfl dX2_add_34 ?_
    refine lv_iload_n hx hb dX2_add_37 rfl (lv_at hl 2 rfl) ?_
    refine va_iast (D := D) hx hb hK hP hD hS 13 0 rfl rfl hw.1 dX2_add_38 (fun H locs hP hD hS => ?_)
    obtain ⟨σ3, eσ3⟩ : ∃ z : St, z = sA σ2 7 (upd (σ2.2.1 7) (σ2.1 6).toNatClampNeg a2) := ⟨_, rfl⟩
    have hP : va_P D vwCl (wC cI ad σ3) H := by rw [eσ3]; exact hP
    have hD : va_D A (wC cI ad σ3) := by rw [eσ3]; exact hD
    have hw := hw.2 σ3 eσ3
    refine lv_aload_n hx hb dX2_add_39 rfl (lv_at hl 0 rfl) ?_
    refine va_get (D := D) (ci := 1) (C := RX2) (T := TX2) (N := 5) hx hb hts hinX2 hown hK hP 11 rfl rfl 2 (by decide) (hts _ (List.mem_of_getElem? (i := 5) rfl)) (fun _ h9 => h9) rfl dX2_add_40 ?_
    refine lv_aload_n hx hb dX2_add_43 rfl (lv_at hl 0 rfl) ?_
    refine va_get (D := D) (ci := 1) (C := RX2) (T := TX2) (N := 5) hx hb hts hinX2 hown hK hP 11 rfl rfl 4 (by decide) (hts _ (List.mem_of_getElem? (i := 2) rfl)) (fun _ h9 => h9) rfl dX2_add_44 ?_
    refine lv_iload_n hx hb dX2_add_47 rfl (lv_at hl 3 rfl) ?_
    refine va_iast (D := D) hx hb hK hP hD hS 14 0 rfl rfl hw.1 dX2_add_48 (fun H locs hP hD hS => ?_)
    obtain ⟨σ4, eσ4⟩ : ∃ z : St, z = sA σ3 8 (upd (σ3.2.1 8) (σ3.1 6).toNatClampNeg a3) := ⟨_, rfl⟩
    have hP : va_P D vwCl (wC cI ad σ4) H := by rw [eσ4]; exact hP
    have hD : va_D A (wC cI ad σ4) := by rw [eσ4]; exact hD
    have hw := hw.2 σ4 eσ4
    refine lv_aload_n hx hb dX2_add_49 rfl (lv_at hl 0 rfl) ?_
    refine lv_dup hx hb dX2_add_50 rfl ?_
    refine va_get (D := D) (ci := 1) (C := RX2) (T := TX2) (N := 5) hx hb hts hinX2 hown hK hP 11 rfl rfl 4 (by decide) (hts _ (List.mem_of_getElem? (i := 2) rfl)) (fun _ h9 => h9) rfl dX2_add_51 ?_
    refine lv_iconst (v := 1) hx hb dX2_add_54 (by decide) ?_
    refine lv_iadd hx hb dX2_add_55 ?_
    refine va_put (D := D) (ci := 1) (ty := .int) (C := RX2) (T := TX2) (N := 5) hx hb hts hinX2 tyX2 tyX2_ok nmX2 hown hK hP hD hS 11 rfl rfl 4 (by decide) (hts _ (List.mem_of_getElem? (i := 2) rfl)) (fun _ h9 => h9) rfl (by decide +kernel) rfl rfl (Nat.le_of_ble_eq_true rfl) dX2_add_56 (fun H locs hP hD hS => ?_)
    obtain ⟨σ5, eσ5⟩ : ∃ z : St, z = sI σ4 6 ((σ4.1 6) + (1 : Int32)) := ⟨_, rfl⟩
    have hP : va_P D vwCl (wC cI ad σ5) H := by rw [eσ5]; exact hP
    have hD : va_D A (wC cI ad σ5) := by rw [eσ5]; exact hD
    have hw := hw σ5 eσ5
    exact G_vret hx hb hr hlocks hw hP hK hD hS dX2_add_59

def wp_X7_readOctet (σ : St) (a1 : Int32) (K : Int32 → St → Prop) : Prop :=
  vp_in a1 32 ∧ ∀ x1 : Int32, x1 = σ.2.1 5 a1.toNatClampNeg → wp_X4_isDead_1 σ a1 (fun x3 σ2 => ((x3 = 0 → vp_in ((8 : Int32) + a1) 40 ∧ K (σ2.2.1 0 ((8 : Int32) + a1).toNatClampNeg) σ2) ∧ (¬ x3 = 0 → ((x1 = (-1 : Int32) → vp_in ((8 : Int32) + a1) 40 ∧ K (σ2.2.1 0 ((8 : Int32) + a1).toNatClampNeg) σ2) ∧ (¬ x1 = (-1 : Int32) → wp_X2_add_11 σ2 (2 : Int32) (σ2.1 13) ((1 : Int32) <<< (x1 &&& 31)) (fun σ4 => vp_in ((8 : Int32) + a1) 40 ∧ K (σ4.2.1 0 ((8 : Int32) + a1).toNatClampNeg) σ4))))))
set_option maxHeartbeats 4000000 in
set_option maxRecDepth 100000 in
theorem c_X7_readOctet (l : Launch) (D : va_G) (cI : ClassId) (ad : Nat → Nat) (A : Nat → Prop) (σ : St) (a1 : Int32) (K : Int32 → St → Prop) (hw : wp_X7_readOctet σ a1 K) : Met l yX7_readOctet wsX7_readOctet ({ frames := 1, cells := 0, slots := 0, locals := 23 }) (va_Pc [.ref (ad 0), .int a1] (GW D [(cI, FieldType.int)] (wC cI ad) A σ)) (va_Qi K (GW D [(cI, FieldType.int)] (wC cI ad) A) A) 0 0 A := by
  refine Met.ofW (cc := cX7_readOctet) (maxL := 3) (ret := (some .int)) (by decide) rfl ?_
  intro p e s m args below meth c s₁ B hml hv
  obtain ⟨rfl, hP, hK, hD⟩ := hv
  have hx := B.exec
  have hb := B.bytes
  have hr := B.returns
  have hts := atoms_spec (ws := wsX7_readOctet) B.pre
  have hown : s.vm.findClass RX7 = some m.cls := findClass_of_methodNamed B.named
  have hlocks := B.notSynchronized
  have hS : va_S A s.heap s.heap [] := va_S.rf
  have hinX2 : ∀ w ∈ wsX20, w ∈ wsX7_readOctet := fun _ h => List.mem_cons_of_mem _ (List.mem_append_right _ (h))
  have hinX3 : ∀ w ∈ wsX30, w ∈ wsX7_readOctet := fun _ h => List.mem_cons_of_mem _ (List.mem_append_left _ (List.mem_append_left _ (List.mem_append_right _ (h))))
  have hinX4 : ∀ w ∈ wsX40, w ∈ wsX7_readOctet := fun _ h => List.mem_cons_of_mem _ (List.mem_append_left _ (List.mem_append_right _ (h)))
  have hinX7 : ∀ w ∈ wsX70, w ∈ wsX7_readOctet := fun _ h => List.mem_cons_of_mem _ (List.mem_append_left _ (List.mem_append_left _ (List.mem_append_left _ (List.mem_append_right _ (h)))))
  have hl := lv_entry ([.ref (ad 0), .int a1]) (n := 3) (Nat.le_of_ble_eq_true rfl)
  rw [lg_entry_eq]
  generalize (lg_sl ([.ref (ad 0), .int a1]) ++ List.replicate (3 - (lg_sl ([.ref (ad 0), .int a1])).length) Slot.unset).toArray = ls at hl ⊢
  have hl : lv_has ls 3 [(0, .ref (ad 0)), (1, .int a1)] := hl
  have hP : va_P D vwCl (wC cI ad σ) s.heap := hP
  refine lv_aload_n hx hb dX7_readOctet_0 rfl (lv_at hl 0 rfl) ?_
  refine va_get (D := D) (ci := 5) (C := RX7) (T := TX7) (N := 12) hx hb hts hinX7 hown hK hP 0 rfl rfl 3 (by decide) (hts _ (List.mem_of_getElem? (i := 1) rfl)) (fun _ h9 => h9) rfl dX7_readOctet_1 ?_
  refine va_get (D := D) (ci := 2) (C := RX3) (T := TX3) (N := 5) hx hb hts hinX3 hown hK hP 7 rfl rfl 2 (by decide) (hts _ (List.mem_of_getElem? (i := 2) rfl)) (fun _ h9 => h9) rfl dX7_readOctet_4 ?_
  refine lv_iload_n hx hb dX7_readOctet_7 rfl (lv_at hl 1 rfl) ?_
  refine va_iald (D := D) hx hb hK hP 10 0 rfl rfl hw.1 dX7_readOctet_8 ?_
  have hw := hw.2
  refine lv_topi (fun x1 ex1 => ?_)
  have hw := hw x1 ex1
  refine lv_istore_n (lv' := [(2, .int x1), (0, .ref (ad 0)), (1, .int a1)]) hx hb dX7_readOctet_9 rfl hl (by decide) rfl (fun ls hl => ?_)
  refine lv_aload_n hx hb dX7_readOctet_10 rfl (lv_at hl 1 rfl) ?_
  refine va_get (D := D) (ci := 5) (C := RX7) (T := TX7) (N := 12) hx hb hts hinX7 hown hK hP 0 rfl rfl 0 (by decide) (hts _ (List.mem_of_getElem? (i := 3) rfl)) (fun _ h9 => h9) rfl dX7_readOctet_11 ?_
  refine lv_iload_n hx hb dX7_readOctet_14 rfl (lv_at hl 2 rfl) ?_
  refine G_calli (As := [.int a1]) (rest := []) ⟨hx, hb, hml, hown, hts⟩ hK hP hD hS 1 3 rfl rfl (c_X4_isDead_1 l D cI ad A σ a1 _ hw) (cwV 1 hts gX7_readOctet_X4_isDead rfl rfl rfl (by decide +kernel) ⟨Nat.le_of_ble_eq_true rfl, Nat.le_of_ble_eq_true rfl⟩) rfl hl.1 rfl (Nat.le_of_ble_eq_true rfl) dX7_readOctet_15 ⟨Nat.zero_le _, Nat.zero_le _⟩ (fun x3 σ2 hw H locs hP hD hS => ?_)
  refine lv_if_eq (tgt := 41) hx hb dX7_readOctet_18 (by decide) (fun c9 => ?_) (fun c9 => ?_)
  · have hw := hw.1 c9
    refine lv_aload_n hx hb dX7_readOctet_41 rfl (lv_at hl 1 rfl) ?_
    refine va_get (D := D) (ci := 5) (C := RX7) (T := TX7) (N := 12) hx hb hts hinX7 hown hK hP 0 rfl rfl 0 (by decide) (hts _ (List.mem_of_getElem? (i := 3) rfl)) (fun _ h9 => h9) rfl dX7_readOctet_42 ?_
    refine va_get (D := D) (ci := 3) (C := RX4) (T := TX4) (N := 2) hx hb hts hinX4 hown hK hP 1 rfl rfl 0 (by decide) (hts _ (List.mem_of_getElem? (i := 6) rfl)) (fun _ h9 => h9) rfl dX7_readOctet_45 ?_
    refine lv_bipush (v := 8) hx hb dX7_readOctet_48 (by decide) ?_
    refine lv_iload_n hx hb dX7_readOctet_50 rfl (lv_at hl 2 rfl) ?_
    refine lv_iadd hx hb dX7_readOctet_51 ?_
    refine va_iald (D := D) hx hb hK hP 2 0 rfl rfl hw.1 dX7_readOctet_52 ?_
    have hw := hw.2
    exact G_iret hx hb hr hlocks hw hP hK hD hS dX7_readOctet_53
  · have hw := hw.2 c9
    refine lv_iload_n hx hb dX7_readOctet_21 rfl (lv_at hl 0 rfl) ?_
    refine lv_iconst (v := -1) hx hb dX7_readOctet_22 (by decide) ?_
    refine lv_icmp_eq (tgt := 41) hx hb dX7_readOctet_23 (by decide) (fun c9 => ?_) (fun c9 => ?_)
    · have hw := hw.1 c9
      refine lv_aload_n hx hb dX7_readOctet_41 rfl (lv_at hl 1 rfl) ?_
      refine va_get (D := D) (ci := 5) (C := RX7) (T := TX7) (N := 12) hx hb hts hinX7 hown hK hP 0 rfl rfl 0 (by decide) (hts _ (List.mem_of_getElem? (i := 3) rfl)) (fun _ h9 => h9) rfl dX7_readOctet_42 ?_
      refine va_get (D := D) (ci := 3) (C := RX4) (T := TX4) (N := 2) hx hb hts hinX4 hown hK hP 1 rfl rfl 0 (by decide) (hts _ (List.mem_of_getElem? (i := 6) rfl)) (fun _ h9 => h9) rfl dX7_readOctet_45 ?_
      refine lv_bipush (v := 8) hx hb dX7_readOctet_48 (by decide) ?_
      refine lv_iload_n hx hb dX7_readOctet_50 rfl (lv_at hl 2 rfl) ?_
      refine lv_iadd hx hb dX7_readOctet_51 ?_
      refine va_iald (D := D) hx hb hK hP 2 0 rfl rfl hw.1 dX7_readOctet_52 ?_
      have hw := hw.2
      exact G_iret hx hb hr hlocks hw hP hK hD hS dX7_readOctet_53
    · have hw := hw.2 c9
      refine lv_aload_n hx hb dX7_readOctet_26 rfl (lv_at hl 1 rfl) ?_
      refine va_get (D := D) (ci := 5) (C := RX7) (T := TX7) (N := 12) hx hb hts hinX7 hown hK hP 0 rfl rfl 4 (by decide) (hts _ (List.mem_of_getElem? (i := 4) rfl)) (fun _ h9 => h9) rfl dX7_readOctet_27 ?_
      refine lv_iconst (v := 2) hx hb dX7_readOctet_30 (by decide) ?_
      refine lv_aload_n hx hb dX7_readOctet_31 rfl (lv_at hl 1 rfl) ?_
      refine va_get (D := D) (ci := 5) (C := RX7) (T := TX7) (N := 12) hx hb hts hinX7 hown hK hP 0 rfl rfl 9 (by decide) (hts _ (List.mem_of_getElem? (i := 5) rfl)) (fun _ h9 => h9) rfl dX7_readOctet_32 ?_
      refine lv_iconst (v := 1) hx hb dX7_readOctet_35 (by decide) ?_
      refine lv_iload_n hx hb dX7_readOctet_36 rfl (lv_at hl 0 rfl) ?_
      refine lv_ishl hx hb dX7_readOctet_37 ?_
      refine G_callv (As := [.int (2 : Int32), .int (σ2.1 13), .int ((1 : Int32) <<< (x1 &&& 31))]) (rest := []) ⟨hx, hb, hml, hown, hts⟩ hK hP hD hS 11 1 rfl rfl (c_X2_add_11 l D cI ad A σ2 (2 : Int32) (σ2.1 13) ((1 : Int32) <<< (x1 &&& 31)) _ hw) (cwV 3 hts gX7_readOctet_X2_add rfl rfl rfl (by decide +kernel) ⟨Nat.le_of_ble_eq_true rfl, Nat.le_of_ble_eq_true rfl⟩) rfl hl.1 rfl (Nat.le_of_ble_eq_true rfl) dX7_readOctet_38 ⟨Nat.zero_le _, Nat.zero_le _⟩ (fun σ4 hw H locs hP hD hS => ?_)
      refine lv_aload_n hx hb dX7_readOctet_41 rfl (lv_at hl 1 rfl) ?_
      refine va_get (D := D) (ci := 5) (C := RX7) (T := TX7) (N := 12) hx hb hts hinX7 hown hK hP 0 rfl rfl 0 (by decide) (hts _ (List.mem_of_getElem? (i := 3) rfl)) (fun _ h9 => h9) rfl dX7_readOctet_42 ?_
      refine va_get (D := D) (ci := 3) (C := RX4) (T := TX4) (N := 2) hx hb hts hinX4 hown hK hP 1 rfl rfl 0 (by decide) (hts _ (List.mem_of_getElem? (i := 6) rfl)) (fun _ h9 => h9) rfl dX7_readOctet_45 ?_
      refine lv_bipush (v := 8) hx hb dX7_readOctet_48 (by decide) ?_
      refine lv_iload_n hx hb dX7_readOctet_50 rfl (lv_at hl 2 rfl) ?_
      refine lv_iadd hx hb dX7_readOctet_51 ?_
      refine va_iald (D := D) hx hb hK hP 2 0 rfl rfl hw.1 dX7_readOctet_52 ?_
      have hw := hw.2
      exact G_iret hx hb hr hlocks hw hP hK hD hS dX7_readOctet_53

def wp_X7_load (σ : St) (a1 : Int32) (a2 : Int32) (K : Int32 → St → Prop) : Prop :=
  wp_X7_isRegister a1 (fun x1 => ((x1 = 0 → K (-1000000001 : Int32) σ) ∧ (¬ x1 = 0 → wp_X7_isOctet a2 (fun x2 => ((¬ x2 = 0 → wp_X7_readOctet σ a2 (fun x4 σ3 => wp_X7_changeRegister σ3 a1 x4 (fun σ5 => wp_X7_shadowOfRegister σ5 a1 (fun x7 σ6 => wp_X7_tick σ6 (2 : Int32) x7 (fun x9 σ8 => K x9 σ8))))) ∧ (x2 = 0 → K (-1000000001 : Int32) σ))))))
set_option maxHeartbeats 4000000 in
set_option maxRecDepth 100000 in
theorem c_X7_load (l : Launch) (D : va_G) (cI : ClassId) (ad : Nat → Nat) (A : Nat → Prop) (σ : St) (a1 : Int32) (a2 : Int32) (K : Int32 → St → Prop) (hw : wp_X7_load σ a1 a2 K) : Met l yX7_load wsX7_load ({ frames := 3, cells := 0, slots := 0, locals := 66 }) (va_Pc [.ref (ad 0), .int a1, .int a2] (GW D [(cI, FieldType.int)] (wC cI ad) A σ)) (va_Qi K (GW D [(cI, FieldType.int)] (wC cI ad) A) A) 0 0 A := by
  refine Met.ofW (cc := cX7_load) (maxL := 3) (ret := (some .int)) (by decide) rfl ?_
  intro p e s m args below meth c s₁ B hml hv
  obtain ⟨rfl, hP, hK, hD⟩ := hv
  have hx := B.exec
  have hb := B.bytes
  have hr := B.returns
  have hts := atoms_spec (ws := wsX7_load) B.pre
  have hown : s.vm.findClass RX7 = some m.cls := findClass_of_methodNamed B.named
  have hlocks := B.notSynchronized
  have hS : va_S A s.heap s.heap [] := va_S.rf
  have hinX1 : ∀ w ∈ wsX10, w ∈ wsX7_load := fun _ h => List.mem_cons_of_mem _ (List.mem_append_left _ (List.mem_append_right _ (h)))
  have hinX2 : ∀ w ∈ wsX20, w ∈ wsX7_load := fun _ h => List.mem_cons_of_mem _ (List.mem_append_left _ (List.mem_append_left _ (List.mem_append_right _ (h))))
  have hinX3 : ∀ w ∈ wsX30, w ∈ wsX7_load := fun _ h => List.mem_cons_of_mem _ (List.mem_append_left _ (List.mem_append_left _ (List.mem_append_left _ (List.mem_append_left _ (List.mem_append_right _ (h))))))
  have hinX4 : ∀ w ∈ wsX40, w ∈ wsX7_load := fun _ h => List.mem_cons_of_mem _ (List.mem_append_left _ (List.mem_append_left _ (List.mem_append_left _ (List.mem_append_right _ (h)))))
  have hinX5 : ∀ w ∈ wsX50, w ∈ wsX7_load := fun _ h => List.mem_cons_of_mem _ (List.mem_append_right _ (h))
  have hinX7 : ∀ w ∈ wsX70, w ∈ wsX7_load := fun _ h => List.mem_cons_of_mem _ (List.mem_append_left _ (List.mem_append_left _ (List.mem_append_left _ (List.mem_append_left _ (List.mem_append_left _ (List.mem_append_right _ (h)))))))
  have hl := lv_entry ([.ref (ad 0), .int a1, .int a2]) (n := 3) (Nat.le_of_ble_eq_true rfl)
  rw [lg_entry_eq]
  generalize (lg_sl ([.ref (ad 0), .int a1, .int a2]) ++ List.replicate (3 - (lg_sl ([.ref (ad 0), .int a1, .int a2])).length) Slot.unset).toArray = ls at hl ⊢
  have hl : lv_has ls 3 [(0, .ref (ad 0)), (1, .int a1), (2, .int a2)] := hl
  have hP : va_P D vwCl (wC cI ad σ) s.heap := hP
  refine lv_iload_n hx hb dX7_load_0 rfl (lv_at hl 1 rfl) ?_
  refine S_calli (As := [.int a1]) (rest := []) ⟨hx, hb, hml, hown, hts⟩ (c_X7_isRegister l a1 _ hw) (va_cwS 1 hts gX7_load_X7_isRegister rfl rfl rfl (by decide +kernel) ⟨Nat.le_of_ble_eq_true rfl, Nat.le_of_ble_eq_true rfl⟩) rfl hl.1 rfl (Nat.le_of_ble_eq_true rfl) dX7_load_1 ⟨Nat.zero_le _, Nat.zero_le _⟩ (fun x1 hw => ?_)
  refine lv_if_eq (tgt := 14) hx hb dX7_load_4 (by decide) (fun c9 => ?_) (fun c9 => ?_)
  · have hw := hw.1 c9
    refine lv_ldc (v := -1000000001) hx hb hown (hts _ (List.mem_of_getElem? (i := 1) rfl)) dX7_load_14 ?_
    exact G_iret hx hb hr hlocks hw hP hK hD hS dX7_load_16
  · have hw := hw.2 c9
    refine lv_iload_n hx hb dX7_load_7 rfl (lv_at hl 2 rfl) ?_
    refine S_calli (As := [.int a2]) (rest := []) ⟨hx, hb, hml, hown, hts⟩ (c_X7_isOctet l a2 _ hw) (va_cwS 1 hts gX7_load_X7_isOctet rfl rfl rfl (by decide +kernel) ⟨Nat.le_of_ble_eq_true rfl, Nat.le_of_ble_eq_true rfl⟩) rfl hl.1 rfl (Nat.le_of_ble_eq_true rfl) dX7_load_8 ⟨Nat.zero_le _, Nat.zero_le _⟩ (fun x2 hw => ?_)
    refine lv_if_ne (tgt := 17) hx hb dX7_load_11 (by decide) (fun c9 => ?_) (fun c9 => ?_)
    · have hw := hw.1 c9
      refine lv_aload_n hx hb dX7_load_17 rfl (lv_at hl 0 rfl) ?_
      refine lv_iload_n hx hb dX7_load_18 rfl (lv_at hl 1 rfl) ?_
      refine lv_aload_n hx hb dX7_load_19 rfl (lv_at hl 0 rfl) ?_
      refine lv_iload_n hx hb dX7_load_20 rfl (lv_at hl 2 rfl) ?_
      refine G_calli (As := [.int a2]) (rest := [.int a1, .ref (ad 0)]) ⟨hx, hb, hml, hown, hts⟩ hK hP hD hS 0 5 rfl rfl (c_X7_readOctet l D cI ad A σ a2 _ hw) (cwV 1 hts gX7_load_X7_readOctet rfl rfl rfl (by decide +kernel) ⟨Nat.le_of_ble_eq_true rfl, Nat.le_of_ble_eq_true rfl⟩) rfl hl.1 rfl (Nat.le_of_ble_eq_true rfl) dX7_load_21 ⟨Nat.zero_le _, Nat.zero_le _⟩ (fun x4 σ3 hw H locs hP hD hS => ?_)
      refine G_callv (As := [.int a1, .int x4]) (rest := []) ⟨hx, hb, hml, hown, hts⟩ hK hP hD hS 0 5 rfl rfl (c_X7_changeRegister l D cI ad A σ3 a1 x4 _ hw) (cwV 2 hts gX7_load_X7_changeRegister rfl rfl rfl (by decide +kernel) ⟨Nat.le_of_ble_eq_true rfl, Nat.le_of_ble_eq_true rfl⟩) rfl hl.1 rfl (Nat.le_of_ble_eq_true rfl) dX7_load_24 ⟨Nat.zero_le _, Nat.zero_le _⟩ (fun σ5 hw H locs hP hD hS => ?_)
      refine lv_aload_n hx hb dX7_load_27 rfl (lv_at hl 0 rfl) ?_
      refine lv_iconst (v := 2) hx hb dX7_load_28 (by decide) ?_
      refine lv_aload_n hx hb dX7_load_29 rfl (lv_at hl 0 rfl) ?_
      refine lv_iload_n hx hb dX7_load_30 rfl (lv_at hl 1 rfl) ?_
      refine G_calli (As := [.int a1]) (rest := [.int (2 : Int32), .ref (ad 0)]) ⟨hx, hb, hml, hown, hts⟩ hK hP hD hS 0 5 rfl rfl (c_X7_shadowOfRegister l D cI ad A σ5 a1 _ hw) (cwV 1 hts gX7_load_X7_shadowOfRegister rfl rfl rfl (by decide +kernel) ⟨Nat.le_of_ble_eq_true rfl, Nat.le_of_ble_eq_true rfl⟩) rfl hl.1 rfl (Nat.le_of_ble_eq_true rfl) dX7_load_31 ⟨Nat.zero_le _, Nat.zero_le _⟩ (fun x7 σ6 hw H locs hP hD hS => ?_)
      refine G_calli (As := [.int (2 : Int32), .int x7]) (rest := []) ⟨hx, hb, hml, hown, hts⟩ hK hP hD hS 0 5 rfl rfl (c_X7_tick l D cI ad A σ6 (2 : Int32) x7 _ hw) (cwV 2 hts gX7_load_X7_tick rfl rfl rfl (by decide +kernel) ⟨Nat.le_of_ble_eq_true rfl, Nat.le_of_ble_eq_true rfl⟩) rfl hl.1 rfl (Nat.le_of_ble_eq_true rfl) dX7_load_34 ⟨Nat.zero_le _, Nat.zero_le _⟩ (fun x9 σ8 hw H locs hP hD hS => ?_)
      exact G_iret hx hb hr hlocks hw hP hK hD hS dX7_load_37
    · have hw := hw.2 c9
      refine lv_ldc (v := -1000000001) hx hb hown (hts _ (List.mem_of_getElem? (i := 1) rfl)) dX7_load_14 ?_
      exact G_iret hx hb hr hlocks hw hP hK hD hS dX7_load_16

def wp_X7_part (σ : St) (a1 : Int32) (a2 : Int32) (a3 : Int32) (a4 : Int32) (K : Int32 → St → Prop) : Prop :=
  wp_X7_isRegister a1 (fun x1 => ((x1 = 0 → K (-1000000001 : Int32) σ) ∧ (¬ x1 = 0 → wp_X7_isOctet a2 (fun x2 => ((¬ x2 = 0 → ((a4 < (1 : Int32) → K (-1000000002 : Int32) σ) ∧ (¬ a4 < (1 : Int32) → (((8 : Int32) < a4 → K (-1000000002 : Int32) σ) ∧ (¬ (8 : Int32) < a4 → ((a3 < 0 → K (-1000000002 : Int32) σ) ∧ (¬ a3 < 0 → (((7 : Int32) < a3 → K (-1000000002 : Int32) σ) ∧ (¬ (7 : Int32) < a3 → (((a3 + a4) ≤ (8 : Int32) → wp_X7_readOctet σ a2 (fun x4 σ3 => wp_X0_partOf x4 a3 a4 (fun x5 => wp_X7_changeRegister σ3 a1 x5 (fun σ6 => wp_X7_shadowOfRegister σ6 a1 (fun x8 σ7 => wp_X7_tick σ7 (8 : Int32) x8 (fun x10 σ9 => K x10 σ9)))))) ∧ (¬ (a3 + a4) ≤ (8 : Int32) → K (-1000000002 : Int32) σ))))))))))) ∧ (x2 = 0 → K (-1000000001 : Int32) σ))))))
set_option maxHeartbeats 4000000 in
set_option maxRecDepth 100000 in
theorem c_X7_part (l : Launch) (D : va_G) (cI : ClassId) (ad : Nat → Nat) (A : Nat → Prop) (σ : St) (a1 : Int32) (a2 : Int32) (a3 : Int32) (a4 : Int32) (K : Int32 → St → Prop) (hw : wp_X7_part σ a1 a2 a3 a4 K) : Met l yX7_part wsX7_part ({ frames := 3, cells := 0, slots := 0, locals := 66 }) (va_Pc [.ref (ad 0), .int a1, .int a2, .int a3, .int a4] (GW D [(cI, FieldType.int)] (wC cI ad) A σ)) (va_Qi K (GW D [(cI, FieldType.int)] (wC cI ad) A) A) 0 0 A := by
  refine Met.ofW (cc := cX7_part) (maxL := 5) (ret := (some .int)) (by decide) rfl ?_
  intro p e s m args below meth c s₁ B hml hv
  obtain ⟨rfl, hP, hK, hD⟩ := hv
  have hx := B.exec
  have hb := B.bytes
  have hr := B.returns
  have hts := atoms_spec (ws := wsX7_part) B.pre
  have hown : s.vm.findClass RX7 = some m.cls := findClass_of_methodNamed B.named
  have hlocks := B.notSynchronized
  have hS : va_S A s.heap s.heap [] := va_S.rf
  have hinX1 : ∀ w ∈ wsX10, w ∈ wsX7_part := fun _ h => List.mem_cons_of_mem _ (List.mem_append_left _ (List.mem_append_right _ (h)))
  have hinX2 : ∀ w ∈ wsX20, w ∈ wsX7_part := fun _ h => List.mem_cons_of_mem _ (List.mem_append_left _ (List.mem_append_left _ (List.mem_append_right _ (h))))
  have hinX3 : ∀ w ∈ wsX30, w ∈ wsX7_part := fun _ h => List.mem_cons_of_mem _ (List.mem_append_left _ (List.mem_append_left _ (List.mem_append_left _ (List.mem_append_left _ (List.mem_append_right _ (h))))))
  have hinX4 : ∀ w ∈ wsX40, w ∈ wsX7_part := fun _ h => List.mem_cons_of_mem _ (List.mem_append_left _ (List.mem_append_left _ (List.mem_append_left _ (List.mem_append_right _ (h)))))
  have hinX5 : ∀ w ∈ wsX50, w ∈ wsX7_part := fun _ h => List.mem_cons_of_mem _ (List.mem_append_right _ (h))
  have hinX7 : ∀ w ∈ wsX70, w ∈ wsX7_part := fun _ h => List.mem_cons_of_mem _ (List.mem_append_left _ (List.mem_append_left _ (List.mem_append_left _ (List.mem_append_left _ (List.mem_append_left _ (List.mem_append_right _ (h)))))))
  have hl := lv_entry ([.ref (ad 0), .int a1, .int a2, .int a3, .int a4]) (n := 5) (Nat.le_of_ble_eq_true rfl)
  rw [lg_entry_eq]
  generalize (lg_sl ([.ref (ad 0), .int a1, .int a2, .int a3, .int a4]) ++ List.replicate (5 - (lg_sl ([.ref (ad 0), .int a1, .int a2, .int a3, .int a4])).length) Slot.unset).toArray = ls at hl ⊢
  have hl : lv_has ls 5 [(0, .ref (ad 0)), (1, .int a1), (2, .int a2), (3, .int a3), (4, .int a4)] := hl
  have hP : va_P D vwCl (wC cI ad σ) s.heap := hP
  refine lv_iload_n hx hb dX7_part_0 rfl (lv_at hl 1 rfl) ?_
  refine S_calli (As := [.int a1]) (rest := []) ⟨hx, hb, hml, hown, hts⟩ (c_X7_isRegister l a1 _ hw) (va_cwS 1 hts gX7_part_X7_isRegister rfl rfl rfl (by decide +kernel) ⟨Nat.le_of_ble_eq_true rfl, Nat.le_of_ble_eq_true rfl⟩) rfl hl.1 rfl (Nat.le_of_ble_eq_true rfl) dX7_part_1 ⟨Nat.zero_le _, Nat.zero_le _⟩ (fun x1 hw => ?_)
  refine lv_if_eq (tgt := 14) hx hb dX7_part_4 (by decide) (fun c9 => ?_) (fun c9 => ?_)
  · have hw := hw.1 c9
    refine lv_ldc (v := -1000000001) hx hb hown (hts _ (List.mem_of_getElem? (i := 1) rfl)) dX7_part_14 ?_
    exact G_iret hx hb hr hlocks hw hP hK hD hS dX7_part_16
  · have hw := hw.2 c9
    refine lv_iload_n hx hb dX7_part_7 rfl (lv_at hl 2 rfl) ?_
    refine S_calli (As := [.int a2]) (rest := []) ⟨hx, hb, hml, hown, hts⟩ (c_X7_isOctet l a2 _ hw) (va_cwS 1 hts gX7_part_X7_isOctet rfl rfl rfl (by decide +kernel) ⟨Nat.le_of_ble_eq_true rfl, Nat.le_of_ble_eq_true rfl⟩) rfl hl.1 rfl (Nat.le_of_ble_eq_true rfl) dX7_part_8 ⟨Nat.zero_le _, Nat.zero_le _⟩ (fun x2 hw => ?_)
    refine lv_if_ne (tgt := 17) hx hb dX7_part_11 (by decide) (fun c9 => ?_) (fun c9 => ?_)
    · have hw := hw.1 c9
      refine lv_iload hx hb dX7_part_17 (lv_at hl 4 rfl) ?_
      refine lv_iconst (v := 1) hx hb dX7_part_19 (by decide) ?_
      refine lv_icmp_lt (tgt := 49) hx hb dX7_part_20 (by decide) (fun c9 => ?_) (fun c9 => ?_)
      · have hw := hw.1 c9
        refine lv_ldc (v := -1000000002) hx hb hown (hts _ (List.mem_of_getElem? (i := 2) rfl)) dX7_part_49 ?_
        exact G_iret hx hb hr hlocks hw hP hK hD hS dX7_part_51
      · have hw := hw.2 c9
        refine lv_iload hx hb dX7_part_23 (lv_at hl 4 rfl) ?_
        refine lv_bipush (v := 8) hx hb dX7_part_25 (by decide) ?_
        refine lv_icmp_gt (tgt := 49) hx hb dX7_part_27 (by decide) (fun c9 => ?_) (fun c9 => ?_)
        · have hw := hw.1 c9
          refine lv_ldc (v := -1000000002) hx hb hown (hts _ (List.mem_of_getElem? (i := 2) rfl)) dX7_part_49 ?_
          exact G_iret hx hb hr hlocks hw hP hK hD hS dX7_part_51
        · have hw := hw.2 c9
          refine lv_iload_n hx hb dX7_part_30 rfl (lv_at hl 3 rfl) ?_
          refine lv_if_lt (tgt := 49) hx hb dX7_part_31 (by decide) (fun c9 => ?_) (fun c9 => ?_)
          · have hw := hw.1 c9
            refine lv_ldc (v := -1000000002) hx hb hown (hts _ (List.mem_of_getElem? (i := 2) rfl)) dX7_part_49 ?_
            exact G_iret hx hb hr hlocks hw hP hK hD hS dX7_part_51
          · have hw := hw.2 c9
            refine lv_iload_n hx hb dX7_part_34 rfl (lv_at hl 3 rfl) ?_
            refine lv_bipush (v := 7) hx hb dX7_part_35 (by decide) ?_
            refine lv_icmp_gt (tgt := 49) hx hb dX7_part_37 (by decide) (fun c9 => ?_) (fun c9 => ?_)
            · have hw := hw.1 c9
              refine lv_ldc (v := -1000000002) hx hb hown (hts _ (List.mem_of_getElem? (i := 2) rfl)) dX7_part_49 ?_
              exact G_iret hx hb hr hlocks hw hP hK hD hS dX7_part_51
            · have hw := hw.2 c9
              refine lv_iload_n hx hb dX7_part_40 rfl (lv_at hl 3 rfl) ?_
              refine lv_iload hx hb dX7_part_41 (lv_at hl 4 rfl) ?_
              refine lv_iadd hx hb dX7_part_43 ?_
              refine lv_bipush (v := 8) hx hb dX7_part_44 (by decide) ?_
              refine lv_icmp_le (tgt := 52) hx hb dX7_part_46 (by decide) (fun c9 => ?_) (fun c9 => ?_)
              · have hw := hw.1 c9
                refine lv_aload_n hx hb dX7_part_52 rfl (lv_at hl 0 rfl) ?_
                refine lv_iload_n hx hb dX7_part_53 rfl (lv_at hl 1 rfl) ?_
                refine lv_aload_n hx hb dX7_part_54 rfl (lv_at hl 0 rfl) ?_
                refine lv_iload_n hx hb dX7_part_55 rfl (lv_at hl 2 rfl) ?_
                refine G_calli (As := [.int a2]) (rest := [.int a1, .ref (ad 0)]) ⟨hx, hb, hml, hown, hts⟩ hK hP hD hS 0 5 rfl rfl (c_X7_readOctet l D cI ad A σ a2 _ hw) (cwV 1 hts gX7_part_X7_readOctet rfl rfl rfl (by decide +kernel) ⟨Nat.le_of_ble_eq_true rfl, Nat.le_of_ble_eq_true rfl⟩) rfl hl.1 rfl (Nat.le_of_ble_eq_true rfl) dX7_part_56 ⟨Nat.zero_le _, Nat.zero_le _⟩ (fun x4 σ3 hw H locs hP hD hS => ?_)
                refine lv_iload_n hx hb dX7_part_59 rfl (lv_at hl 3 rfl) ?_
                refine lv_iload hx hb dX7_part_60 (lv_at hl 4 rfl) ?_
                refine S_calli (As := [.int x4, .int a3, .int a4]) (rest := [.int a1, .ref (ad 0)]) ⟨hx, hb, hml, hown, hts⟩ (c_X0_partOf l x4 a3 a4 _ hw) (va_cwS 3 hts gX7_part_X0_partOf rfl rfl rfl (by decide +kernel) ⟨Nat.le_of_ble_eq_true rfl, Nat.le_of_ble_eq_true rfl⟩) rfl hl.1 rfl (Nat.le_of_ble_eq_true rfl) dX7_part_62 ⟨Nat.zero_le _, Nat.zero_le _⟩ (fun x5 hw => ?_)
                refine G_callv (As := [.int a1, .int x5]) (rest := []) ⟨hx, hb, hml, hown, hts⟩ hK hP hD hS 0 5 rfl rfl (c_X7_changeRegister l D cI ad A σ3 a1 x5 _ hw) (cwV 2 hts gX7_part_X7_changeRegister rfl rfl rfl (by decide +kernel) ⟨Nat.le_of_ble_eq_true rfl, Nat.le_of_ble_eq_true rfl⟩) rfl hl.1 rfl (Nat.le_of_ble_eq_true rfl) dX7_part_65 ⟨Nat.zero_le _, Nat.zero_le _⟩ (fun σ6 hw H locs hP hD hS => ?_)
                refine lv_aload_n hx hb dX7_part_68 rfl (lv_at hl 0 rfl) ?_
                refine lv_bipush (v := 8) hx hb dX7_part_69 (by decide) ?_
                refine lv_aload_n hx hb dX7_part_71 rfl (lv_at hl 0 rfl) ?_
                refine lv_iload_n hx hb dX7_part_72 rfl (lv_at hl 1 rfl) ?_
                refine G_calli (As := [.int a1]) (rest := [.int (8 : Int32), .ref (ad 0)]) ⟨hx, hb, hml, hown, hts⟩ hK hP hD hS 0 5 rfl rfl (c_X7_shadowOfRegister l D cI ad A σ6 a1 _ hw) (cwV 1 hts gX7_part_X7_shadowOfRegister rfl rfl rfl (by decide +kernel) ⟨Nat.le_of_ble_eq_true rfl, Nat.le_of_ble_eq_true rfl⟩) rfl hl.1 rfl (Nat.le_of_ble_eq_true rfl) dX7_part_73 ⟨Nat.zero_le _, Nat.zero_le _⟩ (fun x8 σ7 hw H locs hP hD hS => ?_)
                refine G_calli (As := [.int (8 : Int32), .int x8]) (rest := []) ⟨hx, hb, hml, hown, hts⟩ hK hP hD hS 0 5 rfl rfl (c_X7_tick l D cI ad A σ7 (8 : Int32) x8 _ hw) (cwV 2 hts gX7_part_X7_tick rfl rfl rfl (by decide +kernel) ⟨Nat.le_of_ble_eq_true rfl, Nat.le_of_ble_eq_true rfl⟩) rfl hl.1 rfl (Nat.le_of_ble_eq_true rfl) dX7_part_76 ⟨Nat.zero_le _, Nat.zero_le _⟩ (fun x10 σ9 hw H locs hP hD hS => ?_)
                exact G_iret hx hb hr hlocks hw hP hK hD hS dX7_part_79
              · have hw := hw.2 c9
                refine lv_ldc (v := -1000000002) hx hb hown (hts _ (List.mem_of_getElem? (i := 2) rfl)) dX7_part_49 ?_
                exact G_iret hx hb hr hlocks hw hP hK hD hS dX7_part_51
    · have hw := hw.2 c9
      refine lv_ldc (v := -1000000001) hx hb hown (hts _ (List.mem_of_getElem? (i := 1) rfl)) dX7_part_14 ?_
      exact G_iret hx hb hr hlocks hw hP hK hD hS dX7_part_16

def wp_X7_changeOctet (σ : St) (a1 : Int32) (a2 : Int32) (K : St → Prop) : Prop :=
  vp_in ((8 : Int32) + a1) 40 ∧ wp_X1_add_19 σ ((8 : Int32) + a1) (σ.2.1 0 ((8 : Int32) + a1).toNatClampNeg) (fun σ1 => vp_in ((8 : Int32) + a1) 40 ∧ ∀ σ2 : St, σ2 = sA σ1 0 (upd (σ1.2.1 0) ((8 : Int32) + a1).toNatClampNeg a2) → wp_X7_octetSet a1 (1 : Int32) (fun x3 => ∀ σ4 : St, σ4 = sI σ2 0 ((σ2.1 0) &&& (x3 ^^^ (-1 : Int32))) → K σ4))
set_option maxHeartbeats 4000000 in
set_option maxRecDepth 100000 in
theorem c_X7_changeOctet (l : Launch) (D : va_G) (cI : ClassId) (ad : Nat → Nat) (A : Nat → Prop) (σ : St) (a1 : Int32) (a2 : Int32) (K : St → Prop) (hw : wp_X7_changeOctet σ a1 a2 K) : Met l yX7_changeOctet wsX7_changeOctet ({ frames := 2, cells := 0, slots := 0, locals := 43 }) (va_Pc [.ref (ad 0), .int a1, .int a2] (GW D [(cI, FieldType.int)] (wC cI ad) A σ)) (va_Qv K (GW D [(cI, FieldType.int)] (wC cI ad) A) A) 0 0 A := by
  refine Met.ofW (cc := cX7_changeOctet) (maxL := 3) (ret := none) (by decide) rfl ?_
  intro p e s m args below meth c s₁ B hml hv
  obtain ⟨rfl, hP, hK, hD⟩ := hv
  have hx := B.exec
  have hb := B.bytes
  have hr := B.returns
  have hts := atoms_spec (ws := wsX7_changeOctet) B.pre
  have hown : s.vm.findClass RX7 = some m.cls := findClass_of_methodNamed B.named
  have hlocks := B.notSynchronized
  have hS : va_S A s.heap s.heap [] := va_S.rf
  have hinX1 : ∀ w ∈ wsX10, w ∈ wsX7_changeOctet := fun _ h => List.mem_cons_of_mem _ (List.mem_append_right _ (h))
  have hinX4 : ∀ w ∈ wsX40, w ∈ wsX7_changeOctet := fun _ h => List.mem_cons_of_mem _ (List.mem_append_left _ (List.mem_append_right _ (h)))
  have hinX7 : ∀ w ∈ wsX70, w ∈ wsX7_changeOctet := fun _ h => List.mem_cons_of_mem _ (List.mem_append_left _ (List.mem_append_left _ (List.mem_append_right _ (h))))
  have hl := lv_entry ([.ref (ad 0), .int a1, .int a2]) (n := 3) (Nat.le_of_ble_eq_true rfl)
  rw [lg_entry_eq]
  generalize (lg_sl ([.ref (ad 0), .int a1, .int a2]) ++ List.replicate (3 - (lg_sl ([.ref (ad 0), .int a1, .int a2])).length) Slot.unset).toArray = ls at hl ⊢
  have hl : lv_has ls 3 [(0, .ref (ad 0)), (1, .int a1), (2, .int a2)] := hl
  have hP : va_P D vwCl (wC cI ad σ) s.heap := hP
  refine lv_aload_n hx hb dX7_changeOctet_0 rfl (lv_at hl 0 rfl) ?_
  refine va_get (D := D) (ci := 5) (C := RX7) (T := TX7) (N := 12) hx hb hts hinX7 hown hK hP 0 rfl rfl 6 (by decide) (hts _ (List.mem_of_getElem? (i := 1) rfl)) (fun _ h9 => h9) rfl dX7_changeOctet_1 ?_
  refine lv_bipush (v := 8) hx hb dX7_changeOctet_4 (by decide) ?_
  refine lv_iload_n hx hb dX7_changeOctet_6 rfl (lv_at hl 1 rfl) ?_
  refine lv_iadd hx hb dX7_changeOctet_7 ?_
  refine lv_aload_n hx hb dX7_changeOctet_8 rfl (lv_at hl 0 rfl) ?_
  refine va_get (D := D) (ci := 5) (C := RX7) (T := TX7) (N := 12) hx hb hts hinX7 hown hK hP 0 rfl rfl 0 (by decide) (hts _ (List.mem_of_getElem? (i := 2) rfl)) (fun _ h9 => h9) rfl dX7_changeOctet_9 ?_
  refine va_get (D := D) (ci := 3) (C := RX4) (T := TX4) (N := 2) hx hb hts hinX4 hown hK hP 1 rfl rfl 0 (by decide) (hts _ (List.mem_of_getElem? (i := 3) rfl)) (fun _ h9 => h9) rfl dX7_changeOctet_12 ?_
  refine lv_bipush (v := 8) hx hb dX7_changeOctet_15 (by decide) ?_
  refine lv_iload_n hx hb dX7_changeOctet_17 rfl (lv_at hl 1 rfl) ?_
  refine lv_iadd hx hb dX7_changeOctet_18 ?_
  refine va_iald (D := D) hx hb hK hP 2 0 rfl rfl hw.1 dX7_changeOctet_19 ?_
  have hw := hw.2
  refine G_callv (As := [.int ((8 : Int32) + a1), .int (σ.2.1 0 ((8 : Int32) + a1).toNatClampNeg)]) (rest := []) ⟨hx, hb, hml, hown, hts⟩ hK hP hD hS 19 0 rfl rfl (c_X1_add_19 l D cI ad A σ ((8 : Int32) + a1) (σ.2.1 0 ((8 : Int32) + a1).toNatClampNeg) _ hw) (cwV 2 hts gX7_changeOctet_X1_add rfl rfl rfl (by decide +kernel) ⟨Nat.le_of_ble_eq_true rfl, Nat.le_of_ble_eq_true rfl⟩) rfl hl.1 rfl (Nat.le_of_ble_eq_true rfl) dX7_changeOctet_20 ⟨Nat.zero_le _, Nat.zero_le _⟩ (fun σ1 hw H locs hP hD hS => ?_)
  refine lv_aload_n hx hb dX7_changeOctet_23 rfl (lv_at hl 0 rfl) ?_
  refine va_get (D := D) (ci := 5) (C := RX7) (T := TX7) (N := 12) hx hb hts hinX7 hown hK hP 0 rfl rfl 0 (by decide) (hts _ (List.mem_of_getElem? (i := 2) rfl)) (fun _ h9 => h9) rfl dX7_changeOctet_24 ?_
  refine va_get (D := D) (ci := 3) (C := RX4) (T := TX4) (N := 2) hx hb hts hinX4 hown hK hP 1 rfl rfl 0 (by decide) (hts _ (List.mem_of_getElem? (i := 3) rfl)) (fun _ h9 => h9) rfl dX7_changeOctet_27 ?_
  refine lv_bipush (v := 8) hx hb dX7_changeOctet_30 (by decide) ?_
  refine lv_iload_n hx hb dX7_changeOctet_32 rfl (lv_at hl 1 rfl) ?_
  refine lv_iadd hx hb dX7_changeOctet_33 ?_
  refine lv_iload_n hx hb dX7_changeOctet_34 rfl (lv_at hl 2 rfl) ?_
  refine va_iast (D := D) hx hb hK hP hD hS 2 0 rfl rfl hw.1 dX7_changeOctet_35 (fun H locs hP hD hS => ?_)
  obtain ⟨σ2, eσ2⟩ : ∃ z : St, z = sA σ1 0 (upd (σ1.2.1 0) ((8 : Int32) + a1).toNatClampNeg a2) := ⟨_, rfl⟩
  have hP : va_P D vwCl (wC cI ad σ2) H := by rw [eσ2]; exact hP
  have hD : va_D A (wC cI ad σ2) := by rw [eσ2]; exact hD
  have hw := hw.2 σ2 eσ2
  refine lv_aload_n hx hb dX7_changeOctet_36 rfl (lv_at hl 0 rfl) ?_
  refine va_get (D := D) (ci := 5) (C := RX7) (T := TX7) (N := 12) hx hb hts hinX7 hown hK hP 0 rfl rfl 0 (by decide) (hts _ (List.mem_of_getElem? (i := 2) rfl)) (fun _ h9 => h9) rfl dX7_changeOctet_37 ?_
  refine lv_dup hx hb dX7_changeOctet_40 rfl ?_
  refine va_get (D := D) (ci := 3) (C := RX4) (T := TX4) (N := 2) hx hb hts hinX4 hown hK hP 1 rfl rfl 1 (by decide) (hts _ (List.mem_of_getElem? (i := 4) rfl)) (fun _ h9 => h9) rfl dX7_changeOctet_41 ?_
  refine lv_iload_n hx hb dX7_changeOctet_44 rfl (lv_at hl 1 rfl) ?_
  refine lv_iconst (v := 1) hx hb dX7_changeOctet_45 (by decide) ?_
  refine S_calli (As := [.int a1, .int (1 : Int32)]) (rest := [.int (σ2.1 0), .ref (ad 1)]) ⟨hx, hb, hml, hown, hts⟩ (c_X7_octetSet l a1 (1 : Int32) _ hw) (va_cwS 2 hts gX7_changeOctet_X7_octetSet rfl rfl rfl (by decide +kernel) ⟨Nat.le_of_ble_eq_true rfl, Nat.le_of_ble_eq_true rfl⟩) rfl hl.1 rfl (Nat.le_of_ble_eq_true rfl) dX7_changeOctet_46 ⟨Nat.zero_le _, Nat.zero_le _⟩ (fun x3 hw => ?_)
  refine lv_iconst (v := -1) hx hb dX7_changeOctet_49 (by decide) ?_
  refine lv_ixor hx hb dX7_changeOctet_50 ?_
  refine lv_iand hx hb dX7_changeOctet_51 ?_
  refine va_put (D := D) (ci := 3) (ty := .int) (C := RX4) (T := TX4) (N := 2) hx hb hts hinX4 tyX4 tyX4_ok nmX4 hown hK hP hD hS 1 rfl rfl 1 (by decide) (hts _ (List.mem_of_getElem? (i := 4) rfl)) (fun _ h9 => h9) rfl (by decide +kernel) rfl rfl (Nat.le_of_ble_eq_true rfl) dX7_changeOctet_52 (fun H locs hP hD hS => ?_)
  obtain ⟨σ4, eσ4⟩ : ∃ z : St, z = sI σ2 0 ((σ2.1 0) &&& (x3 ^^^ (-1 : Int32))) := ⟨_, rfl⟩
  have hP : va_P D vwCl (wC cI ad σ4) H := by rw [eσ4]; exact hP
  have hD : va_D A (wC cI ad σ4) := by rw [eσ4]; exact hD
  have hw := hw σ4 eσ4
  exact G_vret hx hb hr hlocks hw hP hK hD hS dX7_changeOctet_55

def wp_X7_store (σ : St) (a1 : Int32) (a2 : Int32) (K : Int32 → St → Prop) : Prop :=
  wp_X7_isRegister a1 (fun x1 => ((x1 = 0 → K (-1000000001 : Int32) σ) ∧ (¬ x1 = 0 → wp_X7_isOctet a2 (fun x2 => ((¬ x2 = 0 → vp_in a1 40 ∧ wp_X7_changeOctet σ a2 (σ.2.1 0 a1.toNatClampNeg) (fun σ3 => wp_X7_shadowOfRegister σ3 a1 (fun x5 σ4 => wp_X7_tick σ4 (3 : Int32) x5 (fun x7 σ6 => K x7 σ6)))) ∧ (x2 = 0 → K (-1000000001 : Int32) σ))))))
set_option maxHeartbeats 4000000 in
set_option maxRecDepth 100000 in
theorem c_X7_store (l : Launch) (D : va_G) (cI : ClassId) (ad : Nat → Nat) (A : Nat → Prop) (σ : St) (a1 : Int32) (a2 : Int32) (K : Int32 → St → Prop) (hw : wp_X7_store σ a1 a2 K) : Met l yX7_store wsX7_store ({ frames := 3, cells := 0, slots := 0, locals := 66 }) (va_Pc [.ref (ad 0), .int a1, .int a2] (GW D [(cI, FieldType.int)] (wC cI ad) A σ)) (va_Qi K (GW D [(cI, FieldType.int)] (wC cI ad) A) A) 0 0 A := by
  refine Met.ofW (cc := cX7_store) (maxL := 3) (ret := (some .int)) (by decide) rfl ?_
  intro p e s m args below meth c s₁ B hml hv
  obtain ⟨rfl, hP, hK, hD⟩ := hv
  have hx := B.exec
  have hb := B.bytes
  have hr := B.returns
  have hts := atoms_spec (ws := wsX7_store) B.pre
  have hown : s.vm.findClass RX7 = some m.cls := findClass_of_methodNamed B.named
  have hlocks := B.notSynchronized
  have hS : va_S A s.heap s.heap [] := va_S.rf
  have hinX1 : ∀ w ∈ wsX10, w ∈ wsX7_store := fun _ h => List.mem_cons_of_mem _ (List.mem_append_left _ (List.mem_append_right _ (h)))
  have hinX4 : ∀ w ∈ wsX40, w ∈ wsX7_store := fun _ h => List.mem_cons_of_mem _ (List.mem_append_left _ (List.mem_append_left _ (List.mem_append_right _ (h))))
  have hinX5 : ∀ w ∈ wsX50, w ∈ wsX7_store := fun _ h => List.mem_cons_of_mem _ (List.mem_append_right _ (h))
  have hinX7 : ∀ w ∈ wsX70, w ∈ wsX7_store := fun _ h => List.mem_cons_of_mem _ (List.mem_append_left _ (List.mem_append_left _ (List.mem_append_left _ (List.mem_append_right _ (h)))))
  have hl := lv_entry ([.ref (ad 0), .int a1, .int a2]) (n := 3) (Nat.le_of_ble_eq_true rfl)
  rw [lg_entry_eq]
  generalize (lg_sl ([.ref (ad 0), .int a1, .int a2]) ++ List.replicate (3 - (lg_sl ([.ref (ad 0), .int a1, .int a2])).length) Slot.unset).toArray = ls at hl ⊢
  have hl : lv_has ls 3 [(0, .ref (ad 0)), (1, .int a1), (2, .int a2)] := hl
  have hP : va_P D vwCl (wC cI ad σ) s.heap := hP
  refine lv_iload_n hx hb dX7_store_0 rfl (lv_at hl 1 rfl) ?_
  refine S_calli (As := [.int a1]) (rest := []) ⟨hx, hb, hml, hown, hts⟩ (c_X7_isRegister l a1 _ hw) (va_cwS 1 hts gX7_store_X7_isRegister rfl rfl rfl (by decide +kernel) ⟨Nat.le_of_ble_eq_true rfl, Nat.le_of_ble_eq_true rfl⟩) rfl hl.1 rfl (Nat.le_of_ble_eq_true rfl) dX7_store_1 ⟨Nat.zero_le _, Nat.zero_le _⟩ (fun x1 hw => ?_)
  refine lv_if_eq (tgt := 14) hx hb dX7_store_4 (by decide) (fun c9 => ?_) (fun c9 => ?_)
  · have hw := hw.1 c9
    refine lv_ldc (v := -1000000001) hx hb hown (hts _ (List.mem_of_getElem? (i := 1) rfl)) dX7_store_14 ?_
    exact G_iret hx hb hr hlocks hw hP hK hD hS dX7_store_16
  · have hw := hw.2 c9
    refine lv_iload_n hx hb dX7_store_7 rfl (lv_at hl 2 rfl) ?_
    refine S_calli (As := [.int a2]) (rest := []) ⟨hx, hb, hml, hown, hts⟩ (c_X7_isOctet l a2 _ hw) (va_cwS 1 hts gX7_store_X7_isOctet rfl rfl rfl (by decide +kernel) ⟨Nat.le_of_ble_eq_true rfl, Nat.le_of_ble_eq_true rfl⟩) rfl hl.1 rfl (Nat.le_of_ble_eq_true rfl) dX7_store_8 ⟨Nat.zero_le _, Nat.zero_le _⟩ (fun x2 hw => ?_)
    refine lv_if_ne (tgt := 17) hx hb dX7_store_11 (by decide) (fun c9 => ?_) (fun c9 => ?_)
    · have hw := hw.1 c9
      refine lv_aload_n hx hb dX7_store_17 rfl (lv_at hl 0 rfl) ?_
      refine lv_iload_n hx hb dX7_store_18 rfl (lv_at hl 2 rfl) ?_
      refine lv_aload_n hx hb dX7_store_19 rfl (lv_at hl 0 rfl) ?_
      refine va_get (D := D) (ci := 5) (C := RX7) (T := TX7) (N := 12) hx hb hts hinX7 hown hK hP 0 rfl rfl 0 (by decide) (hts _ (List.mem_of_getElem? (i := 2) rfl)) (fun _ h9 => h9) rfl dX7_store_20 ?_
      refine va_get (D := D) (ci := 3) (C := RX4) (T := TX4) (N := 2) hx hb hts hinX4 hown hK hP 1 rfl rfl 0 (by decide) (hts _ (List.mem_of_getElem? (i := 3) rfl)) (fun _ h9 => h9) rfl dX7_store_23 ?_
      refine lv_iload_n hx hb dX7_store_26 rfl (lv_at hl 1 rfl) ?_
      refine va_iald (D := D) hx hb hK hP 2 0 rfl rfl hw.1 dX7_store_27 ?_
      have hw := hw.2
      refine G_callv (As := [.int a2, .int (σ.2.1 0 a1.toNatClampNeg)]) (rest := []) ⟨hx, hb, hml, hown, hts⟩ hK hP hD hS 0 5 rfl rfl (c_X7_changeOctet l D cI ad A σ a2 (σ.2.1 0 a1.toNatClampNeg) _ hw) (cwV 2 hts gX7_store_X7_changeOctet rfl rfl rfl (by decide +kernel) ⟨Nat.le_of_ble_eq_true rfl, Nat.le_of_ble_eq_true rfl⟩) rfl hl.1 rfl (Nat.le_of_ble_eq_true rfl) dX7_store_28 ⟨Nat.zero_le _, Nat.zero_le _⟩ (fun σ3 hw H locs hP hD hS => ?_)
      refine lv_aload_n hx hb dX7_store_31 rfl (lv_at hl 0 rfl) ?_
      refine lv_iconst (v := 3) hx hb dX7_store_32 (by decide) ?_
      refine lv_aload_n hx hb dX7_store_33 rfl (lv_at hl 0 rfl) ?_
      refine lv_iload_n hx hb dX7_store_34 rfl (lv_at hl 1 rfl) ?_
      refine G_calli (As := [.int a1]) (rest := [.int (3 : Int32), .ref (ad 0)]) ⟨hx, hb, hml, hown, hts⟩ hK hP hD hS 0 5 rfl rfl (c_X7_shadowOfRegister l D cI ad A σ3 a1 _ hw) (cwV 1 hts gX7_store_X7_shadowOfRegister rfl rfl rfl (by decide +kernel) ⟨Nat.le_of_ble_eq_true rfl, Nat.le_of_ble_eq_true rfl⟩) rfl hl.1 rfl (Nat.le_of_ble_eq_true rfl) dX7_store_35 ⟨Nat.zero_le _, Nat.zero_le _⟩ (fun x5 σ4 hw H locs hP hD hS => ?_)
      refine G_calli (As := [.int (3 : Int32), .int x5]) (rest := []) ⟨hx, hb, hml, hown, hts⟩ hK hP hD hS 0 5 rfl rfl (c_X7_tick l D cI ad A σ4 (3 : Int32) x5 _ hw) (cwV 2 hts gX7_store_X7_tick rfl rfl rfl (by decide +kernel) ⟨Nat.le_of_ble_eq_true rfl, Nat.le_of_ble_eq_true rfl⟩) rfl hl.1 rfl (Nat.le_of_ble_eq_true rfl) dX7_store_38 ⟨Nat.zero_le _, Nat.zero_le _⟩ (fun x7 σ6 hw H locs hP hD hS => ?_)
      exact G_iret hx hb hr hlocks hw hP hK hD hS dX7_store_41
    · have hw := hw.2 c9
      refine lv_ldc (v := -1000000001) hx hb hown (hts _ (List.mem_of_getElem? (i := 1) rfl)) dX7_store_14 ?_
      exact G_iret hx hb hr hlocks hw hP hK hD hS dX7_store_16

def wp_X7_placeAt (σ : St) (a1 : Int32) (K : Int32 → St → Prop) : Prop :=
  vp_in a1 40 ∧ ∀ x1 : Int32, x1 = σ.2.1 0 a1.toNatClampNeg → wp_X0_shadowOf x1 (fun x2 => (((x2 &&& (31 : Int32)) = 0 → wp_X0_valueOf x1 (fun x3 => K (x3 &&& (31 : Int32)) σ)) ∧ (¬ (x2 &&& (31 : Int32)) = 0 → wp_X0_fromOf x1 (fun x4 => wp_X2_add_11 σ (1 : Int32) (σ.1 13) x4 (fun σ5 => wp_X0_valueOf x1 (fun x6 => K (x6 &&& (31 : Int32)) σ5))))))
set_option maxHeartbeats 4000000 in
set_option maxRecDepth 100000 in
theorem c_X7_placeAt (l : Launch) (D : va_G) (cI : ClassId) (ad : Nat → Nat) (A : Nat → Prop) (σ : St) (a1 : Int32) (K : Int32 → St → Prop) (hw : wp_X7_placeAt σ a1 K) : Met l yX7_placeAt wsX7_placeAt ({ frames := 1, cells := 0, slots := 0, locals := 23 }) (va_Pc [.ref (ad 0), .int a1] (GW D [(cI, FieldType.int)] (wC cI ad) A σ)) (va_Qi K (GW D [(cI, FieldType.int)] (wC cI ad) A) A) 0 0 A := by
  refine Met.ofW (cc := cX7_placeAt) (maxL := 3) (ret := (some .int)) (by decide) rfl ?_
  intro p e s m args below meth c s₁ B hml hv
  obtain ⟨rfl, hP, hK, hD⟩ := hv
  have hx := B.exec
  have hb := B.bytes
  have hr := B.returns
  have hts := atoms_spec (ws := wsX7_placeAt) B.pre
  have hown : s.vm.findClass RX7 = some m.cls := findClass_of_methodNamed B.named
  have hlocks := B.notSynchronized
  have hS : va_S A s.heap s.heap [] := va_S.rf
  have hinX2 : ∀ w ∈ wsX20, w ∈ wsX7_placeAt := fun _ h => List.mem_cons_of_mem _ (List.mem_append_right _ (h))
  have hinX4 : ∀ w ∈ wsX40, w ∈ wsX7_placeAt := fun _ h => List.mem_cons_of_mem _ (List.mem_append_left _ (List.mem_append_right _ (h)))
  have hinX7 : ∀ w ∈ wsX70, w ∈ wsX7_placeAt := fun _ h => List.mem_cons_of_mem _ (List.mem_append_left _ (List.mem_append_left _ (List.mem_append_right _ (h))))
  have hl := lv_entry ([.ref (ad 0), .int a1]) (n := 3) (Nat.le_of_ble_eq_true rfl)
  rw [lg_entry_eq]
  generalize (lg_sl ([.ref (ad 0), .int a1]) ++ List.replicate (3 - (lg_sl ([.ref (ad 0), .int a1])).length) Slot.unset).toArray = ls at hl ⊢
  have hl : lv_has ls 3 [(0, .ref (ad 0)), (1, .int a1)] := hl
  have hP : va_P D vwCl (wC cI ad σ) s.heap := hP
  refine lv_aload_n hx hb dX7_placeAt_0 rfl (lv_at hl 0 rfl) ?_
  refine va_get (D := D) (ci := 5) (C := RX7) (T := TX7) (N := 12) hx hb hts hinX7 hown hK hP 0 rfl rfl 0 (by decide) (hts _ (List.mem_of_getElem? (i := 1) rfl)) (fun _ h9 => h9) rfl dX7_placeAt_1 ?_
  refine va_get (D := D) (ci := 3) (C := RX4) (T := TX4) (N := 2) hx hb hts hinX4 hown hK hP 1 rfl rfl 0 (by decide) (hts _ (List.mem_of_getElem? (i := 2) rfl)) (fun _ h9 => h9) rfl dX7_placeAt_4 ?_
  refine lv_iload_n hx hb dX7_placeAt_7 rfl (lv_at hl 1 rfl) ?_
  refine va_iald (D := D) hx hb hK hP 2 0 rfl rfl hw.1 dX7_placeAt_8 ?_
  have hw := hw.2
  refine lv_topi (fun x1 ex1 => ?_)
  have hw := hw x1 ex1
  refine lv_istore_n (lv' := [(2, .int x1), (0, .ref (ad 0)), (1, .int a1)]) hx hb dX7_placeAt_9 rfl hl (by decide) rfl (fun ls hl => ?_)
  refine lv_iload_n hx hb dX7_placeAt_10 rfl (lv_at hl 0 rfl) ?_
  refine S_calli (As := [.int x1]) (rest := []) ⟨hx, hb, hml, hown, hts⟩ (c_X0_shadowOf l x1 _ hw) (va_cwS 1 hts gX7_placeAt_X0_shadowOf rfl rfl rfl (by decide +kernel) ⟨Nat.le_of_ble_eq_true rfl, Nat.le_of_ble_eq_true rfl⟩) rfl hl.1 rfl (Nat.le_of_ble_eq_true rfl) dX7_placeAt_11 ⟨Nat.zero_le _, Nat.zero_le _⟩ (fun x2 hw => ?_)
  refine lv_bipush (v := 31) hx hb dX7_placeAt_14 (by decide) ?_
  refine lv_iand hx hb dX7_placeAt_16 ?_
  refine lv_if_eq (tgt := 36) hx hb dX7_placeAt_17 (by decide) (fun c9 => ?_) (fun c9 => ?_)
  · have hw := hw.1 c9
    refine lv_iload_n hx hb dX7_placeAt_36 rfl (lv_at hl 0 rfl) ?_
    refine S_calli (As := [.int x1]) (rest := []) ⟨hx, hb, hml, hown, hts⟩ (c_X0_valueOf l x1 _ hw) (va_cwS 1 hts gX7_placeAt_X0_valueOf rfl rfl rfl (by decide +kernel) ⟨Nat.le_of_ble_eq_true rfl, Nat.le_of_ble_eq_true rfl⟩) rfl hl.1 rfl (Nat.le_of_ble_eq_true rfl) dX7_placeAt_37 ⟨Nat.zero_le _, Nat.zero_le _⟩ (fun x3 hw => ?_)
    refine lv_bipush (v := 31) hx hb dX7_placeAt_40 (by decide) ?_
    refine lv_iand hx hb dX7_placeAt_42 ?_
    exact G_iret hx hb hr hlocks hw hP hK hD hS dX7_placeAt_43
  · have hw := hw.2 c9
    refine lv_aload_n hx hb dX7_placeAt_20 rfl (lv_at hl 1 rfl) ?_
    refine va_get (D := D) (ci := 5) (C := RX7) (T := TX7) (N := 12) hx hb hts hinX7 hown hK hP 0 rfl rfl 4 (by decide) (hts _ (List.mem_of_getElem? (i := 3) rfl)) (fun _ h9 => h9) rfl dX7_placeAt_21 ?_
    refine lv_iconst (v := 1) hx hb dX7_placeAt_24 (by decide) ?_
    refine lv_aload_n hx hb dX7_placeAt_25 rfl (lv_at hl 1 rfl) ?_
    refine va_get (D := D) (ci := 5) (C := RX7) (T := TX7) (N := 12) hx hb hts hinX7 hown hK hP 0 rfl rfl 9 (by decide) (hts _ (List.mem_of_getElem? (i := 4) rfl)) (fun _ h9 => h9) rfl dX7_placeAt_26 ?_
    refine lv_iload_n hx hb dX7_placeAt_29 rfl (lv_at hl 0 rfl) ?_
    refine S_calli (As := [.int x1]) (rest := [.int (σ.1 13), .int (1 : Int32), .ref (ad 11)]) ⟨hx, hb, hml, hown, hts⟩ (c_X0_fromOf l x1 _ hw) (va_cwS 1 hts gX7_placeAt_X0_fromOf rfl rfl rfl (by decide +kernel) ⟨Nat.le_of_ble_eq_true rfl, Nat.le_of_ble_eq_true rfl⟩) rfl hl.1 rfl (Nat.le_of_ble_eq_true rfl) dX7_placeAt_30 ⟨Nat.zero_le _, Nat.zero_le _⟩ (fun x4 hw => ?_)
    refine G_callv (As := [.int (1 : Int32), .int (σ.1 13), .int x4]) (rest := []) ⟨hx, hb, hml, hown, hts⟩ hK hP hD hS 11 1 rfl rfl (c_X2_add_11 l D cI ad A σ (1 : Int32) (σ.1 13) x4 _ hw) (cwV 3 hts gX7_placeAt_X2_add rfl rfl rfl (by decide +kernel) ⟨Nat.le_of_ble_eq_true rfl, Nat.le_of_ble_eq_true rfl⟩) rfl hl.1 rfl (Nat.le_of_ble_eq_true rfl) dX7_placeAt_33 ⟨Nat.zero_le _, Nat.zero_le _⟩ (fun σ5 hw H locs hP hD hS => ?_)
    refine lv_iload_n hx hb dX7_placeAt_36 rfl (lv_at hl 0 rfl) ?_
    refine S_calli (As := [.int x1]) (rest := []) ⟨hx, hb, hml, hown, hts⟩ (c_X0_valueOf l x1 _ hw) (va_cwS 1 hts gX7_placeAt_X0_valueOf rfl rfl rfl (by decide +kernel) ⟨Nat.le_of_ble_eq_true rfl, Nat.le_of_ble_eq_true rfl⟩) rfl hl.1 rfl (Nat.le_of_ble_eq_true rfl) dX7_placeAt_37 ⟨Nat.zero_le _, Nat.zero_le _⟩ (fun x6 hw => ?_)
    refine lv_bipush (v := 31) hx hb dX7_placeAt_40 (by decide) ?_
    refine lv_iand hx hb dX7_placeAt_42 ?_
    exact G_iret hx hb hr hlocks hw hP hK hD hS dX7_placeAt_43

def wp_X7_loadAt (σ : St) (a1 : Int32) (a2 : Int32) (K : Int32 → St → Prop) : Prop :=
  wp_X7_isRegister a1 (fun x1 => ((x1 = 0 → K (-1000000001 : Int32) σ) ∧ (¬ x1 = 0 → wp_X7_isRegister a2 (fun x2 => ((¬ x2 = 0 → wp_X7_placeAt σ a2 (fun x4 σ3 => wp_X7_readOctet σ3 x4 (fun x6 σ5 => wp_X7_changeRegister σ5 a1 x6 (fun σ7 => wp_X7_shadowOfRegister σ7 a1 (fun x9 σ8 => wp_X7_tick σ8 (9 : Int32) x9 (fun x11 σ10 => K x11 σ10)))))) ∧ (x2 = 0 → K (-1000000001 : Int32) σ))))))
set_option maxHeartbeats 4000000 in
set_option maxRecDepth 100000 in
theorem c_X7_loadAt (l : Launch) (D : va_G) (cI : ClassId) (ad : Nat → Nat) (A : Nat → Prop) (σ : St) (a1 : Int32) (a2 : Int32) (K : Int32 → St → Prop) (hw : wp_X7_loadAt σ a1 a2 K) : Met l yX7_loadAt wsX7_loadAt ({ frames := 3, cells := 0, slots := 0, locals := 66 }) (va_Pc [.ref (ad 0), .int a1, .int a2] (GW D [(cI, FieldType.int)] (wC cI ad) A σ)) (va_Qi K (GW D [(cI, FieldType.int)] (wC cI ad) A) A) 0 0 A := by
  refine Met.ofW (cc := cX7_loadAt) (maxL := 3) (ret := (some .int)) (by decide) rfl ?_
  intro p e s m args below meth c s₁ B hml hv
  obtain ⟨rfl, hP, hK, hD⟩ := hv
  have hx := B.exec
  have hb := B.bytes
  have hr := B.returns
  have hts := atoms_spec (ws := wsX7_loadAt) B.pre
  have hown : s.vm.findClass RX7 = some m.cls := findClass_of_methodNamed B.named
  have hlocks := B.notSynchronized
  have hS : va_S A s.heap s.heap [] := va_S.rf
  have hinX1 : ∀ w ∈ wsX10, w ∈ wsX7_loadAt := fun _ h => List.mem_cons_of_mem _ (List.mem_append_left _ (List.mem_append_right _ (h)))
  have hinX2 : ∀ w ∈ wsX20, w ∈ wsX7_loadAt := fun _ h => List.mem_cons_of_mem _ (List.mem_append_left _ (List.mem_append_left _ (List.mem_append_left _ (List.mem_append_right _ (h)))))
  have hinX3 : ∀ w ∈ wsX30, w ∈ wsX7_loadAt := fun _ h => List.mem_cons_of_mem _ (List.mem_append_left _ (List.mem_append_left _ (List.mem_append_right _ (h))))
  have hinX4 : ∀ w ∈ wsX40, w ∈ wsX7_loadAt := fun _ h => List.mem_cons_of_mem _ (List.mem_append_left _ (List.mem_append_left _ (List.mem_append_left _ (List.mem_append_left _ (List.mem_append_right _ (h))))))
  have hinX5 : ∀ w ∈ wsX50, w ∈ wsX7_loadAt := fun _ h => List.mem_cons_of_mem _ (List.mem_append_right _ (h))
  have hinX7 : ∀ w ∈ wsX70, w ∈ wsX7_loadAt := fun _ h => List.mem_cons_of_mem _ (List.mem_append_left _ (List.mem_append_left _ (List.mem_append_left _ (List.mem_append_left _ (List.mem_append_left _ (List.mem_append_right _ (h)))))))
  have hl := lv_entry ([.ref (ad 0), .int a1, .int a2]) (n := 3) (Nat.le_of_ble_eq_true rfl)
  rw [lg_entry_eq]
  generalize (lg_sl ([.ref (ad 0), .int a1, .int a2]) ++ List.replicate (3 - (lg_sl ([.ref (ad 0), .int a1, .int a2])).length) Slot.unset).toArray = ls at hl ⊢
  have hl : lv_has ls 3 [(0, .ref (ad 0)), (1, .int a1), (2, .int a2)] := hl
  have hP : va_P D vwCl (wC cI ad σ) s.heap := hP
  refine lv_iload_n hx hb dX7_loadAt_0 rfl (lv_at hl 1 rfl) ?_
  refine S_calli (As := [.int a1]) (rest := []) ⟨hx, hb, hml, hown, hts⟩ (c_X7_isRegister l a1 _ hw) (va_cwS 1 hts gX7_loadAt_X7_isRegister rfl rfl rfl (by decide +kernel) ⟨Nat.le_of_ble_eq_true rfl, Nat.le_of_ble_eq_true rfl⟩) rfl hl.1 rfl (Nat.le_of_ble_eq_true rfl) dX7_loadAt_1 ⟨Nat.zero_le _, Nat.zero_le _⟩ (fun x1 hw => ?_)
  refine lv_if_eq (tgt := 14) hx hb dX7_loadAt_4 (by decide) (fun c9 => ?_) (fun c9 => ?_)
  · have hw := hw.1 c9
    refine lv_ldc (v := -1000000001) hx hb hown (hts _ (List.mem_of_getElem? (i := 1) rfl)) dX7_loadAt_14 ?_
    exact G_iret hx hb hr hlocks hw hP hK hD hS dX7_loadAt_16
  · have hw := hw.2 c9
    refine lv_iload_n hx hb dX7_loadAt_7 rfl (lv_at hl 2 rfl) ?_
    refine S_calli (As := [.int a2]) (rest := []) ⟨hx, hb, hml, hown, hts⟩ (c_X7_isRegister l a2 _ hw) (va_cwS 1 hts gX7_loadAt_X7_isRegister rfl rfl rfl (by decide +kernel) ⟨Nat.le_of_ble_eq_true rfl, Nat.le_of_ble_eq_true rfl⟩) rfl hl.1 rfl (Nat.le_of_ble_eq_true rfl) dX7_loadAt_8 ⟨Nat.zero_le _, Nat.zero_le _⟩ (fun x2 hw => ?_)
    refine lv_if_ne (tgt := 17) hx hb dX7_loadAt_11 (by decide) (fun c9 => ?_) (fun c9 => ?_)
    · have hw := hw.1 c9
      refine lv_aload_n hx hb dX7_loadAt_17 rfl (lv_at hl 0 rfl) ?_
      refine lv_iload_n hx hb dX7_loadAt_18 rfl (lv_at hl 1 rfl) ?_
      refine lv_aload_n hx hb dX7_loadAt_19 rfl (lv_at hl 0 rfl) ?_
      refine lv_aload_n hx hb dX7_loadAt_20 rfl (lv_at hl 0 rfl) ?_
      refine lv_iload_n hx hb dX7_loadAt_21 rfl (lv_at hl 2 rfl) ?_
      refine G_calli (As := [.int a2]) (rest := [.ref (ad 0), .int a1, .ref (ad 0)]) ⟨hx, hb, hml, hown, hts⟩ hK hP hD hS 0 5 rfl rfl (c_X7_placeAt l D cI ad A σ a2 _ hw) (cwV 1 hts gX7_loadAt_X7_placeAt rfl rfl rfl (by decide +kernel) ⟨Nat.le_of_ble_eq_true rfl, Nat.le_of_ble_eq_true rfl⟩) rfl hl.1 rfl (Nat.le_of_ble_eq_true rfl) dX7_loadAt_22 ⟨Nat.zero_le _, Nat.zero_le _⟩ (fun x4 σ3 hw H locs hP hD hS => ?_)
      refine G_calli (As := [.int x4]) (rest := [.int a1, .ref (ad 0)]) ⟨hx, hb, hml, hown, hts⟩ hK hP hD hS 0 5 rfl rfl (c_X7_readOctet l D cI ad A σ3 x4 _ hw) (cwV 1 hts gX7_loadAt_X7_readOctet rfl rfl rfl (by decide +kernel) ⟨Nat.le_of_ble_eq_true rfl, Nat.le_of_ble_eq_true rfl⟩) rfl hl.1 rfl (Nat.le_of_ble_eq_true rfl) dX7_loadAt_25 ⟨Nat.zero_le _, Nat.zero_le _⟩ (fun x6 σ5 hw H locs hP hD hS => ?_)
      refine G_callv (As := [.int a1, .int x6]) (rest := []) ⟨hx, hb, hml, hown, hts⟩ hK hP hD hS 0 5 rfl rfl (c_X7_changeRegister l D cI ad A σ5 a1 x6 _ hw) (cwV 2 hts gX7_loadAt_X7_changeRegister rfl rfl rfl (by decide +kernel) ⟨Nat.le_of_ble_eq_true rfl, Nat.le_of_ble_eq_true rfl⟩) rfl hl.1 rfl (Nat.le_of_ble_eq_true rfl) dX7_loadAt_28 ⟨Nat.zero_le _, Nat.zero_le _⟩ (fun σ7 hw H locs hP hD hS => ?_)
      refine lv_aload_n hx hb dX7_loadAt_31 rfl (lv_at hl 0 rfl) ?_
      refine lv_bipush (v := 9) hx hb dX7_loadAt_32 (by decide) ?_
      refine lv_aload_n hx hb dX7_loadAt_34 rfl (lv_at hl 0 rfl) ?_
      refine lv_iload_n hx hb dX7_loadAt_35 rfl (lv_at hl 1 rfl) ?_
      refine G_calli (As := [.int a1]) (rest := [.int (9 : Int32), .ref (ad 0)]) ⟨hx, hb, hml, hown, hts⟩ hK hP hD hS 0 5 rfl rfl (c_X7_shadowOfRegister l D cI ad A σ7 a1 _ hw) (cwV 1 hts gX7_loadAt_X7_shadowOfRegister rfl rfl rfl (by decide +kernel) ⟨Nat.le_of_ble_eq_true rfl, Nat.le_of_ble_eq_true rfl⟩) rfl hl.1 rfl (Nat.le_of_ble_eq_true rfl) dX7_loadAt_36 ⟨Nat.zero_le _, Nat.zero_le _⟩ (fun x9 σ8 hw H locs hP hD hS => ?_)
      refine G_calli (As := [.int (9 : Int32), .int x9]) (rest := []) ⟨hx, hb, hml, hown, hts⟩ hK hP hD hS 0 5 rfl rfl (c_X7_tick l D cI ad A σ8 (9 : Int32) x9 _ hw) (cwV 2 hts gX7_loadAt_X7_tick rfl rfl rfl (by decide +kernel) ⟨Nat.le_of_ble_eq_true rfl, Nat.le_of_ble_eq_true rfl⟩) rfl hl.1 rfl (Nat.le_of_ble_eq_true rfl) dX7_loadAt_39 ⟨Nat.zero_le _, Nat.zero_le _⟩ (fun x11 σ10 hw H locs hP hD hS => ?_)
      exact G_iret hx hb hr hlocks hw hP hK hD hS dX7_loadAt_42
    · have hw := hw.2 c9
      refine lv_ldc (v := -1000000001) hx hb hown (hts _ (List.mem_of_getElem? (i := 1) rfl)) dX7_loadAt_14 ?_
      exact G_iret hx hb hr hlocks hw hP hK hD hS dX7_loadAt_16
