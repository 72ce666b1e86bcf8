set_option maxHeartbeats 16000000 in
set_option maxRecDepth 100000 in
theorem law_start {Rel : Nat → St → St → Prop} (hsim : SIMS Rel) (hmono : ∀ n σ τ, Rel n σ τ → Rel (n + 1) σ τ) (hinit : wp_X7_begin ((fun _ => 0, fun _ _ => 0, 0) : St) (fun σ => wp_X8_start ((fun _ => 0, fun _ _ => 0, 0) : St) (fun _ τ => Rel 0 σ τ))) {p : Program} {e : Env} {s : State} {m : MethodId} {below : List Frame} {meth : Method} {c : Code} (l : Launch) {b L : Nat} {xs : Nat → Int32} (hL : L ≤ 3072) (C0 : lw_At p s m meth c b L xs) : W p l e room_1 s m #[Value.ref b] below meth c s.heap [] 0 0 (lw_Z below #[Value.ref b] s) (entryFrame m ([Value.ref b] : List Value).toArray 4) := by
  obtain ⟨hx, hb, hr, hml, hown, hts0, hX, hbl, hlocks, hgv⟩ := id C0
  have hts : ∀ w ∈ wsL_law, w.before #[Value.ref b] s = true := fun w h => hts0 w (wsL_law_in w h)
  have hA : ∀ q : Nat, s.heap.size ≤ q → (fun q : Nat => s.heap.size ≤ q) q := fun _ h => h
  have hbA : ¬ (fun q : Nat => s.heap.size ≤ q) b := Nat.not_le.mpr hbl
  obtain ⟨c0, iS0, hKn0⟩ := u_known (C := RX1) (T := TX1) (N := 4) (n := 4) hts inlX1 (hts _ (List.mem_of_getElem? (i := 31) rfl))
  obtain ⟨c1, iS1, hKn1⟩ := u_known (C := RX2) (T := TX2) (N := 5) (n := 5) hts inlX2 (hts _ (List.mem_of_getElem? (i := 23) rfl))
  obtain ⟨c2, iS2, hKn2⟩ := u_known (C := RX3) (T := TX3) (N := 5) (n := 5) hts inlX3 (hts _ (List.mem_of_getElem? (i := 19) rfl))
  obtain ⟨c3, iS3, hKn3⟩ := u_known (C := RX4) (T := TX4) (N := 2) (n := 2) hts inlX4 (hts _ (List.mem_of_getElem? (i := 13) rfl))
  obtain ⟨c4, iS4, hKn4⟩ := u_known (C := RX5) (T := TX5) (N := 5) (n := 5) hts inlX5 (hts _ (List.mem_of_getElem? (i := 27) rfl))
  obtain ⟨c5, iS5, hKn5⟩ := u_known (C := RX7) (T := TX7) (N := 12) (n := 12) hts inlX7 (hts _ (List.mem_of_getElem? (i := 1) rfl))
  obtain ⟨c6, iS6, hKn6⟩ := u_known (C := RX8) (T := TX8) (N := 28) (n := 28) hts inlX8 (hts _ (List.mem_of_getElem? (i := 4) rfl))
  obtain ⟨D, hKc⟩ : ∃ D : va_G, ∀ (k : Nat) (q : vw_C), vwCl[k]? = some q → u_Kn s q.1 q.2.1 q.2.2 (D.1 k) (D.2 k) := by
    refine ⟨(fun k => [c0, c1, c2, c3, c4, c5, c6].getD k c0, fun k => [iS0, iS1, iS2, iS3, iS4, iS5, iS6].getD k iS0), ?_⟩
    intro k q hq
    match k, hq with
    | 0, hq => cases hq; exact hKn0
    | 1, hq => cases hq; exact hKn1
    | 2, hq => cases hq; exact hKn2
    | 3, hq => cases hq; exact hKn3
    | 4, hq => cases hq; exact hKn4
    | 5, hq => cases hq; exact hKn5
    | 6, hq => cases hq; exact hKn6
    | k + 7, hq => simp [vwCl] at hq
  have hS : va_S (fun q : Nat => s.heap.size ≤ q) s.heap s.heap [] := va_S.rf
  have hK : va_K D vwCl [] s := ⟨hKc, fun k q h => by simp at h⟩
  have hP : va_P D vwCl [] s.heap := fun k q h => by simp at h
  have hD : va_D (fun q : Nat => s.heap.size ≤ q) [] := ⟨fun i j p q h => by simp at h, fun k q h => by simp at h⟩
  have hl := lv_entry ([.ref b]) (n := 4) (Nat.le_of_ble_eq_true rfl)
  rw [lg_entry_eq]
  generalize (lg_sl ([.ref b]) ++ List.replicate (4 - (lg_sl ([.ref b])).length) Slot.unset).toArray = ls at hl ⊢
  have hl : lv_has ls 4 [(0, .ref b)] := hl
  refine va_new (ci := 5) (fs := [.null, .null, .null, .null, .null, .null, .null, .int 0, .int 0, .int 0, .int 0, .long 0]) (C := RX7) (T := TX7) (N := 12) hx hb hts inlX7 tyX7 tyX7_ok hown (hts _ (List.mem_of_getElem? (i := 0) rfl)) (hts _ (List.mem_of_getElem? (i := 1) rfl)) (hts _ (List.mem_of_getElem? (i := 2) rfl)) hK hP hD hS hA rfl (fun j hj => by rcases (show j = 0 ∨ j = 1 ∨ j = 2 ∨ j = 3 ∨ j = 4 ∨ j = 5 ∨ j = 6 ∨ j = 7 ∨ j = 8 ∨ j = 9 ∨ j = 10 ∨ j = 11 by omega) with rfl | rfl | rfl | rfl | rfl | rfl | rfl | rfl | rfl | rfl | rfl | rfl <;> rfl) (Nat.le_of_ble_eq_true rfl) (Nat.le_of_ble_eq_true rfl) dL_law_0 (fun qx H hP hD hS => ?_)
  have hP : va_P D vwCl [(qx, .inr (5, [.null, .null, .null, .null, .null, .null, .null, .int 0, .int 0, .int 0, .int 0, .long 0]))] H := hP
  have hD : va_D (fun q : Nat => s.heap.size ≤ q) [(qx, .inr (5, [.null, .null, .null, .null, .null, .null, .null, .int 0, .int 0, .int 0, .int 0, .long 0]))] := hD
  refine W.widen (k := 1) (n := 12) (by omega) (by omega) ?_
  refine lv_dup hx hb dL_law_3 rfl ?_
  have hPc := hP.sub (ws' := [(qx, .inr (5, [.null, .null, .null, .null, .null, .null, .null, .int 0, .int 0, .int 0, .int 0, .long 0]))]) [0] rfl
  have hDc := hD.sub (ws' := [(qx, .inr (5, [.null, .null, .null, .null, .null, .null, .null, .int 0, .int 0, .int 0, .int 0, .long 0]))]) [0] (by decide) rfl
  have hKc := hK.sub (tys' := []) [] rfl
  have hFc := va_free (wc := [(qx, .inr (5, [.null, .null, .null, .null, .null, .null, .null, .int 0, .int 0, .int 0, .int 0, .long 0]))]) hD hS hA [0] rfl
  have hn11 : va_Nw (.methodLinkNest RX7 11 yX4_init RX7) s := va_Nw.of rfl (hts0 (.methodLinkNest RX7 11 yX4_init RX7) (by decide +kernel))
  have hn24 : va_Nw (.methodLinkNest RX7 24 yX3_init RX7) s := va_Nw.of rfl (hts0 (.methodLinkNest RX7 24 yX3_init RX7) (by decide +kernel))
  have hn31 : va_Nw (.methodLinkNest RX7 31 yX2_init RX7) s := va_Nw.of rfl (hts0 (.methodLinkNest RX7 31 yX2_init RX7) (by decide +kernel))
  have hn38 : va_Nw (.methodLinkNest RX7 38 yX5_init RX7) s := va_Nw.of rfl (hts0 (.methodLinkNest RX7 38 yX5_init RX7) (by decide +kernel))
  have hn45 : va_Nw (.methodLinkNest RX7 45 yX1_init RX7) s := va_Nw.of rfl (hts0 (.methodLinkNest RX7 45 yX1_init RX7) (by decide +kernel))
  refine va_callv (va_runI (As := []) (rest := [.ref qx]) ⟨hx, hb, hml, hown, hts⟩ (c_X7_init l D qx H.size _ hinit) (cwI 0 hts gL_law_X7_init rfl rfl rfl (hts _ (List.mem_of_getElem? (i := 2) rfl)) (hts _ (List.mem_of_getElem? (i := 6) rfl)) (hts _ (List.mem_of_getElem? (i := 7) rfl)) rfl (by decide +kernel) ⟨Nat.le_of_ble_eq_true rfl, Nat.le_of_ble_eq_true rfl⟩) ⟨fun a U g mk q => by obtain ⟨q0, q1, qP, qK, qD, z0, z1, z2, z3, z4⟩ := q; exact ⟨q0, q1, qP, va_K.moved (u := U) (U := U.calling g mk a) (Vm.Alike.refl U.vm) qK, qD, va_Nw.same rfl rfl z0, va_Nw.same rfl rfl z1, va_Nw.same rfl rfl z2, va_Nw.same rfl rfl z3, va_Nw.same rfl rfl z4⟩, fun U hU hW => ⟨rfl, by rw [hU], by rw [hU]; exact hPc, va_K.moved hW.alike hKc, hDc.weaken (fun _ _ _ _ => trivial), va_Nw.warmM hW hn11, va_Nw.warmM hW hn24, va_Nw.warmM hW hn31, va_Nw.warmM hW hn38, va_Nw.warmM hW hn45⟩⟩ rfl rfl hl.1 rfl (lv_room (Nat.le_of_ble_eq_true rfl)) dL_law_4 ⟨Nat.le_of_ble_eq_true rfl, Nat.le_of_ble_eq_true rfl⟩) hS (fun q _ h => hFc q h) hFc (fun σ t H1 locs ht hvm hw hB hz1 hk1 hS => ?_)
  obtain ⟨cI, aC, haC, hP1, hK1, hD1⟩ := hB
  subst haC
  rw [ht] at hP1
  have hKC := va_K.moved hvm.symm hK1
  have hP := hP1
  have hD : va_D (fun q : Nat => s.heap.size ≤ q) (wC cI aC σ) := hD1.weaken (fun _ q _ h => hFc q.1 h)
  clear hP1 hD1 hK1 hPc hDc hFc hk1 hz1
  generalize H1 = H at hP hS ⊢
  refine W.widen (k := 22) (n := 385) (by omega) (by omega) ?_
  refine lv_astore_n (lv' := [(1, .ref (aC 0)), (0, .ref b)]) hx hb dL_law_7 rfl hl (by decide) rfl (fun ls hl => ?_)
  refine va_new (ci := 6) (fs := [.null, .null, .null, .null, .null, .int 0, .null, .null, .null, .int 0, .int 0, .int 0, .null, .null, .null, .int 0, .long 0, .int 0, .null, .null, .null, .int 0, .null, .null, .null, .null, .null, .null]) (C := RX8) (T := TX8) (N := 28) hx hb hts inlX8 tyX8 tyX8_ok hown (hts _ (List.mem_of_getElem? (i := 3) rfl)) (hts _ (List.mem_of_getElem? (i := 4) rfl)) (hts _ (List.mem_of_getElem? (i := 5) rfl)) hK hP hD hS hA rfl (fun j hj => by rcases (show j = 0 ∨ j = 1 ∨ j = 2 ∨ j = 3 ∨ j = 4 ∨ j = 5 ∨ j = 6 ∨ j = 7 ∨ j = 8 ∨ j = 9 ∨ j = 10 ∨ j = 11 ∨ j = 12 ∨ j = 13 ∨ j = 14 ∨ j = 15 ∨ j = 16 ∨ j = 17 ∨ j = 18 ∨ j = 19 ∨ j = 20 ∨ j = 21 ∨ j = 22 ∨ j = 23 ∨ j = 24 ∨ j = 25 ∨ j = 26 ∨ j = 27 by omega) with rfl | rfl | rfl | rfl | rfl | rfl | rfl | rfl | rfl | rfl | rfl | rfl | rfl | rfl | rfl | rfl | rfl | rfl | rfl | rfl | rfl | rfl | rfl | rfl | rfl | rfl | rfl | rfl <;> rfl) (Nat.le_of_ble_eq_true rfl) (Nat.le_of_ble_eq_true rfl) dL_law_8 (fun qy H hP hD hS => ?_)
  refine W.widen (k := 23) (n := 413) (by omega) (by omega) ?_
  refine lv_dup hx hb dL_law_11 rfl ?_
  have hPc := hP.sub (ws' := [(qy, .inr (6, [.null, .null, .null, .null, .null, .int 0, .null, .null, .null, .int 0, .int 0, .int 0, .null, .null, .null, .int 0, .long 0, .int 0, .null, .null, .null, .int 0, .null, .null, .null, .null, .null, .null]))]) [22] rfl
  have hDc := hD.sub (ws' := [(qy, .inr (6, [.null, .null, .null, .null, .null, .int 0, .null, .null, .null, .int 0, .int 0, .int 0, .null, .null, .null, .int 0, .long 0, .int 0, .null, .null, .null, .int 0, .null, .null, .null, .null, .null, .null]))]) [22] (by decide) rfl
  have hKc := hK.sub (tys' := []) [] rfl
  have hFc := va_free (wc := [(qy, .inr (6, [.null, .null, .null, .null, .null, .int 0, .null, .null, .null, .int 0, .int 0, .int 0, .null, .null, .null, .int 0, .long 0, .int 0, .null, .null, .null, .int 0, .null, .null, .null, .null, .null, .null]))]) hD hS hA [22] rfl
  refine va_callv (va_runI (As := []) (rest := [.ref qy]) ⟨hx, hb, hml, hown, hts⟩ (c_X8_init l D qy H.size (fun τ => Rel 0 σ τ) hw) (cwI 0 hts gL_law_X8_init rfl rfl rfl (hts _ (List.mem_of_getElem? (i := 5) rfl)) (hts _ (List.mem_of_getElem? (i := 100) rfl)) (hts _ (List.mem_of_getElem? (i := 101) rfl)) rfl (by decide +kernel) ⟨Nat.le_of_ble_eq_true rfl, Nat.le_of_ble_eq_true rfl⟩) ⟨fun a U g mk q => by obtain ⟨q0, q1, qP, qK, qD⟩ := q; exact ⟨q0, q1, qP, va_K.moved (u := U) (U := U.calling g mk a) (Vm.Alike.refl U.vm) qK, qD⟩, fun U hU hW => ⟨rfl, by rw [hU], by rw [hU]; exact hPc, va_K.moved hW.alike hKc, hDc.weaken (fun _ _ _ _ => trivial)⟩⟩ rfl rfl hl.1 rfl (lv_room (Nat.le_of_ble_eq_true rfl)) dL_law_12 ⟨Nat.le_of_ble_eq_true rfl, Nat.le_of_ble_eq_true rfl⟩) hS (fun q _ h => hFc q h) hFc (fun τ t H1 locs ht hvm hw hB hz1 hk1 hS => ?_)
  obtain ⟨cJ, cZ, aM, haM, hP1, hK1, hD1⟩ := hB
  subst haM
  rw [ht] at hP1
  have hKM := va_K.moved hvm.symm hK1
  obtain ⟨hP, hD⟩ := va_join (wr := wC cI aC σ) (w1 := wM cJ cZ aM τ) hP hD [22] [0, 1, 2, 3, 4, 5, 6, 7, 8, 9, 10, 11, 12, 13, 14, 15, 16, 17, 18, 19, 20, 21] rfl rfl (by decide) (by decide) hk1 hFc hP1 hD1
  have hPC := hP.sub (ws' := wC cI aC σ) [0, 1, 2, 3, 4, 5, 6, 7, 8, 9, 10, 11, 12, 13, 14, 15, 16, 17, 18, 19, 20, 21] rfl
  have hPM := hP.sub (ws' := wM cJ cZ aM τ) [22, 23, 24, 25, 26, 27, 28, 29, 30, 31, 32, 33, 34, 35, 36, 37, 38, 39, 40, 41, 42] rfl
  have hDC := hD.sub (ws' := wC cI aC σ) [0, 1, 2, 3, 4, 5, 6, 7, 8, 9, 10, 11, 12, 13, 14, 15, 16, 17, 18, 19, 20, 21] (by decide) rfl
  have hDM := hD.sub (ws' := wM cJ cZ aM τ) [22, 23, 24, 25, 26, 27, 28, 29, 30, 31, 32, 33, 34, 35, 36, 37, 38, 39, 40, 41, 42] (by decide) rfl
  generalize H1 = H at hPC hPM hS ⊢
  refine W.widen (k := 43) (n := 1175) (by omega) (by omega) ?_
  refine lv_astore_n (lv' := [(2, .ref (aM 0)), (1, .ref (aC 0)), (0, .ref b)]) hx hb dL_law_15 rfl hl (by decide) rfl (fun ls hl => ?_)
  refine lv_iconst (v := 0) hx hb dL_law_16 (by decide) ?_
  refine lv_istore_n (lv' := [(3, .int 0), (2, .ref (aM 0)), (1, .ref (aC 0)), (0, .ref b)]) hx hb dL_law_17 rfl hl (by decide) rfl (fun ls hl => ?_)
  exact law_loop (AC := fun q => ∃ (k : Nat) (e : va_E), (wC cI aC σ)[k]? = some (q, e)) (AM := fun q => ∃ (k : Nat) (e : va_E), (wM cJ cZ aM τ)[k]? = some (q, e)) hsim hmono hL C0 (fun q ⟨k, e, h⟩ => hDC.2 k _ h) (fun q ⟨k, e, h⟩ => hDM.2 k _ h) (fun q h1 h2 => apart_app hD h1 h2) hKC hKM (L + 1) 0 0 (by omega) (by omega) nI_0.symm σ τ hw H _ hPC ⟨hDC.1, fun k q h => ⟨k, q.2, h⟩⟩ hPM ⟨hDM.1, fun k q h => ⟨k, q.2, h⟩⟩ hS ls (lv_sub hl [3, 2, 1, 0] rfl)
