set_option maxHeartbeats 16000000 in
set_option maxRecDepth 100000 in
theorem law_loop {p : Program} {l : Launch} {e : Env} {s : State} {m : MethodId} {below : List Frame} {meth : Method} {c : Code} {D : va_G} {cI cJ cZ : ClassId} {aC aM : Nat → Nat} {AC AM : Nat → Prop} {b L : Nat} {xs : Nat → Int32} {Rel : Nat → St → St → Prop} (hsim : SIMS Rel) (hmono : ∀ n σ τ, Rel n σ τ → Rel (n + 1) σ τ) (hL : L ≤ 3072) (C0 : lw_At p s m meth c b L xs) (hAC : ∀ q, AC q → s.heap.size ≤ q) (hAM : ∀ q, AM q → s.heap.size ≤ q) (hdis : ∀ q, AC q → AM q → False) (hKC : va_K D vwCl [(cI, FieldType.int)] s) (hKM : va_K D vwCl [(cJ, FieldType.int), (cZ, FieldType.boolean)] s) :
    ∀ (n j : Nat) (x3 : Int32), L < 6 * (j + n) → 6 * j ≤ 3072 → x3 = nI (6 * j) → ∀ (σ τ : St), Rel j σ τ → ∀ (H : Heap) (locs : List Loc), va_P D vwCl (wC cI aC σ) H → va_D AC (wC cI aC σ) → va_P D vwCl (wM cJ cZ aM τ) H → va_D AM (wM cJ cZ aM τ) → va_S (fun q : Nat => s.heap.size ≤ q) s.heap H locs → ∀ (ls : Array Slot), lv_has ls 4 [(0, .ref b), (1, .ref (aC 0)), (2, .ref (aM 0)), (3, .int x3)] → W p l e room_1 s m #[Value.ref b] below meth c H locs 43 1175 (lw_Z below #[Value.ref b] s) (F0 m 18 ls []) := by
  obtain ⟨hx, hb, hr, hml, hown, hts0, hX, hbl, hlocks, hgv⟩ := C0
  have hts : ∀ w ∈ wsL_law, w.before #[Value.ref b] s = true := fun w h => hts0 w (wsL_law_in w h)
  have hbA : ¬ (fun q : Nat => s.heap.size ≤ q) b := Nat.not_le.mpr hbl
  have hdis2 : ∀ q, AM q → AC q → False := fun q h1 h2 => hdis q h2 h1
  obtain ⟨hs_start, hs_set, hs_forget, hs_copy, hs_load, hs_part, hs_store, hs_loadAt, hs_storeAt, hs_rule, hs_decide, hs_let, hs_giveBack, hs_drift, hs_lot, hs_undo, hs_told, hs_mark, hs_register, hs_octet, hs_ground, hs_cry, hs_ring, hs_shadow, hs_exact, hs_keep, hs_goBack⟩ := hsim
  intro n
  induction n with
  | zero =>
    intro j x3 h1 h2 ex3 σ τ hR H locs hPC hDC hPM hDM hS ls hl
    refine lv_iload_n hx hb dL_law_18 rfl (lv_at hl 3 rfl) ?_
    refine lv_aload_n hx hb dL_law_19 rfl (lv_at hl 0 rfl) ?_
    refine va_slen hx hb hX hbl hbA hS dL_law_20 ?_
    refine lv_bipush (v := 6) hx hb dL_law_21 (by decide) ?_
    refine lv_isub hx hb dL_law_23 ?_
    refine lv_icmp_gt (tgt := 1034) hx hb dL_law_24 (by decide) (fun c9 => ?_) (fun c9 => ?_)
    · refine lv_iconst (v := 1) hx hb dL_law_1034 (by decide) ?_
      refine va_forget (fun q hq => hS.2.2 q hq) ?_
      exact lw_ret hx hb hr hlocks dL_law_1035
    · exfalso
      apply c9
      rw [ex3, Int32.lt_iff_toInt_lt, nI_toInt (by omega), show (6 : Int32) = nI 6 from rfl, show Int32.ofNat L = nI L from rfl, pk_sub_toInt (by omega) (by omega)]
      omega
  | succ n ih =>
    intro j x3 h1 h2 ex3 σ τ hR H locs hPC hDC hPM hDM hS ls hl
    have hnext : ∀ (σ τ : St), Rel (j + 1) σ τ → 6 * j + 6 ≤ L → ∀ (H : Heap) (locs : List Loc), va_P D vwCl (wC cI aC σ) H → va_D AC (wC cI aC σ) → va_P D vwCl (wM cJ cZ aM τ) H → va_D AM (wM cJ cZ aM τ) → va_S (fun q : Nat => s.heap.size ≤ q) s.heap H locs → W p l e room_1 s m #[Value.ref b] below meth c H locs 43 1175 (lw_Z below #[Value.ref b] s) (F0 m 1028 ls []) := by
      intro σ τ hR hj H locs hPC hDC hPM hDM hS
      obtain ⟨x4, ex4⟩ : ∃ y : Int32, y = x3 + 6 := ⟨_, rfl⟩
      refine lv_iinc (v := x4) (lv' := [(3, .int x4), (0, .ref b), (1, .ref (aC 0)), (2, .ref (aM 0))]) hx hb dL_law_1028 hl (k := 3) rfl (by rw [ex4]; rfl) (by decide) rfl (fun ls hl => ?_)
      refine lv_goto (tgt := 18) hx hb dL_law_1031 (by decide) ?_
      exact ih (j + 1) x4 (by omega) (by omega) (by rw [ex4, ex3, show (6 : Int32) = nI 6 from rfl, nI_add, show 6 * j + 6 = 6 * (j + 1) by omega]) σ τ hR H locs hPC hDC hPM hDM hS ls (lv_sub hl [1, 2, 3, 0] rfl)
    refine lv_iload_n hx hb dL_law_18 rfl (lv_at hl 3 rfl) ?_
    refine lv_aload_n hx hb dL_law_19 rfl (lv_at hl 0 rfl) ?_
    refine va_slen hx hb hX hbl hbA hS dL_law_20 ?_
    refine lv_bipush (v := 6) hx hb dL_law_21 (by decide) ?_
    refine lv_isub hx hb dL_law_23 ?_
    refine lv_icmp_gt (tgt := 1034) hx hb dL_law_24 (by decide) (fun c9 => ?_) (fun c9 => ?_)
    · refine lv_iconst (v := 1) hx hb dL_law_1034 (by decide) ?_
      refine va_forget (fun q hq => hS.2.2 q hq) ?_
      exact lw_ret hx hb hr hlocks dL_law_1035
    have hj : 6 * j + 6 ≤ L := by
      rw [ex3, Int32.lt_iff_toInt_lt, nI_toInt (by omega), show (6 : Int32) = nI 6 from rfl, show Int32.ofNat L = nI L from rfl, pk_sub_toInt (by omega) (by omega)] at c9
      omega
    have hj5 : j < 512 := by omega
    have hv0 : vp_in x3 L := by rw [ex3]; exact vp_in_nI (by omega) (by omega)
    have hv1 : vp_in (x3 + 1) L := by rw [ex3, show (1 : Int32) = nI 1 from rfl, nI_add]; exact vp_in_nI (by omega) (by omega)
    have hv2 : vp_in (x3 + 2) L := by rw [ex3, show (2 : Int32) = nI 2 from rfl, nI_add]; exact vp_in_nI (by omega) (by omega)
    have hv3 : vp_in (x3 + 3) L := by rw [ex3, show (3 : Int32) = nI 3 from rfl, nI_add]; exact vp_in_nI (by omega) (by omega)
    have hv4 : vp_in (x3 + 4) L := by rw [ex3, show (4 : Int32) = nI 4 from rfl, nI_add]; exact vp_in_nI (by omega) (by omega)
    have hv5 : vp_in (x3 + 5) L := by rw [ex3, show (5 : Int32) = nI 5 from rfl, nI_add]; exact vp_in_nI (by omega) (by omega)
    refine lv_aload_n hx hb dL_law_27 rfl (lv_at hl 0 rfl) ?_
    refine lv_iload_n hx hb dL_law_28 rfl (lv_at hl 3 rfl) ?_
    refine va_sld hx hb hX hbl hbA hS hv0 dL_law_29 ?_
    refine lv_bipush (v := 31) hx hb dL_law_30 (by decide) ?_
    refine lv_iand hx hb dL_law_32 ?_
    refine lv_topi (fun xo exo => ?_)
    by_cases q0 : xo = (0 : Int32)
    · refine lv_tableIn (off := 123) (tgt := 156) hx hb dL_law_33 (by rw [q0]; decide) (by rw [q0]; decide) (by rw [q0]; rfl) (by decide) ?_
      refine lv_aload_n hx hb dL_law_156 rfl (lv_at hl 1 rfl) ?_
      refine L_calli (As := []) (rest := []) ⟨hx, hb, hml, hown, hts⟩ hKC hPC hDC hPM hDM hdis hAC hS 0 5 rfl rfl (c_X7_start l D cI aC AC σ _ (hs_start j σ τ hj5 hR)) (cwV 0 hts gL_law_X7_start rfl rfl rfl (by decide +kernel) ⟨Nat.le_of_ble_eq_true rfl, Nat.le_of_ble_eq_true rfl⟩) rfl hl.1 rfl (Nat.le_of_ble_eq_true rfl) dL_law_157 ⟨Nat.le_of_ble_eq_true rfl, Nat.le_of_ble_eq_true rfl⟩ (fun r1 σ1 hw H locs hPC hDC hPM hS => ?_)
      refine lv_aload_n hx hb dL_law_160 rfl (lv_at hl 2 rfl) ?_
      refine L_calli (As := []) (rest := [.int r1]) ⟨hx, hb, hml, hown, hts⟩ hKM hPM hDM hPC hDC hdis2 hAM hS 0 6 rfl rfl (c_X8_start l D cJ cZ aM AM τ _ hw) (cwV 0 hts gL_law_X8_start rfl rfl rfl (by decide +kernel) ⟨Nat.le_of_ble_eq_true rfl, Nat.le_of_ble_eq_true rfl⟩) rfl hl.1 rfl (Nat.le_of_ble_eq_true rfl) dL_law_161 ⟨Nat.le_of_ble_eq_true rfl, Nat.le_of_ble_eq_true rfl⟩ (fun r2 τ1 hw H locs hPM hDM hPC hS => ?_)
      refine lv_icmp_eq (tgt := 1028) hx hb dL_law_164 (by decide) (fun _ => hnext σ1 τ1 hw.2 hj H locs hPC hDC hPM hDM hS) (fun c8 => absurd hw.1 c8)
    by_cases q1 : xo = (1 : Int32)
    · refine lv_tableIn (off := 136) (tgt := 169) hx hb dL_law_33 (by rw [q1]; decide) (by rw [q1]; decide) (by rw [q1]; rfl) (by decide) ?_
      refine lv_aload_n hx hb dL_law_169 rfl (lv_at hl 1 rfl) ?_
      refine lv_aload_n hx hb dL_law_170 rfl (lv_at hl 0 rfl) ?_
      refine lv_iload_n hx hb dL_law_171 rfl (lv_at hl 3 rfl) ?_
      refine lv_iconst (v := 1) hx hb dL_law_172 (by decide) ?_
      refine lv_iadd hx hb dL_law_173 ?_
      refine va_sld hx hb hX hbl hbA hS hv1 dL_law_174 ?_
      refine lv_aload_n hx hb dL_law_175 rfl (lv_at hl 0 rfl) ?_
      refine lv_iload_n hx hb dL_law_176 rfl (lv_at hl 3 rfl) ?_
      refine lv_iconst (v := 2) hx hb dL_law_177 (by decide) ?_
      refine lv_iadd hx hb dL_law_178 ?_
      refine va_sld hx hb hX hbl hbA hS hv2 dL_law_179 ?_
      refine L_calli (As := [.int (xs (x3 + 1).toNatClampNeg), .int (xs (x3 + 2).toNatClampNeg)]) (rest := []) ⟨hx, hb, hml, hown, hts⟩ hKC hPC hDC hPM hDM hdis hAC hS 0 5 rfl rfl (c_X7_set l D cI aC AC σ (xs (x3 + 1).toNatClampNeg) (xs (x3 + 2).toNatClampNeg) _ (hs_set j σ τ (xs (x3 + 1).toNatClampNeg) (xs (x3 + 2).toNatClampNeg) hj5 hR)) (cwV 2 hts gL_law_X7_set rfl rfl rfl (by decide +kernel) ⟨Nat.le_of_ble_eq_true rfl, Nat.le_of_ble_eq_true rfl⟩) rfl hl.1 rfl (Nat.le_of_ble_eq_true rfl) dL_law_180 ⟨Nat.le_of_ble_eq_true rfl, Nat.le_of_ble_eq_true rfl⟩ (fun r1 σ1 hw H locs hPC hDC hPM hS => ?_)
      refine lv_aload_n hx hb dL_law_183 rfl (lv_at hl 2 rfl) ?_
      refine lv_aload_n hx hb dL_law_184 rfl (lv_at hl 0 rfl) ?_
      refine lv_iload_n hx hb dL_law_185 rfl (lv_at hl 3 rfl) ?_
      refine lv_iconst (v := 1) hx hb dL_law_186 (by decide) ?_
      refine lv_iadd hx hb dL_law_187 ?_
      refine va_sld hx hb hX hbl hbA hS hv1 dL_law_188 ?_
      refine lv_aload_n hx hb dL_law_189 rfl (lv_at hl 0 rfl) ?_
      refine lv_iload_n hx hb dL_law_190 rfl (lv_at hl 3 rfl) ?_
      refine lv_iconst (v := 2) hx hb dL_law_191 (by decide) ?_
      refine lv_iadd hx hb dL_law_192 ?_
      refine va_sld hx hb hX hbl hbA hS hv2 dL_law_193 ?_
      refine L_calli (As := [.int (xs (x3 + 1).toNatClampNeg), .int (xs (x3 + 2).toNatClampNeg)]) (rest := [.int r1]) ⟨hx, hb, hml, hown, hts⟩ hKM hPM hDM hPC hDC hdis2 hAM hS 0 6 rfl rfl (c_X8_set l D cJ cZ aM AM τ (xs (x3 + 1).toNatClampNeg) (xs (x3 + 2).toNatClampNeg) _ hw) (cwV 2 hts gL_law_X8_set rfl rfl rfl (by decide +kernel) ⟨Nat.le_of_ble_eq_true rfl, Nat.le_of_ble_eq_true rfl⟩) rfl hl.1 rfl (Nat.le_of_ble_eq_true rfl) dL_law_194 ⟨Nat.le_of_ble_eq_true rfl, Nat.le_of_ble_eq_true rfl⟩ (fun r2 τ1 hw H locs hPM hDM hPC hS => ?_)
      refine lv_icmp_eq (tgt := 1028) hx hb dL_law_197 (by decide) (fun _ => hnext σ1 τ1 hw.2 hj H locs hPC hDC hPM hDM hS) (fun c8 => absurd hw.1 c8)
    by_cases q2 : xo = (2 : Int32)
    · refine lv_tableIn (off := 169) (tgt := 202) hx hb dL_law_33 (by rw [q2]; decide) (by rw [q2]; decide) (by rw [q2]; rfl) (by decide) ?_
      refine lv_aload_n hx hb dL_law_202 rfl (lv_at hl 1 rfl) ?_
      refine lv_aload_n hx hb dL_law_203 rfl (lv_at hl 0 rfl) ?_
      refine lv_iload_n hx hb dL_law_204 rfl (lv_at hl 3 rfl) ?_
      refine lv_iconst (v := 1) hx hb dL_law_205 (by decide) ?_
      refine lv_iadd hx hb dL_law_206 ?_
      refine va_sld hx hb hX hbl hbA hS hv1 dL_law_207 ?_
      refine lv_aload_n hx hb dL_law_208 rfl (lv_at hl 0 rfl) ?_
      refine lv_iload_n hx hb dL_law_209 rfl (lv_at hl 3 rfl) ?_
      refine lv_iconst (v := 2) hx hb dL_law_210 (by decide) ?_
      refine lv_iadd hx hb dL_law_211 ?_
      refine va_sld hx hb hX hbl hbA hS hv2 dL_law_212 ?_
      refine lv_aload_n hx hb dL_law_213 rfl (lv_at hl 0 rfl) ?_
      refine lv_iload_n hx hb dL_law_214 rfl (lv_at hl 3 rfl) ?_
      refine lv_iconst (v := 3) hx hb dL_law_215 (by decide) ?_
      refine lv_iadd hx hb dL_law_216 ?_
      refine va_sld hx hb hX hbl hbA hS hv3 dL_law_217 ?_
      refine L_calli (As := [.int (xs (x3 + 1).toNatClampNeg), .int (xs (x3 + 2).toNatClampNeg), .int (xs (x3 + 3).toNatClampNeg)]) (rest := []) ⟨hx, hb, hml, hown, hts⟩ hKC hPC hDC hPM hDM hdis hAC hS 0 5 rfl rfl (c_X7_forget l D cI aC AC σ (xs (x3 + 1).toNatClampNeg) (xs (x3 + 2).toNatClampNeg) (xs (x3 + 3).toNatClampNeg) _ (hs_forget j σ τ (xs (x3 + 1).toNatClampNeg) (xs (x3 + 2).toNatClampNeg) (xs (x3 + 3).toNatClampNeg) hj5 hR)) (cwV 3 hts gL_law_X7_forget rfl rfl rfl (by decide +kernel) ⟨Nat.le_of_ble_eq_true rfl, Nat.le_of_ble_eq_true rfl⟩) rfl hl.1 rfl (Nat.le_of_ble_eq_true rfl) dL_law_218 ⟨Nat.le_of_ble_eq_true rfl, Nat.le_of_ble_eq_true rfl⟩ (fun r1 σ1 hw H locs hPC hDC hPM hS => ?_)
      refine lv_aload_n hx hb dL_law_221 rfl (lv_at hl 2 rfl) ?_
      refine lv_aload_n hx hb dL_law_222 rfl (lv_at hl 0 rfl) ?_
      refine lv_iload_n hx hb dL_law_223 rfl (lv_at hl 3 rfl) ?_
      refine lv_iconst (v := 1) hx hb dL_law_224 (by decide) ?_
      refine lv_iadd hx hb dL_law_225 ?_
      refine va_sld hx hb hX hbl hbA hS hv1 dL_law_226 ?_
      refine lv_aload_n hx hb dL_law_227 rfl (lv_at hl 0 rfl) ?_
      refine lv_iload_n hx hb dL_law_228 rfl (lv_at hl 3 rfl) ?_
      refine lv_iconst (v := 2) hx hb dL_law_229 (by decide) ?_
      refine lv_iadd hx hb dL_law_230 ?_
      refine va_sld hx hb hX hbl hbA hS hv2 dL_law_231 ?_
      refine lv_aload_n hx hb dL_law_232 rfl (lv_at hl 0 rfl) ?_
      refine lv_iload_n hx hb dL_law_233 rfl (lv_at hl 3 rfl) ?_
      refine lv_iconst (v := 3) hx hb dL_law_234 (by decide) ?_
      refine lv_iadd hx hb dL_law_235 ?_
      refine va_sld hx hb hX hbl hbA hS hv3 dL_law_236 ?_
      refine L_calli (As := [.int (xs (x3 + 1).toNatClampNeg), .int (xs (x3 + 2).toNatClampNeg), .int (xs (x3 + 3).toNatClampNeg)]) (rest := [.int r1]) ⟨hx, hb, hml, hown, hts⟩ hKM hPM hDM hPC hDC hdis2 hAM hS 0 6 rfl rfl (c_X8_forget l D cJ cZ aM AM τ (xs (x3 + 1).toNatClampNeg) (xs (x3 + 2).toNatClampNeg) (xs (x3 + 3).toNatClampNeg) _ hw) (cwV 3 hts gL_law_X8_forget rfl rfl rfl (by decide +kernel) ⟨Nat.le_of_ble_eq_true rfl, Nat.le_of_ble_eq_true rfl⟩) rfl hl.1 rfl (Nat.le_of_ble_eq_true rfl) dL_law_237 ⟨Nat.le_of_ble_eq_true rfl, Nat.le_of_ble_eq_true rfl⟩ (fun r2 τ1 hw H locs hPM hDM hPC hS => ?_)
      refine lv_icmp_eq (tgt := 1028) hx hb dL_law_240 (by decide) (fun _ => hnext σ1 τ1 hw.2 hj H locs hPC hDC hPM hDM hS) (fun c8 => absurd hw.1 c8)
    by_cases q3 : xo = (3 : Int32)
    · refine lv_tableIn (off := 212) (tgt := 245) hx hb dL_law_33 (by rw [q3]; decide) (by rw [q3]; decide) (by rw [q3]; rfl) (by decide) ?_
      refine lv_aload_n hx hb dL_law_245 rfl (lv_at hl 1 rfl) ?_
      refine lv_aload_n hx hb dL_law_246 rfl (lv_at hl 0 rfl) ?_
      refine lv_iload_n hx hb dL_law_247 rfl (lv_at hl 3 rfl) ?_
      refine lv_iconst (v := 1) hx hb dL_law_248 (by decide) ?_
      refine lv_iadd hx hb dL_law_249 ?_
      refine va_sld hx hb hX hbl hbA hS hv1 dL_law_250 ?_
      refine lv_aload_n hx hb dL_law_251 rfl (lv_at hl 0 rfl) ?_
      refine lv_iload_n hx hb dL_law_252 rfl (lv_at hl 3 rfl) ?_
      refine lv_iconst (v := 2) hx hb dL_law_253 (by decide) ?_
      refine lv_iadd hx hb dL_law_254 ?_
      refine va_sld hx hb hX hbl hbA hS hv2 dL_law_255 ?_
      refine L_calli (As := [.int (xs (x3 + 1).toNatClampNeg), .int (xs (x3 + 2).toNatClampNeg)]) (rest := []) ⟨hx, hb, hml, hown, hts⟩ hKC hPC hDC hPM hDM hdis hAC hS 0 5 rfl rfl (c_X7_copy l D cI aC AC σ (xs (x3 + 1).toNatClampNeg) (xs (x3 + 2).toNatClampNeg) _ (hs_copy j σ τ (xs (x3 + 1).toNatClampNeg) (xs (x3 + 2).toNatClampNeg) hj5 hR)) (cwV 2 hts gL_law_X7_copy rfl rfl rfl (by decide +kernel) ⟨Nat.le_of_ble_eq_true rfl, Nat.le_of_ble_eq_true rfl⟩) rfl hl.1 rfl (Nat.le_of_ble_eq_true rfl) dL_law_256 ⟨Nat.le_of_ble_eq_true rfl, Nat.le_of_ble_eq_true rfl⟩ (fun r1 σ1 hw H locs hPC hDC hPM hS => ?_)
      refine lv_aload_n hx hb dL_law_259 rfl (lv_at hl 2 rfl) ?_
      refine lv_aload_n hx hb dL_law_260 rfl (lv_at hl 0 rfl) ?_
      refine lv_iload_n hx hb dL_law_261 rfl (lv_at hl 3 rfl) ?_
      refine lv_iconst (v := 1) hx hb dL_law_262 (by decide) ?_
      refine lv_iadd hx hb dL_law_263 ?_
      refine va_sld hx hb hX hbl hbA hS hv1 dL_law_264 ?_
      refine lv_aload_n hx hb dL_law_265 rfl (lv_at hl 0 rfl) ?_
      refine lv_iload_n hx hb dL_law_266 rfl (lv_at hl 3 rfl) ?_
      refine lv_iconst (v := 2) hx hb dL_law_267 (by decide) ?_
      refine lv_iadd hx hb dL_law_268 ?_
      refine va_sld hx hb hX hbl hbA hS hv2 dL_law_269 ?_
      refine L_calli (As := [.int (xs (x3 + 1).toNatClampNeg), .int (xs (x3 + 2).toNatClampNeg)]) (rest := [.int r1]) ⟨hx, hb, hml, hown, hts⟩ hKM hPM hDM hPC hDC hdis2 hAM hS 0 6 rfl rfl (c_X8_copy l D cJ cZ aM AM τ (xs (x3 + 1).toNatClampNeg) (xs (x3 + 2).toNatClampNeg) _ hw) (cwV 2 hts gL_law_X8_copy rfl rfl rfl (by decide +kernel) ⟨Nat.le_of_ble_eq_true rfl, Nat.le_of_ble_eq_true rfl⟩) rfl hl.1 rfl (Nat.le_of_ble_eq_true rfl) dL_law_270 ⟨Nat.le_of_ble_eq_true rfl, Nat.le_of_ble_eq_true rfl⟩ (fun r2 τ1 hw H locs hPM hDM hPC hS => ?_)
      refine lv_icmp_eq (tgt := 1028) hx hb dL_law_273 (by decide) (fun _ => hnext σ1 τ1 hw.2 hj H locs hPC hDC hPM hDM hS) (fun c8 => absurd hw.1 c8)
    by_cases q4 : xo = (4 : Int32)
    · refine lv_tableIn (off := 245) (tgt := 278) hx hb dL_law_33 (by rw [q4]; decide) (by rw [q4]; decide) (by rw [q4]; rfl) (by decide) ?_
      refine lv_aload_n hx hb dL_law_278 rfl (lv_at hl 1 rfl) ?_
      refine lv_aload_n hx hb dL_law_279 rfl (lv_at hl 0 rfl) ?_
      refine lv_iload_n hx hb dL_law_280 rfl (lv_at hl 3 rfl) ?_
      refine lv_iconst (v := 1) hx hb dL_law_281 (by decide) ?_
      refine lv_iadd hx hb dL_law_282 ?_
      refine va_sld hx hb hX hbl hbA hS hv1 dL_law_283 ?_
      refine lv_aload_n hx hb dL_law_284 rfl (lv_at hl 0 rfl) ?_
      refine lv_iload_n hx hb dL_law_285 rfl (lv_at hl 3 rfl) ?_
      refine lv_iconst (v := 2) hx hb dL_law_286 (by decide) ?_
      refine lv_iadd hx hb dL_law_287 ?_
      refine va_sld hx hb hX hbl hbA hS hv2 dL_law_288 ?_
      refine L_calli (As := [.int (xs (x3 + 1).toNatClampNeg), .int (xs (x3 + 2).toNatClampNeg)]) (rest := []) ⟨hx, hb, hml, hown, hts⟩ hKC hPC hDC hPM hDM hdis hAC hS 0 5 rfl rfl (c_X7_load l D cI aC AC σ (xs (x3 + 1).toNatClampNeg) (xs (x3 + 2).toNatClampNeg) _ (hs_load j σ τ (xs (x3 + 1).toNatClampNeg) (xs (x3 + 2).toNatClampNeg) hj5 hR)) (cwV 2 hts gL_law_X7_load rfl rfl rfl (by decide +kernel) ⟨Nat.le_of_ble_eq_true rfl, Nat.le_of_ble_eq_true rfl⟩) rfl hl.1 rfl (Nat.le_of_ble_eq_true rfl) dL_law_289 ⟨Nat.le_of_ble_eq_true rfl, Nat.le_of_ble_eq_true rfl⟩ (fun r1 σ1 hw H locs hPC hDC hPM hS => ?_)
      refine lv_aload_n hx hb dL_law_292 rfl (lv_at hl 2 rfl) ?_
      refine lv_aload_n hx hb dL_law_293 rfl (lv_at hl 0 rfl) ?_
      refine lv_iload_n hx hb dL_law_294 rfl (lv_at hl 3 rfl) ?_
      refine lv_iconst (v := 1) hx hb dL_law_295 (by decide) ?_
      refine lv_iadd hx hb dL_law_296 ?_
      refine va_sld hx hb hX hbl hbA hS hv1 dL_law_297 ?_
      refine lv_aload_n hx hb dL_law_298 rfl (lv_at hl 0 rfl) ?_
      refine lv_iload_n hx hb dL_law_299 rfl (lv_at hl 3 rfl) ?_
      refine lv_iconst (v := 2) hx hb dL_law_300 (by decide) ?_
      refine lv_iadd hx hb dL_law_301 ?_
      refine va_sld hx hb hX hbl hbA hS hv2 dL_law_302 ?_
      refine L_calli (As := [.int (xs (x3 + 1).toNatClampNeg), .int (xs (x3 + 2).toNatClampNeg)]) (rest := [.int r1]) ⟨hx, hb, hml, hown, hts⟩ hKM hPM hDM hPC hDC hdis2 hAM hS 0 6 rfl rfl (c_X8_load l D cJ cZ aM AM τ (xs (x3 + 1).toNatClampNeg) (xs (x3 + 2).toNatClampNeg) _ hw) (cwV 2 hts gL_law_X8_load rfl rfl rfl (by decide +kernel) ⟨Nat.le_of_ble_eq_true rfl, Nat.le_of_ble_eq_true rfl⟩) rfl hl.1 rfl (Nat.le_of_ble_eq_true rfl) dL_law_303 ⟨Nat.le_of_ble_eq_true rfl, Nat.le_of_ble_eq_true rfl⟩ (fun r2 τ1 hw H locs hPM hDM hPC hS => ?_)
      refine lv_icmp_eq (tgt := 1028) hx hb dL_law_306 (by decide) (fun _ => hnext σ1 τ1 hw.2 hj H locs hPC hDC hPM hDM hS) (fun c8 => absurd hw.1 c8)
    by_cases q5 : xo = (5 : Int32)
    · refine lv_tableIn (off := 278) (tgt := 311) hx hb dL_law_33 (by rw [q5]; decide) (by rw [q5]; decide) (by rw [q5]; rfl) (by decide) ?_
      refine lv_aload_n hx hb dL_law_311 rfl (lv_at hl 1 rfl) ?_
      refine lv_aload_n hx hb dL_law_312 rfl (lv_at hl 0 rfl) ?_
      refine lv_iload_n hx hb dL_law_313 rfl (lv_at hl 3 rfl) ?_
      refine lv_iconst (v := 1) hx hb dL_law_314 (by decide) ?_
      refine lv_iadd hx hb dL_law_315 ?_
      refine va_sld hx hb hX hbl hbA hS hv1 dL_law_316 ?_
      refine lv_aload_n hx hb dL_law_317 rfl (lv_at hl 0 rfl) ?_
      refine lv_iload_n hx hb dL_law_318 rfl (lv_at hl 3 rfl) ?_
      refine lv_iconst (v := 2) hx hb dL_law_319 (by decide) ?_
      refine lv_iadd hx hb dL_law_320 ?_
      refine va_sld hx hb hX hbl hbA hS hv2 dL_law_321 ?_
      refine lv_aload_n hx hb dL_law_322 rfl (lv_at hl 0 rfl) ?_
      refine lv_iload_n hx hb dL_law_323 rfl (lv_at hl 3 rfl) ?_
      refine lv_iconst (v := 3) hx hb dL_law_324 (by decide) ?_
      refine lv_iadd hx hb dL_law_325 ?_
      refine va_sld hx hb hX hbl hbA hS hv3 dL_law_326 ?_
      refine lv_aload_n hx hb dL_law_327 rfl (lv_at hl 0 rfl) ?_
      refine lv_iload_n hx hb dL_law_328 rfl (lv_at hl 3 rfl) ?_
      refine lv_iconst (v := 4) hx hb dL_law_329 (by decide) ?_
      refine lv_iadd hx hb dL_law_330 ?_
      refine va_sld hx hb hX hbl hbA hS hv4 dL_law_331 ?_
      refine L_calli (As := [.int (xs (x3 + 1).toNatClampNeg), .int (xs (x3 + 2).toNatClampNeg), .int (xs (x3 + 3).toNatClampNeg), .int (xs (x3 + 4).toNatClampNeg)]) (rest := []) ⟨hx, hb, hml, hown, hts⟩ hKC hPC hDC hPM hDM hdis hAC hS 0 5 rfl rfl (c_X7_part l D cI aC AC σ (xs (x3 + 1).toNatClampNeg) (xs (x3 + 2).toNatClampNeg) (xs (x3 + 3).toNatClampNeg) (xs (x3 + 4).toNatClampNeg) _ (hs_part j σ τ (xs (x3 + 1).toNatClampNeg) (xs (x3 + 2).toNatClampNeg) (xs (x3 + 3).toNatClampNeg) (xs (x3 + 4).toNatClampNeg) hj5 hR)) (cwV 4 hts gL_law_X7_part rfl rfl rfl (by decide +kernel) ⟨Nat.le_of_ble_eq_true rfl, Nat.le_of_ble_eq_true rfl⟩) rfl hl.1 rfl (Nat.le_of_ble_eq_true rfl) dL_law_332 ⟨Nat.le_of_ble_eq_true rfl, Nat.le_of_ble_eq_true rfl⟩ (fun r1 σ1 hw H locs hPC hDC hPM hS => ?_)
      refine lv_aload_n hx hb dL_law_335 rfl (lv_at hl 2 rfl) ?_
      refine lv_aload_n hx hb dL_law_336 rfl (lv_at hl 0 rfl) ?_
      refine lv_iload_n hx hb dL_law_337 rfl (lv_at hl 3 rfl) ?_
      refine lv_iconst (v := 1) hx hb dL_law_338 (by decide) ?_
      refine lv_iadd hx hb dL_law_339 ?_
      refine va_sld hx hb hX hbl hbA hS hv1 dL_law_340 ?_
      refine lv_aload_n hx hb dL_law_341 rfl (lv_at hl 0 rfl) ?_
      refine lv_iload_n hx hb dL_law_342 rfl (lv_at hl 3 rfl) ?_
      refine lv_iconst (v := 2) hx hb dL_law_343 (by decide) ?_
      refine lv_iadd hx hb dL_law_344 ?_
      refine va_sld hx hb hX hbl hbA hS hv2 dL_law_345 ?_
      refine lv_aload_n hx hb dL_law_346 rfl (lv_at hl 0 rfl) ?_
      refine lv_iload_n hx hb dL_law_347 rfl (lv_at hl 3 rfl) ?_
      refine lv_iconst (v := 3) hx hb dL_law_348 (by decide) ?_
      refine lv_iadd hx hb dL_law_349 ?_
      refine va_sld hx hb hX hbl hbA hS hv3 dL_law_350 ?_
      refine lv_aload_n hx hb dL_law_351 rfl (lv_at hl 0 rfl) ?_
      refine lv_iload_n hx hb dL_law_352 rfl (lv_at hl 3 rfl) ?_
      refine lv_iconst (v := 4) hx hb dL_law_353 (by decide) ?_
      refine lv_iadd hx hb dL_law_354 ?_
      refine va_sld hx hb hX hbl hbA hS hv4 dL_law_355 ?_
      refine L_calli (As := [.int (xs (x3 + 1).toNatClampNeg), .int (xs (x3 + 2).toNatClampNeg), .int (xs (x3 + 3).toNatClampNeg), .int (xs (x3 + 4).toNatClampNeg)]) (rest := [.int r1]) ⟨hx, hb, hml, hown, hts⟩ hKM hPM hDM hPC hDC hdis2 hAM hS 0 6 rfl rfl (c_X8_part l D cJ cZ aM AM τ (xs (x3 + 1).toNatClampNeg) (xs (x3 + 2).toNatClampNeg) (xs (x3 + 3).toNatClampNeg) (xs (x3 + 4).toNatClampNeg) _ hw) (cwV 4 hts gL_law_X8_part rfl rfl rfl (by decide +kernel) ⟨Nat.le_of_ble_eq_true rfl, Nat.le_of_ble_eq_true rfl⟩) rfl hl.1 rfl (Nat.le_of_ble_eq_true rfl) dL_law_356 ⟨Nat.le_of_ble_eq_true rfl, Nat.le_of_ble_eq_true rfl⟩ (fun r2 τ1 hw H locs hPM hDM hPC hS => ?_)
      refine lv_icmp_eq (tgt := 1028) hx hb dL_law_359 (by decide) (fun _ => hnext σ1 τ1 hw.2 hj H locs hPC hDC hPM hDM hS) (fun c8 => absurd hw.1 c8)
    by_cases q6 : xo = (6 : Int32)
    · refine lv_tableIn (off := 331) (tgt := 364) hx hb dL_law_33 (by rw [q6]; decide) (by rw [q6]; decide) (by rw [q6]; rfl) (by decide) ?_
      refine lv_aload_n hx hb dL_law_364 rfl (lv_at hl 1 rfl) ?_
      refine lv_aload_n hx hb dL_law_365 rfl (lv_at hl 0 rfl) ?_
      refine lv_iload_n hx hb dL_law_366 rfl (lv_at hl 3 rfl) ?_
      refine lv_iconst (v := 1) hx hb dL_law_367 (by decide) ?_
      refine lv_iadd hx hb dL_law_368 ?_
      refine va_sld hx hb hX hbl hbA hS hv1 dL_law_369 ?_
      refine lv_aload_n hx hb dL_law_370 rfl (lv_at hl 0 rfl) ?_
      refine lv_iload_n hx hb dL_law_371 rfl (lv_at hl 3 rfl) ?_
      refine lv_iconst (v := 2) hx hb dL_law_372 (by decide) ?_
      refine lv_iadd hx hb dL_law_373 ?_
      refine va_sld hx hb hX hbl hbA hS hv2 dL_law_374 ?_
      refine L_calli (As := [.int (xs (x3 + 1).toNatClampNeg), .int (xs (x3 + 2).toNatClampNeg)]) (rest := []) ⟨hx, hb, hml, hown, hts⟩ hKC hPC hDC hPM hDM hdis hAC hS 0 5 rfl rfl (c_X7_store l D cI aC AC σ (xs (x3 + 1).toNatClampNeg) (xs (x3 + 2).toNatClampNeg) _ (hs_store j σ τ (xs (x3 + 1).toNatClampNeg) (xs (x3 + 2).toNatClampNeg) hj5 hR)) (cwV 2 hts gL_law_X7_store rfl rfl rfl (by decide +kernel) ⟨Nat.le_of_ble_eq_true rfl, Nat.le_of_ble_eq_true rfl⟩) rfl hl.1 rfl (Nat.le_of_ble_eq_true rfl) dL_law_375 ⟨Nat.le_of_ble_eq_true rfl, Nat.le_of_ble_eq_true rfl⟩ (fun r1 σ1 hw H locs hPC hDC hPM hS => ?_)
      refine lv_aload_n hx hb dL_law_378 rfl (lv_at hl 2 rfl) ?_
      refine lv_aload_n hx hb dL_law_379 rfl (lv_at hl 0 rfl) ?_
      refine lv_iload_n hx hb dL_law_380 rfl (lv_at hl 3 rfl) ?_
      refine lv_iconst (v := 1) hx hb dL_law_381 (by decide) ?_
      refine lv_iadd hx hb dL_law_382 ?_
      refine va_sld hx hb hX hbl hbA hS hv1 dL_law_383 ?_
      refine lv_aload_n hx hb dL_law_384 rfl (lv_at hl 0 rfl) ?_
      refine lv_iload_n hx hb dL_law_385 rfl (lv_at hl 3 rfl) ?_
      refine lv_iconst (v := 2) hx hb dL_law_386 (by decide) ?_
      refine lv_iadd hx hb dL_law_387 ?_
      refine va_sld hx hb hX hbl hbA hS hv2 dL_law_388 ?_
      refine L_calli (As := [.int (xs (x3 + 1).toNatClampNeg), .int (xs (x3 + 2).toNatClampNeg)]) (rest := [.int r1]) ⟨hx, hb, hml, hown, hts⟩ hKM hPM hDM hPC hDC hdis2 hAM hS 0 6 rfl rfl (c_X8_store l D cJ cZ aM AM τ (xs (x3 + 1).toNatClampNeg) (xs (x3 + 2).toNatClampNeg) _ hw) (cwV 2 hts gL_law_X8_store rfl rfl rfl (by decide +kernel) ⟨Nat.le_of_ble_eq_true rfl, Nat.le_of_ble_eq_true rfl⟩) rfl hl.1 rfl (Nat.le_of_ble_eq_true rfl) dL_law_389 ⟨Nat.le_of_ble_eq_true rfl, Nat.le_of_ble_eq_true rfl⟩ (fun r2 τ1 hw H locs hPM hDM hPC hS => ?_)
      refine lv_icmp_eq (tgt := 1028) hx hb dL_law_392 (by decide) (fun _ => hnext σ1 τ1 hw.2 hj H locs hPC hDC hPM hDM hS) (fun c8 => absurd hw.1 c8)
    by_cases q7 : xo = (7 : Int32)
    · refine lv_tableIn (off := 364) (tgt := 397) hx hb dL_law_33 (by rw [q7]; decide) (by rw [q7]; decide) (by rw [q7]; rfl) (by decide) ?_
      refine lv_aload_n hx hb dL_law_397 rfl (lv_at hl 1 rfl) ?_
      refine lv_aload_n hx hb dL_law_398 rfl (lv_at hl 0 rfl) ?_
      refine lv_iload_n hx hb dL_law_399 rfl (lv_at hl 3 rfl) ?_
      refine lv_iconst (v := 1) hx hb dL_law_400 (by decide) ?_
      refine lv_iadd hx hb dL_law_401 ?_
      refine va_sld hx hb hX hbl hbA hS hv1 dL_law_402 ?_
      refine lv_aload_n hx hb dL_law_403 rfl (lv_at hl 0 rfl) ?_
      refine lv_iload_n hx hb dL_law_404 rfl (lv_at hl 3 rfl) ?_
      refine lv_iconst (v := 2) hx hb dL_law_405 (by decide) ?_
      refine lv_iadd hx hb dL_law_406 ?_
      refine va_sld hx hb hX hbl hbA hS hv2 dL_law_407 ?_
      refine L_calli (As := [.int (xs (x3 + 1).toNatClampNeg), .int (xs (x3 + 2).toNatClampNeg)]) (rest := []) ⟨hx, hb, hml, hown, hts⟩ hKC hPC hDC hPM hDM hdis hAC hS 0 5 rfl rfl (c_X7_loadAt l D cI aC AC σ (xs (x3 + 1).toNatClampNeg) (xs (x3 + 2).toNatClampNeg) _ (hs_loadAt j σ τ (xs (x3 + 1).toNatClampNeg) (xs (x3 + 2).toNatClampNeg) hj5 hR)) (cwV 2 hts gL_law_X7_loadAt rfl rfl rfl (by decide +kernel) ⟨Nat.le_of_ble_eq_true rfl, Nat.le_of_ble_eq_true rfl⟩) rfl hl.1 rfl (Nat.le_of_ble_eq_true rfl) dL_law_408 ⟨Nat.le_of_ble_eq_true rfl, Nat.le_of_ble_eq_true rfl⟩ (fun r1 σ1 hw H locs hPC hDC hPM hS => ?_)
      refine lv_aload_n hx hb dL_law_411 rfl (lv_at hl 2 rfl) ?_
      refine lv_aload_n hx hb dL_law_412 rfl (lv_at hl 0 rfl) ?_
      refine lv_iload_n hx hb dL_law_413 rfl (lv_at hl 3 rfl) ?_
      refine lv_iconst (v := 1) hx hb dL_law_414 (by decide) ?_
      refine lv_iadd hx hb dL_law_415 ?_
      refine va_sld hx hb hX hbl hbA hS hv1 dL_law_416 ?_
      refine lv_aload_n hx hb dL_law_417 rfl (lv_at hl 0 rfl) ?_
      refine lv_iload_n hx hb dL_law_418 rfl (lv_at hl 3 rfl) ?_
      refine lv_iconst (v := 2) hx hb dL_law_419 (by decide) ?_
      refine lv_iadd hx hb dL_law_420 ?_
      refine va_sld hx hb hX hbl hbA hS hv2 dL_law_421 ?_
      refine L_calli (As := [.int (xs (x3 + 1).toNatClampNeg), .int (xs (x3 + 2).toNatClampNeg)]) (rest := [.int r1]) ⟨hx, hb, hml, hown, hts⟩ hKM hPM hDM hPC hDC hdis2 hAM hS 0 6 rfl rfl (c_X8_loadAt l D cJ cZ aM AM τ (xs (x3 + 1).toNatClampNeg) (xs (x3 + 2).toNatClampNeg) _ hw) (cwV 2 hts gL_law_X8_loadAt rfl rfl rfl (by decide +kernel) ⟨Nat.le_of_ble_eq_true rfl, Nat.le_of_ble_eq_true rfl⟩) rfl hl.1 rfl (Nat.le_of_ble_eq_true rfl) dL_law_422 ⟨Nat.le_of_ble_eq_true rfl, Nat.le_of_ble_eq_true rfl⟩ (fun r2 τ1 hw H locs hPM hDM hPC hS => ?_)
      refine lv_icmp_eq (tgt := 1028) hx hb dL_law_425 (by decide) (fun _ => hnext σ1 τ1 hw.2 hj H locs hPC hDC hPM hDM hS) (fun c8 => absurd hw.1 c8)
    by_cases q8 : xo = (8 : Int32)
    · refine lv_tableIn (off := 397) (tgt := 430) hx hb dL_law_33 (by rw [q8]; decide) (by rw [q8]; decide) (by rw [q8]; rfl) (by decide) ?_
      refine lv_aload_n hx hb dL_law_430 rfl (lv_at hl 1 rfl) ?_
      refine lv_aload_n hx hb dL_law_431 rfl (lv_at hl 0 rfl) ?_
      refine lv_iload_n hx hb dL_law_432 rfl (lv_at hl 3 rfl) ?_
      refine lv_iconst (v := 1) hx hb dL_law_433 (by decide) ?_
      refine lv_iadd hx hb dL_law_434 ?_
      refine va_sld hx hb hX hbl hbA hS hv1 dL_law_435 ?_
      refine lv_aload_n hx hb dL_law_436 rfl (lv_at hl 0 rfl) ?_
      refine lv_iload_n hx hb dL_law_437 rfl (lv_at hl 3 rfl) ?_
      refine lv_iconst (v := 2) hx hb dL_law_438 (by decide) ?_
      refine lv_iadd hx hb dL_law_439 ?_
      refine va_sld hx hb hX hbl hbA hS hv2 dL_law_440 ?_
      refine L_calli (As := [.int (xs (x3 + 1).toNatClampNeg), .int (xs (x3 + 2).toNatClampNeg)]) (rest := []) ⟨hx, hb, hml, hown, hts⟩ hKC hPC hDC hPM hDM hdis hAC hS 0 5 rfl rfl (c_X7_storeAt l D cI aC AC σ (xs (x3 + 1).toNatClampNeg) (xs (x3 + 2).toNatClampNeg) _ (hs_storeAt j σ τ (xs (x3 + 1).toNatClampNeg) (xs (x3 + 2).toNatClampNeg) hj5 hR)) (cwV 2 hts gL_law_X7_storeAt rfl rfl rfl (by decide +kernel) ⟨Nat.le_of_ble_eq_true rfl, Nat.le_of_ble_eq_true rfl⟩) rfl hl.1 rfl (Nat.le_of_ble_eq_true rfl) dL_law_441 ⟨Nat.le_of_ble_eq_true rfl, Nat.le_of_ble_eq_true rfl⟩ (fun r1 σ1 hw H locs hPC hDC hPM hS => ?_)
      refine lv_aload_n hx hb dL_law_444 rfl (lv_at hl 2 rfl) ?_
      refine lv_aload_n hx hb dL_law_445 rfl (lv_at hl 0 rfl) ?_
      refine lv_iload_n hx hb dL_law_446 rfl (lv_at hl 3 rfl) ?_
      refine lv_iconst (v := 1) hx hb dL_law_447 (by decide) ?_
      refine lv_iadd hx hb dL_law_448 ?_
      refine va_sld hx hb hX hbl hbA hS hv1 dL_law_449 ?_
      refine lv_aload_n hx hb dL_law_450 rfl (lv_at hl 0 rfl) ?_
      refine lv_iload_n hx hb dL_law_451 rfl (lv_at hl 3 rfl) ?_
      refine lv_iconst (v := 2) hx hb dL_law_452 (by decide) ?_
      refine lv_iadd hx hb dL_law_453 ?_
      refine va_sld hx hb hX hbl hbA hS hv2 dL_law_454 ?_
      refine L_calli (As := [.int (xs (x3 + 1).toNatClampNeg), .int (xs (x3 + 2).toNatClampNeg)]) (rest := [.int r1]) ⟨hx, hb, hml, hown, hts⟩ hKM hPM hDM hPC hDC hdis2 hAM hS 0 6 rfl rfl (c_X8_storeAt l D cJ cZ aM AM τ (xs (x3 + 1).toNatClampNeg) (xs (x3 + 2).toNatClampNeg) _ hw) (cwV 2 hts gL_law_X8_storeAt rfl rfl rfl (by decide +kernel) ⟨Nat.le_of_ble_eq_true rfl, Nat.le_of_ble_eq_true rfl⟩) rfl hl.1 rfl (Nat.le_of_ble_eq_true rfl) dL_law_455 ⟨Nat.le_of_ble_eq_true rfl, Nat.le_of_ble_eq_true rfl⟩ (fun r2 τ1 hw H locs hPM hDM hPC hS => ?_)
      refine lv_icmp_eq (tgt := 1028) hx hb dL_law_458 (by decide) (fun _ => hnext σ1 τ1 hw.2 hj H locs hPC hDC hPM hDM hS) (fun c8 => absurd hw.1 c8)
    by_cases q9 : xo = (9 : Int32)
    · refine lv_tableIn (off := 430) (tgt := 463) hx hb dL_law_33 (by rw [q9]; decide) (by rw [q9]; decide) (by rw [q9]; rfl) (by decide) ?_
      refine lv_aload_n hx hb dL_law_463 rfl (lv_at hl 1 rfl) ?_
      refine lv_aload_n hx hb dL_law_464 rfl (lv_at hl 0 rfl) ?_
      refine lv_iload_n hx hb dL_law_465 rfl (lv_at hl 3 rfl) ?_
      refine lv_iconst (v := 1) hx hb dL_law_466 (by decide) ?_
      refine lv_iadd hx hb dL_law_467 ?_
      refine va_sld hx hb hX hbl hbA hS hv1 dL_law_468 ?_
      refine lv_aload_n hx hb dL_law_469 rfl (lv_at hl 0 rfl) ?_
      refine lv_iload_n hx hb dL_law_470 rfl (lv_at hl 3 rfl) ?_
      refine lv_iconst (v := 2) hx hb dL_law_471 (by decide) ?_
      refine lv_iadd hx hb dL_law_472 ?_
      refine va_sld hx hb hX hbl hbA hS hv2 dL_law_473 ?_
      refine lv_aload_n hx hb dL_law_474 rfl (lv_at hl 0 rfl) ?_
      refine lv_iload_n hx hb dL_law_475 rfl (lv_at hl 3 rfl) ?_
      refine lv_iconst (v := 3) hx hb dL_law_476 (by decide) ?_
      refine lv_iadd hx hb dL_law_477 ?_
      refine va_sld hx hb hX hbl hbA hS hv3 dL_law_478 ?_
      refine lv_aload_n hx hb dL_law_479 rfl (lv_at hl 0 rfl) ?_
      refine lv_iload_n hx hb dL_law_480 rfl (lv_at hl 3 rfl) ?_
      refine lv_iconst (v := 4) hx hb dL_law_481 (by decide) ?_
      refine lv_iadd hx hb dL_law_482 ?_
      refine va_sld hx hb hX hbl hbA hS hv4 dL_law_483 ?_
      refine L_calli (As := [.int (xs (x3 + 1).toNatClampNeg), .int (xs (x3 + 2).toNatClampNeg), .int (xs (x3 + 3).toNatClampNeg), .int (xs (x3 + 4).toNatClampNeg)]) (rest := []) ⟨hx, hb, hml, hown, hts⟩ hKC hPC hDC hPM hDM hdis hAC hS 0 5 rfl rfl (c_X7_rule l D cI aC AC σ (xs (x3 + 1).toNatClampNeg) (xs (x3 + 2).toNatClampNeg) (xs (x3 + 3).toNatClampNeg) (xs (x3 + 4).toNatClampNeg) _ (hs_rule j σ τ (xs (x3 + 1).toNatClampNeg) (xs (x3 + 2).toNatClampNeg) (xs (x3 + 3).toNatClampNeg) (xs (x3 + 4).toNatClampNeg) hj5 hR)) (cwV 4 hts gL_law_X7_rule rfl rfl rfl (by decide +kernel) ⟨Nat.le_of_ble_eq_true rfl, Nat.le_of_ble_eq_true rfl⟩) rfl hl.1 rfl (Nat.le_of_ble_eq_true rfl) dL_law_484 ⟨Nat.le_of_ble_eq_true rfl, Nat.le_of_ble_eq_true rfl⟩ (fun r1 σ1 hw H locs hPC hDC hPM hS => ?_)
      refine lv_aload_n hx hb dL_law_487 rfl (lv_at hl 2 rfl) ?_
      refine lv_aload_n hx hb dL_law_488 rfl (lv_at hl 0 rfl) ?_
      refine lv_iload_n hx hb dL_law_489 rfl (lv_at hl 3 rfl) ?_
      refine lv_iconst (v := 1) hx hb dL_law_490 (by decide) ?_
      refine lv_iadd hx hb dL_law_491 ?_
      refine va_sld hx hb hX hbl hbA hS hv1 dL_law_492 ?_
      refine lv_aload_n hx hb dL_law_493 rfl (lv_at hl 0 rfl) ?_
      refine lv_iload_n hx hb dL_law_494 rfl (lv_at hl 3 rfl) ?_
      refine lv_iconst (v := 2) hx hb dL_law_495 (by decide) ?_
      refine lv_iadd hx hb dL_law_496 ?_
      refine va_sld hx hb hX hbl hbA hS hv2 dL_law_497 ?_
      refine lv_aload_n hx hb dL_law_498 rfl (lv_at hl 0 rfl) ?_
      refine lv_iload_n hx hb dL_law_499 rfl (lv_at hl 3 rfl) ?_
      refine lv_iconst (v := 3) hx hb dL_law_500 (by decide) ?_
      refine lv_iadd hx hb dL_law_501 ?_
      refine va_sld hx hb hX hbl hbA hS hv3 dL_law_502 ?_
      refine lv_aload_n hx hb dL_law_503 rfl (lv_at hl 0 rfl) ?_
      refine lv_iload_n hx hb dL_law_504 rfl (lv_at hl 3 rfl) ?_
      refine lv_iconst (v := 4) hx hb dL_law_505 (by decide) ?_
      refine lv_iadd hx hb dL_law_506 ?_
      refine va_sld hx hb hX hbl hbA hS hv4 dL_law_507 ?_
      refine L_calli (As := [.int (xs (x3 + 1).toNatClampNeg), .int (xs (x3 + 2).toNatClampNeg), .int (xs (x3 + 3).toNatClampNeg), .int (xs (x3 + 4).toNatClampNeg)]) (rest := [.int r1]) ⟨hx, hb, hml, hown, hts⟩ hKM hPM hDM hPC hDC hdis2 hAM hS 0 6 rfl rfl (c_X8_rule l D cJ cZ aM AM τ (xs (x3 + 1).toNatClampNeg) (xs (x3 + 2).toNatClampNeg) (xs (x3 + 3).toNatClampNeg) (xs (x3 + 4).toNatClampNeg) _ hw) (cwV 4 hts gL_law_X8_rule rfl rfl rfl (by decide +kernel) ⟨Nat.le_of_ble_eq_true rfl, Nat.le_of_ble_eq_true rfl⟩) rfl hl.1 rfl (Nat.le_of_ble_eq_true rfl) dL_law_508 ⟨Nat.le_of_ble_eq_true rfl, Nat.le_of_ble_eq_true rfl⟩ (fun r2 τ1 hw H locs hPM hDM hPC hS => ?_)
      refine lv_icmp_eq (tgt := 1028) hx hb dL_law_511 (by decide) (fun _ => hnext σ1 τ1 hw.2 hj H locs hPC hDC hPM hDM hS) (fun c8 => absurd hw.1 c8)
    by_cases q10 : xo = (10 : Int32)
    · refine lv_tableIn (off := 483) (tgt := 516) hx hb dL_law_33 (by rw [q10]; decide) (by rw [q10]; decide) (by rw [q10]; rfl) (by decide) ?_
      refine lv_aload_n hx hb dL_law_516 rfl (lv_at hl 1 rfl) ?_
      refine lv_aload_n hx hb dL_law_517 rfl (lv_at hl 0 rfl) ?_
      refine lv_iload_n hx hb dL_law_518 rfl (lv_at hl 3 rfl) ?_
      refine lv_iconst (v := 1) hx hb dL_law_519 (by decide) ?_
      refine lv_iadd hx hb dL_law_520 ?_
      refine va_sld hx hb hX hbl hbA hS hv1 dL_law_521 ?_
      refine L_calli (As := [.int (xs (x3 + 1).toNatClampNeg)]) (rest := []) ⟨hx, hb, hml, hown, hts⟩ hKC hPC hDC hPM hDM hdis hAC hS 0 5 rfl rfl (c_X7_decide l D cI aC AC σ (xs (x3 + 1).toNatClampNeg) _ (hs_decide j σ τ (xs (x3 + 1).toNatClampNeg) hj5 hR)) (cwV 1 hts gL_law_X7_decide rfl rfl rfl (by decide +kernel) ⟨Nat.le_of_ble_eq_true rfl, Nat.le_of_ble_eq_true rfl⟩) rfl hl.1 rfl (Nat.le_of_ble_eq_true rfl) dL_law_522 ⟨Nat.le_of_ble_eq_true rfl, Nat.le_of_ble_eq_true rfl⟩ (fun r1 σ1 hw H locs hPC hDC hPM hS => ?_)
      refine lv_aload_n hx hb dL_law_525 rfl (lv_at hl 2 rfl) ?_
      refine lv_aload_n hx hb dL_law_526 rfl (lv_at hl 0 rfl) ?_
      refine lv_iload_n hx hb dL_law_527 rfl (lv_at hl 3 rfl) ?_
      refine lv_iconst (v := 1) hx hb dL_law_528 (by decide) ?_
      refine lv_iadd hx hb dL_law_529 ?_
      refine va_sld hx hb hX hbl hbA hS hv1 dL_law_530 ?_
      refine L_calli (As := [.int (xs (x3 + 1).toNatClampNeg)]) (rest := [.int r1]) ⟨hx, hb, hml, hown, hts⟩ hKM hPM hDM hPC hDC hdis2 hAM hS 0 6 rfl rfl (c_X8_decide l D cJ cZ aM AM τ (xs (x3 + 1).toNatClampNeg) _ hw) (cwV 1 hts gL_law_X8_decide rfl rfl rfl (by decide +kernel) ⟨Nat.le_of_ble_eq_true rfl, Nat.le_of_ble_eq_true rfl⟩) rfl hl.1 rfl (Nat.le_of_ble_eq_true rfl) dL_law_531 ⟨Nat.le_of_ble_eq_true rfl, Nat.le_of_ble_eq_true rfl⟩ (fun r2 τ1 hw H locs hPM hDM hPC hS => ?_)
      refine lv_icmp_eq (tgt := 1028) hx hb dL_law_534 (by decide) (fun _ => hnext σ1 τ1 hw.2 hj H locs hPC hDC hPM hDM hS) (fun c8 => absurd hw.1 c8)
    by_cases q11 : xo = (11 : Int32)
    · refine lv_tableIn (off := 506) (tgt := 539) hx hb dL_law_33 (by rw [q11]; decide) (by rw [q11]; decide) (by rw [q11]; rfl) (by decide) ?_
      refine lv_aload_n hx hb dL_law_539 rfl (lv_at hl 1 rfl) ?_
      refine lv_aload_n hx hb dL_law_540 rfl (lv_at hl 0 rfl) ?_
      refine lv_iload_n hx hb dL_law_541 rfl (lv_at hl 3 rfl) ?_
      refine lv_iconst (v := 1) hx hb dL_law_542 (by decide) ?_
      refine lv_iadd hx hb dL_law_543 ?_
      refine va_sld hx hb hX hbl hbA hS hv1 dL_law_544 ?_
      refine lv_aload_n hx hb dL_law_545 rfl (lv_at hl 0 rfl) ?_
      refine lv_iload_n hx hb dL_law_546 rfl (lv_at hl 3 rfl) ?_
      refine lv_iconst (v := 2) hx hb dL_law_547 (by decide) ?_
      refine lv_iadd hx hb dL_law_548 ?_
      refine va_sld hx hb hX hbl hbA hS hv2 dL_law_549 ?_
      refine L_calli (As := [.int (xs (x3 + 1).toNatClampNeg), .int (xs (x3 + 2).toNatClampNeg)]) (rest := []) ⟨hx, hb, hml, hown, hts⟩ hKC hPC hDC hPM hDM hdis hAC hS 0 5 rfl rfl (c_X7_let l D cI aC AC σ (xs (x3 + 1).toNatClampNeg) (xs (x3 + 2).toNatClampNeg) _ (hs_let j σ τ (xs (x3 + 1).toNatClampNeg) (xs (x3 + 2).toNatClampNeg) hj5 hR)) (cwV 2 hts gL_law_X7_let rfl rfl rfl (by decide +kernel) ⟨Nat.le_of_ble_eq_true rfl, Nat.le_of_ble_eq_true rfl⟩) rfl hl.1 rfl (Nat.le_of_ble_eq_true rfl) dL_law_550 ⟨Nat.le_of_ble_eq_true rfl, Nat.le_of_ble_eq_true rfl⟩ (fun r1 σ1 hw H locs hPC hDC hPM hS => ?_)
      refine lv_aload_n hx hb dL_law_553 rfl (lv_at hl 2 rfl) ?_
      refine lv_aload_n hx hb dL_law_554 rfl (lv_at hl 0 rfl) ?_
      refine lv_iload_n hx hb dL_law_555 rfl (lv_at hl 3 rfl) ?_
      refine lv_iconst (v := 1) hx hb dL_law_556 (by decide) ?_
      refine lv_iadd hx hb dL_law_557 ?_
      refine va_sld hx hb hX hbl hbA hS hv1 dL_law_558 ?_
      refine lv_aload_n hx hb dL_law_559 rfl (lv_at hl 0 rfl) ?_
      refine lv_iload_n hx hb dL_law_560 rfl (lv_at hl 3 rfl) ?_
      refine lv_iconst (v := 2) hx hb dL_law_561 (by decide) ?_
      refine lv_iadd hx hb dL_law_562 ?_
      refine va_sld hx hb hX hbl hbA hS hv2 dL_law_563 ?_
      refine L_calli (As := [.int (xs (x3 + 1).toNatClampNeg), .int (xs (x3 + 2).toNatClampNeg)]) (rest := [.int r1]) ⟨hx, hb, hml, hown, hts⟩ hKM hPM hDM hPC hDC hdis2 hAM hS 0 6 rfl rfl (c_X8_let l D cJ cZ aM AM τ (xs (x3 + 1).toNatClampNeg) (xs (x3 + 2).toNatClampNeg) _ hw) (cwV 2 hts gL_law_X8_let rfl rfl rfl (by decide +kernel) ⟨Nat.le_of_ble_eq_true rfl, Nat.le_of_ble_eq_true rfl⟩) rfl hl.1 rfl (Nat.le_of_ble_eq_true rfl) dL_law_564 ⟨Nat.le_of_ble_eq_true rfl, Nat.le_of_ble_eq_true rfl⟩ (fun r2 τ1 hw H locs hPM hDM hPC hS => ?_)
      refine lv_icmp_eq (tgt := 1028) hx hb dL_law_567 (by decide) (fun _ => hnext σ1 τ1 hw.2 hj H locs hPC hDC hPM hDM hS) (fun c8 => absurd hw.1 c8)
    by_cases q12 : xo = (12 : Int32)
    · refine lv_tableIn (off := 539) (tgt := 572) hx hb dL_law_33 (by rw [q12]; decide) (by rw [q12]; decide) (by rw [q12]; rfl) (by decide) ?_
      refine lv_aload_n hx hb dL_law_572 rfl (lv_at hl 1 rfl) ?_
      refine lv_aload_n hx hb dL_law_573 rfl (lv_at hl 0 rfl) ?_
      refine lv_iload_n hx hb dL_law_574 rfl (lv_at hl 3 rfl) ?_
      refine lv_iconst (v := 1) hx hb dL_law_575 (by decide) ?_
      refine lv_iadd hx hb dL_law_576 ?_
      refine va_sld hx hb hX hbl hbA hS hv1 dL_law_577 ?_
      refine L_calli (As := [.int (xs (x3 + 1).toNatClampNeg)]) (rest := []) ⟨hx, hb, hml, hown, hts⟩ hKC hPC hDC hPM hDM hdis hAC hS 0 5 rfl rfl (c_X7_giveBack l D cI aC AC σ (xs (x3 + 1).toNatClampNeg) _ (hs_giveBack j σ τ (xs (x3 + 1).toNatClampNeg) hj5 hR)) (cwV 1 hts gL_law_X7_giveBack rfl rfl rfl (by decide +kernel) ⟨Nat.le_of_ble_eq_true rfl, Nat.le_of_ble_eq_true rfl⟩) rfl hl.1 rfl (Nat.le_of_ble_eq_true rfl) dL_law_578 ⟨Nat.le_of_ble_eq_true rfl, Nat.le_of_ble_eq_true rfl⟩ (fun r1 σ1 hw H locs hPC hDC hPM hS => ?_)
      refine lv_aload_n hx hb dL_law_581 rfl (lv_at hl 2 rfl) ?_
      refine lv_aload_n hx hb dL_law_582 rfl (lv_at hl 0 rfl) ?_
      refine lv_iload_n hx hb dL_law_583 rfl (lv_at hl 3 rfl) ?_
      refine lv_iconst (v := 1) hx hb dL_law_584 (by decide) ?_
      refine lv_iadd hx hb dL_law_585 ?_
      refine va_sld hx hb hX hbl hbA hS hv1 dL_law_586 ?_
      refine L_calli (As := [.int (xs (x3 + 1).toNatClampNeg)]) (rest := [.int r1]) ⟨hx, hb, hml, hown, hts⟩ hKM hPM hDM hPC hDC hdis2 hAM hS 0 6 rfl rfl (c_X8_giveBack l D cJ cZ aM AM τ (xs (x3 + 1).toNatClampNeg) _ hw) (cwV 1 hts gL_law_X8_giveBack rfl rfl rfl (by decide +kernel) ⟨Nat.le_of_ble_eq_true rfl, Nat.le_of_ble_eq_true rfl⟩) rfl hl.1 rfl (Nat.le_of_ble_eq_true rfl) dL_law_587 ⟨Nat.le_of_ble_eq_true rfl, Nat.le_of_ble_eq_true rfl⟩ (fun r2 τ1 hw H locs hPM hDM hPC hS => ?_)
      refine lv_icmp_eq (tgt := 1028) hx hb dL_law_590 (by decide) (fun _ => hnext σ1 τ1 hw.2 hj H locs hPC hDC hPM hDM hS) (fun c8 => absurd hw.1 c8)
    by_cases q13 : xo = (13 : Int32)
    · refine lv_tableIn (off := 562) (tgt := 595) hx hb dL_law_33 (by rw [q13]; decide) (by rw [q13]; decide) (by rw [q13]; rfl) (by decide) ?_
      refine lv_aload_n hx hb dL_law_595 rfl (lv_at hl 1 rfl) ?_
      refine lv_aload_n hx hb dL_law_596 rfl (lv_at hl 0 rfl) ?_
      refine lv_iload_n hx hb dL_law_597 rfl (lv_at hl 3 rfl) ?_
      refine lv_iconst (v := 1) hx hb dL_law_598 (by decide) ?_
      refine lv_iadd hx hb dL_law_599 ?_
      refine va_sld hx hb hX hbl hbA hS hv1 dL_law_600 ?_
      refine L_calli (As := [.int (xs (x3 + 1).toNatClampNeg)]) (rest := []) ⟨hx, hb, hml, hown, hts⟩ hKC hPC hDC hPM hDM hdis hAC hS 0 5 rfl rfl (c_X7_drift l D cI aC AC σ (xs (x3 + 1).toNatClampNeg) _ (hs_drift j σ τ (xs (x3 + 1).toNatClampNeg) hj5 hR)) (cwV 1 hts gL_law_X7_drift rfl rfl rfl (by decide +kernel) ⟨Nat.le_of_ble_eq_true rfl, Nat.le_of_ble_eq_true rfl⟩) rfl hl.1 rfl (Nat.le_of_ble_eq_true rfl) dL_law_601 ⟨Nat.le_of_ble_eq_true rfl, Nat.le_of_ble_eq_true rfl⟩ (fun r1 σ1 hw H locs hPC hDC hPM hS => ?_)
      refine lv_aload_n hx hb dL_law_604 rfl (lv_at hl 2 rfl) ?_
      refine lv_aload_n hx hb dL_law_605 rfl (lv_at hl 0 rfl) ?_
      refine lv_iload_n hx hb dL_law_606 rfl (lv_at hl 3 rfl) ?_
      refine lv_iconst (v := 1) hx hb dL_law_607 (by decide) ?_
      refine lv_iadd hx hb dL_law_608 ?_
      refine va_sld hx hb hX hbl hbA hS hv1 dL_law_609 ?_
      refine L_calli (As := [.int (xs (x3 + 1).toNatClampNeg)]) (rest := [.int r1]) ⟨hx, hb, hml, hown, hts⟩ hKM hPM hDM hPC hDC hdis2 hAM hS 0 6 rfl rfl (c_X8_drift l D cJ cZ aM AM τ (xs (x3 + 1).toNatClampNeg) _ hw) (cwV 1 hts gL_law_X8_drift rfl rfl rfl (by decide +kernel) ⟨Nat.le_of_ble_eq_true rfl, Nat.le_of_ble_eq_true rfl⟩) rfl hl.1 rfl (Nat.le_of_ble_eq_true rfl) dL_law_610 ⟨Nat.le_of_ble_eq_true rfl, Nat.le_of_ble_eq_true rfl⟩ (fun r2 τ1 hw H locs hPM hDM hPC hS => ?_)
      refine lv_icmp_eq (tgt := 1028) hx hb dL_law_613 (by decide) (fun _ => hnext σ1 τ1 hw.2 hj H locs hPC hDC hPM hDM hS) (fun c8 => absurd hw.1 c8)
    by_cases q14 : xo = (14 : Int32)
    · refine lv_tableIn (off := 585) (tgt := 618) hx hb dL_law_33 (by rw [q14]; decide) (by rw [q14]; decide) (by rw [q14]; rfl) (by decide) ?_
      refine lv_aload_n hx hb dL_law_618 rfl (lv_at hl 1 rfl) ?_
      refine lv_aload_n hx hb dL_law_619 rfl (lv_at hl 0 rfl) ?_
      refine lv_iload_n hx hb dL_law_620 rfl (lv_at hl 3 rfl) ?_
      refine lv_iconst (v := 1) hx hb dL_law_621 (by decide) ?_
      refine lv_iadd hx hb dL_law_622 ?_
      refine va_sld hx hb hX hbl hbA hS hv1 dL_law_623 ?_
      refine L_calli (As := [.int (xs (x3 + 1).toNatClampNeg)]) (rest := []) ⟨hx, hb, hml, hown, hts⟩ hKC hPC hDC hPM hDM hdis hAC hS 0 5 rfl rfl (c_X7_lot l D cI aC AC σ (xs (x3 + 1).toNatClampNeg) _ (hs_lot j σ τ (xs (x3 + 1).toNatClampNeg) hj5 hR)) (cwV 1 hts gL_law_X7_lot rfl rfl rfl (by decide +kernel) ⟨Nat.le_of_ble_eq_true rfl, Nat.le_of_ble_eq_true rfl⟩) rfl hl.1 rfl (Nat.le_of_ble_eq_true rfl) dL_law_624 ⟨Nat.le_of_ble_eq_true rfl, Nat.le_of_ble_eq_true rfl⟩ (fun r1 σ1 hw H locs hPC hDC hPM hS => ?_)
      refine lv_aload_n hx hb dL_law_627 rfl (lv_at hl 2 rfl) ?_
      refine lv_aload_n hx hb dL_law_628 rfl (lv_at hl 0 rfl) ?_
      refine lv_iload_n hx hb dL_law_629 rfl (lv_at hl 3 rfl) ?_
      refine lv_iconst (v := 1) hx hb dL_law_630 (by decide) ?_
      refine lv_iadd hx hb dL_law_631 ?_
      refine va_sld hx hb hX hbl hbA hS hv1 dL_law_632 ?_
      refine L_calli (As := [.int (xs (x3 + 1).toNatClampNeg)]) (rest := [.int r1]) ⟨hx, hb, hml, hown, hts⟩ hKM hPM hDM hPC hDC hdis2 hAM hS 0 6 rfl rfl (c_X8_lot l D cJ cZ aM AM τ (xs (x3 + 1).toNatClampNeg) _ hw) (cwV 1 hts gL_law_X8_lot rfl rfl rfl (by decide +kernel) ⟨Nat.le_of_ble_eq_true rfl, Nat.le_of_ble_eq_true rfl⟩) rfl hl.1 rfl (Nat.le_of_ble_eq_true rfl) dL_law_633 ⟨Nat.le_of_ble_eq_true rfl, Nat.le_of_ble_eq_true rfl⟩ (fun r2 τ1 hw H locs hPM hDM hPC hS => ?_)
      refine lv_icmp_eq (tgt := 1028) hx hb dL_law_636 (by decide) (fun _ => hnext σ1 τ1 hw.2 hj H locs hPC hDC hPM hDM hS) (fun c8 => absurd hw.1 c8)
    by_cases q15 : xo = (15 : Int32)
    · refine lv_tableIn (off := 608) (tgt := 641) hx hb dL_law_33 (by rw [q15]; decide) (by rw [q15]; decide) (by rw [q15]; rfl) (by decide) ?_
      refine lv_aload_n hx hb dL_law_641 rfl (lv_at hl 1 rfl) ?_
      refine L_calli (As := []) (rest := []) ⟨hx, hb, hml, hown, hts⟩ hKC hPC hDC hPM hDM hdis hAC hS 0 5 rfl rfl (c_X7_undo l D cI aC AC σ _ (hs_undo j σ τ hj5 hR)) (cwV 0 hts gL_law_X7_undo rfl rfl rfl (by decide +kernel) ⟨Nat.le_of_ble_eq_true rfl, Nat.le_of_ble_eq_true rfl⟩) rfl hl.1 rfl (Nat.le_of_ble_eq_true rfl) dL_law_642 ⟨Nat.le_of_ble_eq_true rfl, Nat.le_of_ble_eq_true rfl⟩ (fun r1 σ1 hw H locs hPC hDC hPM hS => ?_)
      refine lv_aload_n hx hb dL_law_645 rfl (lv_at hl 2 rfl) ?_
      refine L_calli (As := []) (rest := [.int r1]) ⟨hx, hb, hml, hown, hts⟩ hKM hPM hDM hPC hDC hdis2 hAM hS 0 6 rfl rfl (c_X8_undo l D cJ cZ aM AM τ _ hw) (cwV 0 hts gL_law_X8_undo rfl rfl rfl (by decide +kernel) ⟨Nat.le_of_ble_eq_true rfl, Nat.le_of_ble_eq_true rfl⟩) rfl hl.1 rfl (Nat.le_of_ble_eq_true rfl) dL_law_646 ⟨Nat.le_of_ble_eq_true rfl, Nat.le_of_ble_eq_true rfl⟩ (fun r2 τ1 hw H locs hPM hDM hPC hS => ?_)
      refine lv_icmp_eq (tgt := 1028) hx hb dL_law_649 (by decide) (fun _ => hnext σ1 τ1 hw.2 hj H locs hPC hDC hPM hDM hS) (fun c8 => absurd hw.1 c8)
    by_cases q16 : xo = (16 : Int32)
    · refine lv_tableIn (off := 621) (tgt := 654) hx hb dL_law_33 (by rw [q16]; decide) (by rw [q16]; decide) (by rw [q16]; rfl) (by decide) ?_
      refine lv_aload_n hx hb dL_law_654 rfl (lv_at hl 1 rfl) ?_
      refine lv_aload_n hx hb dL_law_655 rfl (lv_at hl 0 rfl) ?_
      refine lv_iload_n hx hb dL_law_656 rfl (lv_at hl 3 rfl) ?_
      refine lv_iconst (v := 1) hx hb dL_law_657 (by decide) ?_
      refine lv_iadd hx hb dL_law_658 ?_
      refine va_sld hx hb hX hbl hbA hS hv1 dL_law_659 ?_
      refine L_calli (As := [.int (xs (x3 + 1).toNatClampNeg)]) (rest := []) ⟨hx, hb, hml, hown, hts⟩ hKC hPC hDC hPM hDM hdis hAC hS 0 5 rfl rfl (c_X7_told l D cI aC AC σ (xs (x3 + 1).toNatClampNeg) _ (hs_told j σ τ (xs (x3 + 1).toNatClampNeg) hj5 hR)) (cwV 1 hts gL_law_X7_told rfl rfl rfl (by decide +kernel) ⟨Nat.le_of_ble_eq_true rfl, Nat.le_of_ble_eq_true rfl⟩) rfl hl.1 rfl (Nat.le_of_ble_eq_true rfl) dL_law_660 ⟨Nat.le_of_ble_eq_true rfl, Nat.le_of_ble_eq_true rfl⟩ (fun r1 σ1 hw H locs hPC hDC hPM hS => ?_)
      refine lv_aload_n hx hb dL_law_663 rfl (lv_at hl 2 rfl) ?_
      refine lv_aload_n hx hb dL_law_664 rfl (lv_at hl 0 rfl) ?_
      refine lv_iload_n hx hb dL_law_665 rfl (lv_at hl 3 rfl) ?_
      refine lv_iconst (v := 1) hx hb dL_law_666 (by decide) ?_
      refine lv_iadd hx hb dL_law_667 ?_
      refine va_sld hx hb hX hbl hbA hS hv1 dL_law_668 ?_
      refine L_calli (As := [.int (xs (x3 + 1).toNatClampNeg)]) (rest := [.int r1]) ⟨hx, hb, hml, hown, hts⟩ hKM hPM hDM hPC hDC hdis2 hAM hS 0 6 rfl rfl (c_X8_told l D cJ cZ aM AM τ (xs (x3 + 1).toNatClampNeg) _ hw) (cwV 1 hts gL_law_X8_told rfl rfl rfl (by decide +kernel) ⟨Nat.le_of_ble_eq_true rfl, Nat.le_of_ble_eq_true rfl⟩) rfl hl.1 rfl (Nat.le_of_ble_eq_true rfl) dL_law_669 ⟨Nat.le_of_ble_eq_true rfl, Nat.le_of_ble_eq_true rfl⟩ (fun r2 τ1 hw H locs hPM hDM hPC hS => ?_)
      refine lv_icmp_eq (tgt := 1028) hx hb dL_law_672 (by decide) (fun _ => hnext σ1 τ1 hw.2 hj H locs hPC hDC hPM hDM hS) (fun c8 => absurd hw.1 c8)
    by_cases q17 : xo = (17 : Int32)
    · refine lv_tableIn (off := 644) (tgt := 677) hx hb dL_law_33 (by rw [q17]; decide) (by rw [q17]; decide) (by rw [q17]; rfl) (by decide) ?_
      refine lv_aload_n hx hb dL_law_677 rfl (lv_at hl 1 rfl) ?_
      refine L_calll (As := []) (rest := []) ⟨hx, hb, hml, hown, hts⟩ hKC hPC hDC hPM hDM hdis hAC hS 0 5 rfl rfl (c_X7_mark l D cI aC AC σ _ (hs_mark j σ τ hj5 hR)) (cwV 0 hts gL_law_X7_mark rfl rfl rfl (by decide +kernel) ⟨Nat.le_of_ble_eq_true rfl, Nat.le_of_ble_eq_true rfl⟩) rfl hl.1 rfl (Nat.le_of_ble_eq_true rfl) dL_law_678 ⟨Nat.le_of_ble_eq_true rfl, Nat.le_of_ble_eq_true rfl⟩ (fun r1 σ1 hw H locs hPC hDC hPM hS => ?_)
      refine lv_aload_n hx hb dL_law_681 rfl (lv_at hl 2 rfl) ?_
      refine L_calll (As := []) (rest := [.long r1]) ⟨hx, hb, hml, hown, hts⟩ hKM hPM hDM hPC hDC hdis2 hAM hS 0 6 rfl rfl (c_X8_mark l D cJ cZ aM AM τ _ hw) (cwV 0 hts gL_law_X8_mark rfl rfl rfl (by decide +kernel) ⟨Nat.le_of_ble_eq_true rfl, Nat.le_of_ble_eq_true rfl⟩) rfl hl.1 rfl (Nat.le_of_ble_eq_true rfl) dL_law_682 ⟨Nat.le_of_ble_eq_true rfl, Nat.le_of_ble_eq_true rfl⟩ (fun r2 τ1 hw H locs hPM hDM hPC hS => ?_)
      refine W.lcmp hx hb dL_law_685 ?_
      refine lv_if_eq (tgt := 1028) hx hb dL_law_686 (by decide) (fun _ => hnext σ1 τ1 hw.2 hj H locs hPC hDC hPM hDM hS) (fun c8 => absurd (by rw [hw.1]; exact lg_self _) c8)
    by_cases q18 : xo = (18 : Int32)
    · refine lv_tableIn (off := 658) (tgt := 691) hx hb dL_law_33 (by rw [q18]; decide) (by rw [q18]; decide) (by rw [q18]; rfl) (by decide) ?_
      refine lv_aload_n hx hb dL_law_691 rfl (lv_at hl 1 rfl) ?_
      refine lv_aload_n hx hb dL_law_692 rfl (lv_at hl 0 rfl) ?_
      refine lv_iload_n hx hb dL_law_693 rfl (lv_at hl 3 rfl) ?_
      refine lv_iconst (v := 1) hx hb dL_law_694 (by decide) ?_
      refine lv_iadd hx hb dL_law_695 ?_
      refine va_sld hx hb hX hbl hbA hS hv1 dL_law_696 ?_
      refine lv_aload_n hx hb dL_law_697 rfl (lv_at hl 0 rfl) ?_
      refine lv_iload_n hx hb dL_law_698 rfl (lv_at hl 3 rfl) ?_
      refine lv_iconst (v := 2) hx hb dL_law_699 (by decide) ?_
      refine lv_iadd hx hb dL_law_700 ?_
      refine va_sld hx hb hX hbl hbA hS hv2 dL_law_701 ?_
      refine L_calli (As := [.int (xs (x3 + 1).toNatClampNeg), .int (xs (x3 + 2).toNatClampNeg)]) (rest := []) ⟨hx, hb, hml, hown, hts⟩ hKC hPC hDC hPM hDM hdis hAC hS 0 5 rfl rfl (c_X7_register l D cI aC AC σ (xs (x3 + 1).toNatClampNeg) (xs (x3 + 2).toNatClampNeg) _ (hs_register j σ τ (xs (x3 + 1).toNatClampNeg) (xs (x3 + 2).toNatClampNeg) hj5 hR)) (cwV 2 hts gL_law_X7_register rfl rfl rfl (by decide +kernel) ⟨Nat.le_of_ble_eq_true rfl, Nat.le_of_ble_eq_true rfl⟩) rfl hl.1 rfl (Nat.le_of_ble_eq_true rfl) dL_law_702 ⟨Nat.le_of_ble_eq_true rfl, Nat.le_of_ble_eq_true rfl⟩ (fun r1 σ1 hw H locs hPC hDC hPM hS => ?_)
      refine lv_aload_n hx hb dL_law_705 rfl (lv_at hl 2 rfl) ?_
      refine lv_aload_n hx hb dL_law_706 rfl (lv_at hl 0 rfl) ?_
      refine lv_iload_n hx hb dL_law_707 rfl (lv_at hl 3 rfl) ?_
      refine lv_iconst (v := 1) hx hb dL_law_708 (by decide) ?_
      refine lv_iadd hx hb dL_law_709 ?_
      refine va_sld hx hb hX hbl hbA hS hv1 dL_law_710 ?_
      refine lv_aload_n hx hb dL_law_711 rfl (lv_at hl 0 rfl) ?_
      refine lv_iload_n hx hb dL_law_712 rfl (lv_at hl 3 rfl) ?_
      refine lv_iconst (v := 2) hx hb dL_law_713 (by decide) ?_
      refine lv_iadd hx hb dL_law_714 ?_
      refine va_sld hx hb hX hbl hbA hS hv2 dL_law_715 ?_
      refine L_calli (As := [.int (xs (x3 + 1).toNatClampNeg), .int (xs (x3 + 2).toNatClampNeg)]) (rest := [.int r1]) ⟨hx, hb, hml, hown, hts⟩ hKM hPM hDM hPC hDC hdis2 hAM hS 0 6 rfl rfl (c_X8_register l D cJ cZ aM AM τ (xs (x3 + 1).toNatClampNeg) (xs (x3 + 2).toNatClampNeg) _ hw) (cwV 2 hts gL_law_X8_register rfl rfl rfl (by decide +kernel) ⟨Nat.le_of_ble_eq_true rfl, Nat.le_of_ble_eq_true rfl⟩) rfl hl.1 rfl (Nat.le_of_ble_eq_true rfl) dL_law_716 ⟨Nat.le_of_ble_eq_true rfl, Nat.le_of_ble_eq_true rfl⟩ (fun r2 τ1 hw H locs hPM hDM hPC hS => ?_)
      refine lv_icmp_eq (tgt := 1028) hx hb dL_law_719 (by decide) (fun _ => hnext σ1 τ1 hw.2 hj H locs hPC hDC hPM hDM hS) (fun c8 => absurd hw.1 c8)
    by_cases q19 : xo = (19 : Int32)
    · refine lv_tableIn (off := 691) (tgt := 724) hx hb dL_law_33 (by rw [q19]; decide) (by rw [q19]; decide) (by rw [q19]; rfl) (by decide) ?_
      refine lv_aload_n hx hb dL_law_724 rfl (lv_at hl 1 rfl) ?_
      refine lv_aload_n hx hb dL_law_725 rfl (lv_at hl 0 rfl) ?_
      refine lv_iload_n hx hb dL_law_726 rfl (lv_at hl 3 rfl) ?_
      refine lv_iconst (v := 1) hx hb dL_law_727 (by decide) ?_
      refine lv_iadd hx hb dL_law_728 ?_
      refine va_sld hx hb hX hbl hbA hS hv1 dL_law_729 ?_
      refine lv_aload_n hx hb dL_law_730 rfl (lv_at hl 0 rfl) ?_
      refine lv_iload_n hx hb dL_law_731 rfl (lv_at hl 3 rfl) ?_
      refine lv_iconst (v := 2) hx hb dL_law_732 (by decide) ?_
      refine lv_iadd hx hb dL_law_733 ?_
      refine va_sld hx hb hX hbl hbA hS hv2 dL_law_734 ?_
      refine L_calli (As := [.int (xs (x3 + 1).toNatClampNeg), .int (xs (x3 + 2).toNatClampNeg)]) (rest := []) ⟨hx, hb, hml, hown, hts⟩ hKC hPC hDC hPM hDM hdis hAC hS 0 5 rfl rfl (c_X7_octet l D cI aC AC σ (xs (x3 + 1).toNatClampNeg) (xs (x3 + 2).toNatClampNeg) _ (hs_octet j σ τ (xs (x3 + 1).toNatClampNeg) (xs (x3 + 2).toNatClampNeg) hj5 hR)) (cwV 2 hts gL_law_X7_octet rfl rfl rfl (by decide +kernel) ⟨Nat.le_of_ble_eq_true rfl, Nat.le_of_ble_eq_true rfl⟩) rfl hl.1 rfl (Nat.le_of_ble_eq_true rfl) dL_law_735 ⟨Nat.le_of_ble_eq_true rfl, Nat.le_of_ble_eq_true rfl⟩ (fun r1 σ1 hw H locs hPC hDC hPM hS => ?_)
      refine lv_aload_n hx hb dL_law_738 rfl (lv_at hl 2 rfl) ?_
      refine lv_aload_n hx hb dL_law_739 rfl (lv_at hl 0 rfl) ?_
      refine lv_iload_n hx hb dL_law_740 rfl (lv_at hl 3 rfl) ?_
      refine lv_iconst (v := 1) hx hb dL_law_741 (by decide) ?_
      refine lv_iadd hx hb dL_law_742 ?_
      refine va_sld hx hb hX hbl hbA hS hv1 dL_law_743 ?_
      refine lv_aload_n hx hb dL_law_744 rfl (lv_at hl 0 rfl) ?_
      refine lv_iload_n hx hb dL_law_745 rfl (lv_at hl 3 rfl) ?_
      refine lv_iconst (v := 2) hx hb dL_law_746 (by decide) ?_
      refine lv_iadd hx hb dL_law_747 ?_
      refine va_sld hx hb hX hbl hbA hS hv2 dL_law_748 ?_
      refine L_calli (As := [.int (xs (x3 + 1).toNatClampNeg), .int (xs (x3 + 2).toNatClampNeg)]) (rest := [.int r1]) ⟨hx, hb, hml, hown, hts⟩ hKM hPM hDM hPC hDC hdis2 hAM hS 0 6 rfl rfl (c_X8_octet l D cJ cZ aM AM τ (xs (x3 + 1).toNatClampNeg) (xs (x3 + 2).toNatClampNeg) _ hw) (cwV 2 hts gL_law_X8_octet rfl rfl rfl (by decide +kernel) ⟨Nat.le_of_ble_eq_true rfl, Nat.le_of_ble_eq_true rfl⟩) rfl hl.1 rfl (Nat.le_of_ble_eq_true rfl) dL_law_749 ⟨Nat.le_of_ble_eq_true rfl, Nat.le_of_ble_eq_true rfl⟩ (fun r2 τ1 hw H locs hPM hDM hPC hS => ?_)
      refine lv_icmp_eq (tgt := 1028) hx hb dL_law_752 (by decide) (fun _ => hnext σ1 τ1 hw.2 hj H locs hPC hDC hPM hDM hS) (fun c8 => absurd hw.1 c8)
    by_cases q20 : xo = (20 : Int32)
    · refine lv_tableIn (off := 724) (tgt := 757) hx hb dL_law_33 (by rw [q20]; decide) (by rw [q20]; decide) (by rw [q20]; rfl) (by decide) ?_
      refine lv_aload_n hx hb dL_law_757 rfl (lv_at hl 1 rfl) ?_
      refine lv_aload_n hx hb dL_law_758 rfl (lv_at hl 0 rfl) ?_
      refine lv_iload_n hx hb dL_law_759 rfl (lv_at hl 3 rfl) ?_
      refine lv_iconst (v := 1) hx hb dL_law_760 (by decide) ?_
      refine lv_iadd hx hb dL_law_761 ?_
      refine va_sld hx hb hX hbl hbA hS hv1 dL_law_762 ?_
      refine lv_aload_n hx hb dL_law_763 rfl (lv_at hl 0 rfl) ?_
      refine lv_iload_n hx hb dL_law_764 rfl (lv_at hl 3 rfl) ?_
      refine lv_iconst (v := 2) hx hb dL_law_765 (by decide) ?_
      refine lv_iadd hx hb dL_law_766 ?_
      refine va_sld hx hb hX hbl hbA hS hv2 dL_law_767 ?_
      refine L_calli (As := [.int (xs (x3 + 1).toNatClampNeg), .int (xs (x3 + 2).toNatClampNeg)]) (rest := []) ⟨hx, hb, hml, hown, hts⟩ hKC hPC hDC hPM hDM hdis hAC hS 0 5 rfl rfl (c_X7_ground l D cI aC AC σ (xs (x3 + 1).toNatClampNeg) (xs (x3 + 2).toNatClampNeg) _ (hs_ground j σ τ (xs (x3 + 1).toNatClampNeg) (xs (x3 + 2).toNatClampNeg) hj5 hR)) (cwV 2 hts gL_law_X7_ground rfl rfl rfl (by decide +kernel) ⟨Nat.le_of_ble_eq_true rfl, Nat.le_of_ble_eq_true rfl⟩) rfl hl.1 rfl (Nat.le_of_ble_eq_true rfl) dL_law_768 ⟨Nat.le_of_ble_eq_true rfl, Nat.le_of_ble_eq_true rfl⟩ (fun r1 σ1 hw H locs hPC hDC hPM hS => ?_)
      refine lv_aload_n hx hb dL_law_771 rfl (lv_at hl 2 rfl) ?_
      refine lv_aload_n hx hb dL_law_772 rfl (lv_at hl 0 rfl) ?_
      refine lv_iload_n hx hb dL_law_773 rfl (lv_at hl 3 rfl) ?_
      refine lv_iconst (v := 1) hx hb dL_law_774 (by decide) ?_
      refine lv_iadd hx hb dL_law_775 ?_
      refine va_sld hx hb hX hbl hbA hS hv1 dL_law_776 ?_
      refine lv_aload_n hx hb dL_law_777 rfl (lv_at hl 0 rfl) ?_
      refine lv_iload_n hx hb dL_law_778 rfl (lv_at hl 3 rfl) ?_
      refine lv_iconst (v := 2) hx hb dL_law_779 (by decide) ?_
      refine lv_iadd hx hb dL_law_780 ?_
      refine va_sld hx hb hX hbl hbA hS hv2 dL_law_781 ?_
      refine L_calli (As := [.int (xs (x3 + 1).toNatClampNeg), .int (xs (x3 + 2).toNatClampNeg)]) (rest := [.int r1]) ⟨hx, hb, hml, hown, hts⟩ hKM hPM hDM hPC hDC hdis2 hAM hS 0 6 rfl rfl (c_X8_ground l D cJ cZ aM AM τ (xs (x3 + 1).toNatClampNeg) (xs (x3 + 2).toNatClampNeg) _ hw) (cwV 2 hts gL_law_X8_ground rfl rfl rfl (by decide +kernel) ⟨Nat.le_of_ble_eq_true rfl, Nat.le_of_ble_eq_true rfl⟩) rfl hl.1 rfl (Nat.le_of_ble_eq_true rfl) dL_law_782 ⟨Nat.le_of_ble_eq_true rfl, Nat.le_of_ble_eq_true rfl⟩ (fun r2 τ1 hw H locs hPM hDM hPC hS => ?_)
      refine lv_icmp_eq (tgt := 1028) hx hb dL_law_785 (by decide) (fun _ => hnext σ1 τ1 hw.2 hj H locs hPC hDC hPM hDM hS) (fun c8 => absurd hw.1 c8)
    by_cases q21 : xo = (21 : Int32)
    · refine lv_tableIn (off := 757) (tgt := 790) hx hb dL_law_33 (by rw [q21]; decide) (by rw [q21]; decide) (by rw [q21]; rfl) (by decide) ?_
      refine lv_aload_n hx hb dL_law_790 rfl (lv_at hl 1 rfl) ?_
      refine lv_aload_n hx hb dL_law_791 rfl (lv_at hl 0 rfl) ?_
      refine lv_iload_n hx hb dL_law_792 rfl (lv_at hl 3 rfl) ?_
      refine lv_iconst (v := 1) hx hb dL_law_793 (by decide) ?_
      refine lv_iadd hx hb dL_law_794 ?_
      refine va_sld hx hb hX hbl hbA hS hv1 dL_law_795 ?_
      refine lv_aload_n hx hb dL_law_796 rfl (lv_at hl 0 rfl) ?_
      refine lv_iload_n hx hb dL_law_797 rfl (lv_at hl 3 rfl) ?_
      refine lv_iconst (v := 2) hx hb dL_law_798 (by decide) ?_
      refine lv_iadd hx hb dL_law_799 ?_
      refine va_sld hx hb hX hbl hbA hS hv2 dL_law_800 ?_
      refine L_calli (As := [.int (xs (x3 + 1).toNatClampNeg), .int (xs (x3 + 2).toNatClampNeg)]) (rest := []) ⟨hx, hb, hml, hown, hts⟩ hKC hPC hDC hPM hDM hdis hAC hS 0 5 rfl rfl (c_X7_cry l D cI aC AC σ (xs (x3 + 1).toNatClampNeg) (xs (x3 + 2).toNatClampNeg) _ (hs_cry j σ τ (xs (x3 + 1).toNatClampNeg) (xs (x3 + 2).toNatClampNeg) hj5 hR)) (cwV 2 hts gL_law_X7_cry rfl rfl rfl (by decide +kernel) ⟨Nat.le_of_ble_eq_true rfl, Nat.le_of_ble_eq_true rfl⟩) rfl hl.1 rfl (Nat.le_of_ble_eq_true rfl) dL_law_801 ⟨Nat.le_of_ble_eq_true rfl, Nat.le_of_ble_eq_true rfl⟩ (fun r1 σ1 hw H locs hPC hDC hPM hS => ?_)
      refine lv_aload_n hx hb dL_law_804 rfl (lv_at hl 2 rfl) ?_
      refine lv_aload_n hx hb dL_law_805 rfl (lv_at hl 0 rfl) ?_
      refine lv_iload_n hx hb dL_law_806 rfl (lv_at hl 3 rfl) ?_
      refine lv_iconst (v := 1) hx hb dL_law_807 (by decide) ?_
      refine lv_iadd hx hb dL_law_808 ?_
      refine va_sld hx hb hX hbl hbA hS hv1 dL_law_809 ?_
      refine lv_aload_n hx hb dL_law_810 rfl (lv_at hl 0 rfl) ?_
      refine lv_iload_n hx hb dL_law_811 rfl (lv_at hl 3 rfl) ?_
      refine lv_iconst (v := 2) hx hb dL_law_812 (by decide) ?_
      refine lv_iadd hx hb dL_law_813 ?_
      refine va_sld hx hb hX hbl hbA hS hv2 dL_law_814 ?_
      refine L_calli (As := [.int (xs (x3 + 1).toNatClampNeg), .int (xs (x3 + 2).toNatClampNeg)]) (rest := [.int r1]) ⟨hx, hb, hml, hown, hts⟩ hKM hPM hDM hPC hDC hdis2 hAM hS 0 6 rfl rfl (c_X8_cry l D cJ cZ aM AM τ (xs (x3 + 1).toNatClampNeg) (xs (x3 + 2).toNatClampNeg) _ hw) (cwV 2 hts gL_law_X8_cry rfl rfl rfl (by decide +kernel) ⟨Nat.le_of_ble_eq_true rfl, Nat.le_of_ble_eq_true rfl⟩) rfl hl.1 rfl (Nat.le_of_ble_eq_true rfl) dL_law_815 ⟨Nat.le_of_ble_eq_true rfl, Nat.le_of_ble_eq_true rfl⟩ (fun r2 τ1 hw H locs hPM hDM hPC hS => ?_)
      refine lv_icmp_eq (tgt := 1028) hx hb dL_law_818 (by decide) (fun _ => hnext σ1 τ1 hw.2 hj H locs hPC hDC hPM hDM hS) (fun c8 => absurd hw.1 c8)
    by_cases q22 : xo = (22 : Int32)
    · refine lv_tableIn (off := 790) (tgt := 823) hx hb dL_law_33 (by rw [q22]; decide) (by rw [q22]; decide) (by rw [q22]; rfl) (by decide) ?_
      refine lv_aload_n hx hb dL_law_823 rfl (lv_at hl 1 rfl) ?_
      refine lv_aload_n hx hb dL_law_824 rfl (lv_at hl 0 rfl) ?_
      refine lv_iload_n hx hb dL_law_825 rfl (lv_at hl 3 rfl) ?_
      refine lv_iconst (v := 1) hx hb dL_law_826 (by decide) ?_
      refine lv_iadd hx hb dL_law_827 ?_
      refine va_sld hx hb hX hbl hbA hS hv1 dL_law_828 ?_
      refine lv_aload_n hx hb dL_law_829 rfl (lv_at hl 0 rfl) ?_
      refine lv_iload_n hx hb dL_law_830 rfl (lv_at hl 3 rfl) ?_
      refine lv_iconst (v := 2) hx hb dL_law_831 (by decide) ?_
      refine lv_iadd hx hb dL_law_832 ?_
      refine va_sld hx hb hX hbl hbA hS hv2 dL_law_833 ?_
      refine L_calli (As := [.int (xs (x3 + 1).toNatClampNeg), .int (xs (x3 + 2).toNatClampNeg)]) (rest := []) ⟨hx, hb, hml, hown, hts⟩ hKC hPC hDC hPM hDM hdis hAC hS 0 5 rfl rfl (c_X7_ring l D cI aC AC σ (xs (x3 + 1).toNatClampNeg) (xs (x3 + 2).toNatClampNeg) _ (hs_ring j σ τ (xs (x3 + 1).toNatClampNeg) (xs (x3 + 2).toNatClampNeg) hj5 hR)) (cwV 2 hts gL_law_X7_ring rfl rfl rfl (by decide +kernel) ⟨Nat.le_of_ble_eq_true rfl, Nat.le_of_ble_eq_true rfl⟩) rfl hl.1 rfl (Nat.le_of_ble_eq_true rfl) dL_law_834 ⟨Nat.le_of_ble_eq_true rfl, Nat.le_of_ble_eq_true rfl⟩ (fun r1 σ1 hw H locs hPC hDC hPM hS => ?_)
      refine lv_aload_n hx hb dL_law_837 rfl (lv_at hl 2 rfl) ?_
      refine lv_aload_n hx hb dL_law_838 rfl (lv_at hl 0 rfl) ?_
      refine lv_iload_n hx hb dL_law_839 rfl (lv_at hl 3 rfl) ?_
      refine lv_iconst (v := 1) hx hb dL_law_840 (by decide) ?_
      refine lv_iadd hx hb dL_law_841 ?_
      refine va_sld hx hb hX hbl hbA hS hv1 dL_law_842 ?_
      refine lv_aload_n hx hb dL_law_843 rfl (lv_at hl 0 rfl) ?_
      refine lv_iload_n hx hb dL_law_844 rfl (lv_at hl 3 rfl) ?_
      refine lv_iconst (v := 2) hx hb dL_law_845 (by decide) ?_
      refine lv_iadd hx hb dL_law_846 ?_
      refine va_sld hx hb hX hbl hbA hS hv2 dL_law_847 ?_
      refine L_calli (As := [.int (xs (x3 + 1).toNatClampNeg), .int (xs (x3 + 2).toNatClampNeg)]) (rest := [.int r1]) ⟨hx, hb, hml, hown, hts⟩ hKM hPM hDM hPC hDC hdis2 hAM hS 0 6 rfl rfl (c_X8_ring l D cJ cZ aM AM τ (xs (x3 + 1).toNatClampNeg) (xs (x3 + 2).toNatClampNeg) _ hw) (cwV 2 hts gL_law_X8_ring rfl rfl rfl (by decide +kernel) ⟨Nat.le_of_ble_eq_true rfl, Nat.le_of_ble_eq_true rfl⟩) rfl hl.1 rfl (Nat.le_of_ble_eq_true rfl) dL_law_848 ⟨Nat.le_of_ble_eq_true rfl, Nat.le_of_ble_eq_true rfl⟩ (fun r2 τ1 hw H locs hPM hDM hPC hS => ?_)
      refine lv_icmp_eq (tgt := 1028) hx hb dL_law_851 (by decide) (fun _ => hnext σ1 τ1 hw.2 hj H locs hPC hDC hPM hDM hS) (fun c8 => absurd hw.1 c8)
    by_cases q23 : xo = (23 : Int32)
    · refine lv_tableIn (off := 823) (tgt := 856) hx hb dL_law_33 (by rw [q23]; decide) (by rw [q23]; decide) (by rw [q23]; rfl) (by decide) ?_
      refine lv_aload_n hx hb dL_law_856 rfl (lv_at hl 1 rfl) ?_
      refine lv_aload_n hx hb dL_law_857 rfl (lv_at hl 0 rfl) ?_
      refine lv_iload_n hx hb dL_law_858 rfl (lv_at hl 3 rfl) ?_
      refine lv_iconst (v := 1) hx hb dL_law_859 (by decide) ?_
      refine lv_iadd hx hb dL_law_860 ?_
      refine va_sld hx hb hX hbl hbA hS hv1 dL_law_861 ?_
      refine lv_aload_n hx hb dL_law_862 rfl (lv_at hl 0 rfl) ?_
      refine lv_iload_n hx hb dL_law_863 rfl (lv_at hl 3 rfl) ?_
      refine lv_iconst (v := 2) hx hb dL_law_864 (by decide) ?_
      refine lv_iadd hx hb dL_law_865 ?_
      refine va_sld hx hb hX hbl hbA hS hv2 dL_law_866 ?_
      refine lv_aload_n hx hb dL_law_867 rfl (lv_at hl 0 rfl) ?_
      refine lv_iload_n hx hb dL_law_868 rfl (lv_at hl 3 rfl) ?_
      refine lv_iconst (v := 3) hx hb dL_law_869 (by decide) ?_
      refine lv_iadd hx hb dL_law_870 ?_
      refine va_sld hx hb hX hbl hbA hS hv3 dL_law_871 ?_
      refine lv_aload_n hx hb dL_law_872 rfl (lv_at hl 0 rfl) ?_
      refine lv_iload_n hx hb dL_law_873 rfl (lv_at hl 3 rfl) ?_
      refine lv_iconst (v := 4) hx hb dL_law_874 (by decide) ?_
      refine lv_iadd hx hb dL_law_875 ?_
      refine va_sld hx hb hX hbl hbA hS hv4 dL_law_876 ?_
      refine lv_aload_n hx hb dL_law_877 rfl (lv_at hl 0 rfl) ?_
      refine lv_iload_n hx hb dL_law_878 rfl (lv_at hl 3 rfl) ?_
      refine lv_iconst (v := 5) hx hb dL_law_879 (by decide) ?_
      refine lv_iadd hx hb dL_law_880 ?_
      refine va_sld hx hb hX hbl hbA hS hv5 dL_law_881 ?_
      refine L_calli (As := [.int (xs (x3 + 1).toNatClampNeg), .int (xs (x3 + 2).toNatClampNeg), .int (xs (x3 + 3).toNatClampNeg), .int (xs (x3 + 4).toNatClampNeg), .int (xs (x3 + 5).toNatClampNeg)]) (rest := []) ⟨hx, hb, hml, hown, hts⟩ hKC hPC hDC hPM hDM hdis hAC hS 0 5 rfl rfl (c_X7_shadow l D cI aC AC σ (xs (x3 + 1).toNatClampNeg) (xs (x3 + 2).toNatClampNeg) (xs (x3 + 3).toNatClampNeg) (xs (x3 + 4).toNatClampNeg) (xs (x3 + 5).toNatClampNeg) _ (hs_shadow j σ τ (xs (x3 + 1).toNatClampNeg) (xs (x3 + 2).toNatClampNeg) (xs (x3 + 3).toNatClampNeg) (xs (x3 + 4).toNatClampNeg) (xs (x3 + 5).toNatClampNeg) hj5 hR)) (cwV 5 hts gL_law_X7_shadow rfl rfl rfl (by decide +kernel) ⟨Nat.le_of_ble_eq_true rfl, Nat.le_of_ble_eq_true rfl⟩) rfl hl.1 rfl (Nat.le_of_ble_eq_true rfl) dL_law_882 ⟨Nat.le_of_ble_eq_true rfl, Nat.le_of_ble_eq_true rfl⟩ (fun r1 σ1 hw H locs hPC hDC hPM hS => ?_)
      refine lv_aload_n hx hb dL_law_885 rfl (lv_at hl 2 rfl) ?_
      refine lv_aload_n hx hb dL_law_886 rfl (lv_at hl 0 rfl) ?_
      refine lv_iload_n hx hb dL_law_887 rfl (lv_at hl 3 rfl) ?_
      refine lv_iconst (v := 1) hx hb dL_law_888 (by decide) ?_
      refine lv_iadd hx hb dL_law_889 ?_
      refine va_sld hx hb hX hbl hbA hS hv1 dL_law_890 ?_
      refine lv_aload_n hx hb dL_law_891 rfl (lv_at hl 0 rfl) ?_
      refine lv_iload_n hx hb dL_law_892 rfl (lv_at hl 3 rfl) ?_
      refine lv_iconst (v := 2) hx hb dL_law_893 (by decide) ?_
      refine lv_iadd hx hb dL_law_894 ?_
      refine va_sld hx hb hX hbl hbA hS hv2 dL_law_895 ?_
      refine lv_aload_n hx hb dL_law_896 rfl (lv_at hl 0 rfl) ?_
      refine lv_iload_n hx hb dL_law_897 rfl (lv_at hl 3 rfl) ?_
      refine lv_iconst (v := 3) hx hb dL_law_898 (by decide) ?_
      refine lv_iadd hx hb dL_law_899 ?_
      refine va_sld hx hb hX hbl hbA hS hv3 dL_law_900 ?_
      refine lv_aload_n hx hb dL_law_901 rfl (lv_at hl 0 rfl) ?_
      refine lv_iload_n hx hb dL_law_902 rfl (lv_at hl 3 rfl) ?_
      refine lv_iconst (v := 4) hx hb dL_law_903 (by decide) ?_
      refine lv_iadd hx hb dL_law_904 ?_
      refine va_sld hx hb hX hbl hbA hS hv4 dL_law_905 ?_
      refine lv_aload_n hx hb dL_law_906 rfl (lv_at hl 0 rfl) ?_
      refine lv_iload_n hx hb dL_law_907 rfl (lv_at hl 3 rfl) ?_
      refine lv_iconst (v := 5) hx hb dL_law_908 (by decide) ?_
      refine lv_iadd hx hb dL_law_909 ?_
      refine va_sld hx hb hX hbl hbA hS hv5 dL_law_910 ?_
      refine L_calli (As := [.int (xs (x3 + 1).toNatClampNeg), .int (xs (x3 + 2).toNatClampNeg), .int (xs (x3 + 3).toNatClampNeg), .int (xs (x3 + 4).toNatClampNeg), .int (xs (x3 + 5).toNatClampNeg)]) (rest := [.int r1]) ⟨hx, hb, hml, hown, hts⟩ hKM hPM hDM hPC hDC hdis2 hAM hS 0 6 rfl rfl (c_X8_shadow l D cJ cZ aM AM τ (xs (x3 + 1).toNatClampNeg) (xs (x3 + 2).toNatClampNeg) (xs (x3 + 3).toNatClampNeg) (xs (x3 + 4).toNatClampNeg) (xs (x3 + 5).toNatClampNeg) _ hw) (cwV 5 hts gL_law_X8_shadow rfl rfl rfl (by decide +kernel) ⟨Nat.le_of_ble_eq_true rfl, Nat.le_of_ble_eq_true rfl⟩) rfl hl.1 rfl (Nat.le_of_ble_eq_true rfl) dL_law_911 ⟨Nat.le_of_ble_eq_true rfl, Nat.le_of_ble_eq_true rfl⟩ (fun r2 τ1 hw H locs hPM hDM hPC hS => ?_)
      refine lv_icmp_eq (tgt := 1028) hx hb dL_law_914 (by decide) (fun _ => hnext σ1 τ1 hw.2 hj H locs hPC hDC hPM hDM hS) (fun c8 => absurd hw.1 c8)
    by_cases q24 : xo = (24 : Int32)
    · refine lv_tableIn (off := 886) (tgt := 919) hx hb dL_law_33 (by rw [q24]; decide) (by rw [q24]; decide) (by rw [q24]; rfl) (by decide) ?_
      refine lv_aload_n hx hb dL_law_919 rfl (lv_at hl 1 rfl) ?_
      refine lv_aload_n hx hb dL_law_920 rfl (lv_at hl 0 rfl) ?_
      refine lv_iload_n hx hb dL_law_921 rfl (lv_at hl 3 rfl) ?_
      refine lv_iconst (v := 1) hx hb dL_law_922 (by decide) ?_
      refine lv_iadd hx hb dL_law_923 ?_
      refine va_sld hx hb hX hbl hbA hS hv1 dL_law_924 ?_
      refine lv_aload_n hx hb dL_law_925 rfl (lv_at hl 0 rfl) ?_
      refine lv_iload_n hx hb dL_law_926 rfl (lv_at hl 3 rfl) ?_
      refine lv_iconst (v := 2) hx hb dL_law_927 (by decide) ?_
      refine lv_iadd hx hb dL_law_928 ?_
      refine va_sld hx hb hX hbl hbA hS hv2 dL_law_929 ?_
      refine lv_aload_n hx hb dL_law_930 rfl (lv_at hl 0 rfl) ?_
      refine lv_iload_n hx hb dL_law_931 rfl (lv_at hl 3 rfl) ?_
      refine lv_iconst (v := 3) hx hb dL_law_932 (by decide) ?_
      refine lv_iadd hx hb dL_law_933 ?_
      refine va_sld hx hb hX hbl hbA hS hv3 dL_law_934 ?_
      refine lv_aload_n hx hb dL_law_935 rfl (lv_at hl 0 rfl) ?_
      refine lv_iload_n hx hb dL_law_936 rfl (lv_at hl 3 rfl) ?_
      refine lv_iconst (v := 4) hx hb dL_law_937 (by decide) ?_
      refine lv_iadd hx hb dL_law_938 ?_
      refine va_sld hx hb hX hbl hbA hS hv4 dL_law_939 ?_
      refine lv_aload_n hx hb dL_law_940 rfl (lv_at hl 0 rfl) ?_
      refine lv_iload_n hx hb dL_law_941 rfl (lv_at hl 3 rfl) ?_
      refine lv_iconst (v := 5) hx hb dL_law_942 (by decide) ?_
      refine lv_iadd hx hb dL_law_943 ?_
      refine va_sld hx hb hX hbl hbA hS hv5 dL_law_944 ?_
      refine L_calli (As := [.int (xs (x3 + 1).toNatClampNeg), .int (xs (x3 + 2).toNatClampNeg), .int (xs (x3 + 3).toNatClampNeg), .int (xs (x3 + 4).toNatClampNeg), .int (xs (x3 + 5).toNatClampNeg)]) (rest := []) ⟨hx, hb, hml, hown, hts⟩ hKC hPC hDC hPM hDM hdis hAC hS 0 5 rfl rfl (c_X7_exact l D cI aC AC σ (xs (x3 + 1).toNatClampNeg) (xs (x3 + 2).toNatClampNeg) (xs (x3 + 3).toNatClampNeg) (xs (x3 + 4).toNatClampNeg) (xs (x3 + 5).toNatClampNeg) _ (hs_exact j σ τ (xs (x3 + 1).toNatClampNeg) (xs (x3 + 2).toNatClampNeg) (xs (x3 + 3).toNatClampNeg) (xs (x3 + 4).toNatClampNeg) (xs (x3 + 5).toNatClampNeg) hj5 hR)) (cwV 5 hts gL_law_X7_exact rfl rfl rfl (by decide +kernel) ⟨Nat.le_of_ble_eq_true rfl, Nat.le_of_ble_eq_true rfl⟩) rfl hl.1 rfl (Nat.le_of_ble_eq_true rfl) dL_law_945 ⟨Nat.le_of_ble_eq_true rfl, Nat.le_of_ble_eq_true rfl⟩ (fun r1 σ1 hw H locs hPC hDC hPM hS => ?_)
      refine lv_aload_n hx hb dL_law_948 rfl (lv_at hl 2 rfl) ?_
      refine lv_aload_n hx hb dL_law_949 rfl (lv_at hl 0 rfl) ?_
      refine lv_iload_n hx hb dL_law_950 rfl (lv_at hl 3 rfl) ?_
      refine lv_iconst (v := 1) hx hb dL_law_951 (by decide) ?_
      refine lv_iadd hx hb dL_law_952 ?_
      refine va_sld hx hb hX hbl hbA hS hv1 dL_law_953 ?_
      refine lv_aload_n hx hb dL_law_954 rfl (lv_at hl 0 rfl) ?_
      refine lv_iload_n hx hb dL_law_955 rfl (lv_at hl 3 rfl) ?_
      refine lv_iconst (v := 2) hx hb dL_law_956 (by decide) ?_
      refine lv_iadd hx hb dL_law_957 ?_
      refine va_sld hx hb hX hbl hbA hS hv2 dL_law_958 ?_
      refine lv_aload_n hx hb dL_law_959 rfl (lv_at hl 0 rfl) ?_
      refine lv_iload_n hx hb dL_law_960 rfl (lv_at hl 3 rfl) ?_
      refine lv_iconst (v := 3) hx hb dL_law_961 (by decide) ?_
      refine lv_iadd hx hb dL_law_962 ?_
      refine va_sld hx hb hX hbl hbA hS hv3 dL_law_963 ?_
      refine lv_aload_n hx hb dL_law_964 rfl (lv_at hl 0 rfl) ?_
      refine lv_iload_n hx hb dL_law_965 rfl (lv_at hl 3 rfl) ?_
      refine lv_iconst (v := 4) hx hb dL_law_966 (by decide) ?_
      refine lv_iadd hx hb dL_law_967 ?_
      refine va_sld hx hb hX hbl hbA hS hv4 dL_law_968 ?_
      refine lv_aload_n hx hb dL_law_969 rfl (lv_at hl 0 rfl) ?_
      refine lv_iload_n hx hb dL_law_970 rfl (lv_at hl 3 rfl) ?_
      refine lv_iconst (v := 5) hx hb dL_law_971 (by decide) ?_
      refine lv_iadd hx hb dL_law_972 ?_
      refine va_sld hx hb hX hbl hbA hS hv5 dL_law_973 ?_
      refine L_calli (As := [.int (xs (x3 + 1).toNatClampNeg), .int (xs (x3 + 2).toNatClampNeg), .int (xs (x3 + 3).toNatClampNeg), .int (xs (x3 + 4).toNatClampNeg), .int (xs (x3 + 5).toNatClampNeg)]) (rest := [.int r1]) ⟨hx, hb, hml, hown, hts⟩ hKM hPM hDM hPC hDC hdis2 hAM hS 0 6 rfl rfl (c_X8_exact l D cJ cZ aM AM τ (xs (x3 + 1).toNatClampNeg) (xs (x3 + 2).toNatClampNeg) (xs (x3 + 3).toNatClampNeg) (xs (x3 + 4).toNatClampNeg) (xs (x3 + 5).toNatClampNeg) _ hw) (cwV 5 hts gL_law_X8_exact rfl rfl rfl (by decide +kernel) ⟨Nat.le_of_ble_eq_true rfl, Nat.le_of_ble_eq_true rfl⟩) rfl hl.1 rfl (Nat.le_of_ble_eq_true rfl) dL_law_974 ⟨Nat.le_of_ble_eq_true rfl, Nat.le_of_ble_eq_true rfl⟩ (fun r2 τ1 hw H locs hPM hDM hPC hS => ?_)
      refine lv_icmp_eq (tgt := 1028) hx hb dL_law_977 (by decide) (fun _ => hnext σ1 τ1 hw.2 hj H locs hPC hDC hPM hDM hS) (fun c8 => absurd hw.1 c8)
    by_cases q25 : xo = (25 : Int32)
    · refine lv_tableIn (off := 949) (tgt := 982) hx hb dL_law_33 (by rw [q25]; decide) (by rw [q25]; decide) (by rw [q25]; rfl) (by decide) ?_
      refine lv_aload_n hx hb dL_law_982 rfl (lv_at hl 1 rfl) ?_
      refine lv_aload_n hx hb dL_law_983 rfl (lv_at hl 0 rfl) ?_
      refine lv_iload_n hx hb dL_law_984 rfl (lv_at hl 3 rfl) ?_
      refine lv_iconst (v := 1) hx hb dL_law_985 (by decide) ?_
      refine lv_iadd hx hb dL_law_986 ?_
      refine va_sld hx hb hX hbl hbA hS hv1 dL_law_987 ?_
      refine L_calli (As := [.int (xs (x3 + 1).toNatClampNeg)]) (rest := []) ⟨hx, hb, hml, hown, hts⟩ hKC hPC hDC hPM hDM hdis hAC hS 0 5 rfl rfl (c_X7_keep l D cI aC AC σ (xs (x3 + 1).toNatClampNeg) _ (hs_keep j σ τ (xs (x3 + 1).toNatClampNeg) hj5 hR)) (cwV 1 hts gL_law_X7_keep rfl rfl rfl (by decide +kernel) ⟨Nat.le_of_ble_eq_true rfl, Nat.le_of_ble_eq_true rfl⟩) rfl hl.1 rfl (Nat.le_of_ble_eq_true rfl) dL_law_988 ⟨Nat.le_of_ble_eq_true rfl, Nat.le_of_ble_eq_true rfl⟩ (fun r1 σ1 hw H locs hPC hDC hPM hS => ?_)
      refine lv_aload_n hx hb dL_law_991 rfl (lv_at hl 2 rfl) ?_
      refine lv_aload_n hx hb dL_law_992 rfl (lv_at hl 0 rfl) ?_
      refine lv_iload_n hx hb dL_law_993 rfl (lv_at hl 3 rfl) ?_
      refine lv_iconst (v := 1) hx hb dL_law_994 (by decide) ?_
      refine lv_iadd hx hb dL_law_995 ?_
      refine va_sld hx hb hX hbl hbA hS hv1 dL_law_996 ?_
      refine L_calli (As := [.int (xs (x3 + 1).toNatClampNeg)]) (rest := [.int r1]) ⟨hx, hb, hml, hown, hts⟩ hKM hPM hDM hPC hDC hdis2 hAM hS 0 6 rfl rfl (c_X8_keep l D cJ cZ aM AM τ (xs (x3 + 1).toNatClampNeg) _ hw) (cwV 1 hts gL_law_X8_keep rfl rfl rfl (by decide +kernel) ⟨Nat.le_of_ble_eq_true rfl, Nat.le_of_ble_eq_true rfl⟩) rfl hl.1 rfl (Nat.le_of_ble_eq_true rfl) dL_law_997 ⟨Nat.le_of_ble_eq_true rfl, Nat.le_of_ble_eq_true rfl⟩ (fun r2 τ1 hw H locs hPM hDM hPC hS => ?_)
      refine lv_icmp_eq (tgt := 1028) hx hb dL_law_1000 (by decide) (fun _ => hnext σ1 τ1 hw.2 hj H locs hPC hDC hPM hDM hS) (fun c8 => absurd hw.1 c8)
    by_cases q26 : xo = (26 : Int32)
    · refine lv_tableIn (off := 972) (tgt := 1005) hx hb dL_law_33 (by rw [q26]; decide) (by rw [q26]; decide) (by rw [q26]; rfl) (by decide) ?_
      refine lv_aload_n hx hb dL_law_1005 rfl (lv_at hl 1 rfl) ?_
      refine lv_aload_n hx hb dL_law_1006 rfl (lv_at hl 0 rfl) ?_
      refine lv_iload_n hx hb dL_law_1007 rfl (lv_at hl 3 rfl) ?_
      refine lv_iconst (v := 1) hx hb dL_law_1008 (by decide) ?_
      refine lv_iadd hx hb dL_law_1009 ?_
      refine va_sld hx hb hX hbl hbA hS hv1 dL_law_1010 ?_
      refine L_calli (As := [.int (xs (x3 + 1).toNatClampNeg)]) (rest := []) ⟨hx, hb, hml, hown, hts⟩ hKC hPC hDC hPM hDM hdis hAC hS 0 5 rfl rfl (c_X7_goBack l D cI aC AC σ (xs (x3 + 1).toNatClampNeg) _ (hs_goBack j σ τ (xs (x3 + 1).toNatClampNeg) hj5 hR)) (cwV 1 hts gL_law_X7_goBack rfl rfl rfl (by decide +kernel) ⟨Nat.le_of_ble_eq_true rfl, Nat.le_of_ble_eq_true rfl⟩) rfl hl.1 rfl (Nat.le_of_ble_eq_true rfl) dL_law_1011 ⟨Nat.le_of_ble_eq_true rfl, Nat.le_of_ble_eq_true rfl⟩ (fun r1 σ1 hw H locs hPC hDC hPM hS => ?_)
      refine lv_aload_n hx hb dL_law_1014 rfl (lv_at hl 2 rfl) ?_
      refine lv_aload_n hx hb dL_law_1015 rfl (lv_at hl 0 rfl) ?_
      refine lv_iload_n hx hb dL_law_1016 rfl (lv_at hl 3 rfl) ?_
      refine lv_iconst (v := 1) hx hb dL_law_1017 (by decide) ?_
      refine lv_iadd hx hb dL_law_1018 ?_
      refine va_sld hx hb hX hbl hbA hS hv1 dL_law_1019 ?_
      refine L_calli (As := [.int (xs (x3 + 1).toNatClampNeg)]) (rest := [.int r1]) ⟨hx, hb, hml, hown, hts⟩ hKM hPM hDM hPC hDC hdis2 hAM hS 0 6 rfl rfl (c_X8_goBack l D cJ cZ aM AM τ (xs (x3 + 1).toNatClampNeg) _ hw) (cwV 1 hts gL_law_X8_goBack rfl rfl rfl (by decide +kernel) ⟨Nat.le_of_ble_eq_true rfl, Nat.le_of_ble_eq_true rfl⟩) rfl hl.1 rfl (Nat.le_of_ble_eq_true rfl) dL_law_1020 ⟨Nat.le_of_ble_eq_true rfl, Nat.le_of_ble_eq_true rfl⟩ (fun r2 τ1 hw H locs hPM hDM hPC hS => ?_)
      refine lv_icmp_eq (tgt := 1028) hx hb dL_law_1023 (by decide) (fun _ => hnext σ1 τ1 hw.2 hj H locs hPC hDC hPM hDM hS) (fun c8 => absurd hw.1 c8)
    have s0 := lv_neT q0 (a := 0) (by decide)
    have s1 := lv_neT q1 (a := 1) (by decide)
    have s2 := lv_neT q2 (a := 2) (by decide)
    have s3 := lv_neT q3 (a := 3) (by decide)
    have s4 := lv_neT q4 (a := 4) (by decide)
    have s5 := lv_neT q5 (a := 5) (by decide)
    have s6 := lv_neT q6 (a := 6) (by decide)
    have s7 := lv_neT q7 (a := 7) (by decide)
    have s8 := lv_neT q8 (a := 8) (by decide)
    have s9 := lv_neT q9 (a := 9) (by decide)
    have s10 := lv_neT q10 (a := 10) (by decide)
    have s11 := lv_neT q11 (a := 11) (by decide)
    have s12 := lv_neT q12 (a := 12) (by decide)
    have s13 := lv_neT q13 (a := 13) (by decide)
    have s14 := lv_neT q14 (a := 14) (by decide)
    have s15 := lv_neT q15 (a := 15) (by decide)
    have s16 := lv_neT q16 (a := 16) (by decide)
    have s17 := lv_neT q17 (a := 17) (by decide)
    have s18 := lv_neT q18 (a := 18) (by decide)
    have s19 := lv_neT q19 (a := 19) (by decide)
    have s20 := lv_neT q20 (a := 20) (by decide)
    have s21 := lv_neT q21 (a := 21) (by decide)
    have s22 := lv_neT q22 (a := 22) (by decide)
    have s23 := lv_neT q23 (a := 23) (by decide)
    have s24 := lv_neT q24 (a := 24) (by decide)
    have s25 := lv_neT q25 (a := 25) (by decide)
    have s26 := lv_neT q26 (a := 26) (by decide)
    refine lv_tableOut (tgt := 1028) hx hb dL_law_33 (by omega) (by decide) ?_
    exact hnext σ τ (hmono _ _ _ hR) hj H locs hPC hDC hPM hDM hS
