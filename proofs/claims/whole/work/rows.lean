section
-- ===== PART A: goes FIRST, ahead of the names: the tables' words, and 'selects' of the private methods out of them =====
/-- a private method of a class that the tables say can be made, by its rows of tables_1 -/
def lw_okq (q : MethodName × Nat) : Prop := (q.1.cls ≠ "java/lang/invoke/MethodHandle" ∧ q.1.cls ≠ "java/lang/invoke/VarHandle") ∧ Cond.instantiable q.1.cls q.2 ∈ tables_1 ∧ Cond.privateMethod q.1 ∈ tables_1 ∧ Cond.instanceMethod q.1 ∈ tables_1
theorem lw_p0 : lw_okq (⟨"BitShadows", "begin", "()V"⟩, 12) := ⟨⟨by decide +kernel, by decide +kernel⟩, List.mem_of_getElem? (i := 14) (by decide +kernel), List.mem_of_getElem? (i := 138) (by decide +kernel), List.mem_of_getElem? (i := 139) (by decide +kernel)⟩
theorem lw_p1 : lw_okq (⟨"BitShadows", "changeRegister", "(II)V"⟩, 12) := ⟨⟨by decide +kernel, by decide +kernel⟩, List.mem_of_getElem? (i := 14) (by decide +kernel), List.mem_of_getElem? (i := 221) (by decide +kernel), List.mem_of_getElem? (i := 222) (by decide +kernel)⟩
theorem lw_p2 : lw_okq (⟨"BitShadows", "tick", "(II)I"⟩, 12) := ⟨⟨by decide +kernel, by decide +kernel⟩, List.mem_of_getElem? (i := 14) (by decide +kernel), List.mem_of_getElem? (i := 232) (by decide +kernel), List.mem_of_getElem? (i := 233) (by decide +kernel)⟩
theorem lw_p3 : lw_okq (⟨"BitShadows", "shadowOfRegister", "(I)I"⟩, 12) := ⟨⟨by decide +kernel, by decide +kernel⟩, List.mem_of_getElem? (i := 14) (by decide +kernel), List.mem_of_getElem? (i := 260) (by decide +kernel), List.mem_of_getElem? (i := 261) (by decide +kernel)⟩
theorem lw_p4 : lw_okq (⟨"BitShadows", "readOctet", "(I)I"⟩, 12) := ⟨⟨by decide +kernel, by decide +kernel⟩, List.mem_of_getElem? (i := 14) (by decide +kernel), List.mem_of_getElem? (i := 271) (by decide +kernel), List.mem_of_getElem? (i := 272) (by decide +kernel)⟩
theorem lw_p5 : lw_okq (⟨"BitShadows", "changeOctet", "(II)V"⟩, 12) := ⟨⟨by decide +kernel, by decide +kernel⟩, List.mem_of_getElem? (i := 14) (by decide +kernel), List.mem_of_getElem? (i := 298) (by decide +kernel), List.mem_of_getElem? (i := 299) (by decide +kernel)⟩
theorem lw_p6 : lw_okq (⟨"BitShadows", "placeAt", "(I)I"⟩, 12) := ⟨⟨by decide +kernel, by decide +kernel⟩, List.mem_of_getElem? (i := 14) (by decide +kernel), List.mem_of_getElem? (i := 309) (by decide +kernel), List.mem_of_getElem? (i := 310) (by decide +kernel)⟩
theorem lw_p7 : lw_okq (⟨"BitShadows", "followRule", "(IIII)I"⟩, 12) := ⟨⟨by decide +kernel, by decide +kernel⟩, List.mem_of_getElem? (i := 14) (by decide +kernel), List.mem_of_getElem? (i := 347) (by decide +kernel), List.mem_of_getElem? (i := 348) (by decide +kernel)⟩
theorem lw_p8 : lw_okq (⟨"BitShadows", "nextLot", "()I"⟩, 12) := ⟨⟨by decide +kernel, by decide +kernel⟩, List.mem_of_getElem? (i := 14) (by decide +kernel), List.mem_of_getElem? (i := 384) (by decide +kernel), List.mem_of_getElem? (i := 385) (by decide +kernel)⟩
theorem lw_p9 : lw_okq (⟨"BitShadows", "doByLots", "()V"⟩, 12) := ⟨⟨by decide +kernel, by decide +kernel⟩, List.mem_of_getElem? (i := 14) (by decide +kernel), List.mem_of_getElem? (i := 404) (by decide +kernel), List.mem_of_getElem? (i := 405) (by decide +kernel)⟩
theorem lw_p10 : lw_okq (⟨"BitShadows", "imageOf", "(I)LBitShadows$House;"⟩, 12) := ⟨⟨by decide +kernel, by decide +kernel⟩, List.mem_of_getElem? (i := 14) (by decide +kernel), List.mem_of_getElem? (i := 487) (by decide +kernel), List.mem_of_getElem? (i := 488) (by decide +kernel)⟩
theorem lw_p11 : lw_okq (⟨"BitShadowsModel", "become", "(IIII)I"⟩, 28) := ⟨⟨by decide +kernel, by decide +kernel⟩, List.mem_of_getElem? (i := 502) (by decide +kernel), List.mem_of_getElem? (i := 616) (by decide +kernel), List.mem_of_getElem? (i := 617) (by decide +kernel)⟩
theorem lw_p12 : lw_okq (⟨"BitShadowsModel", "remember", "(I)V"⟩, 28) := ⟨⟨by decide +kernel, by decide +kernel⟩, List.mem_of_getElem? (i := 502) (by decide +kernel), List.mem_of_getElem? (i := 620) (by decide +kernel), List.mem_of_getElem? (i := 621) (by decide +kernel)⟩
theorem lw_p13 : lw_okq (⟨"BitShadowsModel", "tick", "(II)I"⟩, 28) := ⟨⟨by decide +kernel, by decide +kernel⟩, List.mem_of_getElem? (i := 502) (by decide +kernel), List.mem_of_getElem? (i := 624) (by decide +kernel), List.mem_of_getElem? (i := 625) (by decide +kernel)⟩
theorem lw_p14 : lw_okq (⟨"BitShadowsModel", "isGround", "(I)Z"⟩, 28) := ⟨⟨by decide +kernel, by decide +kernel⟩, List.mem_of_getElem? (i := 502) (by decide +kernel), List.mem_of_getElem? (i := 633) (by decide +kernel), List.mem_of_getElem? (i := 634) (by decide +kernel)⟩
theorem lw_p15 : lw_okq (⟨"BitShadowsModel", "loadNow", "(II)I"⟩, 28) := ⟨⟨by decide +kernel, by decide +kernel⟩, List.mem_of_getElem? (i := 502) (by decide +kernel), List.mem_of_getElem? (i := 648) (by decide +kernel), List.mem_of_getElem? (i := 649) (by decide +kernel)⟩
def lw_privs_1 : List (MethodName × Nat) := [(⟨"BitShadows", "begin", "()V"⟩, 12), (⟨"BitShadows", "changeRegister", "(II)V"⟩, 12), (⟨"BitShadows", "tick", "(II)I"⟩, 12), (⟨"BitShadows", "shadowOfRegister", "(I)I"⟩, 12), (⟨"BitShadows", "readOctet", "(I)I"⟩, 12), (⟨"BitShadows", "changeOctet", "(II)V"⟩, 12), (⟨"BitShadows", "placeAt", "(I)I"⟩, 12), (⟨"BitShadows", "followRule", "(IIII)I"⟩, 12), (⟨"BitShadows", "nextLot", "()I"⟩, 12), (⟨"BitShadows", "doByLots", "()V"⟩, 12), (⟨"BitShadows", "imageOf", "(I)LBitShadows$House;"⟩, 12), (⟨"BitShadowsModel", "become", "(IIII)I"⟩, 28), (⟨"BitShadowsModel", "remember", "(I)V"⟩, 28), (⟨"BitShadowsModel", "tick", "(II)I"⟩, 28), (⟨"BitShadowsModel", "isGround", "(I)Z"⟩, 28), (⟨"BitShadowsModel", "loadNow", "(II)I"⟩, 28)]
theorem lw_r1 : ∀ q ∈ lw_privs_1, lw_okq q := List.forall_mem_cons.mpr ⟨lw_p0, List.forall_mem_cons.mpr ⟨lw_p1, List.forall_mem_cons.mpr ⟨lw_p2, List.forall_mem_cons.mpr ⟨lw_p3, List.forall_mem_cons.mpr ⟨lw_p4, List.forall_mem_cons.mpr ⟨lw_p5, List.forall_mem_cons.mpr ⟨lw_p6, List.forall_mem_cons.mpr ⟨lw_p7, List.forall_mem_cons.mpr ⟨lw_p8, List.forall_mem_cons.mpr ⟨lw_p9, List.forall_mem_cons.mpr ⟨lw_p10, List.forall_mem_cons.mpr ⟨lw_p11, List.forall_mem_cons.mpr ⟨lw_p12, List.forall_mem_cons.mpr ⟨lw_p13, List.forall_mem_cons.mpr ⟨lw_p14, List.forall_mem_cons.mpr ⟨lw_p15, fun _ h => absurd h List.not_mem_nil⟩⟩⟩⟩⟩⟩⟩⟩⟩⟩⟩⟩⟩⟩⟩⟩
theorem lw_p16 : lw_okq (⟨"BitShadowsModel", "read", "(I)V"⟩, 28) := ⟨⟨by decide +kernel, by decide +kernel⟩, List.mem_of_getElem? (i := 502) (by decide +kernel), List.mem_of_getElem? (i := 652) (by decide +kernel), List.mem_of_getElem? (i := 653) (by decide +kernel)⟩
theorem lw_p17 : lw_okq (⟨"BitShadowsModel", "cries", "(II)V"⟩, 28) := ⟨⟨by decide +kernel, by decide +kernel⟩, List.mem_of_getElem? (i := 502) (by decide +kernel), List.mem_of_getElem? (i := 656) (by decide +kernel), List.mem_of_getElem? (i := 657) (by decide +kernel)⟩
theorem lw_p18 : lw_okq (⟨"BitShadowsModel", "storeNow", "(II)I"⟩, 28) := ⟨⟨by decide +kernel, by decide +kernel⟩, List.mem_of_getElem? (i := 502) (by decide +kernel), List.mem_of_getElem? (i := 669) (by decide +kernel), List.mem_of_getElem? (i := 670) (by decide +kernel)⟩
theorem lw_p19 : lw_okq (⟨"BitShadowsModel", "placeBy", "(I)I"⟩, 28) := ⟨⟨by decide +kernel, by decide +kernel⟩, List.mem_of_getElem? (i := 502) (by decide +kernel), List.mem_of_getElem? (i := 677) (by decide +kernel), List.mem_of_getElem? (i := 678) (by decide +kernel)⟩
theorem lw_p20 : lw_okq (⟨"BitShadowsModel", "ruleNow", "(IIIIZ)I"⟩, 28) := ⟨⟨by decide +kernel, by decide +kernel⟩, List.mem_of_getElem? (i := 502) (by decide +kernel), List.mem_of_getElem? (i := 690) (by decide +kernel), List.mem_of_getElem? (i := 691) (by decide +kernel)⟩
theorem lw_p21 : lw_okq (⟨"BitShadowsModel", "decideNow", "(I)I"⟩, 28) := ⟨⟨by decide +kernel, by decide +kernel⟩, List.mem_of_getElem? (i := 502) (by decide +kernel), List.mem_of_getElem? (i := 710) (by decide +kernel), List.mem_of_getElem? (i := 711) (by decide +kernel)⟩
theorem lw_p22 : lw_okq (⟨"BitShadowsModel", "isDecided", "(I)Z"⟩, 28) := ⟨⟨by decide +kernel, by decide +kernel⟩, List.mem_of_getElem? (i := 502) (by decide +kernel), List.mem_of_getElem? (i := 714) (by decide +kernel), List.mem_of_getElem? (i := 715) (by decide +kernel)⟩
theorem lw_p23 : lw_okq (⟨"BitShadowsModel", "lotBy", "(I)I"⟩, 28) := ⟨⟨by decide +kernel, by decide +kernel⟩, List.mem_of_getElem? (i := 502) (by decide +kernel), List.mem_of_getElem? (i := 724) (by decide +kernel), List.mem_of_getElem? (i := 725) (by decide +kernel)⟩
theorem lw_p24 : lw_okq (⟨"BitShadowsModel", "letOnes", "()I"⟩, 28) := ⟨⟨by decide +kernel, by decide +kernel⟩, List.mem_of_getElem? (i := 502) (by decide +kernel), List.mem_of_getElem? (i := 734) (by decide +kernel), List.mem_of_getElem? (i := 735) (by decide +kernel)⟩
theorem lw_p25 : lw_okq (⟨"BitShadowsModel", "doByLots", "()V"⟩, 28) := ⟨⟨by decide +kernel, by decide +kernel⟩, List.mem_of_getElem? (i := 502) (by decide +kernel), List.mem_of_getElem? (i := 743) (by decide +kernel), List.mem_of_getElem? (i := 744) (by decide +kernel)⟩
theorem lw_p26 : lw_okq (⟨"BitShadowsModel", "keptCries", "()I"⟩, 28) := ⟨⟨by decide +kernel, by decide +kernel⟩, List.mem_of_getElem? (i := 502) (by decide +kernel), List.mem_of_getElem? (i := 763) (by decide +kernel), List.mem_of_getElem? (i := 764) (by decide +kernel)⟩
theorem lw_p27 : lw_okq (⟨"BitShadowsModel", "deadMany", "()I"⟩, 28) := ⟨⟨by decide +kernel, by decide +kernel⟩, List.mem_of_getElem? (i := 502) (by decide +kernel), List.mem_of_getElem? (i := 767) (by decide +kernel), List.mem_of_getElem? (i := 768) (by decide +kernel)⟩
theorem lw_p28 : lw_okq (⟨"BitShadowsModel", "unknownBits", "(II)I"⟩, 28) := ⟨⟨by decide +kernel, by decide +kernel⟩, List.mem_of_getElem? (i := 502) (by decide +kernel), List.mem_of_getElem? (i := 771) (by decide +kernel), List.mem_of_getElem? (i := 772) (by decide +kernel)⟩
theorem lw_p29 : lw_okq (⟨"BitShadowsModel", "criesOf", "(I)I"⟩, 28) := ⟨⟨by decide +kernel, by decide +kernel⟩, List.mem_of_getElem? (i := 502) (by decide +kernel), List.mem_of_getElem? (i := 791) (by decide +kernel), List.mem_of_getElem? (i := 792) (by decide +kernel)⟩
def lw_privs_2 : List (MethodName × Nat) := [(⟨"BitShadowsModel", "read", "(I)V"⟩, 28), (⟨"BitShadowsModel", "cries", "(II)V"⟩, 28), (⟨"BitShadowsModel", "storeNow", "(II)I"⟩, 28), (⟨"BitShadowsModel", "placeBy", "(I)I"⟩, 28), (⟨"BitShadowsModel", "ruleNow", "(IIIIZ)I"⟩, 28), (⟨"BitShadowsModel", "decideNow", "(I)I"⟩, 28), (⟨"BitShadowsModel", "isDecided", "(I)Z"⟩, 28), (⟨"BitShadowsModel", "lotBy", "(I)I"⟩, 28), (⟨"BitShadowsModel", "letOnes", "()I"⟩, 28), (⟨"BitShadowsModel", "doByLots", "()V"⟩, 28), (⟨"BitShadowsModel", "keptCries", "()I"⟩, 28), (⟨"BitShadowsModel", "deadMany", "()I"⟩, 28), (⟨"BitShadowsModel", "unknownBits", "(II)I"⟩, 28), (⟨"BitShadowsModel", "criesOf", "(I)I"⟩, 28)]
theorem lw_r2 : ∀ q ∈ lw_privs_2, lw_okq q := List.forall_mem_cons.mpr ⟨lw_p16, List.forall_mem_cons.mpr ⟨lw_p17, List.forall_mem_cons.mpr ⟨lw_p18, List.forall_mem_cons.mpr ⟨lw_p19, List.forall_mem_cons.mpr ⟨lw_p20, List.forall_mem_cons.mpr ⟨lw_p21, List.forall_mem_cons.mpr ⟨lw_p22, List.forall_mem_cons.mpr ⟨lw_p23, List.forall_mem_cons.mpr ⟨lw_p24, List.forall_mem_cons.mpr ⟨lw_p25, List.forall_mem_cons.mpr ⟨lw_p26, List.forall_mem_cons.mpr ⟨lw_p27, List.forall_mem_cons.mpr ⟨lw_p28, List.forall_mem_cons.mpr ⟨lw_p29, fun _ h => absurd h List.not_mem_nil⟩⟩⟩⟩⟩⟩⟩⟩⟩⟩⟩⟩⟩⟩
def lw_privs : List (MethodName × Nat) := lw_privs_1 ++ (lw_privs_2)
def lw_tbl : List Cond := k2_sels lw_privs ++ tables_1
theorem lw_privs_ok : ∀ q ∈ lw_privs, lw_okq q := by
  show ∀ q ∈ lw_privs_1 ++ (lw_privs_2), lw_okq q
  exact List.forall_mem_append.mpr ⟨lw_r1, lw_r2⟩
end
section
/-! ===== BEGIN words of one list among another's, by their places ===== -/
theorem goodIn_r {big : List Cond} (ws : List Cond) (ps : List Nat) (hp : ws = ps.filterMap (fun i => big[i]?)) (h : ws.all goodWord = true) : GoodIn big ws := by
  intro w hw
  have h1 := List.all_eq_true.mp h w hw
  rw [hp] at hw
  obtain ⟨i, -, hi⟩ := List.mem_filterMap.mp hw
  have hm : w ∈ big := by first | exact List.mem_of_getElem? hi | exact List.getElem?_mem hi
  exact ⟨hm, good_of_word h1⟩
theorem goodIn_app {big a b : List Cond} (ha : GoodIn big a) (hb : GoodIn big b) : GoodIn big (a ++ b) := fun w h => (List.mem_append.mp h).elim (ha w) (hb w)
theorem goodIn_ca {big a b : List Cond} {c : Cond} (ha : GoodIn big (c :: a)) (hb : GoodIn big b) : GoodIn big (c :: (a ++ b)) := fun w h => (List.mem_cons.mp h).elim (fun e => ha w (List.mem_cons.mpr (Or.inl e))) (fun h => (List.mem_append.mp h).elim (fun h => ha w (List.mem_cons.mpr (Or.inr h))) (hb w))
theorem goodIn_sub {big ws : List Cond} (hm : ∀ w ∈ ws, w ∈ big) (h : ws.all goodWord = true) : GoodIn big ws := fun w hw => ⟨hm w hw, good_of_word (List.all_eq_true.mp h w hw)⟩
/-! ===== END ===== -/

/-! ===== BEGIN printed: names, fields, word lists, decode rows ===== -/
def RX0 : String := "BitShadows$Cell"
def TX0 : u_T := fun k => match k with
  | _ => ("", "", "", false)
def tyX0 : Nat → FieldType := fun k => match k with
  | _ => .int
abbrev wsX00 : List Cond := u_ws RX0 TX0 0
theorem nmX0 : ∀ a, a < 0 → ∀ b, b < 0 → a ≠ b → (TX0 a).2.1 ≠ (TX0 b).2.1 := by decide +kernel
theorem tyX0_ok : ∀ k, k < 0 → parseFieldDescriptor (TX0 k).2.2.1 = some (tyX0 k) := by decide +kernel
abbrev cX0_of : ByteArray := prog_2_method_2_code
def yX0_of : MethodName := ⟨RX0, "of", "(III)I"⟩
abbrev cX0_valueOf : ByteArray := prog_2_method_3_code
def yX0_valueOf : MethodName := ⟨RX0, "valueOf", "(I)I"⟩
abbrev cX0_shadowOf : ByteArray := prog_2_method_4_code
def yX0_shadowOf : MethodName := ⟨RX0, "shadowOf", "(I)I"⟩
abbrev cX0_fromOf : ByteArray := prog_2_method_5_code
def yX0_fromOf : MethodName := ⟨RX0, "fromOf", "(I)I"⟩
abbrev cX0_leastOf : ByteArray := prog_2_method_6_code
def yX0_leastOf : MethodName := ⟨RX0, "leastOf", "(I)I"⟩
abbrev cX0_mostOf : ByteArray := prog_2_method_7_code
def yX0_mostOf : MethodName := ⟨RX0, "mostOf", "(I)I"⟩
abbrev cX0_isDecided : ByteArray := prog_2_method_8_code
def yX0_isDecided : MethodName := ⟨RX0, "isDecided", "(I)Z"⟩
abbrev cX0_partOf : ByteArray := prog_2_method_9_code
def yX0_partOf : MethodName := ⟨RX0, "partOf", "(III)I"⟩
def RX1 : String := "BitShadows$Changes"
def TX1 : u_T := fun k => match k with
  | 0 => ("BitShadows$Changes", "places", "[I", true)
  | 1 => ("BitShadows$Changes", "befores", "[I", true)
  | 2 => ("BitShadows$Changes", "count", "I", false)
  | _ => ("BitShadows$Changes", "next", "I", false)
def tyX1 : Nat → FieldType := fun k => match k with
  | 0 => .array .int
  | 1 => .array .int
  | 2 => .int
  | _ => .int
abbrev wsX10 : List Cond := u_ws RX1 TX1 4
theorem nmX1 : ∀ a, a < 4 → ∀ b, b < 4 → a ≠ b → (TX1 a).2.1 ≠ (TX1 b).2.1 := by decide +kernel
theorem tyX1_ok : ∀ k, k < 4 → parseFieldDescriptor (TX1 k).2.2.1 = some (tyX1 k) := by decide +kernel
abbrev cX1_init : ByteArray := prog_3_method_1_code
def yX1_init : MethodName := ⟨RX1, "<init>", "()V"⟩
abbrev cX1_clear : ByteArray := prog_3_method_2_code
def yX1_clear : MethodName := ⟨RX1, "clear", "()V"⟩
abbrev cX1_add : ByteArray := prog_3_method_3_code
def yX1_add : MethodName := ⟨RX1, "add", "(II)V"⟩
abbrev cX1_takeBackLatest : ByteArray := prog_3_method_4_code
def yX1_takeBackLatest : MethodName := ⟨RX1, "takeBackLatest", "([I)V"⟩
def RX2 : String := "BitShadows$Cries"
def TX2 : u_T := fun k => match k with
  | 0 => ("BitShadows$Cries", "kinds", "[I", true)
  | 1 => ("BitShadows$Cries", "ticks", "[I", true)
  | 2 => ("BitShadows$Cries", "groundSets", "[I", true)
  | 3 => ("BitShadows$Cries", "counted", "I", false)
  | _ => ("BitShadows$Cries", "kept", "I", false)
def tyX2 : Nat → FieldType := fun k => match k with
  | 0 => .array .int
  | 1 => .array .int
  | 2 => .array .int
  | 3 => .int
  | _ => .int
abbrev wsX20 : List Cond := u_ws RX2 TX2 5
theorem nmX2 : ∀ a, a < 5 → ∀ b, b < 5 → a ≠ b → (TX2 a).2.1 ≠ (TX2 b).2.1 := by decide +kernel
theorem tyX2_ok : ∀ k, k < 5 → parseFieldDescriptor (TX2 k).2.2.1 = some (tyX2 k) := by decide +kernel
abbrev cX2_init : ByteArray := prog_4_method_1_code
def yX2_init : MethodName := ⟨RX2, "<init>", "()V"⟩
abbrev cX2_clear : ByteArray := prog_4_method_2_code
def yX2_clear : MethodName := ⟨RX2, "clear", "()V"⟩
abbrev cX2_add : ByteArray := prog_4_method_3_code
def yX2_add : MethodName := ⟨RX2, "add", "(III)V"⟩
abbrev cX2_countNaming : ByteArray := prog_4_method_4_code
def yX2_countNaming : MethodName := ⟨RX2, "countNaming", "(I)I"⟩
def RX3 : String := "BitShadows$Grounds"
def TX3 : u_T := fun k => match k with
  | 0 => ("BitShadows$Grounds", "firsts", "[I", true)
  | 1 => ("BitShadows$Grounds", "lengths", "[I", true)
  | 2 => ("BitShadows$Grounds", "lastOver", "[I", true)
  | 3 => ("BitShadows$Grounds", "count", "I", false)
  | _ => ("BitShadows$Grounds", "letSet", "I", false)
def tyX3 : Nat → FieldType := fun k => match k with
  | 0 => .array .int
  | 1 => .array .int
  | 2 => .array .int
  | 3 => .int
  | _ => .int
abbrev wsX30 : List Cond := u_ws RX3 TX3 5
theorem nmX3 : ∀ a, a < 5 → ∀ b, b < 5 → a ≠ b → (TX3 a).2.1 ≠ (TX3 b).2.1 := by decide +kernel
theorem tyX3_ok : ∀ k, k < 5 → parseFieldDescriptor (TX3 k).2.2.1 = some (tyX3 k) := by decide +kernel
abbrev cX3_init : ByteArray := prog_5_method_1_code
def yX3_init : MethodName := ⟨RX3, "<init>", "()V"⟩
abbrev cX3_clear : ByteArray := prog_5_method_2_code
def yX3_clear : MethodName := ⟨RX3, "clear", "()V"⟩
abbrev cX3_has : ByteArray := prog_5_method_3_code
def yX3_has : MethodName := ⟨RX3, "has", "(I)Z"⟩
abbrev cX3_isLet : ByteArray := prog_5_method_4_code
def yX3_isLet : MethodName := ⟨RX3, "isLet", "(I)Z"⟩
abbrev cX3_anyIsLet : ByteArray := prog_5_method_5_code
def yX3_anyIsLet : MethodName := ⟨RX3, "anyIsLet", "(II)Z"⟩
abbrev cX3_open : ByteArray := prog_5_method_6_code
def yX3_open : MethodName := ⟨RX3, "open", "(II)I"⟩
abbrev cX3_close : ByteArray := prog_5_method_7_code
def yX3_close : MethodName := ⟨RX3, "close", "(I)V"⟩
def RX4 : String := "BitShadows$House"
def TX4 : u_T := fun k => match k with
  | 0 => ("BitShadows$House", "cells", "[I", true)
  | _ => ("BitShadows$House", "dead", "I", false)
def tyX4 : Nat → FieldType := fun k => match k with
  | 0 => .array .int
  | _ => .int
abbrev wsX40 : List Cond := u_ws RX4 TX4 2
theorem nmX4 : ∀ a, a < 2 → ∀ b, b < 2 → a ≠ b → (TX4 a).2.1 ≠ (TX4 b).2.1 := by decide +kernel
theorem tyX4_ok : ∀ k, k < 2 → parseFieldDescriptor (TX4 k).2.2.1 = some (tyX4 k) := by decide +kernel
abbrev cX4_init : ByteArray := prog_6_method_1_code
def yX4_init : MethodName := ⟨RX4, "<init>", "()V"⟩
abbrev cX4_clear : ByteArray := prog_6_method_2_code
def yX4_clear : MethodName := ⟨RX4, "clear", "()V"⟩
abbrev cX4_becomeAs : ByteArray := prog_6_method_3_code
def yX4_becomeAs : MethodName := ⟨RX4, "becomeAs", "(LBitShadows$House;)V"⟩
abbrev cX4_isDead : ByteArray := prog_6_method_4_code
def yX4_isDead : MethodName := ⟨RX4, "isDead", "(I)Z"⟩
abbrev cX4_unknownBits : ByteArray := prog_6_method_5_code
def yX4_unknownBits : MethodName := ⟨RX4, "unknownBits", "(II)I"⟩
def RX5 : String := "BitShadows$Ring"
def TX5 : u_T := fun k => match k with
  | 0 => ("BitShadows$Ring", "kinds", "[I", true)
  | 1 => ("BitShadows$Ring", "ticks", "[I", true)
  | 2 => ("BitShadows$Ring", "answers", "[I", true)
  | 3 => ("BitShadows$Ring", "count", "I", false)
  | _ => ("BitShadows$Ring", "next", "I", false)
def tyX5 : Nat → FieldType := fun k => match k with
  | 0 => .array .int
  | 1 => .array .int
  | 2 => .array .int
  | 3 => .int
  | _ => .int
abbrev wsX50 : List Cond := u_ws RX5 TX5 5
theorem nmX5 : ∀ a, a < 5 → ∀ b, b < 5 → a ≠ b → (TX5 a).2.1 ≠ (TX5 b).2.1 := by decide +kernel
theorem tyX5_ok : ∀ k, k < 5 → parseFieldDescriptor (TX5 k).2.2.1 = some (tyX5 k) := by decide +kernel
abbrev cX5_init : ByteArray := prog_7_method_1_code
def yX5_init : MethodName := ⟨RX5, "<init>", "()V"⟩
abbrev cX5_clear : ByteArray := prog_7_method_2_code
def yX5_clear : MethodName := ⟨RX5, "clear", "()V"⟩
abbrev cX5_add : ByteArray := prog_7_method_3_code
def yX5_add : MethodName := ⟨RX5, "add", "(III)V"⟩
abbrev cX5_placeOf : ByteArray := prog_7_method_4_code
def yX5_placeOf : MethodName := ⟨RX5, "placeOf", "(I)I"⟩
def RX6 : String := "BitShadows$Rules"
def TX6 : u_T := fun k => match k with
  | _ => ("", "", "", false)
def tyX6 : Nat → FieldType := fun k => match k with
  | _ => .int
abbrev wsX60 : List Cond := u_ws RX6 TX6 0
theorem nmX6 : ∀ a, a < 0 → ∀ b, b < 0 → a ≠ b → (TX6 a).2.1 ≠ (TX6 b).2.1 := by decide +kernel
theorem tyX6_ok : ∀ k, k < 0 → parseFieldDescriptor (TX6 k).2.2.1 = some (tyX6 k) := by decide +kernel
abbrev cX6_valueBy : ByteArray := prog_8_method_2_code
def yX6_valueBy : MethodName := ⟨RX6, "valueBy", "(III)I"⟩
abbrev cX6_shadowBy : ByteArray := prog_8_method_3_code
def yX6_shadowBy : MethodName := ⟨RX6, "shadowBy", "(IIIII)I"⟩
abbrev cX6_exactBy : ByteArray := prog_8_method_4_code
def yX6_exactBy : MethodName := ⟨RX6, "exactBy", "(IIIII)I"⟩
abbrev cX6_exactShift : ByteArray := prog_8_method_5_code
def yX6_exactShift : MethodName := ⟨RX6, "exactShift", "(IIIII)I"⟩
abbrev cX6_cellBy : ByteArray := prog_8_method_6_code
def yX6_cellBy : MethodName := ⟨RX6, "cellBy", "(III)I"⟩
abbrev cX6_slackOf : ByteArray := prog_8_method_7_code
def yX6_slackOf : MethodName := ⟨RX6, "slackOf", "(III)I"⟩
def RX7 : String := "BitShadows"
def TX7 : u_T := fun k => match k with
  | 0 => ("BitShadows", "house", "LBitShadows$House;", true)
  | 1 => ("BitShadows", "firstImage", "LBitShadows$House;", true)
  | 2 => ("BitShadows", "secondImage", "LBitShadows$House;", true)
  | 3 => ("BitShadows", "grounds", "LBitShadows$Grounds;", true)
  | 4 => ("BitShadows", "cries", "LBitShadows$Cries;", true)
  | 5 => ("BitShadows", "lastDone", "LBitShadows$Ring;", true)
  | 6 => ("BitShadows", "changes", "LBitShadows$Changes;", true)
  | 7 => ("BitShadows", "keptImages", "I", false)
  | 8 => ("BitShadows", "lotNow", "I", false)
  | 9 => ("BitShadows", "ticks", "I", false)
  | 10 => ("BitShadows", "slackAll", "I", false)
  | _ => ("BitShadows", "markNow", "J", false)
def tyX7 : Nat → FieldType := fun k => match k with
  | 0 => .object "BitShadows$House"
  | 1 => .object "BitShadows$House"
  | 2 => .object "BitShadows$House"
  | 3 => .object "BitShadows$Grounds"
  | 4 => .object "BitShadows$Cries"
  | 5 => .object "BitShadows$Ring"
  | 6 => .object "BitShadows$Changes"
  | 7 => .int
  | 8 => .int
  | 9 => .int
  | 10 => .int
  | _ => .long
abbrev wsX70 : List Cond := u_ws RX7 TX7 12
theorem nmX7 : ∀ a, a < 12 → ∀ b, b < 12 → a ≠ b → (TX7 a).2.1 ≠ (TX7 b).2.1 := by decide +kernel
theorem tyX7_ok : ∀ k, k < 12 → parseFieldDescriptor (TX7 k).2.2.1 = some (tyX7 k) := by decide +kernel
abbrev cX7_init : ByteArray := prog_1_method_1_code
def yX7_init : MethodName := ⟨RX7, "<init>", "()V"⟩
abbrev cX7_start : ByteArray := prog_1_method_2_code
def yX7_start : MethodName := ⟨RX7, "start", "()I"⟩
abbrev cX7_set : ByteArray := prog_1_method_3_code
def yX7_set : MethodName := ⟨RX7, "set", "(II)I"⟩
abbrev cX7_forget : ByteArray := prog_1_method_4_code
def yX7_forget : MethodName := ⟨RX7, "forget", "(III)I"⟩
abbrev cX7_copy : ByteArray := prog_1_method_5_code
def yX7_copy : MethodName := ⟨RX7, "copy", "(II)I"⟩
abbrev cX7_load : ByteArray := prog_1_method_6_code
def yX7_load : MethodName := ⟨RX7, "load", "(II)I"⟩
abbrev cX7_part : ByteArray := prog_1_method_7_code
def yX7_part : MethodName := ⟨RX7, "part", "(IIII)I"⟩
abbrev cX7_store : ByteArray := prog_1_method_8_code
def yX7_store : MethodName := ⟨RX7, "store", "(II)I"⟩
abbrev cX7_loadAt : ByteArray := prog_1_method_9_code
def yX7_loadAt : MethodName := ⟨RX7, "loadAt", "(II)I"⟩
abbrev cX7_storeAt : ByteArray := prog_1_method_10_code
def yX7_storeAt : MethodName := ⟨RX7, "storeAt", "(II)I"⟩
abbrev cX7_rule : ByteArray := prog_1_method_11_code
def yX7_rule : MethodName := ⟨RX7, "rule", "(IIII)I"⟩
abbrev cX7_decide : ByteArray := prog_1_method_12_code
def yX7_decide : MethodName := ⟨RX7, "decide", "(I)I"⟩
abbrev cX7_let : ByteArray := prog_1_method_13_code
def yX7_let : MethodName := ⟨RX7, "let", "(II)I"⟩
abbrev cX7_giveBack : ByteArray := prog_1_method_14_code
def yX7_giveBack : MethodName := ⟨RX7, "giveBack", "(I)I"⟩
abbrev cX7_drift : ByteArray := prog_1_method_15_code
def yX7_drift : MethodName := ⟨RX7, "drift", "(I)I"⟩
abbrev cX7_lot : ByteArray := prog_1_method_16_code
def yX7_lot : MethodName := ⟨RX7, "lot", "(I)I"⟩
abbrev cX7_undo : ByteArray := prog_1_method_17_code
def yX7_undo : MethodName := ⟨RX7, "undo", "()I"⟩
abbrev cX7_told : ByteArray := prog_1_method_18_code
def yX7_told : MethodName := ⟨RX7, "told", "(I)I"⟩
abbrev cX7_mark : ByteArray := prog_1_method_19_code
def yX7_mark : MethodName := ⟨RX7, "mark", "()J"⟩
abbrev cX7_register : ByteArray := prog_1_method_20_code
def yX7_register : MethodName := ⟨RX7, "register", "(II)I"⟩
abbrev cX7_octet : ByteArray := prog_1_method_21_code
def yX7_octet : MethodName := ⟨RX7, "octet", "(II)I"⟩
abbrev cX7_ground : ByteArray := prog_1_method_22_code
def yX7_ground : MethodName := ⟨RX7, "ground", "(II)I"⟩
abbrev cX7_cry : ByteArray := prog_1_method_23_code
def yX7_cry : MethodName := ⟨RX7, "cry", "(II)I"⟩
abbrev cX7_ring : ByteArray := prog_1_method_24_code
def yX7_ring : MethodName := ⟨RX7, "ring", "(II)I"⟩
abbrev cX7_shadow : ByteArray := prog_1_method_25_code
def yX7_shadow : MethodName := ⟨RX7, "shadow", "(IIIII)I"⟩
abbrev cX7_exact : ByteArray := prog_1_method_26_code
def yX7_exact : MethodName := ⟨RX7, "exact", "(IIIII)I"⟩
abbrev cX7_keep : ByteArray := prog_1_method_27_code
def yX7_keep : MethodName := ⟨RX7, "keep", "(I)I"⟩
abbrev cX7_goBack : ByteArray := prog_1_method_28_code
def yX7_goBack : MethodName := ⟨RX7, "goBack", "(I)I"⟩
abbrev cX7_begin : ByteArray := prog_1_method_29_code
def yX7_begin : MethodName := ⟨RX7, "begin", "()V"⟩
abbrev cX7_isRegister : ByteArray := prog_1_method_30_code
def yX7_isRegister : MethodName := ⟨RX7, "isRegister", "(I)Z"⟩
abbrev cX7_isOctet : ByteArray := prog_1_method_31_code
def yX7_isOctet : MethodName := ⟨RX7, "isOctet", "(I)Z"⟩
abbrev cX7_isImage : ByteArray := prog_1_method_32_code
def yX7_isImage : MethodName := ⟨RX7, "isImage", "(I)Z"⟩
abbrev cX7_imageOf : ByteArray := prog_1_method_33_code
def yX7_imageOf : MethodName := ⟨RX7, "imageOf", "(I)LBitShadows$House;"⟩
abbrev cX7_isByte : ByteArray := prog_1_method_34_code
def yX7_isByte : MethodName := ⟨RX7, "isByte", "(I)Z"⟩
abbrev cX7_isSort : ByteArray := prog_1_method_35_code
def yX7_isSort : MethodName := ⟨RX7, "isSort", "(I)Z"⟩
abbrev cX7_octetSet : ByteArray := prog_1_method_36_code
def yX7_octetSet : MethodName := ⟨RX7, "octetSet", "(II)I"⟩
abbrev cX7_tick : ByteArray := prog_1_method_37_code
def yX7_tick : MethodName := ⟨RX7, "tick", "(II)I"⟩
abbrev cX7_shadowOfRegister : ByteArray := prog_1_method_38_code
def yX7_shadowOfRegister : MethodName := ⟨RX7, "shadowOfRegister", "(I)I"⟩
abbrev cX7_changeRegister : ByteArray := prog_1_method_39_code
def yX7_changeRegister : MethodName := ⟨RX7, "changeRegister", "(II)V"⟩
abbrev cX7_changeOctet : ByteArray := prog_1_method_40_code
def yX7_changeOctet : MethodName := ⟨RX7, "changeOctet", "(II)V"⟩
abbrev cX7_readOctet : ByteArray := prog_1_method_41_code
def yX7_readOctet : MethodName := ⟨RX7, "readOctet", "(I)I"⟩
abbrev cX7_placeAt : ByteArray := prog_1_method_42_code
def yX7_placeAt : MethodName := ⟨RX7, "placeAt", "(I)I"⟩
abbrev cX7_followRule : ByteArray := prog_1_method_43_code
def yX7_followRule : MethodName := ⟨RX7, "followRule", "(IIII)I"⟩
abbrev cX7_nextLot : ByteArray := prog_1_method_44_code
def yX7_nextLot : MethodName := ⟨RX7, "nextLot", "()I"⟩
abbrev cX7_doByLots : ByteArray := prog_1_method_45_code
def yX7_doByLots : MethodName := ⟨RX7, "doByLots", "()V"⟩
def RX8 : String := "BitShadowsModel"
def TX8 : u_T := fun k => match k with
  | 0 => ("BitShadowsModel", "value", "[I", true)
  | 1 => ("BitShadowsModel", "shadow", "[I", true)
  | 2 => ("BitShadowsModel", "from", "[I", true)
  | 3 => ("BitShadowsModel", "isDead", "[Z", true)
  | 4 => ("BitShadowsModel", "groundOver", "[I", true)
  | 5 => ("BitShadowsModel", "grounds", "I", false)
  | 6 => ("BitShadowsModel", "groundAt", "[I", true)
  | 7 => ("BitShadowsModel", "groundMany", "[I", true)
  | 8 => ("BitShadowsModel", "isLet", "[Z", true)
  | 9 => ("BitShadowsModel", "lot", "I", false)
  | 10 => ("BitShadowsModel", "ticks", "I", false)
  | 11 => ("BitShadowsModel", "cried", "I", false)
  | 12 => ("BitShadowsModel", "cryIs", "[I", true)
  | 13 => ("BitShadowsModel", "cryTick", "[I", true)
  | 14 => ("BitShadowsModel", "cryOf", "[I", true)
  | 15 => ("BitShadowsModel", "slackAll", "I", false)
  | 16 => ("BitShadowsModel", "mark", "J", false)
  | 17 => ("BitShadowsModel", "ringed", "I", false)
  | 18 => ("BitShadowsModel", "ringIs", "[I", true)
  | 19 => ("BitShadowsModel", "ringTick", "[I", true)
  | 20 => ("BitShadowsModel", "ringTold", "[I", true)
  | 21 => ("BitShadowsModel", "undos", "I", false)
  | 22 => ("BitShadowsModel", "pastOf", "[I", true)
  | 23 => ("BitShadowsModel", "pastValue", "[I", true)
  | 24 => ("BitShadowsModel", "pastShadow", "[I", true)
  | 25 => ("BitShadowsModel", "pastFrom", "[I", true)
  | 26 => ("BitShadowsModel", "images", "[I", true)
  | _ => ("BitShadowsModel", "isKept", "[Z", true)
def tyX8 : Nat → FieldType := fun k => match k with
  | 0 => .array .int
  | 1 => .array .int
  | 2 => .array .int
  | 3 => .array .boolean
  | 4 => .array .int
  | 5 => .int
  | 6 => .array .int
  | 7 => .array .int
  | 8 => .array .boolean
  | 9 => .int
  | 10 => .int
  | 11 => .int
  | 12 => .array .int
  | 13 => .array .int
  | 14 => .array .int
  | 15 => .int
  | 16 => .long
  | 17 => .int
  | 18 => .array .int
  | 19 => .array .int
  | 20 => .array .int
  | 21 => .int
  | 22 => .array .int
  | 23 => .array .int
  | 24 => .array .int
  | 25 => .array .int
  | 26 => .array .int
  | _ => .array .boolean
abbrev wsX80 : List Cond := u_ws RX8 TX8 28
theorem nmX8 : ∀ a, a < 28 → ∀ b, b < 28 → a ≠ b → (TX8 a).2.1 ≠ (TX8 b).2.1 := by decide +kernel
theorem tyX8_ok : ∀ k, k < 28 → parseFieldDescriptor (TX8 k).2.2.1 = some (tyX8 k) := by decide +kernel
abbrev cX8_init : ByteArray := prog_10_method_1_code
def yX8_init : MethodName := ⟨RX8, "<init>", "()V"⟩
abbrev cX8_in : ByteArray := prog_10_method_3_code
def yX8_in : MethodName := ⟨RX8, "in", "(JJJ)Z"⟩
abbrev cX8_isRegister : ByteArray := prog_10_method_4_code
def yX8_isRegister : MethodName := ⟨RX8, "isRegister", "(I)Z"⟩
abbrev cX8_isOctet : ByteArray := prog_10_method_5_code
def yX8_isOctet : MethodName := ⟨RX8, "isOctet", "(I)Z"⟩
abbrev cX8_isGround : ByteArray := prog_10_method_6_code
def yX8_isGround : MethodName := ⟨RX8, "isGround", "(I)Z"⟩
abbrev cX8_isByte : ByteArray := prog_10_method_7_code
def yX8_isByte : MethodName := ⟨RX8, "isByte", "(I)Z"⟩
abbrev cX8_bits : ByteArray := prog_10_method_8_code
def yX8_bits : MethodName := ⟨RX8, "bits", "(I)I"⟩
abbrev cX8_start : ByteArray := prog_10_method_9_code
def yX8_start : MethodName := ⟨RX8, "start", "()I"⟩
abbrev cX8_lotBy : ByteArray := prog_10_method_10_code
def yX8_lotBy : MethodName := ⟨RX8, "lotBy", "(I)I"⟩
abbrev cX8_cries : ByteArray := prog_10_method_11_code
def yX8_cries : MethodName := ⟨RX8, "cries", "(II)V"⟩
abbrev cX8_tick : ByteArray := prog_10_method_12_code
def yX8_tick : MethodName := ⟨RX8, "tick", "(II)I"⟩
abbrev cX8_remember : ByteArray := prog_10_method_13_code
def yX8_remember : MethodName := ⟨RX8, "remember", "(I)V"⟩
abbrev cX8_become : ByteArray := prog_10_method_14_code
def yX8_become : MethodName := ⟨RX8, "become", "(IIII)I"⟩
abbrev cX8_set : ByteArray := prog_10_method_15_code
def yX8_set : MethodName := ⟨RX8, "set", "(II)I"⟩
abbrev cX8_forget : ByteArray := prog_10_method_16_code
def yX8_forget : MethodName := ⟨RX8, "forget", "(III)I"⟩
abbrev cX8_copy : ByteArray := prog_10_method_17_code
def yX8_copy : MethodName := ⟨RX8, "copy", "(II)I"⟩
abbrev cX8_read : ByteArray := prog_10_method_18_code
def yX8_read : MethodName := ⟨RX8, "read", "(I)V"⟩
abbrev cX8_loadNow : ByteArray := prog_10_method_19_code
def yX8_loadNow : MethodName := ⟨RX8, "loadNow", "(II)I"⟩
abbrev cX8_load : ByteArray := prog_10_method_20_code
def yX8_load : MethodName := ⟨RX8, "load", "(II)I"⟩
abbrev cX8_part : ByteArray := prog_10_method_21_code
def yX8_part : MethodName := ⟨RX8, "part", "(IIII)I"⟩
abbrev cX8_storeNow : ByteArray := prog_10_method_22_code
def yX8_storeNow : MethodName := ⟨RX8, "storeNow", "(II)I"⟩
abbrev cX8_store : ByteArray := prog_10_method_23_code
def yX8_store : MethodName := ⟨RX8, "store", "(II)I"⟩
abbrev cX8_placeBy : ByteArray := prog_10_method_24_code
def yX8_placeBy : MethodName := ⟨RX8, "placeBy", "(I)I"⟩
abbrev cX8_loadAt : ByteArray := prog_10_method_25_code
def yX8_loadAt : MethodName := ⟨RX8, "loadAt", "(II)I"⟩
abbrev cX8_storeAt : ByteArray := prog_10_method_26_code
def yX8_storeAt : MethodName := ⟨RX8, "storeAt", "(II)I"⟩
abbrev cX8_valueBy : ByteArray := prog_10_method_27_code
def yX8_valueBy : MethodName := ⟨RX8, "valueBy", "(III)I"⟩
abbrev cX8_shadowBy : ByteArray := prog_10_method_28_code
def yX8_shadowBy : MethodName := ⟨RX8, "shadowBy", "(IIIII)I"⟩
abbrev cX8_exactBy : ByteArray := prog_10_method_29_code
def yX8_exactBy : MethodName := ⟨RX8, "exactBy", "(IIIII)I"⟩
abbrev cX8_ruleNow : ByteArray := prog_10_method_30_code
def yX8_ruleNow : MethodName := ⟨RX8, "ruleNow", "(IIIIZ)I"⟩
abbrev cX8_rule : ByteArray := prog_10_method_31_code
def yX8_rule : MethodName := ⟨RX8, "rule", "(IIII)I"⟩
abbrev cX8_isDecided : ByteArray := prog_10_method_32_code
def yX8_isDecided : MethodName := ⟨RX8, "isDecided", "(I)Z"⟩
abbrev cX8_decideNow : ByteArray := prog_10_method_33_code
def yX8_decideNow : MethodName := ⟨RX8, "decideNow", "(I)I"⟩
abbrev cX8_decide : ByteArray := prog_10_method_34_code
def yX8_decide : MethodName := ⟨RX8, "decide", "(I)I"⟩
abbrev cX8_letOnes : ByteArray := prog_10_method_35_code
def yX8_letOnes : MethodName := ⟨RX8, "letOnes", "()I"⟩
abbrev cX8_let : ByteArray := prog_10_method_36_code
def yX8_let : MethodName := ⟨RX8, "let", "(II)I"⟩
abbrev cX8_giveBack : ByteArray := prog_10_method_37_code
def yX8_giveBack : MethodName := ⟨RX8, "giveBack", "(I)I"⟩
abbrev cX8_doByLots : ByteArray := prog_10_method_38_code
def yX8_doByLots : MethodName := ⟨RX8, "doByLots", "()V"⟩
abbrev cX8_drift : ByteArray := prog_10_method_39_code
def yX8_drift : MethodName := ⟨RX8, "drift", "(I)I"⟩
abbrev cX8_lot : ByteArray := prog_10_method_40_code
def yX8_lot : MethodName := ⟨RX8, "lot", "(I)I"⟩
abbrev cX8_undo : ByteArray := prog_10_method_41_code
def yX8_undo : MethodName := ⟨RX8, "undo", "()I"⟩
abbrev cX8_unknownBits : ByteArray := prog_10_method_42_code
def yX8_unknownBits : MethodName := ⟨RX8, "unknownBits", "(II)I"⟩
abbrev cX8_deadMany : ByteArray := prog_10_method_43_code
def yX8_deadMany : MethodName := ⟨RX8, "deadMany", "()I"⟩
abbrev cX8_keptCries : ByteArray := prog_10_method_44_code
def yX8_keptCries : MethodName := ⟨RX8, "keptCries", "()I"⟩
abbrev cX8_told : ByteArray := prog_10_method_45_code
def yX8_told : MethodName := ⟨RX8, "told", "(I)I"⟩
abbrev cX8_mark : ByteArray := prog_10_method_46_code
def yX8_mark : MethodName := ⟨RX8, "mark", "()J"⟩
abbrev cX8_register : ByteArray := prog_10_method_47_code
def yX8_register : MethodName := ⟨RX8, "register", "(II)I"⟩
abbrev cX8_octet : ByteArray := prog_10_method_48_code
def yX8_octet : MethodName := ⟨RX8, "octet", "(II)I"⟩
abbrev cX8_criesOf : ByteArray := prog_10_method_49_code
def yX8_criesOf : MethodName := ⟨RX8, "criesOf", "(I)I"⟩
abbrev cX8_ground : ByteArray := prog_10_method_50_code
def yX8_ground : MethodName := ⟨RX8, "ground", "(II)I"⟩
abbrev cX8_cry : ByteArray := prog_10_method_51_code
def yX8_cry : MethodName := ⟨RX8, "cry", "(II)I"⟩
abbrev cX8_ring : ByteArray := prog_10_method_52_code
def yX8_ring : MethodName := ⟨RX8, "ring", "(II)I"⟩
abbrev cX8_areWell : ByteArray := prog_10_method_53_code
def yX8_areWell : MethodName := ⟨RX8, "areWell", "(IIIII)Z"⟩
abbrev cX8_shadow : ByteArray := prog_10_method_54_code
def yX8_shadow : MethodName := ⟨RX8, "shadow", "(IIIII)I"⟩
abbrev cX8_exact : ByteArray := prog_10_method_55_code
def yX8_exact : MethodName := ⟨RX8, "exact", "(IIIII)I"⟩
abbrev cX8_keep : ByteArray := prog_10_method_56_code
def yX8_keep : MethodName := ⟨RX8, "keep", "(I)I"⟩
abbrev cX8_goBack : ByteArray := prog_10_method_57_code
def yX8_goBack : MethodName := ⟨RX8, "goBack", "(I)I"⟩
def RJ6 : String := "java/lang/Integer"
def TJ6 : u_T := fun k => match k with
  | _ => ("", "", "", false)
def tyJ6 : Nat → FieldType := fun k => match k with
  | _ => .int
abbrev wsJ60 : List Cond := u_ws RJ6 TJ6 0
theorem nmJ6 : ∀ a, a < 0 → ∀ b, b < 0 → a ≠ b → (TJ6 a).2.1 ≠ (TJ6 b).2.1 := by decide +kernel
theorem tyJ6_ok : ∀ k, k < 0 → parseFieldDescriptor (TJ6 k).2.2.1 = some (tyJ6 k) := by decide +kernel
abbrev cJ6_bitCount_0f7a4 : ByteArray := prog_11_method_49_code
def yJ6_bitCount_0f7a4 : MethodName := ⟨RJ6, "bitCount", "(I)I"⟩
def RJ9 : String := "java/lang/Math"
def TJ9 : u_T := fun k => match k with
  | _ => ("", "", "", false)
def tyJ9 : Nat → FieldType := fun k => match k with
  | _ => .int
abbrev wsJ90 : List Cond := u_ws RJ9 TJ9 0
theorem nmJ9 : ∀ a, a < 0 → ∀ b, b < 0 → a ≠ b → (TJ9 a).2.1 ≠ (TJ9 b).2.1 := by decide +kernel
theorem tyJ9_ok : ∀ k, k < 0 → parseFieldDescriptor (TJ9 k).2.2.1 = some (tyJ9 k) := by decide +kernel
abbrev cJ9_min_7cf53 : ByteArray := prog_12_method_69_code
def yJ9_min_7cf53 : MethodName := ⟨RJ9, "min", "(II)I"⟩
def RJ10 : String := "java/lang/System"
def TJ10 : u_T := fun k => match k with
  | _ => ("", "", "", false)
def tyJ10 : Nat → FieldType := fun k => match k with
  | _ => .int
abbrev wsJ100 : List Cond := u_ws RJ10 TJ10 0
theorem nmJ10 : ∀ a, a < 0 → ∀ b, b < 0 → a ≠ b → (TJ10 a).2.1 ≠ (TJ10 b).2.1 := by decide +kernel
theorem tyJ10_ok : ∀ k, k < 0 → parseFieldDescriptor (TJ10 k).2.2.1 = some (tyJ10 k) := by decide +kernel
def RL : String := "BitShadowsLaw"
abbrev cL_law : ByteArray := code
def yL_law : MethodName := ⟨RL, "law", "([I)Z"⟩
def wsX0_of : List Cond := .code yX0_of cX0_of 4 (some .int) :: ([])
def wsX0_valueOf : List Cond := .code yX0_valueOf cX0_valueOf 1 (some .int) :: ([])
def wsX0_shadowOf : List Cond := .code yX0_shadowOf cX0_shadowOf 1 (some .int) :: ([])
def wsX0_fromOf : List Cond := .code yX0_fromOf cX0_fromOf 1 (some .int) :: ([])
def wsX0_leastOf : List Cond := .code yX0_leastOf cX0_leastOf 1 (some .int) :: ([.methodLink RX0 9 yX0_valueOf, .static yX0_valueOf, .initialized RX0, .code yX0_valueOf cX0_valueOf 1 (some .int), .methodLink RX0 15 yX0_shadowOf, .static yX0_shadowOf, .code yX0_shadowOf cX0_shadowOf 1 (some .int)])
def wsX0_mostOf : List Cond := .code yX0_mostOf cX0_mostOf 1 (some .int) :: ([.methodLink RX0 9 yX0_valueOf, .static yX0_valueOf, .initialized RX0, .code yX0_valueOf cX0_valueOf 1 (some .int), .methodLink RX0 15 yX0_shadowOf, .static yX0_shadowOf, .code yX0_shadowOf cX0_shadowOf 1 (some .int)])
def wsX0_isDecided : List Cond := .code yX0_isDecided cX0_isDecided 1 (some .boolean) :: ([.methodLink RX0 18 yX0_leastOf, .static yX0_leastOf, .initialized RX0, .code yX0_leastOf cX0_leastOf 1 (some .int), .methodLink RX0 9 yX0_valueOf, .static yX0_valueOf, .code yX0_valueOf cX0_valueOf 1 (some .int), .methodLink RX0 15 yX0_shadowOf, .static yX0_shadowOf, .code yX0_shadowOf cX0_shadowOf 1 (some .int)])
def wsX0_partOf : List Cond := .code yX0_partOf cX0_partOf 4 (some .int) :: ([.methodLink RX0 9 yX0_valueOf, .static yX0_valueOf, .initialized RX0, .code yX0_valueOf cX0_valueOf 1 (some .int), .methodLink RX0 15 yX0_shadowOf, .static yX0_shadowOf, .code yX0_shadowOf cX0_shadowOf 1 (some .int), .methodLink RX0 21 yX0_fromOf, .static yX0_fromOf, .code yX0_fromOf cX0_fromOf 1 (some .int), .methodLink RX0 24 yX0_of, .static yX0_of, .code yX0_of cX0_of 4 (some .int)])
def wsX1_init : List Cond := .code yX1_init cX1_init 1 none :: ([.methodLink RX1 3 objectInit, .instanceMethod objectInit, .code objectInit ⟨#[0xb1]⟩ 1 none, .arrayClass .int, .fieldLink RX1 9 "BitShadows$Changes" "places" "[I", .fieldLink RX1 15 "BitShadows$Changes" "befores" "[I"] ++ wsX10)
def wsX1_clear : List Cond := .code yX1_clear cX1_clear 1 none :: ([.fieldLink RX1 18 "BitShadows$Changes" "count" "I", .fieldLink RX1 22 "BitShadows$Changes" "next" "I"] ++ wsX10)
def wsX1_add : List Cond := .code yX1_add cX1_add 3 none :: ([.fieldLink RX1 9 "BitShadows$Changes" "places" "[I", .fieldLink RX1 22 "BitShadows$Changes" "next" "I", .fieldLink RX1 15 "BitShadows$Changes" "befores" "[I", .fieldLink RX1 18 "BitShadows$Changes" "count" "I", .methodLink RX1 25 Lib.Math.min.name, .static Lib.Math.min.name, .initialized "java/lang/Math", .code Lib.Math.min.name Lib.Math.min.code 2 (some .int)] ++ wsX10)
def wsX1_takeBackLatest : List Cond := .code yX1_takeBackLatest cX1_takeBackLatest 2 none :: ([.fieldLink RX1 22 "BitShadows$Changes" "next" "I", .fieldLink RX1 9 "BitShadows$Changes" "places" "[I", .fieldLink RX1 15 "BitShadows$Changes" "befores" "[I", .fieldLink RX1 18 "BitShadows$Changes" "count" "I"] ++ wsX10)
def wsX2_init : List Cond := .code yX2_init cX2_init 1 none :: ([.methodLink RX2 3 objectInit, .instanceMethod objectInit, .code objectInit ⟨#[0xb1]⟩ 1 none, .arrayClass .int, .fieldLink RX2 9 "BitShadows$Cries" "kinds" "[I", .fieldLink RX2 15 "BitShadows$Cries" "ticks" "[I", .fieldLink RX2 18 "BitShadows$Cries" "groundSets" "[I"] ++ wsX20)
def wsX2_clear : List Cond := .code yX2_clear cX2_clear 1 none :: ([.fieldLink RX2 21 "BitShadows$Cries" "counted" "I", .fieldLink RX2 25 "BitShadows$Cries" "kept" "I"] ++ wsX20)
def wsX2_add : List Cond := .code yX2_add cX2_add 4 none :: ([.fieldLink RX2 21 "BitShadows$Cries" "counted" "I", .fieldLink RX2 25 "BitShadows$Cries" "kept" "I", .fieldLink RX2 9 "BitShadows$Cries" "kinds" "[I", .fieldLink RX2 15 "BitShadows$Cries" "ticks" "[I", .fieldLink RX2 18 "BitShadows$Cries" "groundSets" "[I"] ++ wsX20)
def wsX2_countNaming : List Cond := .code yX2_countNaming cX2_countNaming 4 (some .int) :: ([.fieldLink RX2 25 "BitShadows$Cries" "kept" "I", .fieldLink RX2 18 "BitShadows$Cries" "groundSets" "[I"] ++ wsX20)
def wsX3_init : List Cond := .code yX3_init cX3_init 1 none :: ([.methodLink RX3 3 objectInit, .instanceMethod objectInit, .code objectInit ⟨#[0xb1]⟩ 1 none, .arrayClass .int, .fieldLink RX3 9 "BitShadows$Grounds" "firsts" "[I", .fieldLink RX3 15 "BitShadows$Grounds" "lengths" "[I", .fieldLink RX3 18 "BitShadows$Grounds" "lastOver" "[I"] ++ wsX30)
def wsX3_clear : List Cond := .code yX3_clear cX3_clear 2 none :: ([.fieldLink RX3 18 "BitShadows$Grounds" "lastOver" "[I", .fieldLink RX3 21 "BitShadows$Grounds" "count" "I", .fieldLink RX3 25 "BitShadows$Grounds" "letSet" "I"] ++ wsX30)
def wsX3_has : List Cond := .code yX3_has cX3_has 2 (some .boolean) :: ([.fieldLink RX3 21 "BitShadows$Grounds" "count" "I"] ++ wsX30)
def wsX3_isLet : List Cond := .code yX3_isLet cX3_isLet 2 (some .boolean) :: ([.fieldLink RX3 25 "BitShadows$Grounds" "letSet" "I"] ++ wsX30)
def wsX3_anyIsLet : List Cond := .code yX3_anyIsLet cX3_anyIsLet 5 (some .boolean) :: ([.fieldLink RX3 18 "BitShadows$Grounds" "lastOver" "[I", .methodLink RX3 28 yX3_isLet, .instanceMethod yX3_isLet, .selects RX3 yX3_isLet yX3_isLet, .initialized RX3, .code yX3_isLet cX3_isLet 2 (some .boolean), .fieldLink RX3 25 "BitShadows$Grounds" "letSet" "I"] ++ wsX30)
def wsX3_open : List Cond := .code yX3_open cX3_open 5 (some .int) :: ([.fieldLink RX3 21 "BitShadows$Grounds" "count" "I", .fieldLink RX3 9 "BitShadows$Grounds" "firsts" "[I", .fieldLink RX3 15 "BitShadows$Grounds" "lengths" "[I", .fieldLink RX3 18 "BitShadows$Grounds" "lastOver" "[I", .fieldLink RX3 25 "BitShadows$Grounds" "letSet" "I"] ++ wsX30)
def wsX3_close : List Cond := .code yX3_close cX3_close 2 none :: ([.fieldLink RX3 25 "BitShadows$Grounds" "letSet" "I"] ++ wsX30)
def wsX4_init : List Cond := .code yX4_init cX4_init 1 none :: ([.methodLink RX4 3 objectInit, .instanceMethod objectInit, .code objectInit ⟨#[0xb1]⟩ 1 none, .arrayClass .int, .fieldLink RX4 9 "BitShadows$House" "cells" "[I"] ++ wsX40)
def wsX4_clear : List Cond := .code yX4_clear cX4_clear 2 none :: ([.fieldLink RX4 9 "BitShadows$House" "cells" "[I", .fieldLink RX4 15 "BitShadows$House" "dead" "I"] ++ wsX40)
def wsX4_becomeAs : List Cond := .code yX4_becomeAs cX4_becomeAs 2 none :: ([.fieldLink RX4 9 "BitShadows$House" "cells" "[I", .methodLink RX4 19 arraycopyName, .native arraycopyName, .static arraycopyName, .initialized "java/lang/System", .fieldLink RX4 15 "BitShadows$House" "dead" "I"] ++ wsX40)
def wsX4_isDead : List Cond := .code yX4_isDead cX4_isDead 2 (some .boolean) :: ([.fieldLink RX4 15 "BitShadows$House" "dead" "I"] ++ wsX40)
def wsJ6_bitCount_0f7a4 : List Cond := .code yJ6_bitCount_0f7a4 cJ6_bitCount_0f7a4 1 (some .int) :: ([.constant RJ6 265 (1431655765), .constant RJ6 266 (858993459), .constant RJ6 267 (252645135)])
def wsX4_unknownBits : List Cond := .code yX4_unknownBits cX4_unknownBits 5 (some .int) :: ([.fieldLink RX4 9 "BitShadows$House" "cells" "[I", .methodLink RX4 25 yX0_shadowOf, .static yX0_shadowOf, .initialized RX0, .code yX0_shadowOf cX0_shadowOf 1 (some .int), .methodLink RX4 31 yJ6_bitCount_0f7a4, .static yJ6_bitCount_0f7a4, .initialized RJ6, .code yJ6_bitCount_0f7a4 cJ6_bitCount_0f7a4 1 (some .int), .constant RJ6 265 (1431655765), .constant RJ6 266 (858993459), .constant RJ6 267 (252645135)] ++ wsX40)
def wsX5_init : List Cond := .code yX5_init cX5_init 1 none :: ([.methodLink RX5 3 objectInit, .instanceMethod objectInit, .code objectInit ⟨#[0xb1]⟩ 1 none, .arrayClass .int, .fieldLink RX5 9 "BitShadows$Ring" "kinds" "[I", .fieldLink RX5 15 "BitShadows$Ring" "ticks" "[I", .fieldLink RX5 18 "BitShadows$Ring" "answers" "[I"] ++ wsX50)
def wsX5_clear : List Cond := .code yX5_clear cX5_clear 1 none :: ([.fieldLink RX5 21 "BitShadows$Ring" "count" "I", .fieldLink RX5 25 "BitShadows$Ring" "next" "I"] ++ wsX50)
def wsX5_add : List Cond := .code yX5_add cX5_add 4 none :: ([.fieldLink RX5 9 "BitShadows$Ring" "kinds" "[I", .fieldLink RX5 25 "BitShadows$Ring" "next" "I", .fieldLink RX5 15 "BitShadows$Ring" "ticks" "[I", .fieldLink RX5 18 "BitShadows$Ring" "answers" "[I", .fieldLink RX5 21 "BitShadows$Ring" "count" "I", .methodLink RX5 28 Lib.Math.min.name, .static Lib.Math.min.name, .initialized "java/lang/Math", .code Lib.Math.min.name Lib.Math.min.code 2 (some .int)] ++ wsX50)
def wsX5_placeOf : List Cond := .code yX5_placeOf cX5_placeOf 2 (some .int) :: ([.fieldLink RX5 25 "BitShadows$Ring" "next" "I"] ++ wsX50)
def wsX6_valueBy : List Cond := .code yX6_valueBy cX6_valueBy 3 (some .int) :: ([])
def wsX6_shadowBy : List Cond := .code yX6_shadowBy cX6_shadowBy 9 (some .int) :: ([.methodLink RX6 9 yX6_valueBy, .static yX6_valueBy, .initialized RX6, .code yX6_valueBy cX6_valueBy 3 (some .int)])
def wsX6_exactShift : List Cond := .code yX6_exactShift cX6_exactShift 9 (some .int) :: ([.methodLink RX6 9 yX6_valueBy, .static yX6_valueBy, .initialized RX6, .code yX6_valueBy cX6_valueBy 3 (some .int)])
def wsX6_exactBy : List Cond := .code yX6_exactBy cX6_exactBy 5 (some .int) :: ([.methodLink RX6 15 yX6_shadowBy, .static yX6_shadowBy, .initialized RX6, .code yX6_shadowBy cX6_shadowBy 9 (some .int), .methodLink RX6 9 yX6_valueBy, .static yX6_valueBy, .code yX6_valueBy cX6_valueBy 3 (some .int), .methodLink RX6 19 yX6_exactShift, .static yX6_exactShift, .code yX6_exactShift cX6_exactShift 9 (some .int)])
def wsX6_cellBy : List Cond := .code yX6_cellBy cX6_cellBy 6 (some .int) :: ([.methodLink RX6 22 yX0_valueOf, .static yX0_valueOf, .initialized RX0, .code yX0_valueOf cX0_valueOf 1 (some .int), .methodLink RX6 28 yX0_shadowOf, .static yX0_shadowOf, .code yX0_shadowOf cX0_shadowOf 1 (some .int), .methodLink RX6 15 yX6_shadowBy, .static yX6_shadowBy, .initialized RX6, .code yX6_shadowBy cX6_shadowBy 9 (some .int), .methodLink RX6 9 yX6_valueBy, .static yX6_valueBy, .code yX6_valueBy cX6_valueBy 3 (some .int), .methodLink RX6 31 yX0_fromOf, .static yX0_fromOf, .code yX0_fromOf cX0_fromOf 1 (some .int), .methodLink RX6 34 yX0_of, .static yX0_of, .code yX0_of cX0_of 4 (some .int)])
def wsX6_slackOf_r1 : List Cond := [Cond.methodLink RX6 22 yX0_valueOf, Cond.static yX0_valueOf, Cond.initialized RX0, Cond.code yX0_valueOf cX0_valueOf 1 (some .int), Cond.methodLink RX6 28 yX0_shadowOf, Cond.static yX0_shadowOf, Cond.code yX0_shadowOf cX0_shadowOf 1 (some .int), Cond.methodLink RX6 15 yX6_shadowBy, Cond.static yX6_shadowBy, Cond.initialized RX6, Cond.code yX6_shadowBy cX6_shadowBy 9 (some .int), Cond.methodLink RX6 9 yX6_valueBy, Cond.static yX6_valueBy, Cond.code yX6_valueBy cX6_valueBy 3 (some .int), Cond.methodLink RX6 37 yX6_exactBy, Cond.static yX6_exactBy, Cond.code yX6_exactBy cX6_exactBy 5 (some .int), Cond.methodLink RX6 19 yX6_exactShift, Cond.static yX6_exactShift, Cond.code yX6_exactShift cX6_exactShift 9 (some .int), Cond.methodLink RX6 40 yJ6_bitCount_0f7a4, Cond.static yJ6_bitCount_0f7a4, Cond.initialized RJ6, Cond.code yJ6_bitCount_0f7a4 cJ6_bitCount_0f7a4 1 (some .int)]
def wsX6_slackOf_r2 : List Cond := [Cond.constant RJ6 265 (1431655765), Cond.constant RJ6 266 (858993459), Cond.constant RJ6 267 (252645135)]
def wsX6_slackOf : List Cond := .code yX6_slackOf cX6_slackOf 7 (some .int) :: ((wsX6_slackOf_r1 ++ wsX6_slackOf_r2))
def wsX7_begin_r1 : List Cond := [Cond.fieldLink RX7 12 "BitShadows" "house" "LBitShadows$House;", Cond.fieldLink RX7 25 "BitShadows" "grounds" "LBitShadows$Grounds;", Cond.fieldLink RX7 32 "BitShadows" "cries" "LBitShadows$Cries;", Cond.fieldLink RX7 39 "BitShadows" "lastDone" "LBitShadows$Ring;", Cond.fieldLink RX7 46 "BitShadows" "changes" "LBitShadows$Changes;", Cond.fieldLink RX7 255 "BitShadows" "keptImages" "I", Cond.fieldLink RX7 187 "BitShadows" "lotNow" "I", Cond.fieldLink RX7 53 "BitShadows" "ticks" "I", Cond.fieldLink RX7 118 "BitShadows" "slackAll" "I", Cond.fieldLink RX7 202 "BitShadows" "markNow" "J", Cond.methodLink RX7 261 yX4_clear, Cond.instanceMethod yX4_clear, Cond.selects RX4 yX4_clear yX4_clear, Cond.initialized RX4, Cond.code yX4_clear cX4_clear 2 none, Cond.fieldLink RX4 9 "BitShadows$House" "cells" "[I", Cond.fieldLink RX4 15 "BitShadows$House" "dead" "I", Cond.methodLink RX7 262 yX3_clear, Cond.instanceMethod yX3_clear, Cond.selects RX3 yX3_clear yX3_clear, Cond.initialized RX3, Cond.code yX3_clear cX3_clear 2 none, Cond.fieldLink RX3 18 "BitShadows$Grounds" "lastOver" "[I", Cond.fieldLink RX3 21 "BitShadows$Grounds" "count" "I"]
def wsX7_begin_r2 : List Cond := [Cond.fieldLink RX3 25 "BitShadows$Grounds" "letSet" "I", Cond.methodLink RX7 263 yX2_clear, Cond.instanceMethod yX2_clear, Cond.selects RX2 yX2_clear yX2_clear, Cond.initialized RX2, Cond.code yX2_clear cX2_clear 1 none, Cond.fieldLink RX2 21 "BitShadows$Cries" "counted" "I", Cond.fieldLink RX2 25 "BitShadows$Cries" "kept" "I", Cond.methodLink RX7 264 yX5_clear, Cond.instanceMethod yX5_clear, Cond.selects RX5 yX5_clear yX5_clear, Cond.initialized RX5, Cond.code yX5_clear cX5_clear 1 none, Cond.fieldLink RX5 21 "BitShadows$Ring" "count" "I", Cond.fieldLink RX5 25 "BitShadows$Ring" "next" "I", Cond.methodLink RX7 258 yX1_clear, Cond.instanceMethod yX1_clear, Cond.selects RX1 yX1_clear yX1_clear, Cond.initialized RX1, Cond.code yX1_clear cX1_clear 1 none, Cond.fieldLink RX1 18 "BitShadows$Changes" "count" "I", Cond.fieldLink RX1 22 "BitShadows$Changes" "next" "I"]
def wsX7_begin : List Cond := .code yX7_begin cX7_begin 1 none :: ((wsX7_begin_r1 ++ wsX7_begin_r2) ++ wsX70 ++ wsX40 ++ wsX30 ++ wsX20 ++ wsX50 ++ wsX10)
def wsX7_init_r1 : List Cond := [Cond.methodLink RX7 3 objectInit, Cond.instanceMethod objectInit, Cond.code objectInit ⟨#[0xb1]⟩ 1 none, Cond.classLink RX7 9 RX4, Cond.instantiable RX4 2, Cond.initialized RX4, Cond.fieldLink RX7 12 "BitShadows" "house" "LBitShadows$House;", Cond.fieldLink RX7 16 "BitShadows" "firstImage" "LBitShadows$House;", Cond.fieldLink RX7 19 "BitShadows" "secondImage" "LBitShadows$House;", Cond.classLink RX7 22 RX3, Cond.instantiable RX3 5, Cond.initialized RX3, Cond.fieldLink RX7 25 "BitShadows" "grounds" "LBitShadows$Grounds;", Cond.classLink RX7 29 RX2, Cond.instantiable RX2 5, Cond.initialized RX2, Cond.fieldLink RX7 32 "BitShadows" "cries" "LBitShadows$Cries;", Cond.classLink RX7 36 RX5, Cond.instantiable RX5 5, Cond.initialized RX5, Cond.fieldLink RX7 39 "BitShadows" "lastDone" "LBitShadows$Ring;", Cond.classLink RX7 43 RX1, Cond.instantiable RX1 4, Cond.initialized RX1]
def wsX7_init_r2 : List Cond := [Cond.fieldLink RX7 46 "BitShadows" "changes" "LBitShadows$Changes;", Cond.instanceMethod yX4_init, Cond.code yX4_init cX4_init 1 none, Cond.methodLink RX4 3 objectInit, Cond.arrayClass .int, Cond.fieldLink RX4 9 "BitShadows$House" "cells" "[I", Cond.instanceMethod yX3_init, Cond.code yX3_init cX3_init 1 none, Cond.methodLink RX3 3 objectInit, Cond.fieldLink RX3 9 "BitShadows$Grounds" "firsts" "[I", Cond.fieldLink RX3 15 "BitShadows$Grounds" "lengths" "[I", Cond.fieldLink RX3 18 "BitShadows$Grounds" "lastOver" "[I", Cond.instanceMethod yX2_init, Cond.code yX2_init cX2_init 1 none, Cond.methodLink RX2 3 objectInit, Cond.fieldLink RX2 9 "BitShadows$Cries" "kinds" "[I", Cond.fieldLink RX2 15 "BitShadows$Cries" "ticks" "[I", Cond.fieldLink RX2 18 "BitShadows$Cries" "groundSets" "[I", Cond.instanceMethod yX5_init, Cond.code yX5_init cX5_init 1 none, Cond.methodLink RX5 3 objectInit, Cond.fieldLink RX5 9 "BitShadows$Ring" "kinds" "[I", Cond.fieldLink RX5 15 "BitShadows$Ring" "ticks" "[I", Cond.fieldLink RX5 18 "BitShadows$Ring" "answers" "[I"]
def wsX7_init_r3 : List Cond := [Cond.instanceMethod yX1_init, Cond.code yX1_init cX1_init 1 none, Cond.methodLink RX1 3 objectInit, Cond.fieldLink RX1 9 "BitShadows$Changes" "places" "[I", Cond.fieldLink RX1 15 "BitShadows$Changes" "befores" "[I", Cond.methodLink RX7 50 yX7_begin, Cond.instanceMethod yX7_begin, Cond.selects RX7 yX7_begin yX7_begin, Cond.initialized RX7, Cond.code yX7_begin cX7_begin 1 none, Cond.fieldLink RX7 255 "BitShadows" "keptImages" "I", Cond.fieldLink RX7 187 "BitShadows" "lotNow" "I", Cond.fieldLink RX7 53 "BitShadows" "ticks" "I", Cond.fieldLink RX7 118 "BitShadows" "slackAll" "I", Cond.fieldLink RX7 202 "BitShadows" "markNow" "J", Cond.methodLink RX7 261 yX4_clear, Cond.instanceMethod yX4_clear, Cond.selects RX4 yX4_clear yX4_clear, Cond.code yX4_clear cX4_clear 2 none, Cond.fieldLink RX4 15 "BitShadows$House" "dead" "I", Cond.methodLink RX7 262 yX3_clear, Cond.instanceMethod yX3_clear, Cond.selects RX3 yX3_clear yX3_clear, Cond.code yX3_clear cX3_clear 2 none]
def wsX7_init_r4 : List Cond := [Cond.fieldLink RX3 21 "BitShadows$Grounds" "count" "I", Cond.fieldLink RX3 25 "BitShadows$Grounds" "letSet" "I", Cond.methodLink RX7 263 yX2_clear, Cond.instanceMethod yX2_clear, Cond.selects RX2 yX2_clear yX2_clear, Cond.code yX2_clear cX2_clear 1 none, Cond.fieldLink RX2 21 "BitShadows$Cries" "counted" "I", Cond.fieldLink RX2 25 "BitShadows$Cries" "kept" "I", Cond.methodLink RX7 264 yX5_clear, Cond.instanceMethod yX5_clear, Cond.selects RX5 yX5_clear yX5_clear, Cond.code yX5_clear cX5_clear 1 none, Cond.fieldLink RX5 21 "BitShadows$Ring" "count" "I", Cond.fieldLink RX5 25 "BitShadows$Ring" "next" "I", Cond.methodLink RX7 258 yX1_clear, Cond.instanceMethod yX1_clear, Cond.selects RX1 yX1_clear yX1_clear, Cond.code yX1_clear cX1_clear 1 none, Cond.fieldLink RX1 18 "BitShadows$Changes" "count" "I", Cond.fieldLink RX1 22 "BitShadows$Changes" "next" "I"]
def wsX7_init : List Cond := .code yX7_init cX7_init 1 none :: ((wsX7_init_r1 ++ (wsX7_init_r2 ++ (wsX7_init_r3 ++ wsX7_init_r4))) ++ wsX40 ++ wsX70 ++ wsX30 ++ wsX20 ++ wsX50 ++ wsX10)
def wsX7_start_r1 : List Cond := [Cond.fieldLink RX7 53 "BitShadows" "ticks" "I", Cond.methodLink RX7 50 yX7_begin, Cond.instanceMethod yX7_begin, Cond.selects RX7 yX7_begin yX7_begin, Cond.initialized RX7, Cond.code yX7_begin cX7_begin 1 none, Cond.fieldLink RX7 12 "BitShadows" "house" "LBitShadows$House;", Cond.fieldLink RX7 25 "BitShadows" "grounds" "LBitShadows$Grounds;", Cond.fieldLink RX7 32 "BitShadows" "cries" "LBitShadows$Cries;", Cond.fieldLink RX7 39 "BitShadows" "lastDone" "LBitShadows$Ring;", Cond.fieldLink RX7 46 "BitShadows" "changes" "LBitShadows$Changes;", Cond.fieldLink RX7 255 "BitShadows" "keptImages" "I", Cond.fieldLink RX7 187 "BitShadows" "lotNow" "I", Cond.fieldLink RX7 118 "BitShadows" "slackAll" "I", Cond.fieldLink RX7 202 "BitShadows" "markNow" "J", Cond.methodLink RX7 261 yX4_clear, Cond.instanceMethod yX4_clear, Cond.selects RX4 yX4_clear yX4_clear, Cond.initialized RX4, Cond.code yX4_clear cX4_clear 2 none, Cond.fieldLink RX4 9 "BitShadows$House" "cells" "[I", Cond.fieldLink RX4 15 "BitShadows$House" "dead" "I", Cond.methodLink RX7 262 yX3_clear, Cond.instanceMethod yX3_clear]
def wsX7_start_r2 : List Cond := [Cond.selects RX3 yX3_clear yX3_clear, Cond.initialized RX3, Cond.code yX3_clear cX3_clear 2 none, Cond.fieldLink RX3 18 "BitShadows$Grounds" "lastOver" "[I", Cond.fieldLink RX3 21 "BitShadows$Grounds" "count" "I", Cond.fieldLink RX3 25 "BitShadows$Grounds" "letSet" "I", Cond.methodLink RX7 263 yX2_clear, Cond.instanceMethod yX2_clear, Cond.selects RX2 yX2_clear yX2_clear, Cond.initialized RX2, Cond.code yX2_clear cX2_clear 1 none, Cond.fieldLink RX2 21 "BitShadows$Cries" "counted" "I", Cond.fieldLink RX2 25 "BitShadows$Cries" "kept" "I", Cond.methodLink RX7 264 yX5_clear, Cond.instanceMethod yX5_clear, Cond.selects RX5 yX5_clear yX5_clear, Cond.initialized RX5, Cond.code yX5_clear cX5_clear 1 none, Cond.fieldLink RX5 21 "BitShadows$Ring" "count" "I", Cond.fieldLink RX5 25 "BitShadows$Ring" "next" "I", Cond.methodLink RX7 258 yX1_clear, Cond.instanceMethod yX1_clear, Cond.selects RX1 yX1_clear yX1_clear, Cond.initialized RX1]
def wsX7_start_r3 : List Cond := [Cond.code yX1_clear cX1_clear 1 none, Cond.fieldLink RX1 18 "BitShadows$Changes" "count" "I", Cond.fieldLink RX1 22 "BitShadows$Changes" "next" "I"]
def wsX7_start : List Cond := .code yX7_start cX7_start 2 (some .int) :: ((wsX7_start_r1 ++ (wsX7_start_r2 ++ wsX7_start_r3)) ++ wsX70 ++ wsX40 ++ wsX30 ++ wsX20 ++ wsX50 ++ wsX10)
def wsX7_isRegister : List Cond := .code yX7_isRegister cX7_isRegister 1 (some .boolean) :: ([])
def wsX7_isByte : List Cond := .code yX7_isByte cX7_isByte 1 (some .boolean) :: ([])
def wsX7_changeRegister : List Cond := .code yX7_changeRegister cX7_changeRegister 3 none :: ([.fieldLink RX7 46 "BitShadows" "changes" "LBitShadows$Changes;", .fieldLink RX7 12 "BitShadows" "house" "LBitShadows$House;", .fieldLink RX7 66 "BitShadows$House" "cells" "[I", .methodLink RX7 268 yX1_add, .instanceMethod yX1_add, .selects RX1 yX1_add yX1_add, .initialized RX1, .code yX1_add cX1_add 3 none, .fieldLink RX1 9 "BitShadows$Changes" "places" "[I", .fieldLink RX1 22 "BitShadows$Changes" "next" "I", .fieldLink RX1 15 "BitShadows$Changes" "befores" "[I", .fieldLink RX1 18 "BitShadows$Changes" "count" "I", .methodLink RX1 25 Lib.Math.min.name, .static Lib.Math.min.name, .initialized "java/lang/Math", .code Lib.Math.min.name Lib.Math.min.code 2 (some .int)] ++ wsX70 ++ wsX40 ++ wsX10)
def wsX7_tick : List Cond := .code yX7_tick cX7_tick 3 (some .int) :: ([.fieldLink RX7 39 "BitShadows" "lastDone" "LBitShadows$Ring;", .fieldLink RX7 53 "BitShadows" "ticks" "I", .constantLong RX7 266 (31), .fieldLink RX7 202 "BitShadows" "markNow" "J", .methodLink RX7 265 yX5_add, .instanceMethod yX5_add, .selects RX5 yX5_add yX5_add, .initialized RX5, .code yX5_add cX5_add 4 none, .fieldLink RX5 9 "BitShadows$Ring" "kinds" "[I", .fieldLink RX5 25 "BitShadows$Ring" "next" "I", .fieldLink RX5 15 "BitShadows$Ring" "ticks" "[I", .fieldLink RX5 18 "BitShadows$Ring" "answers" "[I", .fieldLink RX5 21 "BitShadows$Ring" "count" "I", .methodLink RX5 28 Lib.Math.min.name, .static Lib.Math.min.name, .initialized "java/lang/Math", .code Lib.Math.min.name Lib.Math.min.code 2 (some .int)] ++ wsX70 ++ wsX50)
def wsX7_set_r1 : List Cond := [Cond.constant RX7 61 (-1000000001), Cond.constant RX7 65 (-1000000002), Cond.fieldLink RX7 12 "BitShadows" "house" "LBitShadows$House;", Cond.fieldLink RX7 66 "BitShadows$House" "cells" "[I", Cond.methodLink RX7 57 yX7_isRegister, Cond.static yX7_isRegister, Cond.initialized RX7, Cond.code yX7_isRegister cX7_isRegister 1 (some .boolean), Cond.methodLink RX7 62 yX7_isByte, Cond.static yX7_isByte, Cond.code yX7_isByte cX7_isByte 1 (some .boolean), Cond.methodLink RX7 70 yX0_valueOf, Cond.static yX0_valueOf, Cond.initialized RX0, Cond.code yX0_valueOf cX0_valueOf 1 (some .int), Cond.methodLink RX7 76 yX0_of, Cond.static yX0_of, Cond.code yX0_of cX0_of 4 (some .int), Cond.methodLink RX7 80 yX7_changeRegister, Cond.instanceMethod yX7_changeRegister, Cond.selects RX7 yX7_changeRegister yX7_changeRegister, Cond.code yX7_changeRegister cX7_changeRegister 3 none, Cond.fieldLink RX7 46 "BitShadows" "changes" "LBitShadows$Changes;", Cond.methodLink RX7 268 yX1_add]
def wsX7_set_r2 : List Cond := [Cond.instanceMethod yX1_add, Cond.selects RX1 yX1_add yX1_add, Cond.initialized RX1, Cond.code yX1_add cX1_add 3 none, Cond.fieldLink RX1 9 "BitShadows$Changes" "places" "[I", Cond.fieldLink RX1 22 "BitShadows$Changes" "next" "I", Cond.fieldLink RX1 15 "BitShadows$Changes" "befores" "[I", Cond.fieldLink RX1 18 "BitShadows$Changes" "count" "I", Cond.methodLink RX1 25 Lib.Math.min.name, Cond.static Lib.Math.min.name, Cond.initialized "java/lang/Math", Cond.code Lib.Math.min.name Lib.Math.min.code 2 (some .int), Cond.methodLink RX7 84 yX7_tick, Cond.instanceMethod yX7_tick, Cond.selects RX7 yX7_tick yX7_tick, Cond.code yX7_tick cX7_tick 3 (some .int), Cond.fieldLink RX7 39 "BitShadows" "lastDone" "LBitShadows$Ring;", Cond.fieldLink RX7 53 "BitShadows" "ticks" "I", Cond.constantLong RX7 266 (31), Cond.fieldLink RX7 202 "BitShadows" "markNow" "J", Cond.methodLink RX7 265 yX5_add, Cond.instanceMethod yX5_add, Cond.selects RX5 yX5_add yX5_add, Cond.initialized RX5]
def wsX7_set_r3 : List Cond := [Cond.code yX5_add cX5_add 4 none, Cond.fieldLink RX5 9 "BitShadows$Ring" "kinds" "[I", Cond.fieldLink RX5 25 "BitShadows$Ring" "next" "I", Cond.fieldLink RX5 15 "BitShadows$Ring" "ticks" "[I", Cond.fieldLink RX5 18 "BitShadows$Ring" "answers" "[I", Cond.fieldLink RX5 21 "BitShadows$Ring" "count" "I", Cond.methodLink RX5 28 Lib.Math.min.name]
def wsX7_set : List Cond := .code yX7_set cX7_set 4 (some .int) :: ((wsX7_set_r1 ++ (wsX7_set_r2 ++ wsX7_set_r3)) ++ wsX70 ++ wsX40 ++ wsX10 ++ wsX50)
def wsX7_forget_r1 : List Cond := [Cond.fieldLink RX7 25 "BitShadows" "grounds" "LBitShadows$Grounds;", Cond.constant RX7 61 (-1000000001), Cond.constant RX7 65 (-1000000002), Cond.fieldLink RX7 12 "BitShadows" "house" "LBitShadows$House;", Cond.fieldLink RX7 66 "BitShadows$House" "cells" "[I", Cond.methodLink RX7 57 yX7_isRegister, Cond.static yX7_isRegister, Cond.initialized RX7, Cond.code yX7_isRegister cX7_isRegister 1 (some .boolean), Cond.methodLink RX7 88 yX3_has, Cond.instanceMethod yX3_has, Cond.selects RX3 yX3_has yX3_has, Cond.initialized RX3, Cond.code yX3_has cX3_has 2 (some .boolean), Cond.fieldLink RX3 21 "BitShadows$Grounds" "count" "I", Cond.methodLink RX7 91 yX0_shadowOf, Cond.static yX0_shadowOf, Cond.initialized RX0, Cond.code yX0_shadowOf cX0_shadowOf 1 (some .int), Cond.methodLink RX7 70 yX0_valueOf, Cond.static yX0_valueOf, Cond.code yX0_valueOf cX0_valueOf 1 (some .int), Cond.methodLink RX7 94 yX0_fromOf, Cond.static yX0_fromOf]
def wsX7_forget_r2 : List Cond := [Cond.code yX0_fromOf cX0_fromOf 1 (some .int), Cond.methodLink RX7 76 yX0_of, Cond.static yX0_of, Cond.code yX0_of cX0_of 4 (some .int), Cond.methodLink RX7 80 yX7_changeRegister, Cond.instanceMethod yX7_changeRegister, Cond.selects RX7 yX7_changeRegister yX7_changeRegister, Cond.code yX7_changeRegister cX7_changeRegister 3 none, Cond.fieldLink RX7 46 "BitShadows" "changes" "LBitShadows$Changes;", Cond.methodLink RX7 268 yX1_add, Cond.instanceMethod yX1_add, Cond.selects RX1 yX1_add yX1_add, Cond.initialized RX1, Cond.code yX1_add cX1_add 3 none, Cond.fieldLink RX1 9 "BitShadows$Changes" "places" "[I", Cond.fieldLink RX1 22 "BitShadows$Changes" "next" "I", Cond.fieldLink RX1 15 "BitShadows$Changes" "befores" "[I", Cond.fieldLink RX1 18 "BitShadows$Changes" "count" "I", Cond.methodLink RX1 25 Lib.Math.min.name, Cond.static Lib.Math.min.name, Cond.initialized "java/lang/Math", Cond.code Lib.Math.min.name Lib.Math.min.code 2 (some .int), Cond.methodLink RX7 84 yX7_tick, Cond.instanceMethod yX7_tick]
def wsX7_forget_r3 : List Cond := [Cond.selects RX7 yX7_tick yX7_tick, Cond.code yX7_tick cX7_tick 3 (some .int), Cond.fieldLink RX7 39 "BitShadows" "lastDone" "LBitShadows$Ring;", Cond.fieldLink RX7 53 "BitShadows" "ticks" "I", Cond.constantLong RX7 266 (31), Cond.fieldLink RX7 202 "BitShadows" "markNow" "J", Cond.methodLink RX7 265 yX5_add, Cond.instanceMethod yX5_add, Cond.selects RX5 yX5_add yX5_add, Cond.initialized RX5, Cond.code yX5_add cX5_add 4 none, Cond.fieldLink RX5 9 "BitShadows$Ring" "kinds" "[I", Cond.fieldLink RX5 25 "BitShadows$Ring" "next" "I", Cond.fieldLink RX5 15 "BitShadows$Ring" "ticks" "[I", Cond.fieldLink RX5 18 "BitShadows$Ring" "answers" "[I", Cond.fieldLink RX5 21 "BitShadows$Ring" "count" "I", Cond.methodLink RX5 28 Lib.Math.min.name]
def wsX7_forget : List Cond := .code yX7_forget cX7_forget 6 (some .int) :: ((wsX7_forget_r1 ++ (wsX7_forget_r2 ++ wsX7_forget_r3)) ++ wsX70 ++ wsX40 ++ wsX30 ++ wsX10 ++ wsX50)
def wsX7_shadowOfRegister : List Cond := .code yX7_shadowOfRegister cX7_shadowOfRegister 2 (some .int) :: ([.fieldLink RX7 12 "BitShadows" "house" "LBitShadows$House;", .fieldLink RX7 66 "BitShadows$House" "cells" "[I", .methodLink RX7 91 yX0_shadowOf, .static yX0_shadowOf, .initialized RX0, .code yX0_shadowOf cX0_shadowOf 1 (some .int)] ++ wsX70 ++ wsX40)
def wsX7_copy_r1 : List Cond := [Cond.constant RX7 61 (-1000000001), Cond.fieldLink RX7 12 "BitShadows" "house" "LBitShadows$House;", Cond.fieldLink RX7 66 "BitShadows$House" "cells" "[I", Cond.methodLink RX7 57 yX7_isRegister, Cond.static yX7_isRegister, Cond.initialized RX7, Cond.code yX7_isRegister cX7_isRegister 1 (some .boolean), Cond.methodLink RX7 80 yX7_changeRegister, Cond.instanceMethod yX7_changeRegister, Cond.selects RX7 yX7_changeRegister yX7_changeRegister, Cond.code yX7_changeRegister cX7_changeRegister 3 none, Cond.fieldLink RX7 46 "BitShadows" "changes" "LBitShadows$Changes;", Cond.methodLink RX7 268 yX1_add, Cond.instanceMethod yX1_add, Cond.selects RX1 yX1_add yX1_add, Cond.initialized RX1, Cond.code yX1_add cX1_add 3 none, Cond.fieldLink RX1 9 "BitShadows$Changes" "places" "[I", Cond.fieldLink RX1 22 "BitShadows$Changes" "next" "I", Cond.fieldLink RX1 15 "BitShadows$Changes" "befores" "[I", Cond.fieldLink RX1 18 "BitShadows$Changes" "count" "I", Cond.methodLink RX1 25 Lib.Math.min.name, Cond.static Lib.Math.min.name, Cond.initialized "java/lang/Math"]
def wsX7_copy_r2 : List Cond := [Cond.code Lib.Math.min.name Lib.Math.min.code 2 (some .int), Cond.methodLink RX7 97 yX7_shadowOfRegister, Cond.instanceMethod yX7_shadowOfRegister, Cond.selects RX7 yX7_shadowOfRegister yX7_shadowOfRegister, Cond.code yX7_shadowOfRegister cX7_shadowOfRegister 2 (some .int), Cond.methodLink RX7 91 yX0_shadowOf, Cond.static yX0_shadowOf, Cond.initialized RX0, Cond.code yX0_shadowOf cX0_shadowOf 1 (some .int), Cond.methodLink RX7 84 yX7_tick, Cond.instanceMethod yX7_tick, Cond.selects RX7 yX7_tick yX7_tick, Cond.code yX7_tick cX7_tick 3 (some .int), Cond.fieldLink RX7 39 "BitShadows" "lastDone" "LBitShadows$Ring;", Cond.fieldLink RX7 53 "BitShadows" "ticks" "I", Cond.constantLong RX7 266 (31), Cond.fieldLink RX7 202 "BitShadows" "markNow" "J", Cond.methodLink RX7 265 yX5_add, Cond.instanceMethod yX5_add, Cond.selects RX5 yX5_add yX5_add, Cond.initialized RX5, Cond.code yX5_add cX5_add 4 none, Cond.fieldLink RX5 9 "BitShadows$Ring" "kinds" "[I", Cond.fieldLink RX5 25 "BitShadows$Ring" "next" "I"]
def wsX7_copy_r3 : List Cond := [Cond.fieldLink RX5 15 "BitShadows$Ring" "ticks" "[I", Cond.fieldLink RX5 18 "BitShadows$Ring" "answers" "[I", Cond.fieldLink RX5 21 "BitShadows$Ring" "count" "I", Cond.methodLink RX5 28 Lib.Math.min.name]
def wsX7_copy : List Cond := .code yX7_copy cX7_copy 3 (some .int) :: ((wsX7_copy_r1 ++ (wsX7_copy_r2 ++ wsX7_copy_r3)) ++ wsX70 ++ wsX40 ++ wsX10 ++ wsX50)
def wsX7_isOctet : List Cond := .code yX7_isOctet cX7_isOctet 1 (some .boolean) :: ([])
def wsX7_readOctet : List Cond := .code yX7_readOctet cX7_readOctet 3 (some .int) :: ([.fieldLink RX7 25 "BitShadows" "grounds" "LBitShadows$Grounds;", .fieldLink RX7 215 "BitShadows$Grounds" "lastOver" "[I", .fieldLink RX7 12 "BitShadows" "house" "LBitShadows$House;", .fieldLink RX7 32 "BitShadows" "cries" "LBitShadows$Cries;", .fieldLink RX7 53 "BitShadows" "ticks" "I", .fieldLink RX7 66 "BitShadows$House" "cells" "[I", .methodLink RX7 212 yX4_isDead, .instanceMethod yX4_isDead, .selects RX4 yX4_isDead yX4_isDead, .initialized RX4, .code yX4_isDead cX4_isDead 2 (some .boolean), .fieldLink RX4 15 "BitShadows$House" "dead" "I", .methodLink RX7 133 yX2_add, .instanceMethod yX2_add, .selects RX2 yX2_add yX2_add, .initialized RX2, .code yX2_add cX2_add 4 none, .fieldLink RX2 21 "BitShadows$Cries" "counted" "I", .fieldLink RX2 25 "BitShadows$Cries" "kept" "I", .fieldLink RX2 9 "BitShadows$Cries" "kinds" "[I", .fieldLink RX2 15 "BitShadows$Cries" "ticks" "[I", .fieldLink RX2 18 "BitShadows$Cries" "groundSets" "[I"] ++ wsX70 ++ wsX30 ++ wsX40 ++ wsX20)
def wsX7_load_r1 : List Cond := [Cond.constant RX7 61 (-1000000001), Cond.methodLink RX7 57 yX7_isRegister, Cond.static yX7_isRegister, Cond.initialized RX7, Cond.code yX7_isRegister cX7_isRegister 1 (some .boolean), Cond.methodLink RX7 100 yX7_isOctet, Cond.static yX7_isOctet, Cond.code yX7_isOctet cX7_isOctet 1 (some .boolean), Cond.methodLink RX7 103 yX7_readOctet, Cond.instanceMethod yX7_readOctet, Cond.selects RX7 yX7_readOctet yX7_readOctet, Cond.code yX7_readOctet cX7_readOctet 3 (some .int), Cond.fieldLink RX7 25 "BitShadows" "grounds" "LBitShadows$Grounds;", Cond.fieldLink RX7 215 "BitShadows$Grounds" "lastOver" "[I", Cond.fieldLink RX7 12 "BitShadows" "house" "LBitShadows$House;", Cond.fieldLink RX7 32 "BitShadows" "cries" "LBitShadows$Cries;", Cond.fieldLink RX7 53 "BitShadows" "ticks" "I", Cond.fieldLink RX7 66 "BitShadows$House" "cells" "[I", Cond.methodLink RX7 212 yX4_isDead, Cond.instanceMethod yX4_isDead, Cond.selects RX4 yX4_isDead yX4_isDead, Cond.initialized RX4, Cond.code yX4_isDead cX4_isDead 2 (some .boolean), Cond.fieldLink RX4 15 "BitShadows$House" "dead" "I"]
def wsX7_load_r2 : List Cond := [Cond.methodLink RX7 133 yX2_add, Cond.instanceMethod yX2_add, Cond.selects RX2 yX2_add yX2_add, Cond.initialized RX2, Cond.code yX2_add cX2_add 4 none, Cond.fieldLink RX2 21 "BitShadows$Cries" "counted" "I", Cond.fieldLink RX2 25 "BitShadows$Cries" "kept" "I", Cond.fieldLink RX2 9 "BitShadows$Cries" "kinds" "[I", Cond.fieldLink RX2 15 "BitShadows$Cries" "ticks" "[I", Cond.fieldLink RX2 18 "BitShadows$Cries" "groundSets" "[I", Cond.methodLink RX7 80 yX7_changeRegister, Cond.instanceMethod yX7_changeRegister, Cond.selects RX7 yX7_changeRegister yX7_changeRegister, Cond.code yX7_changeRegister cX7_changeRegister 3 none, Cond.fieldLink RX7 46 "BitShadows" "changes" "LBitShadows$Changes;", Cond.methodLink RX7 268 yX1_add, Cond.instanceMethod yX1_add, Cond.selects RX1 yX1_add yX1_add, Cond.initialized RX1, Cond.code yX1_add cX1_add 3 none, Cond.fieldLink RX1 9 "BitShadows$Changes" "places" "[I", Cond.fieldLink RX1 22 "BitShadows$Changes" "next" "I", Cond.fieldLink RX1 15 "BitShadows$Changes" "befores" "[I", Cond.fieldLink RX1 18 "BitShadows$Changes" "count" "I"]
def wsX7_load_r3 : List Cond := [Cond.methodLink RX1 25 Lib.Math.min.name, Cond.static Lib.Math.min.name, Cond.initialized "java/lang/Math", Cond.code Lib.Math.min.name Lib.Math.min.code 2 (some .int), Cond.methodLink RX7 97 yX7_shadowOfRegister, Cond.instanceMethod yX7_shadowOfRegister, Cond.selects RX7 yX7_shadowOfRegister yX7_shadowOfRegister, Cond.code yX7_shadowOfRegister cX7_shadowOfRegister 2 (some .int), Cond.methodLink RX7 91 yX0_shadowOf, Cond.static yX0_shadowOf, Cond.initialized RX0, Cond.code yX0_shadowOf cX0_shadowOf 1 (some .int), Cond.methodLink RX7 84 yX7_tick, Cond.instanceMethod yX7_tick, Cond.selects RX7 yX7_tick yX7_tick, Cond.code yX7_tick cX7_tick 3 (some .int), Cond.fieldLink RX7 39 "BitShadows" "lastDone" "LBitShadows$Ring;", Cond.constantLong RX7 266 (31), Cond.fieldLink RX7 202 "BitShadows" "markNow" "J", Cond.methodLink RX7 265 yX5_add, Cond.instanceMethod yX5_add, Cond.selects RX5 yX5_add yX5_add, Cond.initialized RX5, Cond.code yX5_add cX5_add 4 none]
def wsX7_load_r4 : List Cond := [Cond.fieldLink RX5 9 "BitShadows$Ring" "kinds" "[I", Cond.fieldLink RX5 25 "BitShadows$Ring" "next" "I", Cond.fieldLink RX5 15 "BitShadows$Ring" "ticks" "[I", Cond.fieldLink RX5 18 "BitShadows$Ring" "answers" "[I", Cond.fieldLink RX5 21 "BitShadows$Ring" "count" "I", Cond.methodLink RX5 28 Lib.Math.min.name]
def wsX7_load : List Cond := .code yX7_load cX7_load 3 (some .int) :: ((wsX7_load_r1 ++ (wsX7_load_r2 ++ (wsX7_load_r3 ++ wsX7_load_r4))) ++ wsX70 ++ wsX30 ++ wsX40 ++ wsX20 ++ wsX10 ++ wsX50)
def wsX7_part_r1 : List Cond := [Cond.constant RX7 61 (-1000000001), Cond.constant RX7 65 (-1000000002), Cond.methodLink RX7 57 yX7_isRegister, Cond.static yX7_isRegister, Cond.initialized RX7, Cond.code yX7_isRegister cX7_isRegister 1 (some .boolean), Cond.methodLink RX7 100 yX7_isOctet, Cond.static yX7_isOctet, Cond.code yX7_isOctet cX7_isOctet 1 (some .boolean), Cond.methodLink RX7 103 yX7_readOctet, Cond.instanceMethod yX7_readOctet, Cond.selects RX7 yX7_readOctet yX7_readOctet, Cond.code yX7_readOctet cX7_readOctet 3 (some .int), Cond.fieldLink RX7 25 "BitShadows" "grounds" "LBitShadows$Grounds;", Cond.fieldLink RX7 215 "BitShadows$Grounds" "lastOver" "[I", Cond.fieldLink RX7 12 "BitShadows" "house" "LBitShadows$House;", Cond.fieldLink RX7 32 "BitShadows" "cries" "LBitShadows$Cries;", Cond.fieldLink RX7 53 "BitShadows" "ticks" "I", Cond.fieldLink RX7 66 "BitShadows$House" "cells" "[I", Cond.methodLink RX7 212 yX4_isDead, Cond.instanceMethod yX4_isDead, Cond.selects RX4 yX4_isDead yX4_isDead, Cond.initialized RX4, Cond.code yX4_isDead cX4_isDead 2 (some .boolean)]
def wsX7_part_r2 : List Cond := [Cond.fieldLink RX4 15 "BitShadows$House" "dead" "I", Cond.methodLink RX7 133 yX2_add, Cond.instanceMethod yX2_add, Cond.selects RX2 yX2_add yX2_add, Cond.initialized RX2, Cond.code yX2_add cX2_add 4 none, Cond.fieldLink RX2 21 "BitShadows$Cries" "counted" "I", Cond.fieldLink RX2 25 "BitShadows$Cries" "kept" "I", Cond.fieldLink RX2 9 "BitShadows$Cries" "kinds" "[I", Cond.fieldLink RX2 15 "BitShadows$Cries" "ticks" "[I", Cond.fieldLink RX2 18 "BitShadows$Cries" "groundSets" "[I", Cond.methodLink RX7 106 yX0_partOf, Cond.static yX0_partOf, Cond.initialized RX0, Cond.code yX0_partOf cX0_partOf 4 (some .int), Cond.methodLink RX0 9 yX0_valueOf, Cond.static yX0_valueOf, Cond.code yX0_valueOf cX0_valueOf 1 (some .int), Cond.methodLink RX0 15 yX0_shadowOf, Cond.static yX0_shadowOf, Cond.code yX0_shadowOf cX0_shadowOf 1 (some .int), Cond.methodLink RX0 21 yX0_fromOf, Cond.static yX0_fromOf, Cond.code yX0_fromOf cX0_fromOf 1 (some .int)]
def wsX7_part_r3 : List Cond := [Cond.methodLink RX0 24 yX0_of, Cond.static yX0_of, Cond.code yX0_of cX0_of 4 (some .int), Cond.methodLink RX7 80 yX7_changeRegister, Cond.instanceMethod yX7_changeRegister, Cond.selects RX7 yX7_changeRegister yX7_changeRegister, Cond.code yX7_changeRegister cX7_changeRegister 3 none, Cond.fieldLink RX7 46 "BitShadows" "changes" "LBitShadows$Changes;", Cond.methodLink RX7 268 yX1_add, Cond.instanceMethod yX1_add, Cond.selects RX1 yX1_add yX1_add, Cond.initialized RX1, Cond.code yX1_add cX1_add 3 none, Cond.fieldLink RX1 9 "BitShadows$Changes" "places" "[I", Cond.fieldLink RX1 22 "BitShadows$Changes" "next" "I", Cond.fieldLink RX1 15 "BitShadows$Changes" "befores" "[I", Cond.fieldLink RX1 18 "BitShadows$Changes" "count" "I", Cond.methodLink RX1 25 Lib.Math.min.name, Cond.static Lib.Math.min.name, Cond.initialized "java/lang/Math", Cond.code Lib.Math.min.name Lib.Math.min.code 2 (some .int), Cond.methodLink RX7 97 yX7_shadowOfRegister, Cond.instanceMethod yX7_shadowOfRegister, Cond.selects RX7 yX7_shadowOfRegister yX7_shadowOfRegister]
def wsX7_part_r4 : List Cond := [Cond.code yX7_shadowOfRegister cX7_shadowOfRegister 2 (some .int), Cond.methodLink RX7 91 yX0_shadowOf, Cond.methodLink RX7 84 yX7_tick, Cond.instanceMethod yX7_tick, Cond.selects RX7 yX7_tick yX7_tick, Cond.code yX7_tick cX7_tick 3 (some .int), Cond.fieldLink RX7 39 "BitShadows" "lastDone" "LBitShadows$Ring;", Cond.constantLong RX7 266 (31), Cond.fieldLink RX7 202 "BitShadows" "markNow" "J", Cond.methodLink RX7 265 yX5_add, Cond.instanceMethod yX5_add, Cond.selects RX5 yX5_add yX5_add, Cond.initialized RX5, Cond.code yX5_add cX5_add 4 none, Cond.fieldLink RX5 9 "BitShadows$Ring" "kinds" "[I", Cond.fieldLink RX5 25 "BitShadows$Ring" "next" "I", Cond.fieldLink RX5 15 "BitShadows$Ring" "ticks" "[I", Cond.fieldLink RX5 18 "BitShadows$Ring" "answers" "[I", Cond.fieldLink RX5 21 "BitShadows$Ring" "count" "I", Cond.methodLink RX5 28 Lib.Math.min.name]
def wsX7_part : List Cond := .code yX7_part cX7_part 5 (some .int) :: ((wsX7_part_r1 ++ (wsX7_part_r2 ++ (wsX7_part_r3 ++ wsX7_part_r4))) ++ wsX70 ++ wsX30 ++ wsX40 ++ wsX20 ++ wsX10 ++ wsX50)
def wsX7_octetSet : List Cond := .code yX7_octetSet cX7_octetSet 2 (some .int) :: ([])
def wsX7_changeOctet : List Cond := .code yX7_changeOctet cX7_changeOctet 3 none :: ([.fieldLink RX7 46 "BitShadows" "changes" "LBitShadows$Changes;", .fieldLink RX7 12 "BitShadows" "house" "LBitShadows$House;", .fieldLink RX7 66 "BitShadows$House" "cells" "[I", .fieldLink RX7 153 "BitShadows$House" "dead" "I", .methodLink RX7 268 yX1_add, .instanceMethod yX1_add, .selects RX1 yX1_add yX1_add, .initialized RX1, .code yX1_add cX1_add 3 none, .fieldLink RX1 9 "BitShadows$Changes" "places" "[I", .fieldLink RX1 22 "BitShadows$Changes" "next" "I", .fieldLink RX1 15 "BitShadows$Changes" "befores" "[I", .fieldLink RX1 18 "BitShadows$Changes" "count" "I", .methodLink RX1 25 Lib.Math.min.name, .static Lib.Math.min.name, .initialized "java/lang/Math", .code Lib.Math.min.name Lib.Math.min.code 2 (some .int), .methodLink RX7 156 yX7_octetSet, .static yX7_octetSet, .initialized RX7, .code yX7_octetSet cX7_octetSet 2 (some .int)] ++ wsX70 ++ wsX40 ++ wsX10)
def wsX7_store_r1 : List Cond := [Cond.constant RX7 61 (-1000000001), Cond.fieldLink RX7 12 "BitShadows" "house" "LBitShadows$House;", Cond.fieldLink RX7 66 "BitShadows$House" "cells" "[I", Cond.methodLink RX7 57 yX7_isRegister, Cond.static yX7_isRegister, Cond.initialized RX7, Cond.code yX7_isRegister cX7_isRegister 1 (some .boolean), Cond.methodLink RX7 100 yX7_isOctet, Cond.static yX7_isOctet, Cond.code yX7_isOctet cX7_isOctet 1 (some .boolean), Cond.methodLink RX7 109 yX7_changeOctet, Cond.instanceMethod yX7_changeOctet, Cond.selects RX7 yX7_changeOctet yX7_changeOctet, Cond.code yX7_changeOctet cX7_changeOctet 3 none, Cond.fieldLink RX7 46 "BitShadows" "changes" "LBitShadows$Changes;", Cond.fieldLink RX7 153 "BitShadows$House" "dead" "I", Cond.methodLink RX7 268 yX1_add, Cond.instanceMethod yX1_add, Cond.selects RX1 yX1_add yX1_add, Cond.initialized RX1, Cond.code yX1_add cX1_add 3 none, Cond.fieldLink RX1 9 "BitShadows$Changes" "places" "[I", Cond.fieldLink RX1 22 "BitShadows$Changes" "next" "I", Cond.fieldLink RX1 15 "BitShadows$Changes" "befores" "[I"]
def wsX7_store_r2 : List Cond := [Cond.fieldLink RX1 18 "BitShadows$Changes" "count" "I", Cond.methodLink RX1 25 Lib.Math.min.name, Cond.static Lib.Math.min.name, Cond.initialized "java/lang/Math", Cond.code Lib.Math.min.name Lib.Math.min.code 2 (some .int), Cond.methodLink RX7 156 yX7_octetSet, Cond.static yX7_octetSet, Cond.code yX7_octetSet cX7_octetSet 2 (some .int), Cond.methodLink RX7 97 yX7_shadowOfRegister, Cond.instanceMethod yX7_shadowOfRegister, Cond.selects RX7 yX7_shadowOfRegister yX7_shadowOfRegister, Cond.code yX7_shadowOfRegister cX7_shadowOfRegister 2 (some .int), Cond.methodLink RX7 91 yX0_shadowOf, Cond.static yX0_shadowOf, Cond.initialized RX0, Cond.code yX0_shadowOf cX0_shadowOf 1 (some .int), Cond.methodLink RX7 84 yX7_tick, Cond.instanceMethod yX7_tick, Cond.selects RX7 yX7_tick yX7_tick, Cond.code yX7_tick cX7_tick 3 (some .int), Cond.fieldLink RX7 39 "BitShadows" "lastDone" "LBitShadows$Ring;", Cond.fieldLink RX7 53 "BitShadows" "ticks" "I", Cond.constantLong RX7 266 (31), Cond.fieldLink RX7 202 "BitShadows" "markNow" "J"]
def wsX7_store_r3 : List Cond := [Cond.methodLink RX7 265 yX5_add, Cond.instanceMethod yX5_add, Cond.selects RX5 yX5_add yX5_add, Cond.initialized RX5, Cond.code yX5_add cX5_add 4 none, Cond.fieldLink RX5 9 "BitShadows$Ring" "kinds" "[I", Cond.fieldLink RX5 25 "BitShadows$Ring" "next" "I", Cond.fieldLink RX5 15 "BitShadows$Ring" "ticks" "[I", Cond.fieldLink RX5 18 "BitShadows$Ring" "answers" "[I", Cond.fieldLink RX5 21 "BitShadows$Ring" "count" "I", Cond.methodLink RX5 28 Lib.Math.min.name]
def wsX7_store : List Cond := .code yX7_store cX7_store 3 (some .int) :: ((wsX7_store_r1 ++ (wsX7_store_r2 ++ wsX7_store_r3)) ++ wsX70 ++ wsX40 ++ wsX10 ++ wsX50)
def wsX7_placeAt : List Cond := .code yX7_placeAt cX7_placeAt 3 (some .int) :: ([.fieldLink RX7 12 "BitShadows" "house" "LBitShadows$House;", .fieldLink RX7 66 "BitShadows$House" "cells" "[I", .fieldLink RX7 32 "BitShadows" "cries" "LBitShadows$Cries;", .fieldLink RX7 53 "BitShadows" "ticks" "I", .methodLink RX7 91 yX0_shadowOf, .static yX0_shadowOf, .initialized RX0, .code yX0_shadowOf cX0_shadowOf 1 (some .int), .methodLink RX7 94 yX0_fromOf, .static yX0_fromOf, .code yX0_fromOf cX0_fromOf 1 (some .int), .methodLink RX7 133 yX2_add, .instanceMethod yX2_add, .selects RX2 yX2_add yX2_add, .initialized RX2, .code yX2_add cX2_add 4 none, .fieldLink RX2 21 "BitShadows$Cries" "counted" "I", .fieldLink RX2 25 "BitShadows$Cries" "kept" "I", .fieldLink RX2 9 "BitShadows$Cries" "kinds" "[I", .fieldLink RX2 15 "BitShadows$Cries" "ticks" "[I", .fieldLink RX2 18 "BitShadows$Cries" "groundSets" "[I", .methodLink RX7 70 yX0_valueOf, .static yX0_valueOf, .code yX0_valueOf cX0_valueOf 1 (some .int)] ++ wsX70 ++ wsX40 ++ wsX20)
def wsX7_loadAt_r1 : List Cond := [Cond.constant RX7 61 (-1000000001), Cond.methodLink RX7 57 yX7_isRegister, Cond.static yX7_isRegister, Cond.initialized RX7, Cond.code yX7_isRegister cX7_isRegister 1 (some .boolean), Cond.methodLink RX7 112 yX7_placeAt, Cond.instanceMethod yX7_placeAt, Cond.selects RX7 yX7_placeAt yX7_placeAt, Cond.code yX7_placeAt cX7_placeAt 3 (some .int), Cond.fieldLink RX7 12 "BitShadows" "house" "LBitShadows$House;", Cond.fieldLink RX7 66 "BitShadows$House" "cells" "[I", Cond.fieldLink RX7 32 "BitShadows" "cries" "LBitShadows$Cries;", Cond.fieldLink RX7 53 "BitShadows" "ticks" "I", Cond.methodLink RX7 91 yX0_shadowOf, Cond.static yX0_shadowOf, Cond.initialized RX0, Cond.code yX0_shadowOf cX0_shadowOf 1 (some .int), Cond.methodLink RX7 94 yX0_fromOf, Cond.static yX0_fromOf, Cond.code yX0_fromOf cX0_fromOf 1 (some .int), Cond.methodLink RX7 133 yX2_add, Cond.instanceMethod yX2_add, Cond.selects RX2 yX2_add yX2_add, Cond.initialized RX2]
def wsX7_loadAt_r2 : List Cond := [Cond.code yX2_add cX2_add 4 none, Cond.fieldLink RX2 21 "BitShadows$Cries" "counted" "I", Cond.fieldLink RX2 25 "BitShadows$Cries" "kept" "I", Cond.fieldLink RX2 9 "BitShadows$Cries" "kinds" "[I", Cond.fieldLink RX2 15 "BitShadows$Cries" "ticks" "[I", Cond.fieldLink RX2 18 "BitShadows$Cries" "groundSets" "[I", Cond.methodLink RX7 70 yX0_valueOf, Cond.static yX0_valueOf, Cond.code yX0_valueOf cX0_valueOf 1 (some .int), Cond.methodLink RX7 103 yX7_readOctet, Cond.instanceMethod yX7_readOctet, Cond.selects RX7 yX7_readOctet yX7_readOctet, Cond.code yX7_readOctet cX7_readOctet 3 (some .int), Cond.fieldLink RX7 25 "BitShadows" "grounds" "LBitShadows$Grounds;", Cond.fieldLink RX7 215 "BitShadows$Grounds" "lastOver" "[I", Cond.methodLink RX7 212 yX4_isDead, Cond.instanceMethod yX4_isDead, Cond.selects RX4 yX4_isDead yX4_isDead, Cond.initialized RX4, Cond.code yX4_isDead cX4_isDead 2 (some .boolean), Cond.fieldLink RX4 15 "BitShadows$House" "dead" "I", Cond.methodLink RX7 80 yX7_changeRegister, Cond.instanceMethod yX7_changeRegister, Cond.selects RX7 yX7_changeRegister yX7_changeRegister]
def wsX7_loadAt_r3 : List Cond := [Cond.code yX7_changeRegister cX7_changeRegister 3 none, Cond.fieldLink RX7 46 "BitShadows" "changes" "LBitShadows$Changes;", Cond.methodLink RX7 268 yX1_add, Cond.instanceMethod yX1_add, Cond.selects RX1 yX1_add yX1_add, Cond.initialized RX1, Cond.code yX1_add cX1_add 3 none, Cond.fieldLink RX1 9 "BitShadows$Changes" "places" "[I", Cond.fieldLink RX1 22 "BitShadows$Changes" "next" "I", Cond.fieldLink RX1 15 "BitShadows$Changes" "befores" "[I", Cond.fieldLink RX1 18 "BitShadows$Changes" "count" "I", Cond.methodLink RX1 25 Lib.Math.min.name, Cond.static Lib.Math.min.name, Cond.initialized "java/lang/Math", Cond.code Lib.Math.min.name Lib.Math.min.code 2 (some .int), Cond.methodLink RX7 97 yX7_shadowOfRegister, Cond.instanceMethod yX7_shadowOfRegister, Cond.selects RX7 yX7_shadowOfRegister yX7_shadowOfRegister, Cond.code yX7_shadowOfRegister cX7_shadowOfRegister 2 (some .int), Cond.methodLink RX7 84 yX7_tick, Cond.instanceMethod yX7_tick, Cond.selects RX7 yX7_tick yX7_tick, Cond.code yX7_tick cX7_tick 3 (some .int), Cond.fieldLink RX7 39 "BitShadows" "lastDone" "LBitShadows$Ring;"]
def wsX7_loadAt_r4 : List Cond := [Cond.constantLong RX7 266 (31), Cond.fieldLink RX7 202 "BitShadows" "markNow" "J", Cond.methodLink RX7 265 yX5_add, Cond.instanceMethod yX5_add, Cond.selects RX5 yX5_add yX5_add, Cond.initialized RX5, Cond.code yX5_add cX5_add 4 none, Cond.fieldLink RX5 9 "BitShadows$Ring" "kinds" "[I", Cond.fieldLink RX5 25 "BitShadows$Ring" "next" "I", Cond.fieldLink RX5 15 "BitShadows$Ring" "ticks" "[I", Cond.fieldLink RX5 18 "BitShadows$Ring" "answers" "[I", Cond.fieldLink RX5 21 "BitShadows$Ring" "count" "I", Cond.methodLink RX5 28 Lib.Math.min.name]
def wsX7_loadAt : List Cond := .code yX7_loadAt cX7_loadAt 3 (some .int) :: ((wsX7_loadAt_r1 ++ (wsX7_loadAt_r2 ++ (wsX7_loadAt_r3 ++ wsX7_loadAt_r4))) ++ wsX70 ++ wsX40 ++ wsX20 ++ wsX30 ++ wsX10 ++ wsX50)
def wsX7_storeAt_r1 : List Cond := [Cond.constant RX7 61 (-1000000001), Cond.fieldLink RX7 12 "BitShadows" "house" "LBitShadows$House;", Cond.fieldLink RX7 66 "BitShadows$House" "cells" "[I", Cond.methodLink RX7 57 yX7_isRegister, Cond.static yX7_isRegister, Cond.initialized RX7, Cond.code yX7_isRegister cX7_isRegister 1 (some .boolean), Cond.methodLink RX7 112 yX7_placeAt, Cond.instanceMethod yX7_placeAt, Cond.selects RX7 yX7_placeAt yX7_placeAt, Cond.code yX7_placeAt cX7_placeAt 3 (some .int), Cond.fieldLink RX7 32 "BitShadows" "cries" "LBitShadows$Cries;", Cond.fieldLink RX7 53 "BitShadows" "ticks" "I", Cond.methodLink RX7 91 yX0_shadowOf, Cond.static yX0_shadowOf, Cond.initialized RX0, Cond.code yX0_shadowOf cX0_shadowOf 1 (some .int), Cond.methodLink RX7 94 yX0_fromOf, Cond.static yX0_fromOf, Cond.code yX0_fromOf cX0_fromOf 1 (some .int), Cond.methodLink RX7 133 yX2_add, Cond.instanceMethod yX2_add, Cond.selects RX2 yX2_add yX2_add, Cond.initialized RX2]
def wsX7_storeAt_r2 : List Cond := [Cond.code yX2_add cX2_add 4 none, Cond.fieldLink RX2 21 "BitShadows$Cries" "counted" "I", Cond.fieldLink RX2 25 "BitShadows$Cries" "kept" "I", Cond.fieldLink RX2 9 "BitShadows$Cries" "kinds" "[I", Cond.fieldLink RX2 15 "BitShadows$Cries" "ticks" "[I", Cond.fieldLink RX2 18 "BitShadows$Cries" "groundSets" "[I", Cond.methodLink RX7 70 yX0_valueOf, Cond.static yX0_valueOf, Cond.code yX0_valueOf cX0_valueOf 1 (some .int), Cond.methodLink RX7 109 yX7_changeOctet, Cond.instanceMethod yX7_changeOctet, Cond.selects RX7 yX7_changeOctet yX7_changeOctet, Cond.code yX7_changeOctet cX7_changeOctet 3 none, Cond.fieldLink RX7 46 "BitShadows" "changes" "LBitShadows$Changes;", Cond.fieldLink RX7 153 "BitShadows$House" "dead" "I", Cond.methodLink RX7 268 yX1_add, Cond.instanceMethod yX1_add, Cond.selects RX1 yX1_add yX1_add, Cond.initialized RX1, Cond.code yX1_add cX1_add 3 none, Cond.fieldLink RX1 9 "BitShadows$Changes" "places" "[I", Cond.fieldLink RX1 22 "BitShadows$Changes" "next" "I", Cond.fieldLink RX1 15 "BitShadows$Changes" "befores" "[I", Cond.fieldLink RX1 18 "BitShadows$Changes" "count" "I"]
def wsX7_storeAt_r3 : List Cond := [Cond.methodLink RX1 25 Lib.Math.min.name, Cond.static Lib.Math.min.name, Cond.initialized "java/lang/Math", Cond.code Lib.Math.min.name Lib.Math.min.code 2 (some .int), Cond.methodLink RX7 156 yX7_octetSet, Cond.static yX7_octetSet, Cond.code yX7_octetSet cX7_octetSet 2 (some .int), Cond.methodLink RX7 97 yX7_shadowOfRegister, Cond.instanceMethod yX7_shadowOfRegister, Cond.selects RX7 yX7_shadowOfRegister yX7_shadowOfRegister, Cond.code yX7_shadowOfRegister cX7_shadowOfRegister 2 (some .int), Cond.methodLink RX7 84 yX7_tick, Cond.instanceMethod yX7_tick, Cond.selects RX7 yX7_tick yX7_tick, Cond.code yX7_tick cX7_tick 3 (some .int), Cond.fieldLink RX7 39 "BitShadows" "lastDone" "LBitShadows$Ring;", Cond.constantLong RX7 266 (31), Cond.fieldLink RX7 202 "BitShadows" "markNow" "J", Cond.methodLink RX7 265 yX5_add, Cond.instanceMethod yX5_add, Cond.selects RX5 yX5_add yX5_add, Cond.initialized RX5, Cond.code yX5_add cX5_add 4 none, Cond.fieldLink RX5 9 "BitShadows$Ring" "kinds" "[I"]
def wsX7_storeAt_r4 : List Cond := [Cond.fieldLink RX5 25 "BitShadows$Ring" "next" "I", Cond.fieldLink RX5 15 "BitShadows$Ring" "ticks" "[I", Cond.fieldLink RX5 18 "BitShadows$Ring" "answers" "[I", Cond.fieldLink RX5 21 "BitShadows$Ring" "count" "I", Cond.methodLink RX5 28 Lib.Math.min.name]
def wsX7_storeAt : List Cond := .code yX7_storeAt cX7_storeAt 3 (some .int) :: ((wsX7_storeAt_r1 ++ (wsX7_storeAt_r2 ++ (wsX7_storeAt_r3 ++ wsX7_storeAt_r4))) ++ wsX70 ++ wsX40 ++ wsX20 ++ wsX10 ++ wsX50)
def wsX7_isSort : List Cond := .code yX7_isSort cX7_isSort 1 (some .boolean) :: ([])
def wsX7_followRule_r1 : List Cond := [Cond.fieldLink RX7 12 "BitShadows" "house" "LBitShadows$House;", Cond.fieldLink RX7 66 "BitShadows$House" "cells" "[I", Cond.methodLink RX7 270 yX6_cellBy, Cond.static yX6_cellBy, Cond.initialized RX6, Cond.code yX6_cellBy cX6_cellBy 6 (some .int), Cond.methodLink RX6 22 yX0_valueOf, Cond.static yX0_valueOf, Cond.initialized RX0, Cond.code yX0_valueOf cX0_valueOf 1 (some .int), Cond.methodLink RX6 28 yX0_shadowOf, Cond.static yX0_shadowOf, Cond.code yX0_shadowOf cX0_shadowOf 1 (some .int), Cond.methodLink RX6 15 yX6_shadowBy, Cond.static yX6_shadowBy, Cond.code yX6_shadowBy cX6_shadowBy 9 (some .int), Cond.methodLink RX6 9 yX6_valueBy, Cond.static yX6_valueBy, Cond.code yX6_valueBy cX6_valueBy 3 (some .int), Cond.methodLink RX6 31 yX0_fromOf, Cond.static yX0_fromOf, Cond.code yX0_fromOf cX0_fromOf 1 (some .int), Cond.methodLink RX6 34 yX0_of, Cond.static yX0_of]
def wsX7_followRule_r2 : List Cond := [Cond.code yX0_of cX0_of 4 (some .int), Cond.methodLink RX7 80 yX7_changeRegister, Cond.instanceMethod yX7_changeRegister, Cond.selects RX7 yX7_changeRegister yX7_changeRegister, Cond.initialized RX7, Cond.code yX7_changeRegister cX7_changeRegister 3 none, Cond.fieldLink RX7 46 "BitShadows" "changes" "LBitShadows$Changes;", Cond.methodLink RX7 268 yX1_add, Cond.instanceMethod yX1_add, Cond.selects RX1 yX1_add yX1_add, Cond.initialized RX1, Cond.code yX1_add cX1_add 3 none, Cond.fieldLink RX1 9 "BitShadows$Changes" "places" "[I", Cond.fieldLink RX1 22 "BitShadows$Changes" "next" "I", Cond.fieldLink RX1 15 "BitShadows$Changes" "befores" "[I", Cond.fieldLink RX1 18 "BitShadows$Changes" "count" "I", Cond.methodLink RX1 25 Lib.Math.min.name, Cond.static Lib.Math.min.name, Cond.initialized "java/lang/Math", Cond.code Lib.Math.min.name Lib.Math.min.code 2 (some .int), Cond.methodLink RX7 97 yX7_shadowOfRegister, Cond.instanceMethod yX7_shadowOfRegister, Cond.selects RX7 yX7_shadowOfRegister yX7_shadowOfRegister, Cond.code yX7_shadowOfRegister cX7_shadowOfRegister 2 (some .int)]
def wsX7_followRule_r3 : List Cond := [Cond.methodLink RX7 91 yX0_shadowOf, Cond.methodLink RX7 84 yX7_tick, Cond.instanceMethod yX7_tick, Cond.selects RX7 yX7_tick yX7_tick, Cond.code yX7_tick cX7_tick 3 (some .int), Cond.fieldLink RX7 39 "BitShadows" "lastDone" "LBitShadows$Ring;", Cond.fieldLink RX7 53 "BitShadows" "ticks" "I", Cond.constantLong RX7 266 (31), Cond.fieldLink RX7 202 "BitShadows" "markNow" "J", Cond.methodLink RX7 265 yX5_add, Cond.instanceMethod yX5_add, Cond.selects RX5 yX5_add yX5_add, Cond.initialized RX5, Cond.code yX5_add cX5_add 4 none, Cond.fieldLink RX5 9 "BitShadows$Ring" "kinds" "[I", Cond.fieldLink RX5 25 "BitShadows$Ring" "next" "I", Cond.fieldLink RX5 15 "BitShadows$Ring" "ticks" "[I", Cond.fieldLink RX5 18 "BitShadows$Ring" "answers" "[I", Cond.fieldLink RX5 21 "BitShadows$Ring" "count" "I", Cond.methodLink RX5 28 Lib.Math.min.name]
def wsX7_followRule : List Cond := .code yX7_followRule cX7_followRule 5 (some .int) :: ((wsX7_followRule_r1 ++ (wsX7_followRule_r2 ++ wsX7_followRule_r3)) ++ wsX70 ++ wsX40 ++ wsX10 ++ wsX50)
def wsX7_rule_r1 : List Cond := [Cond.constant RX7 61 (-1000000001), Cond.constant RX7 65 (-1000000002), Cond.fieldLink RX7 118 "BitShadows" "slackAll" "I", Cond.fieldLink RX7 12 "BitShadows" "house" "LBitShadows$House;", Cond.fieldLink RX7 66 "BitShadows$House" "cells" "[I", Cond.methodLink RX7 57 yX7_isRegister, Cond.static yX7_isRegister, Cond.initialized RX7, Cond.code yX7_isRegister cX7_isRegister 1 (some .boolean), Cond.methodLink RX7 115 yX7_isSort, Cond.static yX7_isSort, Cond.code yX7_isSort cX7_isSort 1 (some .boolean), Cond.methodLink RX7 121 yX6_slackOf, Cond.static yX6_slackOf, Cond.initialized RX6, Cond.code yX6_slackOf cX6_slackOf 7 (some .int), Cond.methodLink RX6 22 yX0_valueOf, Cond.static yX0_valueOf, Cond.initialized RX0, Cond.code yX0_valueOf cX0_valueOf 1 (some .int), Cond.methodLink RX6 28 yX0_shadowOf, Cond.static yX0_shadowOf, Cond.code yX0_shadowOf cX0_shadowOf 1 (some .int), Cond.methodLink RX6 15 yX6_shadowBy]
def wsX7_rule_r2 : List Cond := [Cond.static yX6_shadowBy, Cond.code yX6_shadowBy cX6_shadowBy 9 (some .int), Cond.methodLink RX6 9 yX6_valueBy, Cond.static yX6_valueBy, Cond.code yX6_valueBy cX6_valueBy 3 (some .int), Cond.methodLink RX6 37 yX6_exactBy, Cond.static yX6_exactBy, Cond.code yX6_exactBy cX6_exactBy 5 (some .int), Cond.methodLink RX6 19 yX6_exactShift, Cond.static yX6_exactShift, Cond.code yX6_exactShift cX6_exactShift 9 (some .int), Cond.methodLink RX6 40 yJ6_bitCount_0f7a4, Cond.static yJ6_bitCount_0f7a4, Cond.initialized RJ6, Cond.code yJ6_bitCount_0f7a4 cJ6_bitCount_0f7a4 1 (some .int), Cond.constant RJ6 265 (1431655765), Cond.constant RJ6 266 (858993459), Cond.constant RJ6 267 (252645135), Cond.methodLink RX7 126 yX7_followRule, Cond.instanceMethod yX7_followRule, Cond.selects RX7 yX7_followRule yX7_followRule, Cond.code yX7_followRule cX7_followRule 5 (some .int), Cond.methodLink RX7 270 yX6_cellBy, Cond.static yX6_cellBy]
def wsX7_rule_r3 : List Cond := [Cond.code yX6_cellBy cX6_cellBy 6 (some .int), Cond.methodLink RX6 31 yX0_fromOf, Cond.static yX0_fromOf, Cond.code yX0_fromOf cX0_fromOf 1 (some .int), Cond.methodLink RX6 34 yX0_of, Cond.static yX0_of, Cond.code yX0_of cX0_of 4 (some .int), Cond.methodLink RX7 80 yX7_changeRegister, Cond.instanceMethod yX7_changeRegister, Cond.selects RX7 yX7_changeRegister yX7_changeRegister, Cond.code yX7_changeRegister cX7_changeRegister 3 none, Cond.fieldLink RX7 46 "BitShadows" "changes" "LBitShadows$Changes;", Cond.methodLink RX7 268 yX1_add, Cond.instanceMethod yX1_add, Cond.selects RX1 yX1_add yX1_add, Cond.initialized RX1, Cond.code yX1_add cX1_add 3 none, Cond.fieldLink RX1 9 "BitShadows$Changes" "places" "[I", Cond.fieldLink RX1 22 "BitShadows$Changes" "next" "I", Cond.fieldLink RX1 15 "BitShadows$Changes" "befores" "[I", Cond.fieldLink RX1 18 "BitShadows$Changes" "count" "I", Cond.methodLink RX1 25 Lib.Math.min.name, Cond.static Lib.Math.min.name, Cond.initialized "java/lang/Math"]
def wsX7_rule_r4 : List Cond := [Cond.code Lib.Math.min.name Lib.Math.min.code 2 (some .int), Cond.methodLink RX7 97 yX7_shadowOfRegister, Cond.instanceMethod yX7_shadowOfRegister, Cond.selects RX7 yX7_shadowOfRegister yX7_shadowOfRegister, Cond.code yX7_shadowOfRegister cX7_shadowOfRegister 2 (some .int), Cond.methodLink RX7 91 yX0_shadowOf, Cond.methodLink RX7 84 yX7_tick, Cond.instanceMethod yX7_tick, Cond.selects RX7 yX7_tick yX7_tick, Cond.code yX7_tick cX7_tick 3 (some .int), Cond.fieldLink RX7 39 "BitShadows" "lastDone" "LBitShadows$Ring;", Cond.fieldLink RX7 53 "BitShadows" "ticks" "I", Cond.constantLong RX7 266 (31), Cond.fieldLink RX7 202 "BitShadows" "markNow" "J", Cond.methodLink RX7 265 yX5_add, Cond.instanceMethod yX5_add, Cond.selects RX5 yX5_add yX5_add, Cond.initialized RX5, Cond.code yX5_add cX5_add 4 none, Cond.fieldLink RX5 9 "BitShadows$Ring" "kinds" "[I", Cond.fieldLink RX5 25 "BitShadows$Ring" "next" "I", Cond.fieldLink RX5 15 "BitShadows$Ring" "ticks" "[I", Cond.fieldLink RX5 18 "BitShadows$Ring" "answers" "[I", Cond.fieldLink RX5 21 "BitShadows$Ring" "count" "I"]
def wsX7_rule_r5 : List Cond := [Cond.methodLink RX5 28 Lib.Math.min.name]
def wsX7_rule : List Cond := .code yX7_rule cX7_rule 5 (some .int) :: ((wsX7_rule_r1 ++ (wsX7_rule_r2 ++ (wsX7_rule_r3 ++ (wsX7_rule_r4 ++ wsX7_rule_r5)))) ++ wsX70 ++ wsX40 ++ wsX10 ++ wsX50)
def wsX7_decide_r1 : List Cond := [Cond.constant RX7 61 (-1000000001), Cond.fieldLink RX7 12 "BitShadows" "house" "LBitShadows$House;", Cond.fieldLink RX7 66 "BitShadows$House" "cells" "[I", Cond.fieldLink RX7 32 "BitShadows" "cries" "LBitShadows$Cries;", Cond.fieldLink RX7 53 "BitShadows" "ticks" "I", Cond.methodLink RX7 57 yX7_isRegister, Cond.static yX7_isRegister, Cond.initialized RX7, Cond.code yX7_isRegister cX7_isRegister 1 (some .boolean), Cond.methodLink RX7 130 yX0_isDecided, Cond.static yX0_isDecided, Cond.initialized RX0, Cond.code yX0_isDecided cX0_isDecided 1 (some .boolean), Cond.methodLink RX0 18 yX0_leastOf, Cond.static yX0_leastOf, Cond.code yX0_leastOf cX0_leastOf 1 (some .int), Cond.methodLink RX0 9 yX0_valueOf, Cond.static yX0_valueOf, Cond.code yX0_valueOf cX0_valueOf 1 (some .int), Cond.methodLink RX0 15 yX0_shadowOf, Cond.static yX0_shadowOf, Cond.code yX0_shadowOf cX0_shadowOf 1 (some .int), Cond.methodLink RX7 94 yX0_fromOf, Cond.static yX0_fromOf]
def wsX7_decide_r2 : List Cond := [Cond.code yX0_fromOf cX0_fromOf 1 (some .int), Cond.methodLink RX7 133 yX2_add, Cond.instanceMethod yX2_add, Cond.selects RX2 yX2_add yX2_add, Cond.initialized RX2, Cond.code yX2_add cX2_add 4 none, Cond.fieldLink RX2 21 "BitShadows$Cries" "counted" "I", Cond.fieldLink RX2 25 "BitShadows$Cries" "kept" "I", Cond.fieldLink RX2 9 "BitShadows$Cries" "kinds" "[I", Cond.fieldLink RX2 15 "BitShadows$Cries" "ticks" "[I", Cond.fieldLink RX2 18 "BitShadows$Cries" "groundSets" "[I", Cond.methodLink RX7 70 yX0_valueOf, Cond.methodLink RX7 84 yX7_tick, Cond.instanceMethod yX7_tick, Cond.selects RX7 yX7_tick yX7_tick, Cond.code yX7_tick cX7_tick 3 (some .int), Cond.fieldLink RX7 39 "BitShadows" "lastDone" "LBitShadows$Ring;", Cond.constantLong RX7 266 (31), Cond.fieldLink RX7 202 "BitShadows" "markNow" "J", Cond.methodLink RX7 265 yX5_add, Cond.instanceMethod yX5_add, Cond.selects RX5 yX5_add yX5_add, Cond.initialized RX5, Cond.code yX5_add cX5_add 4 none]
def wsX7_decide_r3 : List Cond := [Cond.fieldLink RX5 9 "BitShadows$Ring" "kinds" "[I", Cond.fieldLink RX5 25 "BitShadows$Ring" "next" "I", Cond.fieldLink RX5 15 "BitShadows$Ring" "ticks" "[I", Cond.fieldLink RX5 18 "BitShadows$Ring" "answers" "[I", Cond.fieldLink RX5 21 "BitShadows$Ring" "count" "I", Cond.methodLink RX5 28 Lib.Math.min.name, Cond.static Lib.Math.min.name, Cond.initialized "java/lang/Math", Cond.code Lib.Math.min.name Lib.Math.min.code 2 (some .int)]
def wsX7_decide : List Cond := .code yX7_decide cX7_decide 3 (some .int) :: ((wsX7_decide_r1 ++ (wsX7_decide_r2 ++ wsX7_decide_r3)) ++ wsX70 ++ wsX40 ++ wsX20 ++ wsX50)
def wsX7_nextLot : List Cond := .code yX7_nextLot cX7_nextLot 1 (some .int) :: ([.fieldLink RX7 187 "BitShadows" "lotNow" "I", .constantLong RX7 273 (16807), .constantLong RX7 275 (2147483647)] ++ wsX70)
def wsX7_let_r1 : List Cond := [Cond.constant RX7 65 (-1000000002), Cond.fieldLink RX7 25 "BitShadows" "grounds" "LBitShadows$Grounds;", Cond.constant RX7 141 (-1000000003), Cond.fieldLink RX7 142 "BitShadows$Grounds" "count" "I", Cond.constant RX7 145 (-1000000004), Cond.fieldLink RX7 12 "BitShadows" "house" "LBitShadows$House;", Cond.fieldLink RX7 66 "BitShadows$House" "cells" "[I", Cond.fieldLink RX7 153 "BitShadows$House" "dead" "I", Cond.methodLink RX7 100 yX7_isOctet, Cond.static yX7_isOctet, Cond.initialized RX7, Cond.code yX7_isOctet cX7_isOctet 1 (some .boolean), Cond.methodLink RX7 137 yX3_anyIsLet, Cond.instanceMethod yX3_anyIsLet, Cond.selects RX3 yX3_anyIsLet yX3_anyIsLet, Cond.initialized RX3, Cond.code yX3_anyIsLet cX3_anyIsLet 5 (some .boolean), Cond.fieldLink RX3 18 "BitShadows$Grounds" "lastOver" "[I", Cond.methodLink RX3 28 yX3_isLet, Cond.instanceMethod yX3_isLet, Cond.selects RX3 yX3_isLet yX3_isLet, Cond.code yX3_isLet cX3_isLet 2 (some .boolean), Cond.fieldLink RX3 25 "BitShadows$Grounds" "letSet" "I", Cond.methodLink RX7 146 yX3_open]
def wsX7_let_r2 : List Cond := [Cond.instanceMethod yX3_open, Cond.selects RX3 yX3_open yX3_open, Cond.code yX3_open cX3_open 5 (some .int), Cond.fieldLink RX3 21 "BitShadows$Grounds" "count" "I", Cond.fieldLink RX3 9 "BitShadows$Grounds" "firsts" "[I", Cond.fieldLink RX3 15 "BitShadows$Grounds" "lengths" "[I", Cond.methodLink RX7 149 yX7_nextLot, Cond.instanceMethod yX7_nextLot, Cond.selects RX7 yX7_nextLot yX7_nextLot, Cond.code yX7_nextLot cX7_nextLot 1 (some .int), Cond.fieldLink RX7 187 "BitShadows" "lotNow" "I", Cond.constantLong RX7 273 (16807), Cond.constantLong RX7 275 (2147483647), Cond.methodLink RX7 76 yX0_of, Cond.static yX0_of, Cond.initialized RX0, Cond.code yX0_of cX0_of 4 (some .int), Cond.methodLink RX7 156 yX7_octetSet, Cond.static yX7_octetSet, Cond.code yX7_octetSet cX7_octetSet 2 (some .int), Cond.methodLink RX7 84 yX7_tick, Cond.instanceMethod yX7_tick, Cond.selects RX7 yX7_tick yX7_tick, Cond.code yX7_tick cX7_tick 3 (some .int)]
def wsX7_let_r3 : List Cond := [Cond.fieldLink RX7 39 "BitShadows" "lastDone" "LBitShadows$Ring;", Cond.fieldLink RX7 53 "BitShadows" "ticks" "I", Cond.constantLong RX7 266 (31), Cond.fieldLink RX7 202 "BitShadows" "markNow" "J", Cond.methodLink RX7 265 yX5_add, Cond.instanceMethod yX5_add, Cond.selects RX5 yX5_add yX5_add, Cond.initialized RX5, Cond.code yX5_add cX5_add 4 none, Cond.fieldLink RX5 9 "BitShadows$Ring" "kinds" "[I", Cond.fieldLink RX5 25 "BitShadows$Ring" "next" "I", Cond.fieldLink RX5 15 "BitShadows$Ring" "ticks" "[I", Cond.fieldLink RX5 18 "BitShadows$Ring" "answers" "[I", Cond.fieldLink RX5 21 "BitShadows$Ring" "count" "I", Cond.methodLink RX5 28 Lib.Math.min.name, Cond.static Lib.Math.min.name, Cond.initialized "java/lang/Math", Cond.code Lib.Math.min.name Lib.Math.min.code 2 (some .int)]
def wsX7_let : List Cond := .code yX7_let cX7_let 5 (some .int) :: ((wsX7_let_r1 ++ (wsX7_let_r2 ++ wsX7_let_r3)) ++ wsX70 ++ wsX30 ++ wsX40 ++ wsX50)
def wsX7_giveBack_r1 : List Cond := [Cond.fieldLink RX7 25 "BitShadows" "grounds" "LBitShadows$Grounds;", Cond.constant RX7 61 (-1000000001), Cond.constant RX7 141 (-1000000003), Cond.fieldLink RX7 12 "BitShadows" "house" "LBitShadows$House;", Cond.fieldLink RX7 153 "BitShadows$House" "dead" "I", Cond.fieldLink RX7 166 "BitShadows$Grounds" "firsts" "[I", Cond.fieldLink RX7 169 "BitShadows$Grounds" "lengths" "[I", Cond.fieldLink RX7 172 "BitShadows$Grounds" "letSet" "I", Cond.methodLink RX7 88 yX3_has, Cond.instanceMethod yX3_has, Cond.selects RX3 yX3_has yX3_has, Cond.initialized RX3, Cond.code yX3_has cX3_has 2 (some .boolean), Cond.fieldLink RX3 21 "BitShadows$Grounds" "count" "I", Cond.methodLink RX7 159 yX3_isLet, Cond.instanceMethod yX3_isLet, Cond.selects RX3 yX3_isLet yX3_isLet, Cond.code yX3_isLet cX3_isLet 2 (some .boolean), Cond.fieldLink RX3 25 "BitShadows$Grounds" "letSet" "I", Cond.methodLink RX7 162 yX3_close, Cond.instanceMethod yX3_close, Cond.selects RX3 yX3_close yX3_close, Cond.code yX3_close cX3_close 2 none, Cond.methodLink RX7 156 yX7_octetSet]
def wsX7_giveBack_r2 : List Cond := [Cond.static yX7_octetSet, Cond.initialized RX7, Cond.code yX7_octetSet cX7_octetSet 2 (some .int), Cond.methodLink RX7 175 yJ6_bitCount_0f7a4, Cond.static yJ6_bitCount_0f7a4, Cond.initialized RJ6, Cond.code yJ6_bitCount_0f7a4 cJ6_bitCount_0f7a4 1 (some .int), Cond.constant RJ6 265 (1431655765), Cond.constant RJ6 266 (858993459), Cond.constant RJ6 267 (252645135), Cond.methodLink RX7 84 yX7_tick, Cond.instanceMethod yX7_tick, Cond.selects RX7 yX7_tick yX7_tick, Cond.code yX7_tick cX7_tick 3 (some .int), Cond.fieldLink RX7 39 "BitShadows" "lastDone" "LBitShadows$Ring;", Cond.fieldLink RX7 53 "BitShadows" "ticks" "I", Cond.constantLong RX7 266 (31), Cond.fieldLink RX7 202 "BitShadows" "markNow" "J", Cond.methodLink RX7 265 yX5_add, Cond.instanceMethod yX5_add, Cond.selects RX5 yX5_add yX5_add, Cond.initialized RX5, Cond.code yX5_add cX5_add 4 none, Cond.fieldLink RX5 9 "BitShadows$Ring" "kinds" "[I"]
def wsX7_giveBack_r3 : List Cond := [Cond.fieldLink RX5 25 "BitShadows$Ring" "next" "I", Cond.fieldLink RX5 15 "BitShadows$Ring" "ticks" "[I", Cond.fieldLink RX5 18 "BitShadows$Ring" "answers" "[I", Cond.fieldLink RX5 21 "BitShadows$Ring" "count" "I", Cond.methodLink RX5 28 Lib.Math.min.name, Cond.static Lib.Math.min.name, Cond.initialized "java/lang/Math", Cond.code Lib.Math.min.name Lib.Math.min.code 2 (some .int)]
def wsX7_giveBack : List Cond := .code yX7_giveBack cX7_giveBack 2 (some .int) :: ((wsX7_giveBack_r1 ++ (wsX7_giveBack_r2 ++ wsX7_giveBack_r3)) ++ wsX70 ++ wsX40 ++ wsX30 ++ wsX50)
def wsX7_doByLots_r1 : List Cond := [Cond.methodLink RX7 149 yX7_nextLot, Cond.instanceMethod yX7_nextLot, Cond.selects RX7 yX7_nextLot yX7_nextLot, Cond.initialized RX7, Cond.code yX7_nextLot cX7_nextLot 1 (some .int), Cond.fieldLink RX7 187 "BitShadows" "lotNow" "I", Cond.constantLong RX7 273 (16807), Cond.constantLong RX7 275 (2147483647), Cond.methodLink RX7 126 yX7_followRule, Cond.instanceMethod yX7_followRule, Cond.selects RX7 yX7_followRule yX7_followRule, Cond.code yX7_followRule cX7_followRule 5 (some .int), Cond.fieldLink RX7 12 "BitShadows" "house" "LBitShadows$House;", Cond.fieldLink RX7 66 "BitShadows$House" "cells" "[I", Cond.methodLink RX7 270 yX6_cellBy, Cond.static yX6_cellBy, Cond.initialized RX6, Cond.code yX6_cellBy cX6_cellBy 6 (some .int), Cond.methodLink RX6 22 yX0_valueOf, Cond.static yX0_valueOf, Cond.initialized RX0, Cond.code yX0_valueOf cX0_valueOf 1 (some .int), Cond.methodLink RX6 28 yX0_shadowOf, Cond.static yX0_shadowOf]
def wsX7_doByLots_r2 : List Cond := [Cond.code yX0_shadowOf cX0_shadowOf 1 (some .int), Cond.methodLink RX6 15 yX6_shadowBy, Cond.static yX6_shadowBy, Cond.code yX6_shadowBy cX6_shadowBy 9 (some .int), Cond.methodLink RX6 9 yX6_valueBy, Cond.static yX6_valueBy, Cond.code yX6_valueBy cX6_valueBy 3 (some .int), Cond.methodLink RX6 31 yX0_fromOf, Cond.static yX0_fromOf, Cond.code yX0_fromOf cX0_fromOf 1 (some .int), Cond.methodLink RX6 34 yX0_of, Cond.static yX0_of, Cond.code yX0_of cX0_of 4 (some .int), Cond.methodLink RX7 80 yX7_changeRegister, Cond.instanceMethod yX7_changeRegister, Cond.selects RX7 yX7_changeRegister yX7_changeRegister, Cond.code yX7_changeRegister cX7_changeRegister 3 none, Cond.fieldLink RX7 46 "BitShadows" "changes" "LBitShadows$Changes;", Cond.methodLink RX7 268 yX1_add, Cond.instanceMethod yX1_add, Cond.selects RX1 yX1_add yX1_add, Cond.initialized RX1, Cond.code yX1_add cX1_add 3 none, Cond.fieldLink RX1 9 "BitShadows$Changes" "places" "[I"]
def wsX7_doByLots_r3 : List Cond := [Cond.fieldLink RX1 22 "BitShadows$Changes" "next" "I", Cond.fieldLink RX1 15 "BitShadows$Changes" "befores" "[I", Cond.fieldLink RX1 18 "BitShadows$Changes" "count" "I", Cond.methodLink RX1 25 Lib.Math.min.name, Cond.static Lib.Math.min.name, Cond.initialized "java/lang/Math", Cond.code Lib.Math.min.name Lib.Math.min.code 2 (some .int), Cond.methodLink RX7 97 yX7_shadowOfRegister, Cond.instanceMethod yX7_shadowOfRegister, Cond.selects RX7 yX7_shadowOfRegister yX7_shadowOfRegister, Cond.code yX7_shadowOfRegister cX7_shadowOfRegister 2 (some .int), Cond.methodLink RX7 91 yX0_shadowOf, Cond.methodLink RX7 84 yX7_tick, Cond.instanceMethod yX7_tick, Cond.selects RX7 yX7_tick yX7_tick, Cond.code yX7_tick cX7_tick 3 (some .int), Cond.fieldLink RX7 39 "BitShadows" "lastDone" "LBitShadows$Ring;", Cond.fieldLink RX7 53 "BitShadows" "ticks" "I", Cond.constantLong RX7 266 (31), Cond.fieldLink RX7 202 "BitShadows" "markNow" "J", Cond.methodLink RX7 265 yX5_add, Cond.instanceMethod yX5_add, Cond.selects RX5 yX5_add yX5_add, Cond.initialized RX5]
def wsX7_doByLots_r4 : List Cond := [Cond.code yX5_add cX5_add 4 none, Cond.fieldLink RX5 9 "BitShadows$Ring" "kinds" "[I", Cond.fieldLink RX5 25 "BitShadows$Ring" "next" "I", Cond.fieldLink RX5 15 "BitShadows$Ring" "ticks" "[I", Cond.fieldLink RX5 18 "BitShadows$Ring" "answers" "[I", Cond.fieldLink RX5 21 "BitShadows$Ring" "count" "I", Cond.methodLink RX5 28 Lib.Math.min.name, Cond.methodLink RX7 277 yX7_load, Cond.instanceMethod yX7_load, Cond.selects RX7 yX7_load yX7_load, Cond.code yX7_load cX7_load 3 (some .int), Cond.constant RX7 61 (-1000000001), Cond.methodLink RX7 57 yX7_isRegister, Cond.static yX7_isRegister, Cond.code yX7_isRegister cX7_isRegister 1 (some .boolean), Cond.methodLink RX7 100 yX7_isOctet, Cond.static yX7_isOctet, Cond.code yX7_isOctet cX7_isOctet 1 (some .boolean), Cond.methodLink RX7 103 yX7_readOctet, Cond.instanceMethod yX7_readOctet, Cond.selects RX7 yX7_readOctet yX7_readOctet, Cond.code yX7_readOctet cX7_readOctet 3 (some .int), Cond.fieldLink RX7 25 "BitShadows" "grounds" "LBitShadows$Grounds;", Cond.fieldLink RX7 215 "BitShadows$Grounds" "lastOver" "[I"]
def wsX7_doByLots_r5 : List Cond := [Cond.fieldLink RX7 32 "BitShadows" "cries" "LBitShadows$Cries;", Cond.methodLink RX7 212 yX4_isDead, Cond.instanceMethod yX4_isDead, Cond.selects RX4 yX4_isDead yX4_isDead, Cond.initialized RX4, Cond.code yX4_isDead cX4_isDead 2 (some .boolean), Cond.fieldLink RX4 15 "BitShadows$House" "dead" "I", Cond.methodLink RX7 133 yX2_add, Cond.instanceMethod yX2_add, Cond.selects RX2 yX2_add yX2_add, Cond.initialized RX2, Cond.code yX2_add cX2_add 4 none, Cond.fieldLink RX2 21 "BitShadows$Cries" "counted" "I", Cond.fieldLink RX2 25 "BitShadows$Cries" "kept" "I", Cond.fieldLink RX2 9 "BitShadows$Cries" "kinds" "[I", Cond.fieldLink RX2 15 "BitShadows$Cries" "ticks" "[I", Cond.fieldLink RX2 18 "BitShadows$Cries" "groundSets" "[I", Cond.methodLink RX7 280 yX7_store, Cond.instanceMethod yX7_store, Cond.selects RX7 yX7_store yX7_store, Cond.code yX7_store cX7_store 3 (some .int), Cond.methodLink RX7 109 yX7_changeOctet, Cond.instanceMethod yX7_changeOctet, Cond.selects RX7 yX7_changeOctet yX7_changeOctet]
def wsX7_doByLots_r6 : List Cond := [Cond.code yX7_changeOctet cX7_changeOctet 3 none, Cond.fieldLink RX7 153 "BitShadows$House" "dead" "I", Cond.methodLink RX7 156 yX7_octetSet, Cond.static yX7_octetSet, Cond.code yX7_octetSet cX7_octetSet 2 (some .int), Cond.methodLink RX7 283 yX7_decide, Cond.instanceMethod yX7_decide, Cond.selects RX7 yX7_decide yX7_decide, Cond.code yX7_decide cX7_decide 3 (some .int), Cond.methodLink RX7 130 yX0_isDecided, Cond.static yX0_isDecided, Cond.code yX0_isDecided cX0_isDecided 1 (some .boolean), Cond.methodLink RX0 18 yX0_leastOf, Cond.static yX0_leastOf, Cond.code yX0_leastOf cX0_leastOf 1 (some .int), Cond.methodLink RX0 9 yX0_valueOf, Cond.methodLink RX0 15 yX0_shadowOf, Cond.methodLink RX7 94 yX0_fromOf, Cond.methodLink RX7 70 yX0_valueOf]
def wsX7_doByLots : List Cond := .code yX7_doByLots cX7_doByLots 5 none :: ((wsX7_doByLots_r1 ++ (wsX7_doByLots_r2 ++ (wsX7_doByLots_r3 ++ (wsX7_doByLots_r4 ++ (wsX7_doByLots_r5 ++ wsX7_doByLots_r6))))) ++ wsX70 ++ wsX40 ++ wsX10 ++ wsX50 ++ wsX30 ++ wsX20)
def wsX7_drift_r1 : List Cond := [Cond.constant RX7 65 (-1000000002), Cond.fieldLink RX7 32 "BitShadows" "cries" "LBitShadows$Cries;", Cond.fieldLink RX7 183 "BitShadows$Cries" "counted" "I", Cond.methodLink RX7 180 yX7_doByLots, Cond.instanceMethod yX7_doByLots, Cond.selects RX7 yX7_doByLots yX7_doByLots, Cond.initialized RX7, Cond.code yX7_doByLots cX7_doByLots 5 none, Cond.methodLink RX7 149 yX7_nextLot, Cond.instanceMethod yX7_nextLot, Cond.selects RX7 yX7_nextLot yX7_nextLot, Cond.code yX7_nextLot cX7_nextLot 1 (some .int), Cond.fieldLink RX7 187 "BitShadows" "lotNow" "I", Cond.constantLong RX7 273 (16807), Cond.constantLong RX7 275 (2147483647), Cond.methodLink RX7 126 yX7_followRule, Cond.instanceMethod yX7_followRule, Cond.selects RX7 yX7_followRule yX7_followRule, Cond.code yX7_followRule cX7_followRule 5 (some .int), Cond.fieldLink RX7 12 "BitShadows" "house" "LBitShadows$House;", Cond.fieldLink RX7 66 "BitShadows$House" "cells" "[I", Cond.methodLink RX7 270 yX6_cellBy, Cond.static yX6_cellBy, Cond.initialized RX6]
def wsX7_drift_r2 : List Cond := [Cond.code yX6_cellBy cX6_cellBy 6 (some .int), Cond.methodLink RX6 22 yX0_valueOf, Cond.static yX0_valueOf, Cond.initialized RX0, Cond.code yX0_valueOf cX0_valueOf 1 (some .int), Cond.methodLink RX6 28 yX0_shadowOf, Cond.static yX0_shadowOf, Cond.code yX0_shadowOf cX0_shadowOf 1 (some .int), Cond.methodLink RX6 15 yX6_shadowBy, Cond.static yX6_shadowBy, Cond.code yX6_shadowBy cX6_shadowBy 9 (some .int), Cond.methodLink RX6 9 yX6_valueBy, Cond.static yX6_valueBy, Cond.code yX6_valueBy cX6_valueBy 3 (some .int), Cond.methodLink RX6 31 yX0_fromOf, Cond.static yX0_fromOf, Cond.code yX0_fromOf cX0_fromOf 1 (some .int), Cond.methodLink RX6 34 yX0_of, Cond.static yX0_of, Cond.code yX0_of cX0_of 4 (some .int), Cond.methodLink RX7 80 yX7_changeRegister, Cond.instanceMethod yX7_changeRegister, Cond.selects RX7 yX7_changeRegister yX7_changeRegister, Cond.code yX7_changeRegister cX7_changeRegister 3 none]
def wsX7_drift_r3 : List Cond := [Cond.fieldLink RX7 46 "BitShadows" "changes" "LBitShadows$Changes;", Cond.methodLink RX7 268 yX1_add, Cond.instanceMethod yX1_add, Cond.selects RX1 yX1_add yX1_add, Cond.initialized RX1, Cond.code yX1_add cX1_add 3 none, Cond.fieldLink RX1 9 "BitShadows$Changes" "places" "[I", Cond.fieldLink RX1 22 "BitShadows$Changes" "next" "I", Cond.fieldLink RX1 15 "BitShadows$Changes" "befores" "[I", Cond.fieldLink RX1 18 "BitShadows$Changes" "count" "I", Cond.methodLink RX1 25 Lib.Math.min.name, Cond.static Lib.Math.min.name, Cond.initialized "java/lang/Math", Cond.code Lib.Math.min.name Lib.Math.min.code 2 (some .int), Cond.methodLink RX7 97 yX7_shadowOfRegister, Cond.instanceMethod yX7_shadowOfRegister, Cond.selects RX7 yX7_shadowOfRegister yX7_shadowOfRegister, Cond.code yX7_shadowOfRegister cX7_shadowOfRegister 2 (some .int), Cond.methodLink RX7 91 yX0_shadowOf, Cond.methodLink RX7 84 yX7_tick, Cond.instanceMethod yX7_tick, Cond.selects RX7 yX7_tick yX7_tick, Cond.code yX7_tick cX7_tick 3 (some .int), Cond.fieldLink RX7 39 "BitShadows" "lastDone" "LBitShadows$Ring;"]
def wsX7_drift_r4 : List Cond := [Cond.fieldLink RX7 53 "BitShadows" "ticks" "I", Cond.constantLong RX7 266 (31), Cond.fieldLink RX7 202 "BitShadows" "markNow" "J", Cond.methodLink RX7 265 yX5_add, Cond.instanceMethod yX5_add, Cond.selects RX5 yX5_add yX5_add, Cond.initialized RX5, Cond.code yX5_add cX5_add 4 none, Cond.fieldLink RX5 9 "BitShadows$Ring" "kinds" "[I", Cond.fieldLink RX5 25 "BitShadows$Ring" "next" "I", Cond.fieldLink RX5 15 "BitShadows$Ring" "ticks" "[I", Cond.fieldLink RX5 18 "BitShadows$Ring" "answers" "[I", Cond.fieldLink RX5 21 "BitShadows$Ring" "count" "I", Cond.methodLink RX5 28 Lib.Math.min.name, Cond.methodLink RX7 277 yX7_load, Cond.instanceMethod yX7_load, Cond.selects RX7 yX7_load yX7_load, Cond.code yX7_load cX7_load 3 (some .int), Cond.constant RX7 61 (-1000000001), Cond.methodLink RX7 57 yX7_isRegister, Cond.static yX7_isRegister, Cond.code yX7_isRegister cX7_isRegister 1 (some .boolean), Cond.methodLink RX7 100 yX7_isOctet, Cond.static yX7_isOctet]
def wsX7_drift_r5 : List Cond := [Cond.code yX7_isOctet cX7_isOctet 1 (some .boolean), Cond.methodLink RX7 103 yX7_readOctet, Cond.instanceMethod yX7_readOctet, Cond.selects RX7 yX7_readOctet yX7_readOctet, Cond.code yX7_readOctet cX7_readOctet 3 (some .int), Cond.fieldLink RX7 25 "BitShadows" "grounds" "LBitShadows$Grounds;", Cond.fieldLink RX7 215 "BitShadows$Grounds" "lastOver" "[I", Cond.methodLink RX7 212 yX4_isDead, Cond.instanceMethod yX4_isDead, Cond.selects RX4 yX4_isDead yX4_isDead, Cond.initialized RX4, Cond.code yX4_isDead cX4_isDead 2 (some .boolean), Cond.fieldLink RX4 15 "BitShadows$House" "dead" "I", Cond.methodLink RX7 133 yX2_add, Cond.instanceMethod yX2_add, Cond.selects RX2 yX2_add yX2_add, Cond.initialized RX2, Cond.code yX2_add cX2_add 4 none, Cond.fieldLink RX2 21 "BitShadows$Cries" "counted" "I", Cond.fieldLink RX2 25 "BitShadows$Cries" "kept" "I", Cond.fieldLink RX2 9 "BitShadows$Cries" "kinds" "[I", Cond.fieldLink RX2 15 "BitShadows$Cries" "ticks" "[I", Cond.fieldLink RX2 18 "BitShadows$Cries" "groundSets" "[I", Cond.methodLink RX7 280 yX7_store]
def wsX7_drift_r6 : List Cond := [Cond.instanceMethod yX7_store, Cond.selects RX7 yX7_store yX7_store, Cond.code yX7_store cX7_store 3 (some .int), Cond.methodLink RX7 109 yX7_changeOctet, Cond.instanceMethod yX7_changeOctet, Cond.selects RX7 yX7_changeOctet yX7_changeOctet, Cond.code yX7_changeOctet cX7_changeOctet 3 none, Cond.fieldLink RX7 153 "BitShadows$House" "dead" "I", Cond.methodLink RX7 156 yX7_octetSet, Cond.static yX7_octetSet, Cond.code yX7_octetSet cX7_octetSet 2 (some .int), Cond.methodLink RX7 283 yX7_decide, Cond.instanceMethod yX7_decide, Cond.selects RX7 yX7_decide yX7_decide, Cond.code yX7_decide cX7_decide 3 (some .int), Cond.methodLink RX7 130 yX0_isDecided, Cond.static yX0_isDecided, Cond.code yX0_isDecided cX0_isDecided 1 (some .boolean), Cond.methodLink RX0 18 yX0_leastOf, Cond.static yX0_leastOf, Cond.code yX0_leastOf cX0_leastOf 1 (some .int), Cond.methodLink RX0 9 yX0_valueOf, Cond.methodLink RX0 15 yX0_shadowOf, Cond.methodLink RX7 94 yX0_fromOf]
def wsX7_drift_r7 : List Cond := [Cond.methodLink RX7 70 yX0_valueOf]
def wsX7_drift : List Cond := .code yX7_drift cX7_drift 3 (some .int) :: ((wsX7_drift_r1 ++ (wsX7_drift_r2 ++ (wsX7_drift_r3 ++ (wsX7_drift_r4 ++ (wsX7_drift_r5 ++ (wsX7_drift_r6 ++ wsX7_drift_r7)))))) ++ wsX70 ++ wsX20 ++ wsX40 ++ wsX10 ++ wsX50 ++ wsX30)
def wsX7_lot : List Cond := .code yX7_lot cX7_lot 3 (some .int) :: ([.constant RX7 186 (2147483647), .constant RX7 65 (-1000000002), .fieldLink RX7 187 "BitShadows" "lotNow" "I"] ++ wsX70)
def wsX7_undo : List Cond := .code yX7_undo cX7_undo 1 (some .int) :: ([.fieldLink RX7 46 "BitShadows" "changes" "LBitShadows$Changes;", .fieldLink RX7 190 "BitShadows$Changes" "count" "I", .constant RX7 141 (-1000000003), .fieldLink RX7 12 "BitShadows" "house" "LBitShadows$House;", .fieldLink RX7 66 "BitShadows$House" "cells" "[I", .methodLink RX7 191 yX1_takeBackLatest, .instanceMethod yX1_takeBackLatest, .selects RX1 yX1_takeBackLatest yX1_takeBackLatest, .initialized RX1, .code yX1_takeBackLatest cX1_takeBackLatest 2 none, .fieldLink RX1 22 "BitShadows$Changes" "next" "I", .fieldLink RX1 9 "BitShadows$Changes" "places" "[I", .fieldLink RX1 15 "BitShadows$Changes" "befores" "[I", .fieldLink RX1 18 "BitShadows$Changes" "count" "I"] ++ wsX70 ++ wsX10 ++ wsX40)
def wsX7_told_r1 : List Cond := [Cond.fieldLink RX7 53 "BitShadows" "ticks" "I", Cond.fieldLink RX7 32 "BitShadows" "cries" "LBitShadows$Cries;", Cond.fieldLink RX7 183 "BitShadows$Cries" "counted" "I", Cond.fieldLink RX7 195 "BitShadows$Cries" "kept" "I", Cond.fieldLink RX7 118 "BitShadows" "slackAll" "I", Cond.fieldLink RX7 25 "BitShadows" "grounds" "LBitShadows$Grounds;", Cond.fieldLink RX7 142 "BitShadows$Grounds" "count" "I", Cond.fieldLink RX7 172 "BitShadows$Grounds" "letSet" "I", Cond.fieldLink RX7 12 "BitShadows" "house" "LBitShadows$House;", Cond.fieldLink RX7 153 "BitShadows$House" "dead" "I", Cond.fieldLink RX7 39 "BitShadows" "lastDone" "LBitShadows$Ring;", Cond.fieldLink RX7 198 "BitShadows$Ring" "count" "I", Cond.fieldLink RX7 187 "BitShadows" "lotNow" "I", Cond.fieldLink RX7 46 "BitShadows" "changes" "LBitShadows$Changes;", Cond.fieldLink RX7 190 "BitShadows$Changes" "count" "I", Cond.constant RX7 65 (-1000000002), Cond.methodLink RX7 175 yJ6_bitCount_0f7a4, Cond.static yJ6_bitCount_0f7a4, Cond.initialized RJ6, Cond.code yJ6_bitCount_0f7a4 cJ6_bitCount_0f7a4 1 (some .int), Cond.constant RJ6 265 (1431655765), Cond.constant RJ6 266 (858993459), Cond.constant RJ6 267 (252645135), Cond.methodLink RX7 199 yX4_unknownBits]
def wsX7_told_r2 : List Cond := [Cond.instanceMethod yX4_unknownBits, Cond.selects RX4 yX4_unknownBits yX4_unknownBits, Cond.initialized RX4, Cond.code yX4_unknownBits cX4_unknownBits 5 (some .int), Cond.fieldLink RX4 9 "BitShadows$House" "cells" "[I", Cond.methodLink RX4 25 yX0_shadowOf, Cond.static yX0_shadowOf, Cond.initialized RX0, Cond.code yX0_shadowOf cX0_shadowOf 1 (some .int), Cond.methodLink RX4 31 yJ6_bitCount_0f7a4]
def wsX7_told : List Cond := .code yX7_told cX7_told 2 (some .int) :: ((wsX7_told_r1 ++ wsX7_told_r2) ++ wsX70 ++ wsX20 ++ wsX30 ++ wsX40 ++ wsX50 ++ wsX10)
def wsX7_mark : List Cond := .code yX7_mark cX7_mark 1 (some .long) :: ([.fieldLink RX7 202 "BitShadows" "markNow" "J"] ++ wsX70)
def wsX7_register_r1 : List Cond := [Cond.constant RX7 61 (-1000000001), Cond.fieldLink RX7 12 "BitShadows" "house" "LBitShadows$House;", Cond.fieldLink RX7 66 "BitShadows$House" "cells" "[I", Cond.constant RX7 65 (-1000000002), Cond.methodLink RX7 57 yX7_isRegister, Cond.static yX7_isRegister, Cond.initialized RX7, Cond.code yX7_isRegister cX7_isRegister 1 (some .boolean), Cond.methodLink RX7 70 yX0_valueOf, Cond.static yX0_valueOf, Cond.initialized RX0, Cond.code yX0_valueOf cX0_valueOf 1 (some .int), Cond.methodLink RX7 91 yX0_shadowOf, Cond.static yX0_shadowOf, Cond.code yX0_shadowOf cX0_shadowOf 1 (some .int), Cond.methodLink RX7 94 yX0_fromOf, Cond.static yX0_fromOf, Cond.code yX0_fromOf cX0_fromOf 1 (some .int), Cond.methodLink RX7 206 yX0_leastOf, Cond.static yX0_leastOf, Cond.code yX0_leastOf cX0_leastOf 1 (some .int), Cond.methodLink RX0 9 yX0_valueOf, Cond.methodLink RX0 15 yX0_shadowOf, Cond.methodLink RX7 209 yX0_mostOf]
def wsX7_register_r2 : List Cond := [Cond.static yX0_mostOf, Cond.code yX0_mostOf cX0_mostOf 1 (some .int), Cond.methodLink RX7 175 yJ6_bitCount_0f7a4, Cond.static yJ6_bitCount_0f7a4, Cond.initialized RJ6, Cond.code yJ6_bitCount_0f7a4 cJ6_bitCount_0f7a4 1 (some .int), Cond.constant RJ6 265 (1431655765), Cond.constant RJ6 266 (858993459), Cond.constant RJ6 267 (252645135), Cond.methodLink RX7 130 yX0_isDecided, Cond.static yX0_isDecided, Cond.code yX0_isDecided cX0_isDecided 1 (some .boolean), Cond.methodLink RX0 18 yX0_leastOf]
def wsX7_register : List Cond := .code yX7_register cX7_register 4 (some .int) :: ((wsX7_register_r1 ++ wsX7_register_r2) ++ wsX70 ++ wsX40)
def wsX7_octet_r1 : List Cond := [Cond.constant RX7 61 (-1000000001), Cond.fieldLink RX7 12 "BitShadows" "house" "LBitShadows$House;", Cond.fieldLink RX7 66 "BitShadows$House" "cells" "[I", Cond.fieldLink RX7 25 "BitShadows" "grounds" "LBitShadows$Grounds;", Cond.fieldLink RX7 215 "BitShadows$Grounds" "lastOver" "[I", Cond.constant RX7 65 (-1000000002), Cond.methodLink RX7 100 yX7_isOctet, Cond.static yX7_isOctet, Cond.initialized RX7, Cond.code yX7_isOctet cX7_isOctet 1 (some .boolean), Cond.methodLink RX7 70 yX0_valueOf, Cond.static yX0_valueOf, Cond.initialized RX0, Cond.code yX0_valueOf cX0_valueOf 1 (some .int), Cond.methodLink RX7 91 yX0_shadowOf, Cond.static yX0_shadowOf, Cond.code yX0_shadowOf cX0_shadowOf 1 (some .int), Cond.methodLink RX7 94 yX0_fromOf, Cond.static yX0_fromOf, Cond.code yX0_fromOf cX0_fromOf 1 (some .int), Cond.methodLink RX7 212 yX4_isDead, Cond.instanceMethod yX4_isDead, Cond.selects RX4 yX4_isDead yX4_isDead, Cond.initialized RX4]
def wsX7_octet_r2 : List Cond := [Cond.code yX4_isDead cX4_isDead 2 (some .boolean), Cond.fieldLink RX4 15 "BitShadows$House" "dead" "I"]
def wsX7_octet : List Cond := .code yX7_octet cX7_octet 4 (some .int) :: ((wsX7_octet_r1 ++ wsX7_octet_r2) ++ wsX70 ++ wsX40 ++ wsX30)
def wsX7_ground : List Cond := .code yX7_ground cX7_ground 3 (some .int) :: ([.fieldLink RX7 25 "BitShadows" "grounds" "LBitShadows$Grounds;", .constant RX7 61 (-1000000001), .fieldLink RX7 166 "BitShadows$Grounds" "firsts" "[I", .fieldLink RX7 169 "BitShadows$Grounds" "lengths" "[I", .fieldLink RX7 32 "BitShadows" "cries" "LBitShadows$Cries;", .constant RX7 65 (-1000000002), .methodLink RX7 88 yX3_has, .instanceMethod yX3_has, .selects RX3 yX3_has yX3_has, .initialized RX3, .code yX3_has cX3_has 2 (some .boolean), .fieldLink RX3 21 "BitShadows$Grounds" "count" "I", .methodLink RX7 159 yX3_isLet, .instanceMethod yX3_isLet, .selects RX3 yX3_isLet yX3_isLet, .code yX3_isLet cX3_isLet 2 (some .boolean), .fieldLink RX3 25 "BitShadows$Grounds" "letSet" "I", .methodLink RX7 218 yX2_countNaming, .instanceMethod yX2_countNaming, .selects RX2 yX2_countNaming yX2_countNaming, .initialized RX2, .code yX2_countNaming cX2_countNaming 4 (some .int), .fieldLink RX2 25 "BitShadows$Cries" "kept" "I", .fieldLink RX2 18 "BitShadows$Cries" "groundSets" "[I"] ++ wsX70 ++ wsX30 ++ wsX20)
def wsX7_cry : List Cond := .code yX7_cry cX7_cry 3 (some .int) :: ([.fieldLink RX7 32 "BitShadows" "cries" "LBitShadows$Cries;", .fieldLink RX7 195 "BitShadows$Cries" "kept" "I", .constant RX7 61 (-1000000001), .fieldLink RX7 221 "BitShadows$Cries" "kinds" "[I", .fieldLink RX7 224 "BitShadows$Cries" "ticks" "[I", .fieldLink RX7 226 "BitShadows$Cries" "groundSets" "[I", .constant RX7 65 (-1000000002)] ++ wsX70 ++ wsX20)
def wsX7_ring : List Cond := .code yX7_ring cX7_ring 4 (some .int) :: ([.constant RX7 65 (-1000000002), .fieldLink RX7 39 "BitShadows" "lastDone" "LBitShadows$Ring;", .fieldLink RX7 198 "BitShadows$Ring" "count" "I", .fieldLink RX7 232 "BitShadows$Ring" "kinds" "[I", .fieldLink RX7 233 "BitShadows$Ring" "ticks" "[I", .fieldLink RX7 234 "BitShadows$Ring" "answers" "[I", .methodLink RX7 229 yX5_placeOf, .instanceMethod yX5_placeOf, .selects RX5 yX5_placeOf yX5_placeOf, .initialized RX5, .code yX5_placeOf cX5_placeOf 2 (some .int), .fieldLink RX5 25 "BitShadows$Ring" "next" "I"] ++ wsX70 ++ wsX50)
def wsX7_shadow : List Cond := .code yX7_shadow cX7_shadow 6 (some .int) :: ([.constant RX7 65 (-1000000002), .methodLink RX7 115 yX7_isSort, .static yX7_isSort, .initialized RX7, .code yX7_isSort cX7_isSort 1 (some .boolean), .methodLink RX7 62 yX7_isByte, .static yX7_isByte, .code yX7_isByte cX7_isByte 1 (some .boolean), .methodLink RX7 237 yX6_shadowBy, .static yX6_shadowBy, .initialized RX6, .code yX6_shadowBy cX6_shadowBy 9 (some .int), .methodLink RX6 9 yX6_valueBy, .static yX6_valueBy, .code yX6_valueBy cX6_valueBy 3 (some .int)])
def wsX7_exact : List Cond := .code yX7_exact cX7_exact 6 (some .int) :: ([.constant RX7 65 (-1000000002), .methodLink RX7 115 yX7_isSort, .static yX7_isSort, .initialized RX7, .code yX7_isSort cX7_isSort 1 (some .boolean), .methodLink RX7 62 yX7_isByte, .static yX7_isByte, .code yX7_isByte cX7_isByte 1 (some .boolean), .methodLink RX7 241 yX6_exactBy, .static yX6_exactBy, .initialized RX6, .code yX6_exactBy cX6_exactBy 5 (some .int), .methodLink RX6 15 yX6_shadowBy, .static yX6_shadowBy, .code yX6_shadowBy cX6_shadowBy 9 (some .int), .methodLink RX6 9 yX6_valueBy, .static yX6_valueBy, .code yX6_valueBy cX6_valueBy 3 (some .int), .methodLink RX6 19 yX6_exactShift, .static yX6_exactShift, .code yX6_exactShift cX6_exactShift 9 (some .int)])
def wsX7_isImage : List Cond := .code yX7_isImage cX7_isImage 1 (some .boolean) :: ([])
def wsX7_imageOf : List Cond := .code yX7_imageOf cX7_imageOf 2 (some (.object "BitShadows$House")) :: ([.fieldLink RX7 16 "BitShadows" "firstImage" "LBitShadows$House;", .fieldLink RX7 19 "BitShadows" "secondImage" "LBitShadows$House;"] ++ wsX70)
def wsX7_keep_r1 : List Cond := [Cond.constant RX7 61 (-1000000001), Cond.fieldLink RX7 12 "BitShadows" "house" "LBitShadows$House;", Cond.fieldLink RX7 255 "BitShadows" "keptImages" "I", Cond.fieldLink RX7 46 "BitShadows" "changes" "LBitShadows$Changes;", Cond.methodLink RX7 244 yX7_isImage, Cond.static yX7_isImage, Cond.initialized RX7, Cond.code yX7_isImage cX7_isImage 1 (some .boolean), Cond.methodLink RX7 247 yX7_imageOf, Cond.instanceMethod yX7_imageOf, Cond.selects RX7 yX7_imageOf yX7_imageOf, Cond.code yX7_imageOf cX7_imageOf 2 (some (.object "BitShadows$House")), Cond.fieldLink RX7 16 "BitShadows" "firstImage" "LBitShadows$House;", Cond.fieldLink RX7 19 "BitShadows" "secondImage" "LBitShadows$House;", Cond.methodLink RX7 251 yX4_becomeAs, Cond.instanceMethod yX4_becomeAs, Cond.selects RX4 yX4_becomeAs yX4_becomeAs, Cond.initialized RX4, Cond.code yX4_becomeAs cX4_becomeAs 2 none, Cond.fieldLink RX4 9 "BitShadows$House" "cells" "[I", Cond.methodLink RX4 19 arraycopyName, Cond.native arraycopyName, Cond.static arraycopyName, Cond.initialized "java/lang/System"]
def wsX7_keep_r2 : List Cond := [Cond.fieldLink RX4 15 "BitShadows$House" "dead" "I", Cond.methodLink RX7 258 yX1_clear, Cond.instanceMethod yX1_clear, Cond.selects RX1 yX1_clear yX1_clear, Cond.initialized RX1, Cond.code yX1_clear cX1_clear 1 none, Cond.fieldLink RX1 18 "BitShadows$Changes" "count" "I", Cond.fieldLink RX1 22 "BitShadows$Changes" "next" "I"]
def wsX7_keep : List Cond := .code yX7_keep cX7_keep 2 (some .int) :: ((wsX7_keep_r1 ++ wsX7_keep_r2) ++ wsX70 ++ wsX40 ++ wsX10)
def wsX7_goBack_r1 : List Cond := [Cond.constant RX7 61 (-1000000001), Cond.fieldLink RX7 255 "BitShadows" "keptImages" "I", Cond.constant RX7 141 (-1000000003), Cond.fieldLink RX7 12 "BitShadows" "house" "LBitShadows$House;", Cond.fieldLink RX7 46 "BitShadows" "changes" "LBitShadows$Changes;", Cond.methodLink RX7 244 yX7_isImage, Cond.static yX7_isImage, Cond.initialized RX7, Cond.code yX7_isImage cX7_isImage 1 (some .boolean), Cond.methodLink RX7 247 yX7_imageOf, Cond.instanceMethod yX7_imageOf, Cond.selects RX7 yX7_imageOf yX7_imageOf, Cond.code yX7_imageOf cX7_imageOf 2 (some (.object "BitShadows$House")), Cond.fieldLink RX7 16 "BitShadows" "firstImage" "LBitShadows$House;", Cond.fieldLink RX7 19 "BitShadows" "secondImage" "LBitShadows$House;", Cond.methodLink RX7 251 yX4_becomeAs, Cond.instanceMethod yX4_becomeAs, Cond.selects RX4 yX4_becomeAs yX4_becomeAs, Cond.initialized RX4, Cond.code yX4_becomeAs cX4_becomeAs 2 none, Cond.fieldLink RX4 9 "BitShadows$House" "cells" "[I", Cond.methodLink RX4 19 arraycopyName, Cond.native arraycopyName, Cond.static arraycopyName]
def wsX7_goBack_r2 : List Cond := [Cond.initialized "java/lang/System", Cond.fieldLink RX4 15 "BitShadows$House" "dead" "I", Cond.methodLink RX7 258 yX1_clear, Cond.instanceMethod yX1_clear, Cond.selects RX1 yX1_clear yX1_clear, Cond.initialized RX1, Cond.code yX1_clear cX1_clear 1 none, Cond.fieldLink RX1 18 "BitShadows$Changes" "count" "I", Cond.fieldLink RX1 22 "BitShadows$Changes" "next" "I"]
def wsX7_goBack : List Cond := .code yX7_goBack cX7_goBack 2 (some .int) :: ((wsX7_goBack_r1 ++ wsX7_goBack_r2) ++ wsX70 ++ wsX40 ++ wsX10)
def wsX8_start : List Cond := .code yX8_start cX8_start 3 (some .int) :: ([.fieldLink RX8 89 "BitShadowsModel" "ticks" "I", .fieldLink RX8 7 "BitShadowsModel" "value" "[I", .fieldLink RX8 13 "BitShadowsModel" "shadow" "[I", .fieldLink RX8 16 "BitShadowsModel" "from" "[I", .fieldLink RX8 19 "BitShadowsModel" "isDead" "[Z", .fieldLink RX8 23 "BitShadowsModel" "groundOver" "[I", .fieldLink RX8 83 "BitShadowsModel" "grounds" "I", .fieldLink RX8 92 "BitShadowsModel" "lot" "I", .fieldLink RX8 95 "BitShadowsModel" "cried" "I", .fieldLink RX8 98 "BitShadowsModel" "slackAll" "I", .fieldLink RX8 101 "BitShadowsModel" "mark" "J", .fieldLink RX8 105 "BitShadowsModel" "ringed" "I", .fieldLink RX8 108 "BitShadowsModel" "undos" "I", .fieldLink RX8 68 "BitShadowsModel" "isKept" "[Z"] ++ wsX80)
def wsX8_init_r1 : List Cond := [Cond.methodLink RX8 1 objectInit, Cond.instanceMethod objectInit, Cond.code objectInit ⟨#[0xb1]⟩ 1 none, Cond.arrayClass .int, Cond.fieldLink RX8 7 "BitShadowsModel" "value" "[I", Cond.fieldLink RX8 13 "BitShadowsModel" "shadow" "[I", Cond.fieldLink RX8 16 "BitShadowsModel" "from" "[I", Cond.arrayClass .boolean, Cond.fieldLink RX8 19 "BitShadowsModel" "isDead" "[Z", Cond.fieldLink RX8 23 "BitShadowsModel" "groundOver" "[I", Cond.fieldLink RX8 26 "BitShadowsModel" "groundAt" "[I", Cond.fieldLink RX8 29 "BitShadowsModel" "groundMany" "[I", Cond.fieldLink RX8 32 "BitShadowsModel" "isLet" "[Z", Cond.fieldLink RX8 35 "BitShadowsModel" "cryIs" "[I", Cond.fieldLink RX8 38 "BitShadowsModel" "cryTick" "[I", Cond.fieldLink RX8 41 "BitShadowsModel" "cryOf" "[I", Cond.fieldLink RX8 44 "BitShadowsModel" "ringIs" "[I", Cond.fieldLink RX8 47 "BitShadowsModel" "ringTick" "[I", Cond.fieldLink RX8 50 "BitShadowsModel" "ringTold" "[I", Cond.fieldLink RX8 53 "BitShadowsModel" "pastOf" "[I", Cond.fieldLink RX8 56 "BitShadowsModel" "pastValue" "[I", Cond.fieldLink RX8 59 "BitShadowsModel" "pastShadow" "[I", Cond.fieldLink RX8 62 "BitShadowsModel" "pastFrom" "[I", Cond.fieldLink RX8 65 "BitShadowsModel" "images" "[I"]
def wsX8_init_r2 : List Cond := [Cond.fieldLink RX8 68 "BitShadowsModel" "isKept" "[Z", Cond.methodLink RX8 71 yX8_start, Cond.instanceMethod yX8_start, Cond.selects RX8 yX8_start yX8_start, Cond.initialized RX8, Cond.code yX8_start cX8_start 3 (some .int), Cond.fieldLink RX8 89 "BitShadowsModel" "ticks" "I", Cond.fieldLink RX8 83 "BitShadowsModel" "grounds" "I", Cond.fieldLink RX8 92 "BitShadowsModel" "lot" "I", Cond.fieldLink RX8 95 "BitShadowsModel" "cried" "I", Cond.fieldLink RX8 98 "BitShadowsModel" "slackAll" "I", Cond.fieldLink RX8 101 "BitShadowsModel" "mark" "J", Cond.fieldLink RX8 105 "BitShadowsModel" "ringed" "I", Cond.fieldLink RX8 108 "BitShadowsModel" "undos" "I"]
def wsX8_init : List Cond := .code yX8_init cX8_init 2 none :: ((wsX8_init_r1 ++ wsX8_init_r2) ++ wsX80)
def wsX8_in : List Cond := .code yX8_in cX8_in 6 (some .boolean) :: ([])
def wsX8_isRegister : List Cond := .code yX8_isRegister cX8_isRegister 1 (some .boolean) :: ([.constantLong RX8 75 (7), .methodLink RX8 77 yX8_in, .static yX8_in, .initialized RX8, .code yX8_in cX8_in 6 (some .boolean)])
def wsX8_isOctet : List Cond := .code yX8_isOctet cX8_isOctet 1 (some .boolean) :: ([.constantLong RX8 81 (31), .methodLink RX8 77 yX8_in, .static yX8_in, .initialized RX8, .code yX8_in cX8_in 6 (some .boolean)])
def wsX8_isGround : List Cond := .code yX8_isGround cX8_isGround 2 (some .boolean) :: ([.fieldLink RX8 83 "BitShadowsModel" "grounds" "I", .methodLink RX8 77 yX8_in, .static yX8_in, .initialized RX8, .code yX8_in cX8_in 6 (some .boolean)] ++ wsX80)
def wsX8_isByte : List Cond := .code yX8_isByte cX8_isByte 1 (some .boolean) :: ([.constantLong RX8 87 (255), .methodLink RX8 77 yX8_in, .static yX8_in, .initialized RX8, .code yX8_in cX8_in 6 (some .boolean)])
def wsX8_bits : List Cond := .code yX8_bits cX8_bits 3 (some .int) :: ([])
def wsX8_lotBy : List Cond := .code yX8_lotBy cX8_lotBy 2 (some .int) :: ([.fieldLink RX8 92 "BitShadowsModel" "lot" "I", .constantLong RX8 111 (16807), .constantLong RX8 113 (2147483647)] ++ wsX80)
def wsX8_cries : List Cond := .code yX8_cries cX8_cries 3 none :: ([.fieldLink RX8 95 "BitShadowsModel" "cried" "I", .fieldLink RX8 35 "BitShadowsModel" "cryIs" "[I", .fieldLink RX8 38 "BitShadowsModel" "cryTick" "[I", .fieldLink RX8 89 "BitShadowsModel" "ticks" "I", .fieldLink RX8 41 "BitShadowsModel" "cryOf" "[I"] ++ wsX80)
def wsX8_tick : List Cond := .code yX8_tick cX8_tick 4 (some .int) :: ([.fieldLink RX8 44 "BitShadowsModel" "ringIs" "[I", .fieldLink RX8 47 "BitShadowsModel" "ringTick" "[I", .fieldLink RX8 50 "BitShadowsModel" "ringTold" "[I", .fieldLink RX8 89 "BitShadowsModel" "ticks" "I", .fieldLink RX8 105 "BitShadowsModel" "ringed" "I", .constantLong RX8 81 (31), .fieldLink RX8 101 "BitShadowsModel" "mark" "J"] ++ wsX80)
def wsX8_remember : List Cond := .code yX8_remember cX8_remember 3 none :: ([.fieldLink RX8 108 "BitShadowsModel" "undos" "I", .fieldLink RX8 53 "BitShadowsModel" "pastOf" "[I", .fieldLink RX8 56 "BitShadowsModel" "pastValue" "[I", .fieldLink RX8 59 "BitShadowsModel" "pastShadow" "[I", .fieldLink RX8 62 "BitShadowsModel" "pastFrom" "[I", .fieldLink RX8 7 "BitShadowsModel" "value" "[I", .fieldLink RX8 13 "BitShadowsModel" "shadow" "[I", .fieldLink RX8 16 "BitShadowsModel" "from" "[I"] ++ wsX80)
def wsX8_become : List Cond := .code yX8_become cX8_become 5 (some .int) :: ([.fieldLink RX8 7 "BitShadowsModel" "value" "[I", .fieldLink RX8 13 "BitShadowsModel" "shadow" "[I", .fieldLink RX8 16 "BitShadowsModel" "from" "[I", .methodLink RX8 115 yX8_remember, .instanceMethod yX8_remember, .selects RX8 yX8_remember yX8_remember, .initialized RX8, .code yX8_remember cX8_remember 3 none, .fieldLink RX8 108 "BitShadowsModel" "undos" "I", .fieldLink RX8 53 "BitShadowsModel" "pastOf" "[I", .fieldLink RX8 56 "BitShadowsModel" "pastValue" "[I", .fieldLink RX8 59 "BitShadowsModel" "pastShadow" "[I", .fieldLink RX8 62 "BitShadowsModel" "pastFrom" "[I"] ++ wsX80)
def wsX8_set_r1 : List Cond := [Cond.constant RX8 123 (-1000000001), Cond.constant RX8 127 (-1000000002), Cond.fieldLink RX8 7 "BitShadowsModel" "value" "[I", Cond.methodLink RX8 119 yX8_isRegister, Cond.static yX8_isRegister, Cond.initialized RX8, Cond.code yX8_isRegister cX8_isRegister 1 (some .boolean), Cond.constantLong RX8 75 (7), Cond.methodLink RX8 77 yX8_in, Cond.static yX8_in, Cond.code yX8_in cX8_in 6 (some .boolean), Cond.methodLink RX8 124 yX8_isByte, Cond.static yX8_isByte, Cond.code yX8_isByte cX8_isByte 1 (some .boolean), Cond.constantLong RX8 87 (255), Cond.methodLink RX8 128 yX8_become, Cond.instanceMethod yX8_become, Cond.selects RX8 yX8_become yX8_become, Cond.code yX8_become cX8_become 5 (some .int), Cond.fieldLink RX8 13 "BitShadowsModel" "shadow" "[I", Cond.fieldLink RX8 16 "BitShadowsModel" "from" "[I", Cond.methodLink RX8 115 yX8_remember, Cond.instanceMethod yX8_remember, Cond.selects RX8 yX8_remember yX8_remember]
def wsX8_set_r2 : List Cond := [Cond.code yX8_remember cX8_remember 3 none, Cond.fieldLink RX8 108 "BitShadowsModel" "undos" "I", Cond.fieldLink RX8 53 "BitShadowsModel" "pastOf" "[I", Cond.fieldLink RX8 56 "BitShadowsModel" "pastValue" "[I", Cond.fieldLink RX8 59 "BitShadowsModel" "pastShadow" "[I", Cond.fieldLink RX8 62 "BitShadowsModel" "pastFrom" "[I", Cond.methodLink RX8 132 yX8_tick, Cond.instanceMethod yX8_tick, Cond.selects RX8 yX8_tick yX8_tick, Cond.code yX8_tick cX8_tick 4 (some .int), Cond.fieldLink RX8 44 "BitShadowsModel" "ringIs" "[I", Cond.fieldLink RX8 47 "BitShadowsModel" "ringTick" "[I", Cond.fieldLink RX8 50 "BitShadowsModel" "ringTold" "[I", Cond.fieldLink RX8 89 "BitShadowsModel" "ticks" "I", Cond.fieldLink RX8 105 "BitShadowsModel" "ringed" "I", Cond.constantLong RX8 81 (31), Cond.fieldLink RX8 101 "BitShadowsModel" "mark" "J"]
def wsX8_set : List Cond := .code yX8_set cX8_set 5 (some .int) :: ((wsX8_set_r1 ++ wsX8_set_r2) ++ wsX80)
def wsX8_forget_r1 : List Cond := [Cond.constant RX8 123 (-1000000001), Cond.constantLong RX8 87 (255), Cond.constant RX8 127 (-1000000002), Cond.fieldLink RX8 7 "BitShadowsModel" "value" "[I", Cond.fieldLink RX8 13 "BitShadowsModel" "shadow" "[I", Cond.fieldLink RX8 16 "BitShadowsModel" "from" "[I", Cond.methodLink RX8 119 yX8_isRegister, Cond.static yX8_isRegister, Cond.initialized RX8, Cond.code yX8_isRegister cX8_isRegister 1 (some .boolean), Cond.constantLong RX8 75 (7), Cond.methodLink RX8 77 yX8_in, Cond.static yX8_in, Cond.code yX8_in cX8_in 6 (some .boolean), Cond.methodLink RX8 136 yX8_isGround, Cond.instanceMethod yX8_isGround, Cond.selects RX8 yX8_isGround yX8_isGround, Cond.code yX8_isGround cX8_isGround 2 (some .boolean), Cond.fieldLink RX8 83 "BitShadowsModel" "grounds" "I", Cond.methodLink RX8 128 yX8_become, Cond.instanceMethod yX8_become, Cond.selects RX8 yX8_become yX8_become, Cond.code yX8_become cX8_become 5 (some .int), Cond.methodLink RX8 115 yX8_remember]
def wsX8_forget_r2 : List Cond := [Cond.instanceMethod yX8_remember, Cond.selects RX8 yX8_remember yX8_remember, Cond.code yX8_remember cX8_remember 3 none, Cond.fieldLink RX8 108 "BitShadowsModel" "undos" "I", Cond.fieldLink RX8 53 "BitShadowsModel" "pastOf" "[I", Cond.fieldLink RX8 56 "BitShadowsModel" "pastValue" "[I", Cond.fieldLink RX8 59 "BitShadowsModel" "pastShadow" "[I", Cond.fieldLink RX8 62 "BitShadowsModel" "pastFrom" "[I", Cond.methodLink RX8 132 yX8_tick, Cond.instanceMethod yX8_tick, Cond.selects RX8 yX8_tick yX8_tick, Cond.code yX8_tick cX8_tick 4 (some .int), Cond.fieldLink RX8 44 "BitShadowsModel" "ringIs" "[I", Cond.fieldLink RX8 47 "BitShadowsModel" "ringTick" "[I", Cond.fieldLink RX8 50 "BitShadowsModel" "ringTold" "[I", Cond.fieldLink RX8 89 "BitShadowsModel" "ticks" "I", Cond.fieldLink RX8 105 "BitShadowsModel" "ringed" "I", Cond.constantLong RX8 81 (31), Cond.fieldLink RX8 101 "BitShadowsModel" "mark" "J"]
def wsX8_forget : List Cond := .code yX8_forget cX8_forget 4 (some .int) :: ((wsX8_forget_r1 ++ wsX8_forget_r2) ++ wsX80)
def wsX8_copy_r1 : List Cond := [Cond.constant RX8 123 (-1000000001), Cond.fieldLink RX8 7 "BitShadowsModel" "value" "[I", Cond.fieldLink RX8 13 "BitShadowsModel" "shadow" "[I", Cond.fieldLink RX8 16 "BitShadowsModel" "from" "[I", Cond.methodLink RX8 119 yX8_isRegister, Cond.static yX8_isRegister, Cond.initialized RX8, Cond.code yX8_isRegister cX8_isRegister 1 (some .boolean), Cond.constantLong RX8 75 (7), Cond.methodLink RX8 77 yX8_in, Cond.static yX8_in, Cond.code yX8_in cX8_in 6 (some .boolean), Cond.methodLink RX8 128 yX8_become, Cond.instanceMethod yX8_become, Cond.selects RX8 yX8_become yX8_become, Cond.code yX8_become cX8_become 5 (some .int), Cond.methodLink RX8 115 yX8_remember, Cond.instanceMethod yX8_remember, Cond.selects RX8 yX8_remember yX8_remember, Cond.code yX8_remember cX8_remember 3 none, Cond.fieldLink RX8 108 "BitShadowsModel" "undos" "I", Cond.fieldLink RX8 53 "BitShadowsModel" "pastOf" "[I", Cond.fieldLink RX8 56 "BitShadowsModel" "pastValue" "[I", Cond.fieldLink RX8 59 "BitShadowsModel" "pastShadow" "[I"]
def wsX8_copy_r2 : List Cond := [Cond.fieldLink RX8 62 "BitShadowsModel" "pastFrom" "[I", Cond.methodLink RX8 132 yX8_tick, Cond.instanceMethod yX8_tick, Cond.selects RX8 yX8_tick yX8_tick, Cond.code yX8_tick cX8_tick 4 (some .int), Cond.fieldLink RX8 44 "BitShadowsModel" "ringIs" "[I", Cond.fieldLink RX8 47 "BitShadowsModel" "ringTick" "[I", Cond.fieldLink RX8 50 "BitShadowsModel" "ringTold" "[I", Cond.fieldLink RX8 89 "BitShadowsModel" "ticks" "I", Cond.fieldLink RX8 105 "BitShadowsModel" "ringed" "I", Cond.constantLong RX8 81 (31), Cond.fieldLink RX8 101 "BitShadowsModel" "mark" "J"]
def wsX8_copy : List Cond := .code yX8_copy cX8_copy 3 (some .int) :: ((wsX8_copy_r1 ++ wsX8_copy_r2) ++ wsX80)
def wsX8_read : List Cond := .code yX8_read cX8_read 2 none :: ([.fieldLink RX8 19 "BitShadowsModel" "isDead" "[Z", .fieldLink RX8 23 "BitShadowsModel" "groundOver" "[I", .methodLink RX8 139 yX8_cries, .instanceMethod yX8_cries, .selects RX8 yX8_cries yX8_cries, .initialized RX8, .code yX8_cries cX8_cries 3 none, .fieldLink RX8 95 "BitShadowsModel" "cried" "I", .fieldLink RX8 35 "BitShadowsModel" "cryIs" "[I", .fieldLink RX8 38 "BitShadowsModel" "cryTick" "[I", .fieldLink RX8 89 "BitShadowsModel" "ticks" "I", .fieldLink RX8 41 "BitShadowsModel" "cryOf" "[I"] ++ wsX80)
def wsX8_loadNow_r1 : List Cond := [Cond.fieldLink RX8 7 "BitShadowsModel" "value" "[I", Cond.fieldLink RX8 13 "BitShadowsModel" "shadow" "[I", Cond.fieldLink RX8 16 "BitShadowsModel" "from" "[I", Cond.methodLink RX8 143 yX8_read, Cond.instanceMethod yX8_read, Cond.selects RX8 yX8_read yX8_read, Cond.initialized RX8, Cond.code yX8_read cX8_read 2 none, Cond.fieldLink RX8 19 "BitShadowsModel" "isDead" "[Z", Cond.fieldLink RX8 23 "BitShadowsModel" "groundOver" "[I", Cond.methodLink RX8 139 yX8_cries, Cond.instanceMethod yX8_cries, Cond.selects RX8 yX8_cries yX8_cries, Cond.code yX8_cries cX8_cries 3 none, Cond.fieldLink RX8 95 "BitShadowsModel" "cried" "I", Cond.fieldLink RX8 35 "BitShadowsModel" "cryIs" "[I", Cond.fieldLink RX8 38 "BitShadowsModel" "cryTick" "[I", Cond.fieldLink RX8 89 "BitShadowsModel" "ticks" "I", Cond.fieldLink RX8 41 "BitShadowsModel" "cryOf" "[I", Cond.methodLink RX8 128 yX8_become, Cond.instanceMethod yX8_become, Cond.selects RX8 yX8_become yX8_become, Cond.code yX8_become cX8_become 5 (some .int), Cond.methodLink RX8 115 yX8_remember]
def wsX8_loadNow_r2 : List Cond := [Cond.instanceMethod yX8_remember, Cond.selects RX8 yX8_remember yX8_remember, Cond.code yX8_remember cX8_remember 3 none, Cond.fieldLink RX8 108 "BitShadowsModel" "undos" "I", Cond.fieldLink RX8 53 "BitShadowsModel" "pastOf" "[I", Cond.fieldLink RX8 56 "BitShadowsModel" "pastValue" "[I", Cond.fieldLink RX8 59 "BitShadowsModel" "pastShadow" "[I", Cond.fieldLink RX8 62 "BitShadowsModel" "pastFrom" "[I"]
def wsX8_loadNow : List Cond := .code yX8_loadNow cX8_loadNow 4 (some .int) :: ((wsX8_loadNow_r1 ++ wsX8_loadNow_r2) ++ wsX80)
def wsX8_load_r1 : List Cond := [Cond.constant RX8 123 (-1000000001), Cond.methodLink RX8 119 yX8_isRegister, Cond.static yX8_isRegister, Cond.initialized RX8, Cond.code yX8_isRegister cX8_isRegister 1 (some .boolean), Cond.constantLong RX8 75 (7), Cond.methodLink RX8 77 yX8_in, Cond.static yX8_in, Cond.code yX8_in cX8_in 6 (some .boolean), Cond.methodLink RX8 146 yX8_isOctet, Cond.static yX8_isOctet, Cond.code yX8_isOctet cX8_isOctet 1 (some .boolean), Cond.constantLong RX8 81 (31), Cond.methodLink RX8 149 yX8_loadNow, Cond.instanceMethod yX8_loadNow, Cond.selects RX8 yX8_loadNow yX8_loadNow, Cond.code yX8_loadNow cX8_loadNow 4 (some .int), Cond.fieldLink RX8 7 "BitShadowsModel" "value" "[I", Cond.fieldLink RX8 13 "BitShadowsModel" "shadow" "[I", Cond.fieldLink RX8 16 "BitShadowsModel" "from" "[I", Cond.methodLink RX8 143 yX8_read, Cond.instanceMethod yX8_read, Cond.selects RX8 yX8_read yX8_read, Cond.code yX8_read cX8_read 2 none]
def wsX8_load_r2 : List Cond := [Cond.fieldLink RX8 19 "BitShadowsModel" "isDead" "[Z", Cond.fieldLink RX8 23 "BitShadowsModel" "groundOver" "[I", Cond.methodLink RX8 139 yX8_cries, Cond.instanceMethod yX8_cries, Cond.selects RX8 yX8_cries yX8_cries, Cond.code yX8_cries cX8_cries 3 none, Cond.fieldLink RX8 95 "BitShadowsModel" "cried" "I", Cond.fieldLink RX8 35 "BitShadowsModel" "cryIs" "[I", Cond.fieldLink RX8 38 "BitShadowsModel" "cryTick" "[I", Cond.fieldLink RX8 89 "BitShadowsModel" "ticks" "I", Cond.fieldLink RX8 41 "BitShadowsModel" "cryOf" "[I", Cond.methodLink RX8 128 yX8_become, Cond.instanceMethod yX8_become, Cond.selects RX8 yX8_become yX8_become, Cond.code yX8_become cX8_become 5 (some .int), Cond.methodLink RX8 115 yX8_remember, Cond.instanceMethod yX8_remember, Cond.selects RX8 yX8_remember yX8_remember, Cond.code yX8_remember cX8_remember 3 none, Cond.fieldLink RX8 108 "BitShadowsModel" "undos" "I", Cond.fieldLink RX8 53 "BitShadowsModel" "pastOf" "[I", Cond.fieldLink RX8 56 "BitShadowsModel" "pastValue" "[I", Cond.fieldLink RX8 59 "BitShadowsModel" "pastShadow" "[I", Cond.fieldLink RX8 62 "BitShadowsModel" "pastFrom" "[I"]
def wsX8_load_r3 : List Cond := [Cond.methodLink RX8 132 yX8_tick, Cond.instanceMethod yX8_tick, Cond.selects RX8 yX8_tick yX8_tick, Cond.code yX8_tick cX8_tick 4 (some .int), Cond.fieldLink RX8 44 "BitShadowsModel" "ringIs" "[I", Cond.fieldLink RX8 47 "BitShadowsModel" "ringTick" "[I", Cond.fieldLink RX8 50 "BitShadowsModel" "ringTold" "[I", Cond.fieldLink RX8 105 "BitShadowsModel" "ringed" "I", Cond.fieldLink RX8 101 "BitShadowsModel" "mark" "J"]
def wsX8_load : List Cond := .code yX8_load cX8_load 3 (some .int) :: ((wsX8_load_r1 ++ (wsX8_load_r2 ++ wsX8_load_r3)) ++ wsX80)
def wsX8_part_r1 : List Cond := [Cond.constant RX8 123 (-1000000001), Cond.constantLong RX8 152 (8), Cond.constant RX8 127 (-1000000002), Cond.fieldLink RX8 7 "BitShadowsModel" "value" "[I", Cond.fieldLink RX8 13 "BitShadowsModel" "shadow" "[I", Cond.fieldLink RX8 16 "BitShadowsModel" "from" "[I", Cond.methodLink RX8 119 yX8_isRegister, Cond.static yX8_isRegister, Cond.initialized RX8, Cond.code yX8_isRegister cX8_isRegister 1 (some .boolean), Cond.constantLong RX8 75 (7), Cond.methodLink RX8 77 yX8_in, Cond.static yX8_in, Cond.code yX8_in cX8_in 6 (some .boolean), Cond.methodLink RX8 146 yX8_isOctet, Cond.static yX8_isOctet, Cond.code yX8_isOctet cX8_isOctet 1 (some .boolean), Cond.constantLong RX8 81 (31), Cond.methodLink RX8 143 yX8_read, Cond.instanceMethod yX8_read, Cond.selects RX8 yX8_read yX8_read, Cond.code yX8_read cX8_read 2 none, Cond.fieldLink RX8 19 "BitShadowsModel" "isDead" "[Z", Cond.fieldLink RX8 23 "BitShadowsModel" "groundOver" "[I"]
def wsX8_part_r2 : List Cond := [Cond.methodLink RX8 139 yX8_cries, Cond.instanceMethod yX8_cries, Cond.selects RX8 yX8_cries yX8_cries, Cond.code yX8_cries cX8_cries 3 none, Cond.fieldLink RX8 95 "BitShadowsModel" "cried" "I", Cond.fieldLink RX8 35 "BitShadowsModel" "cryIs" "[I", Cond.fieldLink RX8 38 "BitShadowsModel" "cryTick" "[I", Cond.fieldLink RX8 89 "BitShadowsModel" "ticks" "I", Cond.fieldLink RX8 41 "BitShadowsModel" "cryOf" "[I", Cond.methodLink RX8 128 yX8_become, Cond.instanceMethod yX8_become, Cond.selects RX8 yX8_become yX8_become, Cond.code yX8_become cX8_become 5 (some .int), Cond.methodLink RX8 115 yX8_remember, Cond.instanceMethod yX8_remember, Cond.selects RX8 yX8_remember yX8_remember, Cond.code yX8_remember cX8_remember 3 none, Cond.fieldLink RX8 108 "BitShadowsModel" "undos" "I", Cond.fieldLink RX8 53 "BitShadowsModel" "pastOf" "[I", Cond.fieldLink RX8 56 "BitShadowsModel" "pastValue" "[I", Cond.fieldLink RX8 59 "BitShadowsModel" "pastShadow" "[I", Cond.fieldLink RX8 62 "BitShadowsModel" "pastFrom" "[I", Cond.methodLink RX8 132 yX8_tick, Cond.instanceMethod yX8_tick]
def wsX8_part_r3 : List Cond := [Cond.selects RX8 yX8_tick yX8_tick, Cond.code yX8_tick cX8_tick 4 (some .int), Cond.fieldLink RX8 44 "BitShadowsModel" "ringIs" "[I", Cond.fieldLink RX8 47 "BitShadowsModel" "ringTick" "[I", Cond.fieldLink RX8 50 "BitShadowsModel" "ringTold" "[I", Cond.fieldLink RX8 105 "BitShadowsModel" "ringed" "I", Cond.fieldLink RX8 101 "BitShadowsModel" "mark" "J"]
def wsX8_part : List Cond := .code yX8_part cX8_part 7 (some .int) :: ((wsX8_part_r1 ++ (wsX8_part_r2 ++ wsX8_part_r3)) ++ wsX80)
def wsX8_storeNow : List Cond := .code yX8_storeNow cX8_storeNow 3 (some .int) :: ([.fieldLink RX8 19 "BitShadowsModel" "isDead" "[Z", .fieldLink RX8 7 "BitShadowsModel" "value" "[I", .fieldLink RX8 13 "BitShadowsModel" "shadow" "[I", .fieldLink RX8 16 "BitShadowsModel" "from" "[I", .methodLink RX8 128 yX8_become, .instanceMethod yX8_become, .selects RX8 yX8_become yX8_become, .initialized RX8, .code yX8_become cX8_become 5 (some .int), .methodLink RX8 115 yX8_remember, .instanceMethod yX8_remember, .selects RX8 yX8_remember yX8_remember, .code yX8_remember cX8_remember 3 none, .fieldLink RX8 108 "BitShadowsModel" "undos" "I", .fieldLink RX8 53 "BitShadowsModel" "pastOf" "[I", .fieldLink RX8 56 "BitShadowsModel" "pastValue" "[I", .fieldLink RX8 59 "BitShadowsModel" "pastShadow" "[I", .fieldLink RX8 62 "BitShadowsModel" "pastFrom" "[I"] ++ wsX80)
def wsX8_store_r1 : List Cond := [Cond.constant RX8 123 (-1000000001), Cond.methodLink RX8 119 yX8_isRegister, Cond.static yX8_isRegister, Cond.initialized RX8, Cond.code yX8_isRegister cX8_isRegister 1 (some .boolean), Cond.constantLong RX8 75 (7), Cond.methodLink RX8 77 yX8_in, Cond.static yX8_in, Cond.code yX8_in cX8_in 6 (some .boolean), Cond.methodLink RX8 146 yX8_isOctet, Cond.static yX8_isOctet, Cond.code yX8_isOctet cX8_isOctet 1 (some .boolean), Cond.constantLong RX8 81 (31), Cond.methodLink RX8 154 yX8_storeNow, Cond.instanceMethod yX8_storeNow, Cond.selects RX8 yX8_storeNow yX8_storeNow, Cond.code yX8_storeNow cX8_storeNow 3 (some .int), Cond.fieldLink RX8 19 "BitShadowsModel" "isDead" "[Z", Cond.fieldLink RX8 7 "BitShadowsModel" "value" "[I", Cond.fieldLink RX8 13 "BitShadowsModel" "shadow" "[I", Cond.fieldLink RX8 16 "BitShadowsModel" "from" "[I", Cond.methodLink RX8 128 yX8_become, Cond.instanceMethod yX8_become, Cond.selects RX8 yX8_become yX8_become]
def wsX8_store_r2 : List Cond := [Cond.code yX8_become cX8_become 5 (some .int), Cond.methodLink RX8 115 yX8_remember, Cond.instanceMethod yX8_remember, Cond.selects RX8 yX8_remember yX8_remember, Cond.code yX8_remember cX8_remember 3 none, Cond.fieldLink RX8 108 "BitShadowsModel" "undos" "I", Cond.fieldLink RX8 53 "BitShadowsModel" "pastOf" "[I", Cond.fieldLink RX8 56 "BitShadowsModel" "pastValue" "[I", Cond.fieldLink RX8 59 "BitShadowsModel" "pastShadow" "[I", Cond.fieldLink RX8 62 "BitShadowsModel" "pastFrom" "[I", Cond.methodLink RX8 132 yX8_tick, Cond.instanceMethod yX8_tick, Cond.selects RX8 yX8_tick yX8_tick, Cond.code yX8_tick cX8_tick 4 (some .int), Cond.fieldLink RX8 44 "BitShadowsModel" "ringIs" "[I", Cond.fieldLink RX8 47 "BitShadowsModel" "ringTick" "[I", Cond.fieldLink RX8 50 "BitShadowsModel" "ringTold" "[I", Cond.fieldLink RX8 89 "BitShadowsModel" "ticks" "I", Cond.fieldLink RX8 105 "BitShadowsModel" "ringed" "I", Cond.fieldLink RX8 101 "BitShadowsModel" "mark" "J"]
def wsX8_store : List Cond := .code yX8_store cX8_store 3 (some .int) :: ((wsX8_store_r1 ++ wsX8_store_r2) ++ wsX80)
def wsX8_placeBy : List Cond := .code yX8_placeBy cX8_placeBy 2 (some .int) :: ([.fieldLink RX8 13 "BitShadowsModel" "shadow" "[I", .fieldLink RX8 16 "BitShadowsModel" "from" "[I", .fieldLink RX8 7 "BitShadowsModel" "value" "[I", .methodLink RX8 139 yX8_cries, .instanceMethod yX8_cries, .selects RX8 yX8_cries yX8_cries, .initialized RX8, .code yX8_cries cX8_cries 3 none, .fieldLink RX8 95 "BitShadowsModel" "cried" "I", .fieldLink RX8 35 "BitShadowsModel" "cryIs" "[I", .fieldLink RX8 38 "BitShadowsModel" "cryTick" "[I", .fieldLink RX8 89 "BitShadowsModel" "ticks" "I", .fieldLink RX8 41 "BitShadowsModel" "cryOf" "[I"] ++ wsX80)
def wsX8_loadAt_r1 : List Cond := [Cond.constant RX8 123 (-1000000001), Cond.methodLink RX8 119 yX8_isRegister, Cond.static yX8_isRegister, Cond.initialized RX8, Cond.code yX8_isRegister cX8_isRegister 1 (some .boolean), Cond.constantLong RX8 75 (7), Cond.methodLink RX8 77 yX8_in, Cond.static yX8_in, Cond.code yX8_in cX8_in 6 (some .boolean), Cond.methodLink RX8 157 yX8_placeBy, Cond.instanceMethod yX8_placeBy, Cond.selects RX8 yX8_placeBy yX8_placeBy, Cond.code yX8_placeBy cX8_placeBy 2 (some .int), Cond.fieldLink RX8 13 "BitShadowsModel" "shadow" "[I", Cond.fieldLink RX8 16 "BitShadowsModel" "from" "[I", Cond.fieldLink RX8 7 "BitShadowsModel" "value" "[I", Cond.methodLink RX8 139 yX8_cries, Cond.instanceMethod yX8_cries, Cond.selects RX8 yX8_cries yX8_cries, Cond.code yX8_cries cX8_cries 3 none, Cond.fieldLink RX8 95 "BitShadowsModel" "cried" "I", Cond.fieldLink RX8 35 "BitShadowsModel" "cryIs" "[I", Cond.fieldLink RX8 38 "BitShadowsModel" "cryTick" "[I", Cond.fieldLink RX8 89 "BitShadowsModel" "ticks" "I"]
def wsX8_loadAt_r2 : List Cond := [Cond.fieldLink RX8 41 "BitShadowsModel" "cryOf" "[I", Cond.methodLink RX8 149 yX8_loadNow, Cond.instanceMethod yX8_loadNow, Cond.selects RX8 yX8_loadNow yX8_loadNow, Cond.code yX8_loadNow cX8_loadNow 4 (some .int), Cond.methodLink RX8 143 yX8_read, Cond.instanceMethod yX8_read, Cond.selects RX8 yX8_read yX8_read, Cond.code yX8_read cX8_read 2 none, Cond.fieldLink RX8 19 "BitShadowsModel" "isDead" "[Z", Cond.fieldLink RX8 23 "BitShadowsModel" "groundOver" "[I", Cond.methodLink RX8 128 yX8_become, Cond.instanceMethod yX8_become, Cond.selects RX8 yX8_become yX8_become, Cond.code yX8_become cX8_become 5 (some .int), Cond.methodLink RX8 115 yX8_remember, Cond.instanceMethod yX8_remember, Cond.selects RX8 yX8_remember yX8_remember, Cond.code yX8_remember cX8_remember 3 none, Cond.fieldLink RX8 108 "BitShadowsModel" "undos" "I", Cond.fieldLink RX8 53 "BitShadowsModel" "pastOf" "[I", Cond.fieldLink RX8 56 "BitShadowsModel" "pastValue" "[I", Cond.fieldLink RX8 59 "BitShadowsModel" "pastShadow" "[I", Cond.fieldLink RX8 62 "BitShadowsModel" "pastFrom" "[I"]
def wsX8_loadAt_r3 : List Cond := [Cond.methodLink RX8 132 yX8_tick, Cond.instanceMethod yX8_tick, Cond.selects RX8 yX8_tick yX8_tick, Cond.code yX8_tick cX8_tick 4 (some .int), Cond.fieldLink RX8 44 "BitShadowsModel" "ringIs" "[I", Cond.fieldLink RX8 47 "BitShadowsModel" "ringTick" "[I", Cond.fieldLink RX8 50 "BitShadowsModel" "ringTold" "[I", Cond.fieldLink RX8 105 "BitShadowsModel" "ringed" "I", Cond.constantLong RX8 81 (31), Cond.fieldLink RX8 101 "BitShadowsModel" "mark" "J"]
def wsX8_loadAt : List Cond := .code yX8_loadAt cX8_loadAt 3 (some .int) :: ((wsX8_loadAt_r1 ++ (wsX8_loadAt_r2 ++ wsX8_loadAt_r3)) ++ wsX80)
def wsX8_storeAt_r1 : List Cond := [Cond.constant RX8 123 (-1000000001), Cond.methodLink RX8 119 yX8_isRegister, Cond.static yX8_isRegister, Cond.initialized RX8, Cond.code yX8_isRegister cX8_isRegister 1 (some .boolean), Cond.constantLong RX8 75 (7), Cond.methodLink RX8 77 yX8_in, Cond.static yX8_in, Cond.code yX8_in cX8_in 6 (some .boolean), Cond.methodLink RX8 157 yX8_placeBy, Cond.instanceMethod yX8_placeBy, Cond.selects RX8 yX8_placeBy yX8_placeBy, Cond.code yX8_placeBy cX8_placeBy 2 (some .int), Cond.fieldLink RX8 13 "BitShadowsModel" "shadow" "[I", Cond.fieldLink RX8 16 "BitShadowsModel" "from" "[I", Cond.fieldLink RX8 7 "BitShadowsModel" "value" "[I", Cond.methodLink RX8 139 yX8_cries, Cond.instanceMethod yX8_cries, Cond.selects RX8 yX8_cries yX8_cries, Cond.code yX8_cries cX8_cries 3 none, Cond.fieldLink RX8 95 "BitShadowsModel" "cried" "I", Cond.fieldLink RX8 35 "BitShadowsModel" "cryIs" "[I", Cond.fieldLink RX8 38 "BitShadowsModel" "cryTick" "[I", Cond.fieldLink RX8 89 "BitShadowsModel" "ticks" "I"]
def wsX8_storeAt_r2 : List Cond := [Cond.fieldLink RX8 41 "BitShadowsModel" "cryOf" "[I", Cond.methodLink RX8 154 yX8_storeNow, Cond.instanceMethod yX8_storeNow, Cond.selects RX8 yX8_storeNow yX8_storeNow, Cond.code yX8_storeNow cX8_storeNow 3 (some .int), Cond.fieldLink RX8 19 "BitShadowsModel" "isDead" "[Z", Cond.methodLink RX8 128 yX8_become, Cond.instanceMethod yX8_become, Cond.selects RX8 yX8_become yX8_become, Cond.code yX8_become cX8_become 5 (some .int), Cond.methodLink RX8 115 yX8_remember, Cond.instanceMethod yX8_remember, Cond.selects RX8 yX8_remember yX8_remember, Cond.code yX8_remember cX8_remember 3 none, Cond.fieldLink RX8 108 "BitShadowsModel" "undos" "I", Cond.fieldLink RX8 53 "BitShadowsModel" "pastOf" "[I", Cond.fieldLink RX8 56 "BitShadowsModel" "pastValue" "[I", Cond.fieldLink RX8 59 "BitShadowsModel" "pastShadow" "[I", Cond.fieldLink RX8 62 "BitShadowsModel" "pastFrom" "[I", Cond.methodLink RX8 132 yX8_tick, Cond.instanceMethod yX8_tick, Cond.selects RX8 yX8_tick yX8_tick, Cond.code yX8_tick cX8_tick 4 (some .int), Cond.fieldLink RX8 44 "BitShadowsModel" "ringIs" "[I"]
def wsX8_storeAt_r3 : List Cond := [Cond.fieldLink RX8 47 "BitShadowsModel" "ringTick" "[I", Cond.fieldLink RX8 50 "BitShadowsModel" "ringTold" "[I", Cond.fieldLink RX8 105 "BitShadowsModel" "ringed" "I", Cond.constantLong RX8 81 (31), Cond.fieldLink RX8 101 "BitShadowsModel" "mark" "J"]
def wsX8_storeAt : List Cond := .code yX8_storeAt cX8_storeAt 3 (some .int) :: ((wsX8_storeAt_r1 ++ (wsX8_storeAt_r2 ++ wsX8_storeAt_r3)) ++ wsX80)
def wsX8_valueBy : List Cond := .code yX8_valueBy cX8_valueBy 3 (some .int) :: ([])
def wsX8_shadowBy : List Cond := .code yX8_shadowBy cX8_shadowBy 10 (some .int) :: ([])
def wsX8_exactBy : List Cond := .code yX8_exactBy cX8_exactBy 10 (some .int) :: ([.methodLink RX8 161 yX8_valueBy, .static yX8_valueBy, .initialized RX8, .code yX8_valueBy cX8_valueBy 3 (some .int)])
def wsX8_ruleNow_r1 : List Cond := [Cond.fieldLink RX8 7 "BitShadowsModel" "value" "[I", Cond.fieldLink RX8 13 "BitShadowsModel" "shadow" "[I", Cond.fieldLink RX8 98 "BitShadowsModel" "slackAll" "I", Cond.fieldLink RX8 16 "BitShadowsModel" "from" "[I", Cond.methodLink RX8 165 yX8_shadowBy, Cond.static yX8_shadowBy, Cond.initialized RX8, Cond.code yX8_shadowBy cX8_shadowBy 10 (some .int), Cond.methodLink RX8 161 yX8_valueBy, Cond.static yX8_valueBy, Cond.code yX8_valueBy cX8_valueBy 3 (some .int), Cond.methodLink RX8 169 yX8_exactBy, Cond.static yX8_exactBy, Cond.code yX8_exactBy cX8_exactBy 10 (some .int), Cond.methodLink RX8 172 yX8_bits, Cond.static yX8_bits, Cond.code yX8_bits cX8_bits 3 (some .int), Cond.methodLink RX8 128 yX8_become, Cond.instanceMethod yX8_become, Cond.selects RX8 yX8_become yX8_become, Cond.code yX8_become cX8_become 5 (some .int), Cond.methodLink RX8 115 yX8_remember, Cond.instanceMethod yX8_remember, Cond.selects RX8 yX8_remember yX8_remember]
def wsX8_ruleNow_r2 : List Cond := [Cond.code yX8_remember cX8_remember 3 none, Cond.fieldLink RX8 108 "BitShadowsModel" "undos" "I", Cond.fieldLink RX8 53 "BitShadowsModel" "pastOf" "[I", Cond.fieldLink RX8 56 "BitShadowsModel" "pastValue" "[I", Cond.fieldLink RX8 59 "BitShadowsModel" "pastShadow" "[I", Cond.fieldLink RX8 62 "BitShadowsModel" "pastFrom" "[I"]
def wsX8_ruleNow : List Cond := .code yX8_ruleNow cX8_ruleNow 8 (some .int) :: ((wsX8_ruleNow_r1 ++ wsX8_ruleNow_r2) ++ wsX80)
def wsX8_rule_r1 : List Cond := [Cond.constant RX8 123 (-1000000001), Cond.constantLong RX8 175 (6), Cond.constant RX8 127 (-1000000002), Cond.methodLink RX8 119 yX8_isRegister, Cond.static yX8_isRegister, Cond.initialized RX8, Cond.code yX8_isRegister cX8_isRegister 1 (some .boolean), Cond.constantLong RX8 75 (7), Cond.methodLink RX8 77 yX8_in, Cond.static yX8_in, Cond.code yX8_in cX8_in 6 (some .boolean), Cond.methodLink RX8 177 yX8_ruleNow, Cond.instanceMethod yX8_ruleNow, Cond.selects RX8 yX8_ruleNow yX8_ruleNow, Cond.code yX8_ruleNow cX8_ruleNow 8 (some .int), Cond.fieldLink RX8 7 "BitShadowsModel" "value" "[I", Cond.fieldLink RX8 13 "BitShadowsModel" "shadow" "[I", Cond.fieldLink RX8 98 "BitShadowsModel" "slackAll" "I", Cond.fieldLink RX8 16 "BitShadowsModel" "from" "[I", Cond.methodLink RX8 165 yX8_shadowBy, Cond.static yX8_shadowBy, Cond.code yX8_shadowBy cX8_shadowBy 10 (some .int), Cond.methodLink RX8 161 yX8_valueBy, Cond.static yX8_valueBy]
def wsX8_rule_r2 : List Cond := [Cond.code yX8_valueBy cX8_valueBy 3 (some .int), Cond.methodLink RX8 169 yX8_exactBy, Cond.static yX8_exactBy, Cond.code yX8_exactBy cX8_exactBy 10 (some .int), Cond.methodLink RX8 172 yX8_bits, Cond.static yX8_bits, Cond.code yX8_bits cX8_bits 3 (some .int), Cond.methodLink RX8 128 yX8_become, Cond.instanceMethod yX8_become, Cond.selects RX8 yX8_become yX8_become, Cond.code yX8_become cX8_become 5 (some .int), Cond.methodLink RX8 115 yX8_remember, Cond.instanceMethod yX8_remember, Cond.selects RX8 yX8_remember yX8_remember, Cond.code yX8_remember cX8_remember 3 none, Cond.fieldLink RX8 108 "BitShadowsModel" "undos" "I", Cond.fieldLink RX8 53 "BitShadowsModel" "pastOf" "[I", Cond.fieldLink RX8 56 "BitShadowsModel" "pastValue" "[I", Cond.fieldLink RX8 59 "BitShadowsModel" "pastShadow" "[I", Cond.fieldLink RX8 62 "BitShadowsModel" "pastFrom" "[I", Cond.methodLink RX8 132 yX8_tick, Cond.instanceMethod yX8_tick, Cond.selects RX8 yX8_tick yX8_tick, Cond.code yX8_tick cX8_tick 4 (some .int)]
def wsX8_rule_r3 : List Cond := [Cond.fieldLink RX8 44 "BitShadowsModel" "ringIs" "[I", Cond.fieldLink RX8 47 "BitShadowsModel" "ringTick" "[I", Cond.fieldLink RX8 50 "BitShadowsModel" "ringTold" "[I", Cond.fieldLink RX8 89 "BitShadowsModel" "ticks" "I", Cond.fieldLink RX8 105 "BitShadowsModel" "ringed" "I", Cond.constantLong RX8 81 (31), Cond.fieldLink RX8 101 "BitShadowsModel" "mark" "J"]
def wsX8_rule : List Cond := .code yX8_rule cX8_rule 5 (some .int) :: ((wsX8_rule_r1 ++ (wsX8_rule_r2 ++ wsX8_rule_r3)) ++ wsX80)
def wsX8_isDecided : List Cond := .code yX8_isDecided cX8_isDecided 2 (some .boolean) :: ([.fieldLink RX8 13 "BitShadowsModel" "shadow" "[I", .fieldLink RX8 7 "BitShadowsModel" "value" "[I"] ++ wsX80)
def wsX8_decideNow : List Cond := .code yX8_decideNow cX8_decideNow 2 (some .int) :: ([.fieldLink RX8 16 "BitShadowsModel" "from" "[I", .fieldLink RX8 7 "BitShadowsModel" "value" "[I", .methodLink RX8 181 yX8_isDecided, .instanceMethod yX8_isDecided, .selects RX8 yX8_isDecided yX8_isDecided, .initialized RX8, .code yX8_isDecided cX8_isDecided 2 (some .boolean), .fieldLink RX8 13 "BitShadowsModel" "shadow" "[I", .methodLink RX8 139 yX8_cries, .instanceMethod yX8_cries, .selects RX8 yX8_cries yX8_cries, .code yX8_cries cX8_cries 3 none, .fieldLink RX8 95 "BitShadowsModel" "cried" "I", .fieldLink RX8 35 "BitShadowsModel" "cryIs" "[I", .fieldLink RX8 38 "BitShadowsModel" "cryTick" "[I", .fieldLink RX8 89 "BitShadowsModel" "ticks" "I", .fieldLink RX8 41 "BitShadowsModel" "cryOf" "[I"] ++ wsX80)
def wsX8_decide_r1 : List Cond := [Cond.constant RX8 123 (-1000000001), Cond.methodLink RX8 119 yX8_isRegister, Cond.static yX8_isRegister, Cond.initialized RX8, Cond.code yX8_isRegister cX8_isRegister 1 (some .boolean), Cond.constantLong RX8 75 (7), Cond.methodLink RX8 77 yX8_in, Cond.static yX8_in, Cond.code yX8_in cX8_in 6 (some .boolean), Cond.methodLink RX8 184 yX8_decideNow, Cond.instanceMethod yX8_decideNow, Cond.selects RX8 yX8_decideNow yX8_decideNow, Cond.code yX8_decideNow cX8_decideNow 2 (some .int), Cond.fieldLink RX8 16 "BitShadowsModel" "from" "[I", Cond.fieldLink RX8 7 "BitShadowsModel" "value" "[I", Cond.methodLink RX8 181 yX8_isDecided, Cond.instanceMethod yX8_isDecided, Cond.selects RX8 yX8_isDecided yX8_isDecided, Cond.code yX8_isDecided cX8_isDecided 2 (some .boolean), Cond.fieldLink RX8 13 "BitShadowsModel" "shadow" "[I", Cond.methodLink RX8 139 yX8_cries, Cond.instanceMethod yX8_cries, Cond.selects RX8 yX8_cries yX8_cries, Cond.code yX8_cries cX8_cries 3 none]
def wsX8_decide_r2 : List Cond := [Cond.fieldLink RX8 95 "BitShadowsModel" "cried" "I", Cond.fieldLink RX8 35 "BitShadowsModel" "cryIs" "[I", Cond.fieldLink RX8 38 "BitShadowsModel" "cryTick" "[I", Cond.fieldLink RX8 89 "BitShadowsModel" "ticks" "I", Cond.fieldLink RX8 41 "BitShadowsModel" "cryOf" "[I", Cond.methodLink RX8 132 yX8_tick, Cond.instanceMethod yX8_tick, Cond.selects RX8 yX8_tick yX8_tick, Cond.code yX8_tick cX8_tick 4 (some .int), Cond.fieldLink RX8 44 "BitShadowsModel" "ringIs" "[I", Cond.fieldLink RX8 47 "BitShadowsModel" "ringTick" "[I", Cond.fieldLink RX8 50 "BitShadowsModel" "ringTold" "[I", Cond.fieldLink RX8 105 "BitShadowsModel" "ringed" "I", Cond.constantLong RX8 81 (31), Cond.fieldLink RX8 101 "BitShadowsModel" "mark" "J"]
def wsX8_decide : List Cond := .code yX8_decide cX8_decide 2 (some .int) :: ((wsX8_decide_r1 ++ wsX8_decide_r2) ++ wsX80)
def wsX8_letOnes : List Cond := .code yX8_letOnes cX8_letOnes 3 (some .int) :: ([.fieldLink RX8 83 "BitShadowsModel" "grounds" "I", .fieldLink RX8 32 "BitShadowsModel" "isLet" "[Z"] ++ wsX80)
def wsX8_let_r1 : List Cond := [Cond.constantLong RX8 152 (8), Cond.constant RX8 127 (-1000000002), Cond.fieldLink RX8 23 "BitShadowsModel" "groundOver" "[I", Cond.fieldLink RX8 32 "BitShadowsModel" "isLet" "[Z", Cond.constant RX8 187 (-1000000003), Cond.fieldLink RX8 83 "BitShadowsModel" "grounds" "I", Cond.constant RX8 188 (-1000000004), Cond.fieldLink RX8 7 "BitShadowsModel" "value" "[I", Cond.fieldLink RX8 13 "BitShadowsModel" "shadow" "[I", Cond.fieldLink RX8 16 "BitShadowsModel" "from" "[I", Cond.fieldLink RX8 19 "BitShadowsModel" "isDead" "[Z", Cond.fieldLink RX8 26 "BitShadowsModel" "groundAt" "[I", Cond.fieldLink RX8 29 "BitShadowsModel" "groundMany" "[I", Cond.methodLink RX8 77 yX8_in, Cond.static yX8_in, Cond.initialized RX8, Cond.code yX8_in cX8_in 6 (some .boolean), Cond.methodLink RX8 189 yX8_lotBy, Cond.instanceMethod yX8_lotBy, Cond.selects RX8 yX8_lotBy yX8_lotBy, Cond.code yX8_lotBy cX8_lotBy 2 (some .int), Cond.fieldLink RX8 92 "BitShadowsModel" "lot" "I", Cond.constantLong RX8 111 (16807), Cond.constantLong RX8 113 (2147483647)]
def wsX8_let_r2 : List Cond := [Cond.methodLink RX8 132 yX8_tick, Cond.instanceMethod yX8_tick, Cond.selects RX8 yX8_tick yX8_tick, Cond.code yX8_tick cX8_tick 4 (some .int), Cond.fieldLink RX8 44 "BitShadowsModel" "ringIs" "[I", Cond.fieldLink RX8 47 "BitShadowsModel" "ringTick" "[I", Cond.fieldLink RX8 50 "BitShadowsModel" "ringTold" "[I", Cond.fieldLink RX8 89 "BitShadowsModel" "ticks" "I", Cond.fieldLink RX8 105 "BitShadowsModel" "ringed" "I", Cond.constantLong RX8 81 (31), Cond.fieldLink RX8 101 "BitShadowsModel" "mark" "J"]
def wsX8_let : List Cond := .code yX8_let cX8_let 4 (some .int) :: ((wsX8_let_r1 ++ wsX8_let_r2) ++ wsX80)
def wsX8_giveBack_r1 : List Cond := [Cond.constant RX8 123 (-1000000001), Cond.fieldLink RX8 32 "BitShadowsModel" "isLet" "[Z", Cond.constant RX8 187 (-1000000003), Cond.fieldLink RX8 26 "BitShadowsModel" "groundAt" "[I", Cond.fieldLink RX8 29 "BitShadowsModel" "groundMany" "[I", Cond.fieldLink RX8 19 "BitShadowsModel" "isDead" "[Z", Cond.methodLink RX8 136 yX8_isGround, Cond.instanceMethod yX8_isGround, Cond.selects RX8 yX8_isGround yX8_isGround, Cond.initialized RX8, Cond.code yX8_isGround cX8_isGround 2 (some .boolean), Cond.fieldLink RX8 83 "BitShadowsModel" "grounds" "I", Cond.methodLink RX8 77 yX8_in, Cond.static yX8_in, Cond.code yX8_in cX8_in 6 (some .boolean), Cond.methodLink RX8 192 yX8_letOnes, Cond.instanceMethod yX8_letOnes, Cond.selects RX8 yX8_letOnes yX8_letOnes, Cond.code yX8_letOnes cX8_letOnes 3 (some .int), Cond.methodLink RX8 172 yX8_bits, Cond.static yX8_bits, Cond.code yX8_bits cX8_bits 3 (some .int), Cond.methodLink RX8 132 yX8_tick, Cond.instanceMethod yX8_tick]
def wsX8_giveBack_r2 : List Cond := [Cond.selects RX8 yX8_tick yX8_tick, Cond.code yX8_tick cX8_tick 4 (some .int), Cond.fieldLink RX8 44 "BitShadowsModel" "ringIs" "[I", Cond.fieldLink RX8 47 "BitShadowsModel" "ringTick" "[I", Cond.fieldLink RX8 50 "BitShadowsModel" "ringTold" "[I", Cond.fieldLink RX8 89 "BitShadowsModel" "ticks" "I", Cond.fieldLink RX8 105 "BitShadowsModel" "ringed" "I", Cond.constantLong RX8 81 (31), Cond.fieldLink RX8 101 "BitShadowsModel" "mark" "J"]
def wsX8_giveBack : List Cond := .code yX8_giveBack cX8_giveBack 3 (some .int) :: ((wsX8_giveBack_r1 ++ wsX8_giveBack_r2) ++ wsX80)
def wsX8_doByLots_r1 : List Cond := [Cond.methodLink RX8 189 yX8_lotBy, Cond.instanceMethod yX8_lotBy, Cond.selects RX8 yX8_lotBy yX8_lotBy, Cond.initialized RX8, Cond.code yX8_lotBy cX8_lotBy 2 (some .int), Cond.fieldLink RX8 92 "BitShadowsModel" "lot" "I", Cond.constantLong RX8 111 (16807), Cond.constantLong RX8 113 (2147483647), Cond.methodLink RX8 177 yX8_ruleNow, Cond.instanceMethod yX8_ruleNow, Cond.selects RX8 yX8_ruleNow yX8_ruleNow, Cond.code yX8_ruleNow cX8_ruleNow 8 (some .int), Cond.fieldLink RX8 7 "BitShadowsModel" "value" "[I", Cond.fieldLink RX8 13 "BitShadowsModel" "shadow" "[I", Cond.fieldLink RX8 98 "BitShadowsModel" "slackAll" "I", Cond.fieldLink RX8 16 "BitShadowsModel" "from" "[I", Cond.methodLink RX8 165 yX8_shadowBy, Cond.static yX8_shadowBy, Cond.code yX8_shadowBy cX8_shadowBy 10 (some .int), Cond.methodLink RX8 161 yX8_valueBy, Cond.static yX8_valueBy, Cond.code yX8_valueBy cX8_valueBy 3 (some .int), Cond.methodLink RX8 169 yX8_exactBy, Cond.static yX8_exactBy]
def wsX8_doByLots_r2 : List Cond := [Cond.code yX8_exactBy cX8_exactBy 10 (some .int), Cond.methodLink RX8 172 yX8_bits, Cond.static yX8_bits, Cond.code yX8_bits cX8_bits 3 (some .int), Cond.methodLink RX8 128 yX8_become, Cond.instanceMethod yX8_become, Cond.selects RX8 yX8_become yX8_become, Cond.code yX8_become cX8_become 5 (some .int), Cond.methodLink RX8 115 yX8_remember, Cond.instanceMethod yX8_remember, Cond.selects RX8 yX8_remember yX8_remember, Cond.code yX8_remember cX8_remember 3 none, Cond.fieldLink RX8 108 "BitShadowsModel" "undos" "I", Cond.fieldLink RX8 53 "BitShadowsModel" "pastOf" "[I", Cond.fieldLink RX8 56 "BitShadowsModel" "pastValue" "[I", Cond.fieldLink RX8 59 "BitShadowsModel" "pastShadow" "[I", Cond.fieldLink RX8 62 "BitShadowsModel" "pastFrom" "[I", Cond.methodLink RX8 132 yX8_tick, Cond.instanceMethod yX8_tick, Cond.selects RX8 yX8_tick yX8_tick, Cond.code yX8_tick cX8_tick 4 (some .int), Cond.fieldLink RX8 44 "BitShadowsModel" "ringIs" "[I", Cond.fieldLink RX8 47 "BitShadowsModel" "ringTick" "[I", Cond.fieldLink RX8 50 "BitShadowsModel" "ringTold" "[I"]
def wsX8_doByLots_r3 : List Cond := [Cond.fieldLink RX8 89 "BitShadowsModel" "ticks" "I", Cond.fieldLink RX8 105 "BitShadowsModel" "ringed" "I", Cond.constantLong RX8 81 (31), Cond.fieldLink RX8 101 "BitShadowsModel" "mark" "J", Cond.methodLink RX8 195 yX8_load, Cond.instanceMethod yX8_load, Cond.selects RX8 yX8_load yX8_load, Cond.code yX8_load cX8_load 3 (some .int), Cond.constant RX8 123 (-1000000001), Cond.methodLink RX8 119 yX8_isRegister, Cond.static yX8_isRegister, Cond.code yX8_isRegister cX8_isRegister 1 (some .boolean), Cond.constantLong RX8 75 (7), Cond.methodLink RX8 77 yX8_in, Cond.static yX8_in, Cond.code yX8_in cX8_in 6 (some .boolean), Cond.methodLink RX8 146 yX8_isOctet, Cond.static yX8_isOctet, Cond.code yX8_isOctet cX8_isOctet 1 (some .boolean), Cond.methodLink RX8 149 yX8_loadNow, Cond.instanceMethod yX8_loadNow, Cond.selects RX8 yX8_loadNow yX8_loadNow, Cond.code yX8_loadNow cX8_loadNow 4 (some .int), Cond.methodLink RX8 143 yX8_read]
def wsX8_doByLots_r4 : List Cond := [Cond.instanceMethod yX8_read, Cond.selects RX8 yX8_read yX8_read, Cond.code yX8_read cX8_read 2 none, Cond.fieldLink RX8 19 "BitShadowsModel" "isDead" "[Z", Cond.fieldLink RX8 23 "BitShadowsModel" "groundOver" "[I", Cond.methodLink RX8 139 yX8_cries, Cond.instanceMethod yX8_cries, Cond.selects RX8 yX8_cries yX8_cries, Cond.code yX8_cries cX8_cries 3 none, Cond.fieldLink RX8 95 "BitShadowsModel" "cried" "I", Cond.fieldLink RX8 35 "BitShadowsModel" "cryIs" "[I", Cond.fieldLink RX8 38 "BitShadowsModel" "cryTick" "[I", Cond.fieldLink RX8 41 "BitShadowsModel" "cryOf" "[I", Cond.methodLink RX8 198 yX8_store, Cond.instanceMethod yX8_store, Cond.selects RX8 yX8_store yX8_store, Cond.code yX8_store cX8_store 3 (some .int), Cond.methodLink RX8 154 yX8_storeNow, Cond.instanceMethod yX8_storeNow, Cond.selects RX8 yX8_storeNow yX8_storeNow, Cond.code yX8_storeNow cX8_storeNow 3 (some .int), Cond.methodLink RX8 201 yX8_decide, Cond.instanceMethod yX8_decide, Cond.selects RX8 yX8_decide yX8_decide]
def wsX8_doByLots_r5 : List Cond := [Cond.code yX8_decide cX8_decide 2 (some .int), Cond.methodLink RX8 184 yX8_decideNow, Cond.instanceMethod yX8_decideNow, Cond.selects RX8 yX8_decideNow yX8_decideNow, Cond.code yX8_decideNow cX8_decideNow 2 (some .int), Cond.methodLink RX8 181 yX8_isDecided, Cond.instanceMethod yX8_isDecided, Cond.selects RX8 yX8_isDecided yX8_isDecided, Cond.code yX8_isDecided cX8_isDecided 2 (some .boolean)]
def wsX8_doByLots : List Cond := .code yX8_doByLots cX8_doByLots 7 none :: ((wsX8_doByLots_r1 ++ (wsX8_doByLots_r2 ++ (wsX8_doByLots_r3 ++ (wsX8_doByLots_r4 ++ wsX8_doByLots_r5)))) ++ wsX80)
def wsX8_drift_r1 : List Cond := [Cond.constantLong RX8 204 (40), Cond.constant RX8 127 (-1000000002), Cond.fieldLink RX8 95 "BitShadowsModel" "cried" "I", Cond.methodLink RX8 77 yX8_in, Cond.static yX8_in, Cond.initialized RX8, Cond.code yX8_in cX8_in 6 (some .boolean), Cond.methodLink RX8 206 yX8_doByLots, Cond.instanceMethod yX8_doByLots, Cond.selects RX8 yX8_doByLots yX8_doByLots, Cond.code yX8_doByLots cX8_doByLots 7 none, Cond.methodLink RX8 189 yX8_lotBy, Cond.instanceMethod yX8_lotBy, Cond.selects RX8 yX8_lotBy yX8_lotBy, Cond.code yX8_lotBy cX8_lotBy 2 (some .int), Cond.fieldLink RX8 92 "BitShadowsModel" "lot" "I", Cond.constantLong RX8 111 (16807), Cond.constantLong RX8 113 (2147483647), Cond.methodLink RX8 177 yX8_ruleNow, Cond.instanceMethod yX8_ruleNow, Cond.selects RX8 yX8_ruleNow yX8_ruleNow, Cond.code yX8_ruleNow cX8_ruleNow 8 (some .int), Cond.fieldLink RX8 7 "BitShadowsModel" "value" "[I", Cond.fieldLink RX8 13 "BitShadowsModel" "shadow" "[I"]
def wsX8_drift_r2 : List Cond := [Cond.fieldLink RX8 98 "BitShadowsModel" "slackAll" "I", Cond.fieldLink RX8 16 "BitShadowsModel" "from" "[I", Cond.methodLink RX8 165 yX8_shadowBy, Cond.static yX8_shadowBy, Cond.code yX8_shadowBy cX8_shadowBy 10 (some .int), Cond.methodLink RX8 161 yX8_valueBy, Cond.static yX8_valueBy, Cond.code yX8_valueBy cX8_valueBy 3 (some .int), Cond.methodLink RX8 169 yX8_exactBy, Cond.static yX8_exactBy, Cond.code yX8_exactBy cX8_exactBy 10 (some .int), Cond.methodLink RX8 172 yX8_bits, Cond.static yX8_bits, Cond.code yX8_bits cX8_bits 3 (some .int), Cond.methodLink RX8 128 yX8_become, Cond.instanceMethod yX8_become, Cond.selects RX8 yX8_become yX8_become, Cond.code yX8_become cX8_become 5 (some .int), Cond.methodLink RX8 115 yX8_remember, Cond.instanceMethod yX8_remember, Cond.selects RX8 yX8_remember yX8_remember, Cond.code yX8_remember cX8_remember 3 none, Cond.fieldLink RX8 108 "BitShadowsModel" "undos" "I", Cond.fieldLink RX8 53 "BitShadowsModel" "pastOf" "[I"]
def wsX8_drift_r3 : List Cond := [Cond.fieldLink RX8 56 "BitShadowsModel" "pastValue" "[I", Cond.fieldLink RX8 59 "BitShadowsModel" "pastShadow" "[I", Cond.fieldLink RX8 62 "BitShadowsModel" "pastFrom" "[I", Cond.methodLink RX8 132 yX8_tick, Cond.instanceMethod yX8_tick, Cond.selects RX8 yX8_tick yX8_tick, Cond.code yX8_tick cX8_tick 4 (some .int), Cond.fieldLink RX8 44 "BitShadowsModel" "ringIs" "[I", Cond.fieldLink RX8 47 "BitShadowsModel" "ringTick" "[I", Cond.fieldLink RX8 50 "BitShadowsModel" "ringTold" "[I", Cond.fieldLink RX8 89 "BitShadowsModel" "ticks" "I", Cond.fieldLink RX8 105 "BitShadowsModel" "ringed" "I", Cond.constantLong RX8 81 (31), Cond.fieldLink RX8 101 "BitShadowsModel" "mark" "J", Cond.methodLink RX8 195 yX8_load, Cond.instanceMethod yX8_load, Cond.selects RX8 yX8_load yX8_load, Cond.code yX8_load cX8_load 3 (some .int), Cond.constant RX8 123 (-1000000001), Cond.methodLink RX8 119 yX8_isRegister, Cond.static yX8_isRegister, Cond.code yX8_isRegister cX8_isRegister 1 (some .boolean), Cond.constantLong RX8 75 (7), Cond.methodLink RX8 146 yX8_isOctet]
def wsX8_drift_r4 : List Cond := [Cond.static yX8_isOctet, Cond.code yX8_isOctet cX8_isOctet 1 (some .boolean), Cond.methodLink RX8 149 yX8_loadNow, Cond.instanceMethod yX8_loadNow, Cond.selects RX8 yX8_loadNow yX8_loadNow, Cond.code yX8_loadNow cX8_loadNow 4 (some .int), Cond.methodLink RX8 143 yX8_read, Cond.instanceMethod yX8_read, Cond.selects RX8 yX8_read yX8_read, Cond.code yX8_read cX8_read 2 none, Cond.fieldLink RX8 19 "BitShadowsModel" "isDead" "[Z", Cond.fieldLink RX8 23 "BitShadowsModel" "groundOver" "[I", Cond.methodLink RX8 139 yX8_cries, Cond.instanceMethod yX8_cries, Cond.selects RX8 yX8_cries yX8_cries, Cond.code yX8_cries cX8_cries 3 none, Cond.fieldLink RX8 35 "BitShadowsModel" "cryIs" "[I", Cond.fieldLink RX8 38 "BitShadowsModel" "cryTick" "[I", Cond.fieldLink RX8 41 "BitShadowsModel" "cryOf" "[I", Cond.methodLink RX8 198 yX8_store, Cond.instanceMethod yX8_store, Cond.selects RX8 yX8_store yX8_store, Cond.code yX8_store cX8_store 3 (some .int), Cond.methodLink RX8 154 yX8_storeNow]
def wsX8_drift_r5 : List Cond := [Cond.instanceMethod yX8_storeNow, Cond.selects RX8 yX8_storeNow yX8_storeNow, Cond.code yX8_storeNow cX8_storeNow 3 (some .int), Cond.methodLink RX8 201 yX8_decide, Cond.instanceMethod yX8_decide, Cond.selects RX8 yX8_decide yX8_decide, Cond.code yX8_decide cX8_decide 2 (some .int), Cond.methodLink RX8 184 yX8_decideNow, Cond.instanceMethod yX8_decideNow, Cond.selects RX8 yX8_decideNow yX8_decideNow, Cond.code yX8_decideNow cX8_decideNow 2 (some .int), Cond.methodLink RX8 181 yX8_isDecided, Cond.instanceMethod yX8_isDecided, Cond.selects RX8 yX8_isDecided yX8_isDecided, Cond.code yX8_isDecided cX8_isDecided 2 (some .boolean)]
def wsX8_drift : List Cond := .code yX8_drift cX8_drift 3 (some .int) :: ((wsX8_drift_r1 ++ (wsX8_drift_r2 ++ (wsX8_drift_r3 ++ (wsX8_drift_r4 ++ wsX8_drift_r5)))) ++ wsX80)
def wsX8_lot : List Cond := .code yX8_lot cX8_lot 3 (some .int) :: ([.constantLong RX8 209 (2147483646), .constant RX8 127 (-1000000002), .fieldLink RX8 92 "BitShadowsModel" "lot" "I", .methodLink RX8 77 yX8_in, .static yX8_in, .initialized RX8, .code yX8_in cX8_in 6 (some .boolean)] ++ wsX80)
def wsX8_undo : List Cond := .code yX8_undo cX8_undo 2 (some .int) :: ([.fieldLink RX8 108 "BitShadowsModel" "undos" "I", .constant RX8 187 (-1000000003), .fieldLink RX8 53 "BitShadowsModel" "pastOf" "[I", .fieldLink RX8 7 "BitShadowsModel" "value" "[I", .fieldLink RX8 56 "BitShadowsModel" "pastValue" "[I", .fieldLink RX8 13 "BitShadowsModel" "shadow" "[I", .fieldLink RX8 59 "BitShadowsModel" "pastShadow" "[I", .fieldLink RX8 16 "BitShadowsModel" "from" "[I", .fieldLink RX8 62 "BitShadowsModel" "pastFrom" "[I"] ++ wsX80)
def wsX8_unknownBits : List Cond := .code yX8_unknownBits cX8_unknownBits 5 (some .int) :: ([.fieldLink RX8 13 "BitShadowsModel" "shadow" "[I", .methodLink RX8 172 yX8_bits, .static yX8_bits, .initialized RX8, .code yX8_bits cX8_bits 3 (some .int)] ++ wsX80)
def wsX8_deadMany : List Cond := .code yX8_deadMany cX8_deadMany 3 (some .int) :: ([.fieldLink RX8 19 "BitShadowsModel" "isDead" "[Z"] ++ wsX80)
def wsX8_keptCries : List Cond := .code yX8_keptCries cX8_keptCries 1 (some .int) :: ([.fieldLink RX8 95 "BitShadowsModel" "cried" "I"] ++ wsX80)
def wsX8_told_r1 : List Cond := [Cond.fieldLink RX8 89 "BitShadowsModel" "ticks" "I", Cond.fieldLink RX8 95 "BitShadowsModel" "cried" "I", Cond.fieldLink RX8 98 "BitShadowsModel" "slackAll" "I", Cond.fieldLink RX8 83 "BitShadowsModel" "grounds" "I", Cond.fieldLink RX8 105 "BitShadowsModel" "ringed" "I", Cond.fieldLink RX8 92 "BitShadowsModel" "lot" "I", Cond.fieldLink RX8 108 "BitShadowsModel" "undos" "I", Cond.constant RX8 127 (-1000000002), Cond.methodLink RX8 211 yX8_keptCries, Cond.instanceMethod yX8_keptCries, Cond.selects RX8 yX8_keptCries yX8_keptCries, Cond.initialized RX8, Cond.code yX8_keptCries cX8_keptCries 1 (some .int), Cond.methodLink RX8 192 yX8_letOnes, Cond.instanceMethod yX8_letOnes, Cond.selects RX8 yX8_letOnes yX8_letOnes, Cond.code yX8_letOnes cX8_letOnes 3 (some .int), Cond.fieldLink RX8 32 "BitShadowsModel" "isLet" "[Z", Cond.methodLink RX8 214 yX8_deadMany, Cond.instanceMethod yX8_deadMany, Cond.selects RX8 yX8_deadMany yX8_deadMany, Cond.code yX8_deadMany cX8_deadMany 3 (some .int), Cond.fieldLink RX8 19 "BitShadowsModel" "isDead" "[Z", Cond.methodLink RX8 217 yX8_unknownBits]
def wsX8_told_r2 : List Cond := [Cond.instanceMethod yX8_unknownBits, Cond.selects RX8 yX8_unknownBits yX8_unknownBits, Cond.code yX8_unknownBits cX8_unknownBits 5 (some .int), Cond.fieldLink RX8 13 "BitShadowsModel" "shadow" "[I", Cond.methodLink RX8 172 yX8_bits, Cond.static yX8_bits, Cond.code yX8_bits cX8_bits 3 (some .int)]
def wsX8_told : List Cond := .code yX8_told cX8_told 2 (some .int) :: ((wsX8_told_r1 ++ wsX8_told_r2) ++ wsX80)
def wsX8_mark : List Cond := .code yX8_mark cX8_mark 1 (some .long) :: ([.fieldLink RX8 101 "BitShadowsModel" "mark" "J"] ++ wsX80)
def wsX8_register : List Cond := .code yX8_register cX8_register 3 (some .int) :: ([.constant RX8 123 (-1000000001), .fieldLink RX8 7 "BitShadowsModel" "value" "[I", .fieldLink RX8 13 "BitShadowsModel" "shadow" "[I", .fieldLink RX8 16 "BitShadowsModel" "from" "[I", .constant RX8 127 (-1000000002), .methodLink RX8 119 yX8_isRegister, .static yX8_isRegister, .initialized RX8, .code yX8_isRegister cX8_isRegister 1 (some .boolean), .constantLong RX8 75 (7), .methodLink RX8 77 yX8_in, .static yX8_in, .code yX8_in cX8_in 6 (some .boolean), .methodLink RX8 172 yX8_bits, .static yX8_bits, .code yX8_bits cX8_bits 3 (some .int), .methodLink RX8 181 yX8_isDecided, .instanceMethod yX8_isDecided, .selects RX8 yX8_isDecided yX8_isDecided, .code yX8_isDecided cX8_isDecided 2 (some .boolean)] ++ wsX80)
def wsX8_octet : List Cond := .code yX8_octet cX8_octet 3 (some .int) :: ([.constant RX8 123 (-1000000001), .fieldLink RX8 7 "BitShadowsModel" "value" "[I", .fieldLink RX8 13 "BitShadowsModel" "shadow" "[I", .fieldLink RX8 16 "BitShadowsModel" "from" "[I", .fieldLink RX8 19 "BitShadowsModel" "isDead" "[Z", .fieldLink RX8 23 "BitShadowsModel" "groundOver" "[I", .constant RX8 127 (-1000000002), .methodLink RX8 146 yX8_isOctet, .static yX8_isOctet, .initialized RX8, .code yX8_isOctet cX8_isOctet 1 (some .boolean), .constantLong RX8 81 (31), .methodLink RX8 77 yX8_in, .static yX8_in, .code yX8_in cX8_in 6 (some .boolean)] ++ wsX80)
def wsX8_criesOf : List Cond := .code yX8_criesOf cX8_criesOf 4 (some .int) :: ([.fieldLink RX8 41 "BitShadowsModel" "cryOf" "[I", .methodLink RX8 211 yX8_keptCries, .instanceMethod yX8_keptCries, .selects RX8 yX8_keptCries yX8_keptCries, .initialized RX8, .code yX8_keptCries cX8_keptCries 1 (some .int), .fieldLink RX8 95 "BitShadowsModel" "cried" "I"] ++ wsX80)
def wsX8_ground : List Cond := .code yX8_ground cX8_ground 3 (some .int) :: ([.constant RX8 123 (-1000000001), .fieldLink RX8 26 "BitShadowsModel" "groundAt" "[I", .fieldLink RX8 29 "BitShadowsModel" "groundMany" "[I", .fieldLink RX8 32 "BitShadowsModel" "isLet" "[Z", .constant RX8 127 (-1000000002), .methodLink RX8 136 yX8_isGround, .instanceMethod yX8_isGround, .selects RX8 yX8_isGround yX8_isGround, .initialized RX8, .code yX8_isGround cX8_isGround 2 (some .boolean), .fieldLink RX8 83 "BitShadowsModel" "grounds" "I", .methodLink RX8 77 yX8_in, .static yX8_in, .code yX8_in cX8_in 6 (some .boolean), .methodLink RX8 220 yX8_criesOf, .instanceMethod yX8_criesOf, .selects RX8 yX8_criesOf yX8_criesOf, .code yX8_criesOf cX8_criesOf 4 (some .int), .fieldLink RX8 41 "BitShadowsModel" "cryOf" "[I", .methodLink RX8 211 yX8_keptCries, .instanceMethod yX8_keptCries, .selects RX8 yX8_keptCries yX8_keptCries, .code yX8_keptCries cX8_keptCries 1 (some .int), .fieldLink RX8 95 "BitShadowsModel" "cried" "I"] ++ wsX80)
def wsX8_cry : List Cond := .code yX8_cry cX8_cry 3 (some .int) :: ([.constant RX8 123 (-1000000001), .fieldLink RX8 35 "BitShadowsModel" "cryIs" "[I", .fieldLink RX8 38 "BitShadowsModel" "cryTick" "[I", .fieldLink RX8 41 "BitShadowsModel" "cryOf" "[I", .constant RX8 127 (-1000000002), .methodLink RX8 211 yX8_keptCries, .instanceMethod yX8_keptCries, .selects RX8 yX8_keptCries yX8_keptCries, .initialized RX8, .code yX8_keptCries cX8_keptCries 1 (some .int), .fieldLink RX8 95 "BitShadowsModel" "cried" "I", .methodLink RX8 77 yX8_in, .static yX8_in, .code yX8_in cX8_in 6 (some .boolean)] ++ wsX80)
def wsX8_ring : List Cond := .code yX8_ring cX8_ring 3 (some .int) :: ([.constantLong RX8 223 (2), .constant RX8 127 (-1000000002), .fieldLink RX8 105 "BitShadowsModel" "ringed" "I", .fieldLink RX8 44 "BitShadowsModel" "ringIs" "[I", .fieldLink RX8 47 "BitShadowsModel" "ringTick" "[I", .fieldLink RX8 50 "BitShadowsModel" "ringTold" "[I", .methodLink RX8 77 yX8_in, .static yX8_in, .initialized RX8, .code yX8_in cX8_in 6 (some .boolean)] ++ wsX80)
def wsX8_areWell : List Cond := .code yX8_areWell cX8_areWell 5 (some .boolean) :: ([.constantLong RX8 175 (6), .methodLink RX8 77 yX8_in, .static yX8_in, .initialized RX8, .code yX8_in cX8_in 6 (some .boolean), .methodLink RX8 124 yX8_isByte, .static yX8_isByte, .code yX8_isByte cX8_isByte 1 (some .boolean), .constantLong RX8 87 (255)])
def wsX8_shadow : List Cond := .code yX8_shadow cX8_shadow 6 (some .int) :: ([.constant RX8 127 (-1000000002), .methodLink RX8 225 yX8_areWell, .static yX8_areWell, .initialized RX8, .code yX8_areWell cX8_areWell 5 (some .boolean), .constantLong RX8 175 (6), .methodLink RX8 77 yX8_in, .static yX8_in, .code yX8_in cX8_in 6 (some .boolean), .methodLink RX8 124 yX8_isByte, .static yX8_isByte, .code yX8_isByte cX8_isByte 1 (some .boolean), .constantLong RX8 87 (255), .methodLink RX8 165 yX8_shadowBy, .static yX8_shadowBy, .code yX8_shadowBy cX8_shadowBy 10 (some .int)])
def wsX8_exact : List Cond := .code yX8_exact cX8_exact 6 (some .int) :: ([.constant RX8 127 (-1000000002), .methodLink RX8 225 yX8_areWell, .static yX8_areWell, .initialized RX8, .code yX8_areWell cX8_areWell 5 (some .boolean), .constantLong RX8 175 (6), .methodLink RX8 77 yX8_in, .static yX8_in, .code yX8_in cX8_in 6 (some .boolean), .methodLink RX8 124 yX8_isByte, .static yX8_isByte, .code yX8_isByte cX8_isByte 1 (some .boolean), .constantLong RX8 87 (255), .methodLink RX8 169 yX8_exactBy, .static yX8_exactBy, .code yX8_exactBy cX8_exactBy 10 (some .int), .methodLink RX8 161 yX8_valueBy, .static yX8_valueBy, .code yX8_valueBy cX8_valueBy 3 (some .int)])
def wsX8_keep : List Cond := .code yX8_keep cX8_keep 3 (some .int) :: ([.constant RX8 123 (-1000000001), .fieldLink RX8 65 "BitShadowsModel" "images" "[I", .fieldLink RX8 7 "BitShadowsModel" "value" "[I", .fieldLink RX8 13 "BitShadowsModel" "shadow" "[I", .fieldLink RX8 16 "BitShadowsModel" "from" "[I", .fieldLink RX8 19 "BitShadowsModel" "isDead" "[Z", .fieldLink RX8 68 "BitShadowsModel" "isKept" "[Z", .fieldLink RX8 108 "BitShadowsModel" "undos" "I", .methodLink RX8 77 yX8_in, .static yX8_in, .initialized RX8, .code yX8_in cX8_in 6 (some .boolean)] ++ wsX80)
def wsX8_goBack : List Cond := .code yX8_goBack cX8_goBack 3 (some .int) :: ([.constant RX8 123 (-1000000001), .fieldLink RX8 68 "BitShadowsModel" "isKept" "[Z", .constant RX8 187 (-1000000003), .fieldLink RX8 7 "BitShadowsModel" "value" "[I", .fieldLink RX8 65 "BitShadowsModel" "images" "[I", .fieldLink RX8 13 "BitShadowsModel" "shadow" "[I", .fieldLink RX8 16 "BitShadowsModel" "from" "[I", .fieldLink RX8 19 "BitShadowsModel" "isDead" "[Z", .fieldLink RX8 108 "BitShadowsModel" "undos" "I", .methodLink RX8 77 yX8_in, .static yX8_in, .initialized RX8, .code yX8_in cX8_in 6 (some .boolean)] ++ wsX80)
def wsJ9_min_7cf53 : List Cond := .code yJ9_min_7cf53 cJ9_min_7cf53 2 (some .int) :: ([])
def wsL_law_r1 : List Cond := [Cond.classLink RL 7 RX7, Cond.instantiable RX7 12, Cond.initialized RX7, Cond.classLink RL 10 RX8, Cond.instantiable RX8 28, Cond.initialized RX8, Cond.methodLink RL 9 yX7_init, Cond.instanceMethod yX7_init, Cond.code yX7_init cX7_init 1 none, Cond.methodLink RX7 3 objectInit, Cond.instanceMethod objectInit, Cond.code objectInit ⟨#[0xb1]⟩ 1 none, Cond.classLink RX7 9 RX4, Cond.instantiable RX4 2, Cond.initialized RX4, Cond.fieldLink RX7 12 "BitShadows" "house" "LBitShadows$House;", Cond.fieldLink RX7 16 "BitShadows" "firstImage" "LBitShadows$House;", Cond.fieldLink RX7 19 "BitShadows" "secondImage" "LBitShadows$House;", Cond.classLink RX7 22 RX3, Cond.instantiable RX3 5, Cond.initialized RX3, Cond.fieldLink RX7 25 "BitShadows" "grounds" "LBitShadows$Grounds;", Cond.classLink RX7 29 RX2, Cond.instantiable RX2 5]
def wsL_law_r2 : List Cond := [Cond.initialized RX2, Cond.fieldLink RX7 32 "BitShadows" "cries" "LBitShadows$Cries;", Cond.classLink RX7 36 RX5, Cond.instantiable RX5 5, Cond.initialized RX5, Cond.fieldLink RX7 39 "BitShadows" "lastDone" "LBitShadows$Ring;", Cond.classLink RX7 43 RX1, Cond.instantiable RX1 4, Cond.initialized RX1, Cond.fieldLink RX7 46 "BitShadows" "changes" "LBitShadows$Changes;", Cond.instanceMethod yX4_init, Cond.code yX4_init cX4_init 1 none, Cond.methodLink RX4 3 objectInit, Cond.arrayClass .int, Cond.fieldLink RX4 9 "BitShadows$House" "cells" "[I", Cond.instanceMethod yX3_init, Cond.code yX3_init cX3_init 1 none, Cond.methodLink RX3 3 objectInit, Cond.fieldLink RX3 9 "BitShadows$Grounds" "firsts" "[I", Cond.fieldLink RX3 15 "BitShadows$Grounds" "lengths" "[I", Cond.fieldLink RX3 18 "BitShadows$Grounds" "lastOver" "[I", Cond.instanceMethod yX2_init, Cond.code yX2_init cX2_init 1 none, Cond.methodLink RX2 3 objectInit]
def wsL_law_r3 : List Cond := [Cond.fieldLink RX2 9 "BitShadows$Cries" "kinds" "[I", Cond.fieldLink RX2 15 "BitShadows$Cries" "ticks" "[I", Cond.fieldLink RX2 18 "BitShadows$Cries" "groundSets" "[I", Cond.instanceMethod yX5_init, Cond.code yX5_init cX5_init 1 none, Cond.methodLink RX5 3 objectInit, Cond.fieldLink RX5 9 "BitShadows$Ring" "kinds" "[I", Cond.fieldLink RX5 15 "BitShadows$Ring" "ticks" "[I", Cond.fieldLink RX5 18 "BitShadows$Ring" "answers" "[I", Cond.instanceMethod yX1_init, Cond.code yX1_init cX1_init 1 none, Cond.methodLink RX1 3 objectInit, Cond.fieldLink RX1 9 "BitShadows$Changes" "places" "[I", Cond.fieldLink RX1 15 "BitShadows$Changes" "befores" "[I", Cond.methodLink RX7 50 yX7_begin, Cond.instanceMethod yX7_begin, Cond.selects RX7 yX7_begin yX7_begin, Cond.code yX7_begin cX7_begin 1 none, Cond.fieldLink RX7 255 "BitShadows" "keptImages" "I", Cond.fieldLink RX7 187 "BitShadows" "lotNow" "I", Cond.fieldLink RX7 53 "BitShadows" "ticks" "I", Cond.fieldLink RX7 118 "BitShadows" "slackAll" "I", Cond.fieldLink RX7 202 "BitShadows" "markNow" "J", Cond.methodLink RX7 261 yX4_clear]
def wsL_law_r4 : List Cond := [Cond.instanceMethod yX4_clear, Cond.selects RX4 yX4_clear yX4_clear, Cond.code yX4_clear cX4_clear 2 none, Cond.fieldLink RX4 15 "BitShadows$House" "dead" "I", Cond.methodLink RX7 262 yX3_clear, Cond.instanceMethod yX3_clear, Cond.selects RX3 yX3_clear yX3_clear, Cond.code yX3_clear cX3_clear 2 none, Cond.fieldLink RX3 21 "BitShadows$Grounds" "count" "I", Cond.fieldLink RX3 25 "BitShadows$Grounds" "letSet" "I", Cond.methodLink RX7 263 yX2_clear, Cond.instanceMethod yX2_clear, Cond.selects RX2 yX2_clear yX2_clear, Cond.code yX2_clear cX2_clear 1 none, Cond.fieldLink RX2 21 "BitShadows$Cries" "counted" "I", Cond.fieldLink RX2 25 "BitShadows$Cries" "kept" "I", Cond.methodLink RX7 264 yX5_clear, Cond.instanceMethod yX5_clear, Cond.selects RX5 yX5_clear yX5_clear, Cond.code yX5_clear cX5_clear 1 none, Cond.fieldLink RX5 21 "BitShadows$Ring" "count" "I", Cond.fieldLink RX5 25 "BitShadows$Ring" "next" "I", Cond.methodLink RX7 258 yX1_clear, Cond.instanceMethod yX1_clear]
def wsL_law_r5 : List Cond := [Cond.selects RX1 yX1_clear yX1_clear, Cond.code yX1_clear cX1_clear 1 none, Cond.fieldLink RX1 18 "BitShadows$Changes" "count" "I", Cond.fieldLink RX1 22 "BitShadows$Changes" "next" "I", Cond.methodLink RL 12 yX8_init, Cond.instanceMethod yX8_init, Cond.code yX8_init cX8_init 2 none, Cond.methodLink RX8 1 objectInit, Cond.fieldLink RX8 7 "BitShadowsModel" "value" "[I", Cond.fieldLink RX8 13 "BitShadowsModel" "shadow" "[I", Cond.fieldLink RX8 16 "BitShadowsModel" "from" "[I", Cond.arrayClass .boolean, Cond.fieldLink RX8 19 "BitShadowsModel" "isDead" "[Z", Cond.fieldLink RX8 23 "BitShadowsModel" "groundOver" "[I", Cond.fieldLink RX8 26 "BitShadowsModel" "groundAt" "[I", Cond.fieldLink RX8 29 "BitShadowsModel" "groundMany" "[I", Cond.fieldLink RX8 32 "BitShadowsModel" "isLet" "[Z", Cond.fieldLink RX8 35 "BitShadowsModel" "cryIs" "[I", Cond.fieldLink RX8 38 "BitShadowsModel" "cryTick" "[I", Cond.fieldLink RX8 41 "BitShadowsModel" "cryOf" "[I", Cond.fieldLink RX8 44 "BitShadowsModel" "ringIs" "[I", Cond.fieldLink RX8 47 "BitShadowsModel" "ringTick" "[I", Cond.fieldLink RX8 50 "BitShadowsModel" "ringTold" "[I", Cond.fieldLink RX8 53 "BitShadowsModel" "pastOf" "[I"]
def wsL_law_r6 : List Cond := [Cond.fieldLink RX8 56 "BitShadowsModel" "pastValue" "[I", Cond.fieldLink RX8 59 "BitShadowsModel" "pastShadow" "[I", Cond.fieldLink RX8 62 "BitShadowsModel" "pastFrom" "[I", Cond.fieldLink RX8 65 "BitShadowsModel" "images" "[I", Cond.fieldLink RX8 68 "BitShadowsModel" "isKept" "[Z", Cond.methodLink RX8 71 yX8_start, Cond.instanceMethod yX8_start, Cond.selects RX8 yX8_start yX8_start, Cond.code yX8_start cX8_start 3 (some .int), Cond.fieldLink RX8 89 "BitShadowsModel" "ticks" "I", Cond.fieldLink RX8 83 "BitShadowsModel" "grounds" "I", Cond.fieldLink RX8 92 "BitShadowsModel" "lot" "I", Cond.fieldLink RX8 95 "BitShadowsModel" "cried" "I", Cond.fieldLink RX8 98 "BitShadowsModel" "slackAll" "I", Cond.fieldLink RX8 101 "BitShadowsModel" "mark" "J", Cond.fieldLink RX8 105 "BitShadowsModel" "ringed" "I", Cond.fieldLink RX8 108 "BitShadowsModel" "undos" "I", Cond.methodLink RL 13 yX7_start, Cond.instanceMethod yX7_start, Cond.selects RX7 yX7_start yX7_start, Cond.code yX7_start cX7_start 2 (some .int), Cond.methodLink RL 17 yX8_start, Cond.methodLink RL 18 yX7_set, Cond.instanceMethod yX7_set]
def wsL_law_r7 : List Cond := [Cond.selects RX7 yX7_set yX7_set, Cond.code yX7_set cX7_set 4 (some .int), Cond.constant RX7 61 (-1000000001), Cond.constant RX7 65 (-1000000002), Cond.fieldLink RX7 66 "BitShadows$House" "cells" "[I", Cond.methodLink RX7 57 yX7_isRegister, Cond.static yX7_isRegister, Cond.code yX7_isRegister cX7_isRegister 1 (some .boolean), Cond.methodLink RX7 62 yX7_isByte, Cond.static yX7_isByte, Cond.code yX7_isByte cX7_isByte 1 (some .boolean), Cond.methodLink RX7 70 yX0_valueOf, Cond.static yX0_valueOf, Cond.initialized RX0, Cond.code yX0_valueOf cX0_valueOf 1 (some .int), Cond.methodLink RX7 76 yX0_of, Cond.static yX0_of, Cond.code yX0_of cX0_of 4 (some .int), Cond.methodLink RX7 80 yX7_changeRegister, Cond.instanceMethod yX7_changeRegister, Cond.selects RX7 yX7_changeRegister yX7_changeRegister, Cond.code yX7_changeRegister cX7_changeRegister 3 none, Cond.methodLink RX7 268 yX1_add, Cond.instanceMethod yX1_add]
def wsL_law_r8 : List Cond := [Cond.selects RX1 yX1_add yX1_add, Cond.code yX1_add cX1_add 3 none, Cond.methodLink RX1 25 Lib.Math.min.name, Cond.static Lib.Math.min.name, Cond.initialized "java/lang/Math", Cond.code Lib.Math.min.name Lib.Math.min.code 2 (some .int), Cond.methodLink RX7 84 yX7_tick, Cond.instanceMethod yX7_tick, Cond.selects RX7 yX7_tick yX7_tick, Cond.code yX7_tick cX7_tick 3 (some .int), Cond.constantLong RX7 266 (31), Cond.methodLink RX7 265 yX5_add, Cond.instanceMethod yX5_add, Cond.selects RX5 yX5_add yX5_add, Cond.code yX5_add cX5_add 4 none, Cond.methodLink RX5 28 Lib.Math.min.name, Cond.methodLink RL 22 yX8_set, Cond.instanceMethod yX8_set, Cond.selects RX8 yX8_set yX8_set, Cond.code yX8_set cX8_set 5 (some .int), Cond.constant RX8 123 (-1000000001), Cond.constant RX8 127 (-1000000002), Cond.methodLink RX8 119 yX8_isRegister, Cond.static yX8_isRegister]
def wsL_law_r9 : List Cond := [Cond.code yX8_isRegister cX8_isRegister 1 (some .boolean), Cond.constantLong RX8 75 (7), Cond.methodLink RX8 77 yX8_in, Cond.static yX8_in, Cond.code yX8_in cX8_in 6 (some .boolean), Cond.methodLink RX8 124 yX8_isByte, Cond.static yX8_isByte, Cond.code yX8_isByte cX8_isByte 1 (some .boolean), Cond.constantLong RX8 87 (255), Cond.methodLink RX8 128 yX8_become, Cond.instanceMethod yX8_become, Cond.selects RX8 yX8_become yX8_become, Cond.code yX8_become cX8_become 5 (some .int), Cond.methodLink RX8 115 yX8_remember, Cond.instanceMethod yX8_remember, Cond.selects RX8 yX8_remember yX8_remember, Cond.code yX8_remember cX8_remember 3 none, Cond.methodLink RX8 132 yX8_tick, Cond.instanceMethod yX8_tick, Cond.selects RX8 yX8_tick yX8_tick, Cond.code yX8_tick cX8_tick 4 (some .int), Cond.constantLong RX8 81 (31), Cond.methodLink RL 23 yX7_forget, Cond.instanceMethod yX7_forget]
def wsL_law_r10 : List Cond := [Cond.selects RX7 yX7_forget yX7_forget, Cond.code yX7_forget cX7_forget 6 (some .int), Cond.methodLink RX7 88 yX3_has, Cond.instanceMethod yX3_has, Cond.selects RX3 yX3_has yX3_has, Cond.code yX3_has cX3_has 2 (some .boolean), Cond.methodLink RX7 91 yX0_shadowOf, Cond.static yX0_shadowOf, Cond.code yX0_shadowOf cX0_shadowOf 1 (some .int), Cond.methodLink RX7 94 yX0_fromOf, Cond.static yX0_fromOf, Cond.code yX0_fromOf cX0_fromOf 1 (some .int), Cond.methodLink RL 27 yX8_forget, Cond.instanceMethod yX8_forget, Cond.selects RX8 yX8_forget yX8_forget, Cond.code yX8_forget cX8_forget 4 (some .int), Cond.methodLink RX8 136 yX8_isGround, Cond.instanceMethod yX8_isGround, Cond.selects RX8 yX8_isGround yX8_isGround, Cond.code yX8_isGround cX8_isGround 2 (some .boolean), Cond.methodLink RL 28 yX7_copy, Cond.instanceMethod yX7_copy, Cond.selects RX7 yX7_copy yX7_copy, Cond.code yX7_copy cX7_copy 3 (some .int)]
def wsL_law_r11 : List Cond := [Cond.methodLink RX7 97 yX7_shadowOfRegister, Cond.instanceMethod yX7_shadowOfRegister, Cond.selects RX7 yX7_shadowOfRegister yX7_shadowOfRegister, Cond.code yX7_shadowOfRegister cX7_shadowOfRegister 2 (some .int), Cond.methodLink RL 31 yX8_copy, Cond.instanceMethod yX8_copy, Cond.selects RX8 yX8_copy yX8_copy, Cond.code yX8_copy cX8_copy 3 (some .int), Cond.methodLink RL 32 yX7_load, Cond.instanceMethod yX7_load, Cond.selects RX7 yX7_load yX7_load, Cond.code yX7_load cX7_load 3 (some .int), Cond.methodLink RX7 100 yX7_isOctet, Cond.static yX7_isOctet, Cond.code yX7_isOctet cX7_isOctet 1 (some .boolean), Cond.methodLink RX7 103 yX7_readOctet, Cond.instanceMethod yX7_readOctet, Cond.selects RX7 yX7_readOctet yX7_readOctet, Cond.code yX7_readOctet cX7_readOctet 3 (some .int), Cond.fieldLink RX7 215 "BitShadows$Grounds" "lastOver" "[I", Cond.methodLink RX7 212 yX4_isDead, Cond.instanceMethod yX4_isDead, Cond.selects RX4 yX4_isDead yX4_isDead, Cond.code yX4_isDead cX4_isDead 2 (some .boolean)]
def wsL_law_r12 : List Cond := [Cond.methodLink RX7 133 yX2_add, Cond.instanceMethod yX2_add, Cond.selects RX2 yX2_add yX2_add, Cond.code yX2_add cX2_add 4 none, Cond.methodLink RL 35 yX8_load, Cond.instanceMethod yX8_load, Cond.selects RX8 yX8_load yX8_load, Cond.code yX8_load cX8_load 3 (some .int), Cond.methodLink RX8 146 yX8_isOctet, Cond.static yX8_isOctet, Cond.code yX8_isOctet cX8_isOctet 1 (some .boolean), Cond.methodLink RX8 149 yX8_loadNow, Cond.instanceMethod yX8_loadNow, Cond.selects RX8 yX8_loadNow yX8_loadNow, Cond.code yX8_loadNow cX8_loadNow 4 (some .int), Cond.methodLink RX8 143 yX8_read, Cond.instanceMethod yX8_read, Cond.selects RX8 yX8_read yX8_read, Cond.code yX8_read cX8_read 2 none, Cond.methodLink RX8 139 yX8_cries, Cond.instanceMethod yX8_cries, Cond.selects RX8 yX8_cries yX8_cries, Cond.code yX8_cries cX8_cries 3 none, Cond.methodLink RL 36 yX7_part]
def wsL_law_r13 : List Cond := [Cond.instanceMethod yX7_part, Cond.selects RX7 yX7_part yX7_part, Cond.code yX7_part cX7_part 5 (some .int), Cond.methodLink RX7 106 yX0_partOf, Cond.static yX0_partOf, Cond.code yX0_partOf cX0_partOf 4 (some .int), Cond.methodLink RX0 9 yX0_valueOf, Cond.methodLink RX0 15 yX0_shadowOf, Cond.methodLink RX0 21 yX0_fromOf, Cond.methodLink RX0 24 yX0_of, Cond.methodLink RL 40 yX8_part, Cond.instanceMethod yX8_part, Cond.selects RX8 yX8_part yX8_part, Cond.code yX8_part cX8_part 7 (some .int), Cond.constantLong RX8 152 (8), Cond.methodLink RL 41 yX7_store, Cond.instanceMethod yX7_store, Cond.selects RX7 yX7_store yX7_store, Cond.code yX7_store cX7_store 3 (some .int), Cond.methodLink RX7 109 yX7_changeOctet, Cond.instanceMethod yX7_changeOctet, Cond.selects RX7 yX7_changeOctet yX7_changeOctet, Cond.code yX7_changeOctet cX7_changeOctet 3 none, Cond.fieldLink RX7 153 "BitShadows$House" "dead" "I"]
def wsL_law_r14 : List Cond := [Cond.methodLink RX7 156 yX7_octetSet, Cond.static yX7_octetSet, Cond.code yX7_octetSet cX7_octetSet 2 (some .int), Cond.methodLink RL 44 yX8_store, Cond.instanceMethod yX8_store, Cond.selects RX8 yX8_store yX8_store, Cond.code yX8_store cX8_store 3 (some .int), Cond.methodLink RX8 154 yX8_storeNow, Cond.instanceMethod yX8_storeNow, Cond.selects RX8 yX8_storeNow yX8_storeNow, Cond.code yX8_storeNow cX8_storeNow 3 (some .int), Cond.methodLink RL 45 yX7_loadAt, Cond.instanceMethod yX7_loadAt, Cond.selects RX7 yX7_loadAt yX7_loadAt, Cond.code yX7_loadAt cX7_loadAt 3 (some .int), Cond.methodLink RX7 112 yX7_placeAt, Cond.instanceMethod yX7_placeAt, Cond.selects RX7 yX7_placeAt yX7_placeAt, Cond.code yX7_placeAt cX7_placeAt 3 (some .int), Cond.methodLink RL 48 yX8_loadAt, Cond.instanceMethod yX8_loadAt, Cond.selects RX8 yX8_loadAt yX8_loadAt, Cond.code yX8_loadAt cX8_loadAt 3 (some .int), Cond.methodLink RX8 157 yX8_placeBy]
def wsL_law_r15 : List Cond := [Cond.instanceMethod yX8_placeBy, Cond.selects RX8 yX8_placeBy yX8_placeBy, Cond.code yX8_placeBy cX8_placeBy 2 (some .int), Cond.methodLink RL 49 yX7_storeAt, Cond.instanceMethod yX7_storeAt, Cond.selects RX7 yX7_storeAt yX7_storeAt, Cond.code yX7_storeAt cX7_storeAt 3 (some .int), Cond.methodLink RL 52 yX8_storeAt, Cond.instanceMethod yX8_storeAt, Cond.selects RX8 yX8_storeAt yX8_storeAt, Cond.code yX8_storeAt cX8_storeAt 3 (some .int), Cond.methodLink RL 53 yX7_rule, Cond.instanceMethod yX7_rule, Cond.selects RX7 yX7_rule yX7_rule, Cond.code yX7_rule cX7_rule 5 (some .int), Cond.methodLink RX7 115 yX7_isSort, Cond.static yX7_isSort, Cond.code yX7_isSort cX7_isSort 1 (some .boolean), Cond.methodLink RX7 121 yX6_slackOf, Cond.static yX6_slackOf, Cond.initialized RX6, Cond.code yX6_slackOf cX6_slackOf 7 (some .int), Cond.methodLink RX6 22 yX0_valueOf, Cond.methodLink RX6 28 yX0_shadowOf]
def wsL_law_r16 : List Cond := [Cond.methodLink RX6 15 yX6_shadowBy, Cond.static yX6_shadowBy, Cond.code yX6_shadowBy cX6_shadowBy 9 (some .int), Cond.methodLink RX6 9 yX6_valueBy, Cond.static yX6_valueBy, Cond.code yX6_valueBy cX6_valueBy 3 (some .int), Cond.methodLink RX6 37 yX6_exactBy, Cond.static yX6_exactBy, Cond.code yX6_exactBy cX6_exactBy 5 (some .int), Cond.methodLink RX6 19 yX6_exactShift, Cond.static yX6_exactShift, Cond.code yX6_exactShift cX6_exactShift 9 (some .int), Cond.methodLink RX6 40 yJ6_bitCount_0f7a4, Cond.static yJ6_bitCount_0f7a4, Cond.initialized RJ6, Cond.code yJ6_bitCount_0f7a4 cJ6_bitCount_0f7a4 1 (some .int), Cond.constant RJ6 265 (1431655765), Cond.constant RJ6 266 (858993459), Cond.constant RJ6 267 (252645135), Cond.methodLink RX7 126 yX7_followRule, Cond.instanceMethod yX7_followRule, Cond.selects RX7 yX7_followRule yX7_followRule, Cond.code yX7_followRule cX7_followRule 5 (some .int), Cond.methodLink RX7 270 yX6_cellBy]
def wsL_law_r17 : List Cond := [Cond.static yX6_cellBy, Cond.code yX6_cellBy cX6_cellBy 6 (some .int), Cond.methodLink RX6 31 yX0_fromOf, Cond.methodLink RX6 34 yX0_of, Cond.methodLink RL 56 yX8_rule, Cond.instanceMethod yX8_rule, Cond.selects RX8 yX8_rule yX8_rule, Cond.code yX8_rule cX8_rule 5 (some .int), Cond.constantLong RX8 175 (6), Cond.methodLink RX8 177 yX8_ruleNow, Cond.instanceMethod yX8_ruleNow, Cond.selects RX8 yX8_ruleNow yX8_ruleNow, Cond.code yX8_ruleNow cX8_ruleNow 8 (some .int), Cond.methodLink RX8 165 yX8_shadowBy, Cond.static yX8_shadowBy, Cond.code yX8_shadowBy cX8_shadowBy 10 (some .int), Cond.methodLink RX8 161 yX8_valueBy, Cond.static yX8_valueBy, Cond.code yX8_valueBy cX8_valueBy 3 (some .int), Cond.methodLink RX8 169 yX8_exactBy, Cond.static yX8_exactBy, Cond.code yX8_exactBy cX8_exactBy 10 (some .int), Cond.methodLink RX8 172 yX8_bits, Cond.static yX8_bits]
def wsL_law_r18 : List Cond := [Cond.code yX8_bits cX8_bits 3 (some .int), Cond.methodLink RL 57 yX7_decide, Cond.instanceMethod yX7_decide, Cond.selects RX7 yX7_decide yX7_decide, Cond.code yX7_decide cX7_decide 3 (some .int), Cond.methodLink RX7 130 yX0_isDecided, Cond.static yX0_isDecided, Cond.code yX0_isDecided cX0_isDecided 1 (some .boolean), Cond.methodLink RX0 18 yX0_leastOf, Cond.static yX0_leastOf, Cond.code yX0_leastOf cX0_leastOf 1 (some .int), Cond.methodLink RL 61 yX8_decide, Cond.instanceMethod yX8_decide, Cond.selects RX8 yX8_decide yX8_decide, Cond.code yX8_decide cX8_decide 2 (some .int), Cond.methodLink RX8 184 yX8_decideNow, Cond.instanceMethod yX8_decideNow, Cond.selects RX8 yX8_decideNow yX8_decideNow, Cond.code yX8_decideNow cX8_decideNow 2 (some .int), Cond.methodLink RX8 181 yX8_isDecided, Cond.instanceMethod yX8_isDecided, Cond.selects RX8 yX8_isDecided yX8_isDecided, Cond.code yX8_isDecided cX8_isDecided 2 (some .boolean), Cond.methodLink RL 62 yX7_let]
def wsL_law_r19 : List Cond := [Cond.instanceMethod yX7_let, Cond.selects RX7 yX7_let yX7_let, Cond.code yX7_let cX7_let 5 (some .int), Cond.constant RX7 141 (-1000000003), Cond.fieldLink RX7 142 "BitShadows$Grounds" "count" "I", Cond.constant RX7 145 (-1000000004), Cond.methodLink RX7 137 yX3_anyIsLet, Cond.instanceMethod yX3_anyIsLet, Cond.selects RX3 yX3_anyIsLet yX3_anyIsLet, Cond.code yX3_anyIsLet cX3_anyIsLet 5 (some .boolean), Cond.methodLink RX3 28 yX3_isLet, Cond.instanceMethod yX3_isLet, Cond.selects RX3 yX3_isLet yX3_isLet, Cond.code yX3_isLet cX3_isLet 2 (some .boolean), Cond.methodLink RX7 146 yX3_open, Cond.instanceMethod yX3_open, Cond.selects RX3 yX3_open yX3_open, Cond.code yX3_open cX3_open 5 (some .int), Cond.methodLink RX7 149 yX7_nextLot, Cond.instanceMethod yX7_nextLot, Cond.selects RX7 yX7_nextLot yX7_nextLot, Cond.code yX7_nextLot cX7_nextLot 1 (some .int), Cond.constantLong RX7 273 (16807), Cond.constantLong RX7 275 (2147483647)]
def wsL_law_r20 : List Cond := [Cond.methodLink RL 65 yX8_let, Cond.instanceMethod yX8_let, Cond.selects RX8 yX8_let yX8_let, Cond.code yX8_let cX8_let 4 (some .int), Cond.constant RX8 187 (-1000000003), Cond.constant RX8 188 (-1000000004), Cond.methodLink RX8 189 yX8_lotBy, Cond.instanceMethod yX8_lotBy, Cond.selects RX8 yX8_lotBy yX8_lotBy, Cond.code yX8_lotBy cX8_lotBy 2 (some .int), Cond.constantLong RX8 111 (16807), Cond.constantLong RX8 113 (2147483647), Cond.methodLink RL 66 yX7_giveBack, Cond.instanceMethod yX7_giveBack, Cond.selects RX7 yX7_giveBack yX7_giveBack, Cond.code yX7_giveBack cX7_giveBack 2 (some .int), Cond.fieldLink RX7 166 "BitShadows$Grounds" "firsts" "[I", Cond.fieldLink RX7 169 "BitShadows$Grounds" "lengths" "[I", Cond.fieldLink RX7 172 "BitShadows$Grounds" "letSet" "I", Cond.methodLink RX7 159 yX3_isLet, Cond.methodLink RX7 162 yX3_close, Cond.instanceMethod yX3_close, Cond.selects RX3 yX3_close yX3_close, Cond.code yX3_close cX3_close 2 none]
def wsL_law_r21 : List Cond := [Cond.methodLink RX7 175 yJ6_bitCount_0f7a4, Cond.methodLink RL 69 yX8_giveBack, Cond.instanceMethod yX8_giveBack, Cond.selects RX8 yX8_giveBack yX8_giveBack, Cond.code yX8_giveBack cX8_giveBack 3 (some .int), Cond.methodLink RX8 192 yX8_letOnes, Cond.instanceMethod yX8_letOnes, Cond.selects RX8 yX8_letOnes yX8_letOnes, Cond.code yX8_letOnes cX8_letOnes 3 (some .int), Cond.methodLink RL 70 yX7_drift, Cond.instanceMethod yX7_drift, Cond.selects RX7 yX7_drift yX7_drift, Cond.code yX7_drift cX7_drift 3 (some .int), Cond.fieldLink RX7 183 "BitShadows$Cries" "counted" "I", Cond.methodLink RX7 180 yX7_doByLots, Cond.instanceMethod yX7_doByLots, Cond.selects RX7 yX7_doByLots yX7_doByLots, Cond.code yX7_doByLots cX7_doByLots 5 none, Cond.methodLink RX7 277 yX7_load, Cond.methodLink RX7 280 yX7_store, Cond.methodLink RX7 283 yX7_decide, Cond.methodLink RL 73 yX8_drift, Cond.instanceMethod yX8_drift, Cond.selects RX8 yX8_drift yX8_drift]
def wsL_law_r22 : List Cond := [Cond.code yX8_drift cX8_drift 3 (some .int), Cond.constantLong RX8 204 (40), Cond.methodLink RX8 206 yX8_doByLots, Cond.instanceMethod yX8_doByLots, Cond.selects RX8 yX8_doByLots yX8_doByLots, Cond.code yX8_doByLots cX8_doByLots 7 none, Cond.methodLink RX8 195 yX8_load, Cond.methodLink RX8 198 yX8_store, Cond.methodLink RX8 201 yX8_decide, Cond.methodLink RL 74 yX7_lot, Cond.instanceMethod yX7_lot, Cond.selects RX7 yX7_lot yX7_lot, Cond.code yX7_lot cX7_lot 3 (some .int), Cond.constant RX7 186 (2147483647), Cond.methodLink RL 77 yX8_lot, Cond.instanceMethod yX8_lot, Cond.selects RX8 yX8_lot yX8_lot, Cond.code yX8_lot cX8_lot 3 (some .int), Cond.constantLong RX8 209 (2147483646), Cond.methodLink RL 78 yX7_undo, Cond.instanceMethod yX7_undo, Cond.selects RX7 yX7_undo yX7_undo, Cond.code yX7_undo cX7_undo 1 (some .int), Cond.fieldLink RX7 190 "BitShadows$Changes" "count" "I"]
def wsL_law_r23 : List Cond := [Cond.methodLink RX7 191 yX1_takeBackLatest, Cond.instanceMethod yX1_takeBackLatest, Cond.selects RX1 yX1_takeBackLatest yX1_takeBackLatest, Cond.code yX1_takeBackLatest cX1_takeBackLatest 2 none, Cond.methodLink RL 81 yX8_undo, Cond.instanceMethod yX8_undo, Cond.selects RX8 yX8_undo yX8_undo, Cond.code yX8_undo cX8_undo 2 (some .int), Cond.methodLink RL 82 yX7_told, Cond.instanceMethod yX7_told, Cond.selects RX7 yX7_told yX7_told, Cond.code yX7_told cX7_told 2 (some .int), Cond.fieldLink RX7 195 "BitShadows$Cries" "kept" "I", Cond.fieldLink RX7 198 "BitShadows$Ring" "count" "I", Cond.methodLink RX7 199 yX4_unknownBits, Cond.instanceMethod yX4_unknownBits, Cond.selects RX4 yX4_unknownBits yX4_unknownBits, Cond.code yX4_unknownBits cX4_unknownBits 5 (some .int), Cond.methodLink RX4 25 yX0_shadowOf, Cond.methodLink RX4 31 yJ6_bitCount_0f7a4, Cond.methodLink RL 85 yX8_told, Cond.instanceMethod yX8_told, Cond.selects RX8 yX8_told yX8_told, Cond.code yX8_told cX8_told 2 (some .int)]
def wsL_law_r24 : List Cond := [Cond.methodLink RX8 211 yX8_keptCries, Cond.instanceMethod yX8_keptCries, Cond.selects RX8 yX8_keptCries yX8_keptCries, Cond.code yX8_keptCries cX8_keptCries 1 (some .int), Cond.methodLink RX8 214 yX8_deadMany, Cond.instanceMethod yX8_deadMany, Cond.selects RX8 yX8_deadMany yX8_deadMany, Cond.code yX8_deadMany cX8_deadMany 3 (some .int), Cond.methodLink RX8 217 yX8_unknownBits, Cond.instanceMethod yX8_unknownBits, Cond.selects RX8 yX8_unknownBits yX8_unknownBits, Cond.code yX8_unknownBits cX8_unknownBits 5 (some .int), Cond.methodLink RL 86 yX7_mark, Cond.instanceMethod yX7_mark, Cond.selects RX7 yX7_mark yX7_mark, Cond.code yX7_mark cX7_mark 1 (some .long), Cond.methodLink RL 90 yX8_mark, Cond.instanceMethod yX8_mark, Cond.selects RX8 yX8_mark yX8_mark, Cond.code yX8_mark cX8_mark 1 (some .long), Cond.methodLink RL 91 yX7_register, Cond.instanceMethod yX7_register, Cond.selects RX7 yX7_register yX7_register, Cond.code yX7_register cX7_register 4 (some .int)]
def wsL_law_r25 : List Cond := [Cond.methodLink RX7 206 yX0_leastOf, Cond.methodLink RX7 209 yX0_mostOf, Cond.static yX0_mostOf, Cond.code yX0_mostOf cX0_mostOf 1 (some .int), Cond.methodLink RL 94 yX8_register, Cond.instanceMethod yX8_register, Cond.selects RX8 yX8_register yX8_register, Cond.code yX8_register cX8_register 3 (some .int), Cond.methodLink RL 95 yX7_octet, Cond.instanceMethod yX7_octet, Cond.selects RX7 yX7_octet yX7_octet, Cond.code yX7_octet cX7_octet 4 (some .int), Cond.methodLink RL 98 yX8_octet, Cond.instanceMethod yX8_octet, Cond.selects RX8 yX8_octet yX8_octet, Cond.code yX8_octet cX8_octet 3 (some .int), Cond.methodLink RL 99 yX7_ground, Cond.instanceMethod yX7_ground, Cond.selects RX7 yX7_ground yX7_ground, Cond.code yX7_ground cX7_ground 3 (some .int), Cond.methodLink RX7 218 yX2_countNaming, Cond.instanceMethod yX2_countNaming, Cond.selects RX2 yX2_countNaming yX2_countNaming, Cond.code yX2_countNaming cX2_countNaming 4 (some .int)]
def wsL_law_r26 : List Cond := [Cond.methodLink RL 102 yX8_ground, Cond.instanceMethod yX8_ground, Cond.selects RX8 yX8_ground yX8_ground, Cond.code yX8_ground cX8_ground 3 (some .int), Cond.methodLink RX8 220 yX8_criesOf, Cond.instanceMethod yX8_criesOf, Cond.selects RX8 yX8_criesOf yX8_criesOf, Cond.code yX8_criesOf cX8_criesOf 4 (some .int), Cond.methodLink RL 103 yX7_cry, Cond.instanceMethod yX7_cry, Cond.selects RX7 yX7_cry yX7_cry, Cond.code yX7_cry cX7_cry 3 (some .int), Cond.fieldLink RX7 221 "BitShadows$Cries" "kinds" "[I", Cond.fieldLink RX7 224 "BitShadows$Cries" "ticks" "[I", Cond.fieldLink RX7 226 "BitShadows$Cries" "groundSets" "[I", Cond.methodLink RL 106 yX8_cry, Cond.instanceMethod yX8_cry, Cond.selects RX8 yX8_cry yX8_cry, Cond.code yX8_cry cX8_cry 3 (some .int), Cond.methodLink RL 107 yX7_ring, Cond.instanceMethod yX7_ring, Cond.selects RX7 yX7_ring yX7_ring, Cond.code yX7_ring cX7_ring 4 (some .int), Cond.fieldLink RX7 232 "BitShadows$Ring" "kinds" "[I"]
def wsL_law_r27 : List Cond := [Cond.fieldLink RX7 233 "BitShadows$Ring" "ticks" "[I", Cond.fieldLink RX7 234 "BitShadows$Ring" "answers" "[I", Cond.methodLink RX7 229 yX5_placeOf, Cond.instanceMethod yX5_placeOf, Cond.selects RX5 yX5_placeOf yX5_placeOf, Cond.code yX5_placeOf cX5_placeOf 2 (some .int), Cond.methodLink RL 110 yX8_ring, Cond.instanceMethod yX8_ring, Cond.selects RX8 yX8_ring yX8_ring, Cond.code yX8_ring cX8_ring 3 (some .int), Cond.constantLong RX8 223 (2), Cond.methodLink RL 111 yX7_shadow, Cond.instanceMethod yX7_shadow, Cond.selects RX7 yX7_shadow yX7_shadow, Cond.code yX7_shadow cX7_shadow 6 (some .int), Cond.methodLink RX7 237 yX6_shadowBy, Cond.methodLink RL 115 yX8_shadow, Cond.instanceMethod yX8_shadow, Cond.selects RX8 yX8_shadow yX8_shadow, Cond.code yX8_shadow cX8_shadow 6 (some .int), Cond.methodLink RX8 225 yX8_areWell, Cond.static yX8_areWell, Cond.code yX8_areWell cX8_areWell 5 (some .boolean), Cond.methodLink RL 116 yX7_exact]
def wsL_law_r28 : List Cond := [Cond.instanceMethod yX7_exact, Cond.selects RX7 yX7_exact yX7_exact, Cond.code yX7_exact cX7_exact 6 (some .int), Cond.methodLink RX7 241 yX6_exactBy, Cond.methodLink RL 119 yX8_exact, Cond.instanceMethod yX8_exact, Cond.selects RX8 yX8_exact yX8_exact, Cond.code yX8_exact cX8_exact 6 (some .int), Cond.methodLink RL 120 yX7_keep, Cond.instanceMethod yX7_keep, Cond.selects RX7 yX7_keep yX7_keep, Cond.code yX7_keep cX7_keep 2 (some .int), Cond.methodLink RX7 244 yX7_isImage, Cond.static yX7_isImage, Cond.code yX7_isImage cX7_isImage 1 (some .boolean), Cond.methodLink RX7 247 yX7_imageOf, Cond.instanceMethod yX7_imageOf, Cond.selects RX7 yX7_imageOf yX7_imageOf, Cond.code yX7_imageOf cX7_imageOf 2 (some (.object "BitShadows$House")), Cond.methodLink RX7 251 yX4_becomeAs, Cond.instanceMethod yX4_becomeAs, Cond.selects RX4 yX4_becomeAs yX4_becomeAs, Cond.code yX4_becomeAs cX4_becomeAs 2 none, Cond.methodLink RX4 19 arraycopyName]
def wsL_law_r29 : List Cond := [Cond.native arraycopyName, Cond.static arraycopyName, Cond.initialized "java/lang/System", Cond.methodLink RL 123 yX8_keep, Cond.instanceMethod yX8_keep, Cond.selects RX8 yX8_keep yX8_keep, Cond.code yX8_keep cX8_keep 3 (some .int), Cond.methodLink RL 124 yX7_goBack, Cond.instanceMethod yX7_goBack, Cond.selects RX7 yX7_goBack yX7_goBack, Cond.code yX7_goBack cX7_goBack 2 (some .int), Cond.methodLink RL 127 yX8_goBack, Cond.instanceMethod yX8_goBack, Cond.selects RX8 yX8_goBack yX8_goBack, Cond.code yX8_goBack cX8_goBack 3 (some .int)]
def wsL_law : List Cond := (wsL_law_r1 ++ (wsL_law_r2 ++ (wsL_law_r3 ++ (wsL_law_r4 ++ (wsL_law_r5 ++ (wsL_law_r6 ++ (wsL_law_r7 ++ (wsL_law_r8 ++ (wsL_law_r9 ++ (wsL_law_r10 ++ (wsL_law_r11 ++ (wsL_law_r12 ++ (wsL_law_r13 ++ (wsL_law_r14 ++ (wsL_law_r15 ++ (wsL_law_r16 ++ (wsL_law_r17 ++ (wsL_law_r18 ++ (wsL_law_r19 ++ (wsL_law_r20 ++ (wsL_law_r21 ++ (wsL_law_r22 ++ (wsL_law_r23 ++ (wsL_law_r24 ++ (wsL_law_r25 ++ (wsL_law_r26 ++ (wsL_law_r27 ++ (wsL_law_r28 ++ wsL_law_r29)))))))))))))))))))))))))))) ++ wsX70 ++ wsX80 ++ wsX40 ++ wsX30 ++ wsX20 ++ wsX50 ++ wsX10 ++ ([] : List Cond)
abbrev vwCl : List vw_C := [(RX1, TX1, 4), (RX2, TX2, 5), (RX3, TX3, 5), (RX4, TX4, 2), (RX5, TX5, 5), (RX7, TX7, 12), (RX8, TX8, 28)]
end
section
set_option maxRecDepth 20000 in
theorem wsL_law_r1_in : ∀ w ∈ wsL_law_r1, w ∈ lw_tbl := fun w h => (goodIn_p wsL_law_r1 [47, 50] (by decide +kernel) (by decide +kernel) w h).1
set_option maxRecDepth 20000 in
theorem wsL_law_r2_in : ∀ w ∈ wsL_law_r2, w ∈ lw_tbl := fun w h => (goodIn_p wsL_law_r2 [55, 71, 98] (by decide +kernel) (by decide +kernel) w h).1
set_option maxRecDepth 20000 in
theorem wsL_law_r3_in : ∀ w ∈ wsL_law_r3, w ∈ lw_tbl := fun w h => (goodIn_p wsL_law_r3 [125, 151, 170] (by decide +kernel) (by decide +kernel) w h).1
set_option maxRecDepth 20000 in
theorem wsL_law_r4_in : ∀ w ∈ wsL_law_r4, w ∈ lw_tbl := fun w h => (goodIn_p wsL_law_r4 [174, 178, 182, 186] (by decide +kernel) (by decide +kernel) w h).1
set_option maxRecDepth 20000 in
theorem wsL_law_r5_in : ∀ w ∈ wsL_law_r5, w ∈ lw_tbl := fun w h => (goodIn_p wsL_law_r5 [190, 535] (by decide +kernel) (by decide +kernel) w h).1
set_option maxRecDepth 20000 in
theorem wsL_law_r6_in : ∀ w ∈ wsL_law_r6, w ∈ lw_tbl := fun w h => (goodIn_p wsL_law_r6 [540, 231] (by decide +kernel) (by decide +kernel) w h).1
set_option maxRecDepth 20000 in
theorem wsL_law_r7_in : ∀ w ∈ wsL_law_r7, w ∈ lw_tbl := fun w h => (goodIn_p wsL_law_r7 [235, 238, 242, 246, 249, 253] (by decide +kernel) (by decide +kernel) w h).1
set_option maxRecDepth 20000 in
theorem wsL_law_r8_in : ∀ w ∈ wsL_law_r8, w ∈ lw_tbl := fun w h => (goodIn_p wsL_law_r8 [257, 260, 264, 268, 631] (by decide +kernel) (by decide +kernel) w h).1
set_option maxRecDepth 20000 in
theorem wsL_law_r9_in : ∀ w ∈ wsL_law_r9, w ∈ lw_tbl := fun w h => (goodIn_p wsL_law_r9 [634, 638, 642, 648, 652, 656] (by decide +kernel) (by decide +kernel) w h).1
set_option maxRecDepth 20000 in
theorem wsL_law_r10_in : ∀ w ∈ wsL_law_r10, w ∈ lw_tbl := fun w h => (goodIn_p wsL_law_r10 [274, 278, 281, 284, 661, 665, 288] (by decide +kernel) (by decide +kernel) w h).1
set_option maxRecDepth 20000 in
theorem wsL_law_r11_in : ∀ w ∈ wsL_law_r11, w ∈ lw_tbl := fun w h => (goodIn_p wsL_law_r11 [292, 669, 296, 299, 303, 307] (by decide +kernel) (by decide +kernel) w h).1
set_option maxRecDepth 20000 in
theorem wsL_law_r12_in : ∀ w ∈ wsL_law_r12, w ∈ lw_tbl := fun w h => (goodIn_p wsL_law_r12 [311, 673, 676, 680, 684, 688] (by decide +kernel) (by decide +kernel) w h).1
set_option maxRecDepth 20000 in
theorem wsL_law_r13_in : ∀ w ∈ wsL_law_r13, w ∈ lw_tbl := fun w h => (goodIn_p wsL_law_r13 [315, 318, 692, 326, 330] (by decide +kernel) (by decide +kernel) w h).1
set_option maxRecDepth 20000 in
theorem wsL_law_r14_in : ∀ w ∈ wsL_law_r14, w ∈ lw_tbl := fun w h => (goodIn_p wsL_law_r14 [333, 697, 701, 337, 341, 705] (by decide +kernel) (by decide +kernel) w h).1
end
section
set_option maxRecDepth 20000 in
theorem wsL_law_r15_in : ∀ w ∈ wsL_law_r15, w ∈ lw_tbl := fun w h => (goodIn_p wsL_law_r15 [709, 345, 713, 349, 352, 355] (by decide +kernel) (by decide +kernel) w h).1
set_option maxRecDepth 20000 in
theorem wsL_law_r16_in : ∀ w ∈ wsL_law_r16, w ∈ lw_tbl := fun w h => (goodIn_p wsL_law_r16 [360, 363, 366, 369, 372, 379] (by decide +kernel) (by decide +kernel) w h).1
set_option maxRecDepth 20000 in
theorem wsL_law_r17_in : ∀ w ∈ wsL_law_r17, w ∈ lw_tbl := fun w h => (goodIn_p wsL_law_r17 [382, 717, 722, 725, 728, 731] (by decide +kernel) (by decide +kernel) w h).1
set_option maxRecDepth 20000 in
theorem wsL_law_r18_in : ∀ w ∈ wsL_law_r18, w ∈ lw_tbl := fun w h => (goodIn_p wsL_law_r18 [734, 388, 391, 394, 738, 742, 746] (by decide +kernel) (by decide +kernel) w h).1
set_option maxRecDepth 20000 in
theorem wsL_law_r19_in : ∀ w ∈ wsL_law_r19, w ∈ lw_tbl := fun w h => (goodIn_p wsL_law_r19 [398, 402, 406, 412, 416] (by decide +kernel) (by decide +kernel) w h).1
set_option maxRecDepth 20000 in
theorem wsL_law_r20_in : ∀ w ∈ wsL_law_r20, w ∈ lw_tbl := fun w h => (goodIn_p wsL_law_r20 [750, 756, 422, 427] (by decide +kernel) (by decide +kernel) w h).1
set_option maxRecDepth 20000 in
theorem wsL_law_r21_in : ∀ w ∈ wsL_law_r21, w ∈ lw_tbl := fun w h => (goodIn_p wsL_law_r21 [762, 766, 432, 436] (by decide +kernel) (by decide +kernel) w h).1
set_option maxRecDepth 20000 in
theorem wsL_law_r22_in : ∀ w ∈ wsL_law_r22, w ∈ lw_tbl := fun w h => (goodIn_p wsL_law_r22 [770, 775, 443, 782, 448] (by decide +kernel) (by decide +kernel) w h).1
set_option maxRecDepth 20000 in
theorem wsL_law_r23_in : ∀ w ∈ wsL_law_r23, w ∈ lw_tbl := fun w h => (goodIn_p wsL_law_r23 [452, 787, 456, 460, 791] (by decide +kernel) (by decide +kernel) w h).1
set_option maxRecDepth 20000 in
theorem wsL_law_r24_in : ∀ w ∈ wsL_law_r24, w ∈ lw_tbl := fun w h => (goodIn_p wsL_law_r24 [795, 799, 803, 466, 807, 470] (by decide +kernel) (by decide +kernel) w h).1
set_option maxRecDepth 20000 in
theorem wsL_law_r25_in : ∀ w ∈ wsL_law_r25, w ∈ lw_tbl := fun w h => (goodIn_p wsL_law_r25 [474, 811, 478, 815, 482, 486] (by decide +kernel) (by decide +kernel) w h).1
set_option maxRecDepth 20000 in
theorem wsL_law_r26_in : ∀ w ∈ wsL_law_r26, w ∈ lw_tbl := fun w h => (goodIn_p wsL_law_r26 [819, 823, 490, 827, 494] (by decide +kernel) (by decide +kernel) w h).1
set_option maxRecDepth 20000 in
theorem wsL_law_r27_in : ∀ w ∈ wsL_law_r27, w ∈ lw_tbl := fun w h => (goodIn_p wsL_law_r27 [498, 831, 502, 836, 839] (by decide +kernel) (by decide +kernel) w h).1
set_option maxRecDepth 20000 in
theorem wsL_law_r28_in : ∀ w ∈ wsL_law_r28, w ∈ lw_tbl := fun w h => (goodIn_p wsL_law_r28 [507, 843, 512, 515, 519, 523] (by decide +kernel) (by decide +kernel) w h).1
set_option maxRecDepth 20000 in
theorem wsL_law_r29_in : ∀ w ∈ wsL_law_r29, w ∈ lw_tbl := fun w h => (goodIn_p wsL_law_r29 [847, 530, 851] (by decide +kernel) (by decide +kernel) w h).1
theorem inX7 : ∀ w ∈ wsX70, w ∈ lw_tbl := by decide +kernel
theorem inX8 : ∀ w ∈ wsX80, w ∈ lw_tbl := by decide +kernel
theorem inX4 : ∀ w ∈ wsX40, w ∈ lw_tbl := by decide +kernel
theorem inX3 : ∀ w ∈ wsX30, w ∈ lw_tbl := by decide +kernel
theorem inX2 : ∀ w ∈ wsX20, w ∈ lw_tbl := by decide +kernel
theorem inX5 : ∀ w ∈ wsX50, w ∈ lw_tbl := by decide +kernel
theorem inX1 : ∀ w ∈ wsX10, w ∈ lw_tbl := by decide +kernel
theorem wsL_law_in : ∀ w ∈ wsL_law, w ∈ lw_tbl := List.forall_mem_append.mpr ⟨List.forall_mem_append.mpr ⟨List.forall_mem_append.mpr ⟨List.forall_mem_append.mpr ⟨List.forall_mem_append.mpr ⟨List.forall_mem_append.mpr ⟨List.forall_mem_append.mpr ⟨List.forall_mem_append.mpr ⟨List.forall_mem_append.mpr ⟨wsL_law_r1_in, List.forall_mem_append.mpr ⟨wsL_law_r2_in, List.forall_mem_append.mpr ⟨wsL_law_r3_in, List.forall_mem_append.mpr ⟨wsL_law_r4_in, List.forall_mem_append.mpr ⟨wsL_law_r5_in, List.forall_mem_append.mpr ⟨wsL_law_r6_in, List.forall_mem_append.mpr ⟨wsL_law_r7_in, List.forall_mem_append.mpr ⟨wsL_law_r8_in, List.forall_mem_append.mpr ⟨wsL_law_r9_in, List.forall_mem_append.mpr ⟨wsL_law_r10_in, List.forall_mem_append.mpr ⟨wsL_law_r11_in, List.forall_mem_append.mpr ⟨wsL_law_r12_in, List.forall_mem_append.mpr ⟨wsL_law_r13_in, List.forall_mem_append.mpr ⟨wsL_law_r14_in, List.forall_mem_append.mpr ⟨wsL_law_r15_in, List.forall_mem_append.mpr ⟨wsL_law_r16_in, List.forall_mem_append.mpr ⟨wsL_law_r17_in, List.forall_mem_append.mpr ⟨wsL_law_r18_in, List.forall_mem_append.mpr ⟨wsL_law_r19_in, List.forall_mem_append.mpr ⟨wsL_law_r20_in, List.forall_mem_append.mpr ⟨wsL_law_r21_in, List.forall_mem_append.mpr ⟨wsL_law_r22_in, List.forall_mem_append.mpr ⟨wsL_law_r23_in, List.forall_mem_append.mpr ⟨wsL_law_r24_in, List.forall_mem_append.mpr ⟨wsL_law_r25_in, List.forall_mem_append.mpr ⟨wsL_law_r26_in, List.forall_mem_append.mpr ⟨wsL_law_r27_in, List.forall_mem_append.mpr ⟨wsL_law_r28_in, wsL_law_r29_in⟩⟩⟩⟩⟩⟩⟩⟩⟩⟩⟩⟩⟩⟩⟩⟩⟩⟩⟩⟩⟩⟩⟩⟩⟩⟩⟩⟩, inX7⟩, inX8⟩, inX4⟩, inX3⟩, inX2⟩, inX5⟩, inX1⟩, fun _ h => absurd h List.not_mem_nil⟩
theorem inlX1 : ∀ w ∈ wsX10, w ∈ wsL_law := fun _ h => List.mem_append_left _ (List.mem_append_right _ h)
theorem inlX2 : ∀ w ∈ wsX20, w ∈ wsL_law := fun _ h => List.mem_append_left _ (List.mem_append_left _ (List.mem_append_left _ (List.mem_append_right _ h)))
theorem inlX3 : ∀ w ∈ wsX30, w ∈ wsL_law := fun _ h => List.mem_append_left _ (List.mem_append_left _ (List.mem_append_left _ (List.mem_append_left _ (List.mem_append_right _ h))))
theorem inlX4 : ∀ w ∈ wsX40, w ∈ wsL_law := fun _ h => List.mem_append_left _ (List.mem_append_left _ (List.mem_append_left _ (List.mem_append_left _ (List.mem_append_left _ (List.mem_append_right _ h)))))
theorem inlX5 : ∀ w ∈ wsX50, w ∈ wsL_law := fun _ h => List.mem_append_left _ (List.mem_append_left _ (List.mem_append_right _ h))
theorem inlX7 : ∀ w ∈ wsX70, w ∈ wsL_law := fun _ h => List.mem_append_left _ (List.mem_append_left _ (List.mem_append_left _ (List.mem_append_left _ (List.mem_append_left _ (List.mem_append_left _ (List.mem_append_left _ (List.mem_append_right _ h)))))))
theorem inlX8 : ∀ w ∈ wsX80, w ∈ wsL_law := fun _ h => List.mem_append_left _ (List.mem_append_left _ (List.mem_append_left _ (List.mem_append_left _ (List.mem_append_left _ (List.mem_append_left _ (List.mem_append_right _ h))))))
theorem inX0 : ∀ w ∈ wsX00, w ∈ lw_tbl := by decide +kernel
theorem inX6 : ∀ w ∈ wsX60, w ∈ lw_tbl := by decide +kernel
theorem inJ6 : ∀ w ∈ wsJ60, w ∈ lw_tbl := by decide +kernel
theorem inJ9 : ∀ w ∈ wsJ90, w ∈ lw_tbl := by decide +kernel
theorem inJ10 : ∀ w ∈ wsJ100, w ∈ lw_tbl := by decide +kernel
end
section
theorem dX0_of_0 : decode cX0_of 0 = .ok (.iload_n 1, 1) := by decide +kernel
theorem dX0_of_1 : decode cX0_of 1 = .ok (.ifCond .ne 7, 3) := by decide +kernel
theorem dX0_of_4 : decode cX0_of 4 = .ok (.iconst 0, 1) := by decide +kernel
theorem dX0_of_5 : decode cX0_of 5 = .ok (.goto 4, 3) := by decide +kernel
theorem dX0_of_8 : decode cX0_of 8 = .ok (.iload_n 2, 1) := by decide +kernel
theorem dX0_of_9 : decode cX0_of 9 = .ok (.istore_n 3, 1) := by decide +kernel
theorem dX0_of_10 : decode cX0_of 10 = .ok (.iload_n 0, 1) := by decide +kernel
theorem dX0_of_11 : decode cX0_of 11 = .ok (.iload_n 1, 1) := by decide +kernel
theorem dX0_of_12 : decode cX0_of 12 = .ok (.bipush 8, 2) := by decide +kernel
theorem dX0_of_14 : decode cX0_of 14 = .ok (.ishl, 1) := by decide +kernel
theorem dX0_of_15 : decode cX0_of 15 = .ok (.ior, 1) := by decide +kernel
theorem dX0_of_16 : decode cX0_of 16 = .ok (.iload_n 3, 1) := by decide +kernel
theorem dX0_of_17 : decode cX0_of 17 = .ok (.bipush 16, 2) := by decide +kernel
theorem dX0_of_19 : decode cX0_of 19 = .ok (.ishl, 1) := by decide +kernel
theorem dX0_of_20 : decode cX0_of 20 = .ok (.ior, 1) := by decide +kernel
theorem dX0_of_21 : decode cX0_of 21 = .ok (.ireturn, 1) := by decide +kernel
theorem dX0_valueOf_0 : decode cX0_valueOf 0 = .ok (.iload_n 0, 1) := by decide +kernel
theorem dX0_valueOf_1 : decode cX0_valueOf 1 = .ok (.sipush 255, 3) := by decide +kernel
theorem dX0_valueOf_4 : decode cX0_valueOf 4 = .ok (.iand, 1) := by decide +kernel
theorem dX0_valueOf_5 : decode cX0_valueOf 5 = .ok (.ireturn, 1) := by decide +kernel
theorem dX0_shadowOf_0 : decode cX0_shadowOf 0 = .ok (.iload_n 0, 1) := by decide +kernel
theorem dX0_shadowOf_1 : decode cX0_shadowOf 1 = .ok (.bipush 8, 2) := by decide +kernel
theorem dX0_shadowOf_3 : decode cX0_shadowOf 3 = .ok (.ishr, 1) := by decide +kernel
theorem dX0_shadowOf_4 : decode cX0_shadowOf 4 = .ok (.sipush 255, 3) := by decide +kernel
theorem dX0_shadowOf_7 : decode cX0_shadowOf 7 = .ok (.iand, 1) := by decide +kernel
theorem dX0_shadowOf_8 : decode cX0_shadowOf 8 = .ok (.ireturn, 1) := by decide +kernel
theorem dX0_fromOf_0 : decode cX0_fromOf 0 = .ok (.iload_n 0, 1) := by decide +kernel
theorem dX0_fromOf_1 : decode cX0_fromOf 1 = .ok (.bipush 16, 2) := by decide +kernel
theorem dX0_fromOf_3 : decode cX0_fromOf 3 = .ok (.ishr, 1) := by decide +kernel
theorem dX0_fromOf_4 : decode cX0_fromOf 4 = .ok (.ireturn, 1) := by decide +kernel
set_option maxRecDepth 20000 in
theorem ggX0_leastOf_X0_valueOf : GoodIn wsX0_leastOf wsX0_valueOf := goodIn_r _ [4] (by decide +kernel) (by decide +kernel)
set_option maxRecDepth 20000 in
theorem gX0_leastOf_X0_valueOf : GoodIn wsX0_leastOf (va_wsS RX0 9 yX0_valueOf wsX0_valueOf) := goodIn_app (goodIn_of _ (by decide +kernel)) ggX0_leastOf_X0_valueOf
set_option maxRecDepth 20000 in
theorem ggX0_leastOf_X0_shadowOf : GoodIn wsX0_leastOf wsX0_shadowOf := goodIn_r _ [7] (by decide +kernel) (by decide +kernel)
set_option maxRecDepth 20000 in
theorem gX0_leastOf_X0_shadowOf : GoodIn wsX0_leastOf (va_wsS RX0 15 yX0_shadowOf wsX0_shadowOf) := goodIn_app (goodIn_of _ (by decide +kernel)) ggX0_leastOf_X0_shadowOf
theorem dX0_leastOf_0 : decode cX0_leastOf 0 = .ok (.iload_n 0, 1) := by decide +kernel
theorem dX0_leastOf_1 : decode cX0_leastOf 1 = .ok (.invokestatic 9, 3) := by decide +kernel
theorem dX0_leastOf_4 : decode cX0_leastOf 4 = .ok (.iload_n 0, 1) := by decide +kernel
theorem dX0_leastOf_5 : decode cX0_leastOf 5 = .ok (.invokestatic 15, 3) := by decide +kernel
theorem dX0_leastOf_8 : decode cX0_leastOf 8 = .ok (.iconst (-1), 1) := by decide +kernel
theorem dX0_leastOf_9 : decode cX0_leastOf 9 = .ok (.ixor, 1) := by decide +kernel
theorem dX0_leastOf_10 : decode cX0_leastOf 10 = .ok (.iand, 1) := by decide +kernel
theorem dX0_leastOf_11 : decode cX0_leastOf 11 = .ok (.ireturn, 1) := by decide +kernel
set_option maxRecDepth 20000 in
theorem ggX0_mostOf_X0_valueOf : GoodIn wsX0_mostOf wsX0_valueOf := goodIn_r _ [4] (by decide +kernel) (by decide +kernel)
set_option maxRecDepth 20000 in
theorem gX0_mostOf_X0_valueOf : GoodIn wsX0_mostOf (va_wsS RX0 9 yX0_valueOf wsX0_valueOf) := goodIn_app (goodIn_of _ (by decide +kernel)) ggX0_mostOf_X0_valueOf
set_option maxRecDepth 20000 in
theorem ggX0_mostOf_X0_shadowOf : GoodIn wsX0_mostOf wsX0_shadowOf := goodIn_r _ [7] (by decide +kernel) (by decide +kernel)
set_option maxRecDepth 20000 in
theorem gX0_mostOf_X0_shadowOf : GoodIn wsX0_mostOf (va_wsS RX0 15 yX0_shadowOf wsX0_shadowOf) := goodIn_app (goodIn_of _ (by decide +kernel)) ggX0_mostOf_X0_shadowOf
theorem dX0_mostOf_0 : decode cX0_mostOf 0 = .ok (.iload_n 0, 1) := by decide +kernel
theorem dX0_mostOf_1 : decode cX0_mostOf 1 = .ok (.invokestatic 9, 3) := by decide +kernel
theorem dX0_mostOf_4 : decode cX0_mostOf 4 = .ok (.iload_n 0, 1) := by decide +kernel
theorem dX0_mostOf_5 : decode cX0_mostOf 5 = .ok (.invokestatic 15, 3) := by decide +kernel
theorem dX0_mostOf_8 : decode cX0_mostOf 8 = .ok (.ior, 1) := by decide +kernel
theorem dX0_mostOf_9 : decode cX0_mostOf 9 = .ok (.ireturn, 1) := by decide +kernel
set_option maxRecDepth 20000 in
theorem ggX0_isDecided_X0_leastOf : GoodIn wsX0_isDecided wsX0_leastOf := goodIn_r _ [4, 5, 6, 3, 7, 8, 9, 10] (by decide +kernel) (by decide +kernel)
set_option maxRecDepth 20000 in
theorem gX0_isDecided_X0_leastOf : GoodIn wsX0_isDecided (va_wsS RX0 18 yX0_leastOf wsX0_leastOf) := goodIn_app (goodIn_of _ (by decide +kernel)) ggX0_isDecided_X0_leastOf
set_option maxRecDepth 20000 in
theorem ggX0_isDecided_X0_shadowOf : GoodIn wsX0_isDecided wsX0_shadowOf := goodIn_r _ [10] (by decide +kernel) (by decide +kernel)
set_option maxRecDepth 20000 in
theorem gX0_isDecided_X0_shadowOf : GoodIn wsX0_isDecided (va_wsS RX0 15 yX0_shadowOf wsX0_shadowOf) := goodIn_app (goodIn_of _ (by decide +kernel)) ggX0_isDecided_X0_shadowOf
theorem dX0_isDecided_0 : decode cX0_isDecided 0 = .ok (.iload_n 0, 1) := by decide +kernel
theorem dX0_isDecided_1 : decode cX0_isDecided 1 = .ok (.invokestatic 18, 3) := by decide +kernel
theorem dX0_isDecided_4 : decode cX0_isDecided 4 = .ok (.ifCond .ne 10, 3) := by decide +kernel
theorem dX0_isDecided_7 : decode cX0_isDecided 7 = .ok (.iload_n 0, 1) := by decide +kernel
theorem dX0_isDecided_8 : decode cX0_isDecided 8 = .ok (.invokestatic 15, 3) := by decide +kernel
theorem dX0_isDecided_11 : decode cX0_isDecided 11 = .ok (.ifCond .ne 7, 3) := by decide +kernel
theorem dX0_isDecided_14 : decode cX0_isDecided 14 = .ok (.iconst 1, 1) := by decide +kernel
theorem dX0_isDecided_15 : decode cX0_isDecided 15 = .ok (.goto 4, 3) := by decide +kernel
theorem dX0_isDecided_18 : decode cX0_isDecided 18 = .ok (.iconst 0, 1) := by decide +kernel
theorem dX0_isDecided_19 : decode cX0_isDecided 19 = .ok (.ireturn, 1) := by decide +kernel
set_option maxRecDepth 20000 in
theorem ggX0_partOf_X0_valueOf : GoodIn wsX0_partOf wsX0_valueOf := goodIn_r _ [4] (by decide +kernel) (by decide +kernel)
set_option maxRecDepth 20000 in
theorem gX0_partOf_X0_valueOf : GoodIn wsX0_partOf (va_wsS RX0 9 yX0_valueOf wsX0_valueOf) := goodIn_app (goodIn_of _ (by decide +kernel)) ggX0_partOf_X0_valueOf
set_option maxRecDepth 20000 in
theorem ggX0_partOf_X0_shadowOf : GoodIn wsX0_partOf wsX0_shadowOf := goodIn_r _ [7] (by decide +kernel) (by decide +kernel)
set_option maxRecDepth 20000 in
theorem gX0_partOf_X0_shadowOf : GoodIn wsX0_partOf (va_wsS RX0 15 yX0_shadowOf wsX0_shadowOf) := goodIn_app (goodIn_of _ (by decide +kernel)) ggX0_partOf_X0_shadowOf
set_option maxRecDepth 20000 in
theorem ggX0_partOf_X0_fromOf : GoodIn wsX0_partOf wsX0_fromOf := goodIn_r _ [10] (by decide +kernel) (by decide +kernel)
set_option maxRecDepth 20000 in
theorem gX0_partOf_X0_fromOf : GoodIn wsX0_partOf (va_wsS RX0 21 yX0_fromOf wsX0_fromOf) := goodIn_app (goodIn_of _ (by decide +kernel)) ggX0_partOf_X0_fromOf
set_option maxRecDepth 20000 in
theorem ggX0_partOf_X0_of : GoodIn wsX0_partOf wsX0_of := goodIn_r _ [13] (by decide +kernel) (by decide +kernel)
set_option maxRecDepth 20000 in
theorem gX0_partOf_X0_of : GoodIn wsX0_partOf (va_wsS RX0 24 yX0_of wsX0_of) := goodIn_app (goodIn_of _ (by decide +kernel)) ggX0_partOf_X0_of
theorem dX0_partOf_0 : decode cX0_partOf 0 = .ok (.iconst 1, 1) := by decide +kernel
theorem dX0_partOf_1 : decode cX0_partOf 1 = .ok (.iload_n 2, 1) := by decide +kernel
theorem dX0_partOf_2 : decode cX0_partOf 2 = .ok (.ishl, 1) := by decide +kernel
theorem dX0_partOf_3 : decode cX0_partOf 3 = .ok (.iconst 1, 1) := by decide +kernel
theorem dX0_partOf_4 : decode cX0_partOf 4 = .ok (.isub, 1) := by decide +kernel
theorem dX0_partOf_5 : decode cX0_partOf 5 = .ok (.istore_n 3, 1) := by decide +kernel
theorem dX0_partOf_6 : decode cX0_partOf 6 = .ok (.iload_n 0, 1) := by decide +kernel
theorem dX0_partOf_7 : decode cX0_partOf 7 = .ok (.invokestatic 9, 3) := by decide +kernel
theorem dX0_partOf_10 : decode cX0_partOf 10 = .ok (.iload_n 1, 1) := by decide +kernel
theorem dX0_partOf_11 : decode cX0_partOf 11 = .ok (.ishr, 1) := by decide +kernel
theorem dX0_partOf_12 : decode cX0_partOf 12 = .ok (.iload_n 3, 1) := by decide +kernel
theorem dX0_partOf_13 : decode cX0_partOf 13 = .ok (.iand, 1) := by decide +kernel
theorem dX0_partOf_14 : decode cX0_partOf 14 = .ok (.iload_n 0, 1) := by decide +kernel
theorem dX0_partOf_15 : decode cX0_partOf 15 = .ok (.invokestatic 15, 3) := by decide +kernel
theorem dX0_partOf_18 : decode cX0_partOf 18 = .ok (.iload_n 1, 1) := by decide +kernel
theorem dX0_partOf_19 : decode cX0_partOf 19 = .ok (.ishr, 1) := by decide +kernel
theorem dX0_partOf_20 : decode cX0_partOf 20 = .ok (.iload_n 3, 1) := by decide +kernel
theorem dX0_partOf_21 : decode cX0_partOf 21 = .ok (.iand, 1) := by decide +kernel
theorem dX0_partOf_22 : decode cX0_partOf 22 = .ok (.iload_n 0, 1) := by decide +kernel
theorem dX0_partOf_23 : decode cX0_partOf 23 = .ok (.invokestatic 21, 3) := by decide +kernel
theorem dX0_partOf_26 : decode cX0_partOf 26 = .ok (.invokestatic 24, 3) := by decide +kernel
theorem dX0_partOf_29 : decode cX0_partOf 29 = .ok (.ireturn, 1) := by decide +kernel
theorem dX1_init_0 : decode cX1_init 0 = .ok (.aload_n 0, 1) := by decide +kernel
theorem dX1_init_1 : decode cX1_init 1 = .ok (.invokespecial 3, 3) := by decide +kernel
theorem dX1_init_4 : decode cX1_init 4 = .ok (.aload_n 0, 1) := by decide +kernel
theorem dX1_init_5 : decode cX1_init 5 = .ok (.bipush 32, 2) := by decide +kernel
theorem dX1_init_7 : decode cX1_init 7 = .ok (.newarray .int, 2) := by decide +kernel
theorem dX1_init_9 : decode cX1_init 9 = .ok (.putfield 9, 3) := by decide +kernel
theorem dX1_init_12 : decode cX1_init 12 = .ok (.aload_n 0, 1) := by decide +kernel
theorem dX1_init_13 : decode cX1_init 13 = .ok (.bipush 32, 2) := by decide +kernel
theorem dX1_init_15 : decode cX1_init 15 = .ok (.newarray .int, 2) := by decide +kernel
theorem dX1_init_17 : decode cX1_init 17 = .ok (.putfield 15, 3) := by decide +kernel
theorem dX1_init_20 : decode cX1_init 20 = .ok (.return_, 1) := by decide +kernel
theorem dX1_clear_0 : decode cX1_clear 0 = .ok (.aload_n 0, 1) := by decide +kernel
theorem dX1_clear_1 : decode cX1_clear 1 = .ok (.iconst 0, 1) := by decide +kernel
theorem dX1_clear_2 : decode cX1_clear 2 = .ok (.putfield 18, 3) := by decide +kernel
theorem dX1_clear_5 : decode cX1_clear 5 = .ok (.aload_n 0, 1) := by decide +kernel
theorem dX1_clear_6 : decode cX1_clear 6 = .ok (.iconst 0, 1) := by decide +kernel
theorem dX1_clear_7 : decode cX1_clear 7 = .ok (.putfield 22, 3) := by decide +kernel
theorem dX1_clear_10 : decode cX1_clear 10 = .ok (.return_, 1) := by decide +kernel
theorem dX1_add_0 : decode cX1_add 0 = .ok (.aload_n 0, 1) := by decide +kernel
theorem dX1_add_1 : decode cX1_add 1 = .ok (.getfield 9, 3) := by decide +kernel
theorem dX1_add_4 : decode cX1_add 4 = .ok (.aload_n 0, 1) := by decide +kernel
theorem dX1_add_5 : decode cX1_add 5 = .ok (.getfield 22, 3) := by decide +kernel
theorem dX1_add_8 : decode cX1_add 8 = .ok (.iload_n 1, 1) := by decide +kernel
theorem dX1_add_9 : decode cX1_add 9 = .ok (.iastore, 1) := by decide +kernel
theorem dX1_add_10 : decode cX1_add 10 = .ok (.aload_n 0, 1) := by decide +kernel
theorem dX1_add_11 : decode cX1_add 11 = .ok (.getfield 15, 3) := by decide +kernel
theorem dX1_add_14 : decode cX1_add 14 = .ok (.aload_n 0, 1) := by decide +kernel
theorem dX1_add_15 : decode cX1_add 15 = .ok (.getfield 22, 3) := by decide +kernel
theorem dX1_add_18 : decode cX1_add 18 = .ok (.iload_n 2, 1) := by decide +kernel
theorem dX1_add_19 : decode cX1_add 19 = .ok (.iastore, 1) := by decide +kernel
theorem dX1_add_20 : decode cX1_add 20 = .ok (.aload_n 0, 1) := by decide +kernel
theorem dX1_add_21 : decode cX1_add 21 = .ok (.aload_n 0, 1) := by decide +kernel
theorem dX1_add_22 : decode cX1_add 22 = .ok (.getfield 22, 3) := by decide +kernel
theorem dX1_add_25 : decode cX1_add 25 = .ok (.iconst 1, 1) := by decide +kernel
theorem dX1_add_26 : decode cX1_add 26 = .ok (.iadd, 1) := by decide +kernel
theorem dX1_add_27 : decode cX1_add 27 = .ok (.bipush 31, 2) := by decide +kernel
theorem dX1_add_29 : decode cX1_add 29 = .ok (.iand, 1) := by decide +kernel
theorem dX1_add_30 : decode cX1_add 30 = .ok (.putfield 22, 3) := by decide +kernel
theorem dX1_add_33 : decode cX1_add 33 = .ok (.aload_n 0, 1) := by decide +kernel
theorem dX1_add_34 : decode cX1_add 34 = .ok (.aload_n 0, 1) := by decide +kernel
theorem dX1_add_35 : decode cX1_add 35 = .ok (.getfield 18, 3) := by decide +kernel
theorem dX1_add_38 : decode cX1_add 38 = .ok (.iconst 1, 1) := by decide +kernel
theorem dX1_add_39 : decode cX1_add 39 = .ok (.iadd, 1) := by decide +kernel
theorem dX1_add_40 : decode cX1_add 40 = .ok (.bipush 32, 2) := by decide +kernel
theorem dX1_add_42 : decode cX1_add 42 = .ok (.invokestatic 25, 3) := by decide +kernel
theorem dX1_add_45 : decode cX1_add 45 = .ok (.putfield 18, 3) := by decide +kernel
theorem dX1_add_48 : decode cX1_add 48 = .ok (.return_, 1) := by decide +kernel
theorem dX1_takeBackLatest_0 : decode cX1_takeBackLatest 0 = .ok (.aload_n 0, 1) := by decide +kernel
theorem dX1_takeBackLatest_1 : decode cX1_takeBackLatest 1 = .ok (.aload_n 0, 1) := by decide +kernel
theorem dX1_takeBackLatest_2 : decode cX1_takeBackLatest 2 = .ok (.getfield 22, 3) := by decide +kernel
theorem dX1_takeBackLatest_5 : decode cX1_takeBackLatest 5 = .ok (.iconst 1, 1) := by decide +kernel
theorem dX1_takeBackLatest_6 : decode cX1_takeBackLatest 6 = .ok (.isub, 1) := by decide +kernel
theorem dX1_takeBackLatest_7 : decode cX1_takeBackLatest 7 = .ok (.bipush 31, 2) := by decide +kernel
theorem dX1_takeBackLatest_9 : decode cX1_takeBackLatest 9 = .ok (.iand, 1) := by decide +kernel
theorem dX1_takeBackLatest_10 : decode cX1_takeBackLatest 10 = .ok (.putfield 22, 3) := by decide +kernel
theorem dX1_takeBackLatest_13 : decode cX1_takeBackLatest 13 = .ok (.aload_n 1, 1) := by decide +kernel
theorem dX1_takeBackLatest_14 : decode cX1_takeBackLatest 14 = .ok (.aload_n 0, 1) := by decide +kernel
theorem dX1_takeBackLatest_15 : decode cX1_takeBackLatest 15 = .ok (.getfield 9, 3) := by decide +kernel
theorem dX1_takeBackLatest_18 : decode cX1_takeBackLatest 18 = .ok (.aload_n 0, 1) := by decide +kernel
theorem dX1_takeBackLatest_19 : decode cX1_takeBackLatest 19 = .ok (.getfield 22, 3) := by decide +kernel
theorem dX1_takeBackLatest_22 : decode cX1_takeBackLatest 22 = .ok (.iaload, 1) := by decide +kernel
theorem dX1_takeBackLatest_23 : decode cX1_takeBackLatest 23 = .ok (.aload_n 0, 1) := by decide +kernel
theorem dX1_takeBackLatest_24 : decode cX1_takeBackLatest 24 = .ok (.getfield 15, 3) := by decide +kernel
theorem dX1_takeBackLatest_27 : decode cX1_takeBackLatest 27 = .ok (.aload_n 0, 1) := by decide +kernel
theorem dX1_takeBackLatest_28 : decode cX1_takeBackLatest 28 = .ok (.getfield 22, 3) := by decide +kernel
theorem dX1_takeBackLatest_31 : decode cX1_takeBackLatest 31 = .ok (.iaload, 1) := by decide +kernel
theorem dX1_takeBackLatest_32 : decode cX1_takeBackLatest 32 = .ok (.iastore, 1) := by decide +kernel
theorem dX1_takeBackLatest_33 : decode cX1_takeBackLatest 33 = .ok (.aload_n 0, 1) := by decide +kernel
theorem dX1_takeBackLatest_34 : decode cX1_takeBackLatest 34 = .ok (.dup, 1) := by decide +kernel
theorem dX1_takeBackLatest_35 : decode cX1_takeBackLatest 35 = .ok (.getfield 18, 3) := by decide +kernel
theorem dX1_takeBackLatest_38 : decode cX1_takeBackLatest 38 = .ok (.iconst 1, 1) := by decide +kernel
theorem dX1_takeBackLatest_39 : decode cX1_takeBackLatest 39 = .ok (.isub, 1) := by decide +kernel
theorem dX1_takeBackLatest_40 : decode cX1_takeBackLatest 40 = .ok (.putfield 18, 3) := by decide +kernel
theorem dX1_takeBackLatest_43 : decode cX1_takeBackLatest 43 = .ok (.return_, 1) := by decide +kernel
theorem dX2_init_0 : decode cX2_init 0 = .ok (.aload_n 0, 1) := by decide +kernel
theorem dX2_init_1 : decode cX2_init 1 = .ok (.invokespecial 3, 3) := by decide +kernel
theorem dX2_init_4 : decode cX2_init 4 = .ok (.aload_n 0, 1) := by decide +kernel
theorem dX2_init_5 : decode cX2_init 5 = .ok (.bipush 20, 2) := by decide +kernel
theorem dX2_init_7 : decode cX2_init 7 = .ok (.newarray .int, 2) := by decide +kernel
theorem dX2_init_9 : decode cX2_init 9 = .ok (.putfield 9, 3) := by decide +kernel
theorem dX2_init_12 : decode cX2_init 12 = .ok (.aload_n 0, 1) := by decide +kernel
theorem dX2_init_13 : decode cX2_init 13 = .ok (.bipush 20, 2) := by decide +kernel
theorem dX2_init_15 : decode cX2_init 15 = .ok (.newarray .int, 2) := by decide +kernel
theorem dX2_init_17 : decode cX2_init 17 = .ok (.putfield 15, 3) := by decide +kernel
theorem dX2_init_20 : decode cX2_init 20 = .ok (.aload_n 0, 1) := by decide +kernel
theorem dX2_init_21 : decode cX2_init 21 = .ok (.bipush 20, 2) := by decide +kernel
theorem dX2_init_23 : decode cX2_init 23 = .ok (.newarray .int, 2) := by decide +kernel
theorem dX2_init_25 : decode cX2_init 25 = .ok (.putfield 18, 3) := by decide +kernel
theorem dX2_init_28 : decode cX2_init 28 = .ok (.return_, 1) := by decide +kernel
theorem dX2_clear_0 : decode cX2_clear 0 = .ok (.aload_n 0, 1) := by decide +kernel
theorem dX2_clear_1 : decode cX2_clear 1 = .ok (.iconst 0, 1) := by decide +kernel
theorem dX2_clear_2 : decode cX2_clear 2 = .ok (.putfield 21, 3) := by decide +kernel
theorem dX2_clear_5 : decode cX2_clear 5 = .ok (.aload_n 0, 1) := by decide +kernel
theorem dX2_clear_6 : decode cX2_clear 6 = .ok (.iconst 0, 1) := by decide +kernel
theorem dX2_clear_7 : decode cX2_clear 7 = .ok (.putfield 25, 3) := by decide +kernel
theorem dX2_clear_10 : decode cX2_clear 10 = .ok (.return_, 1) := by decide +kernel
theorem dX2_add_0 : decode cX2_add 0 = .ok (.aload_n 0, 1) := by decide +kernel
theorem dX2_add_1 : decode cX2_add 1 = .ok (.dup, 1) := by decide +kernel
theorem dX2_add_2 : decode cX2_add 2 = .ok (.getfield 21, 3) := by decide +kernel
theorem dX2_add_5 : decode cX2_add 5 = .ok (.iconst 1, 1) := by decide +kernel
theorem dX2_add_6 : decode cX2_add 6 = .ok (.iadd, 1) := by decide +kernel
theorem dX2_add_7 : decode cX2_add 7 = .ok (.putfield 21, 3) := by decide +kernel
theorem dX2_add_10 : decode cX2_add 10 = .ok (.aload_n 0, 1) := by decide +kernel
theorem dX2_add_11 : decode cX2_add 11 = .ok (.getfield 25, 3) := by decide +kernel
theorem dX2_add_14 : decode cX2_add 14 = .ok (.bipush 20, 2) := by decide +kernel
theorem dX2_add_16 : decode cX2_add 16 = .ok (.if_icmp .ge 43, 3) := by decide +kernel
theorem dX2_add_19 : decode cX2_add 19 = .ok (.aload_n 0, 1) := by decide +kernel
theorem dX2_add_20 : decode cX2_add 20 = .ok (.getfield 9, 3) := by decide +kernel
theorem dX2_add_23 : decode cX2_add 23 = .ok (.aload_n 0, 1) := by decide +kernel
theorem dX2_add_24 : decode cX2_add 24 = .ok (.getfield 25, 3) := by decide +kernel
theorem dX2_add_27 : decode cX2_add 27 = .ok (.iload_n 1, 1) := by decide +kernel
theorem dX2_add_28 : decode cX2_add 28 = .ok (.iastore, 1) := by decide +kernel
theorem dX2_add_29 : decode cX2_add 29 = .ok (.aload_n 0, 1) := by decide +kernel
theorem dX2_add_30 : decode cX2_add 30 = .ok (.getfield 15, 3) := by decide +kernel
theorem dX2_add_33 : decode cX2_add 33 = .ok (.aload_n 0, 1) := by decide +kernel
theorem dX2_add_34 : decode cX2_add 34 = .ok (.getfield 25, 3) := by decide +kernel
theorem dX2_add_37 : decode cX2_add 37 = .ok (.iload_n 2, 1) := by decide +kernel
theorem dX2_add_38 : decode cX2_add 38 = .ok (.iastore, 1) := by decide +kernel
theorem dX2_add_39 : decode cX2_add 39 = .ok (.aload_n 0, 1) := by decide +kernel
theorem dX2_add_40 : decode cX2_add 40 = .ok (.getfield 18, 3) := by decide +kernel
theorem dX2_add_43 : decode cX2_add 43 = .ok (.aload_n 0, 1) := by decide +kernel
theorem dX2_add_44 : decode cX2_add 44 = .ok (.getfield 25, 3) := by decide +kernel
theorem dX2_add_47 : decode cX2_add 47 = .ok (.iload_n 3, 1) := by decide +kernel
theorem dX2_add_48 : decode cX2_add 48 = .ok (.iastore, 1) := by decide +kernel
theorem dX2_add_49 : decode cX2_add 49 = .ok (.aload_n 0, 1) := by decide +kernel
theorem dX2_add_50 : decode cX2_add 50 = .ok (.dup, 1) := by decide +kernel
theorem dX2_add_51 : decode cX2_add 51 = .ok (.getfield 25, 3) := by decide +kernel
theorem dX2_add_54 : decode cX2_add 54 = .ok (.iconst 1, 1) := by decide +kernel
theorem dX2_add_55 : decode cX2_add 55 = .ok (.iadd, 1) := by decide +kernel
theorem dX2_add_56 : decode cX2_add 56 = .ok (.putfield 25, 3) := by decide +kernel
theorem dX2_add_59 : decode cX2_add 59 = .ok (.return_, 1) := by decide +kernel
theorem dX2_countNaming_0 : decode cX2_countNaming 0 = .ok (.iconst 0, 1) := by decide +kernel
theorem dX2_countNaming_1 : decode cX2_countNaming 1 = .ok (.istore_n 2, 1) := by decide +kernel
theorem dX2_countNaming_2 : decode cX2_countNaming 2 = .ok (.iconst 0, 1) := by decide +kernel
theorem dX2_countNaming_3 : decode cX2_countNaming 3 = .ok (.istore_n 3, 1) := by decide +kernel
theorem dX2_countNaming_4 : decode cX2_countNaming 4 = .ok (.iload_n 3, 1) := by decide +kernel
theorem dX2_countNaming_5 : decode cX2_countNaming 5 = .ok (.aload_n 0, 1) := by decide +kernel
theorem dX2_countNaming_6 : decode cX2_countNaming 6 = .ok (.getfield 25, 3) := by decide +kernel
theorem dX2_countNaming_9 : decode cX2_countNaming 9 = .ok (.if_icmp .ge 22, 3) := by decide +kernel
theorem dX2_countNaming_12 : decode cX2_countNaming 12 = .ok (.iload_n 2, 1) := by decide +kernel
theorem dX2_countNaming_13 : decode cX2_countNaming 13 = .ok (.aload_n 0, 1) := by decide +kernel
theorem dX2_countNaming_14 : decode cX2_countNaming 14 = .ok (.getfield 18, 3) := by decide +kernel
theorem dX2_countNaming_17 : decode cX2_countNaming 17 = .ok (.iload_n 3, 1) := by decide +kernel
theorem dX2_countNaming_18 : decode cX2_countNaming 18 = .ok (.iaload, 1) := by decide +kernel
theorem dX2_countNaming_19 : decode cX2_countNaming 19 = .ok (.iload_n 1, 1) := by decide +kernel
theorem dX2_countNaming_20 : decode cX2_countNaming 20 = .ok (.ishr, 1) := by decide +kernel
theorem dX2_countNaming_21 : decode cX2_countNaming 21 = .ok (.iconst 1, 1) := by decide +kernel
theorem dX2_countNaming_22 : decode cX2_countNaming 22 = .ok (.iand, 1) := by decide +kernel
theorem dX2_countNaming_23 : decode cX2_countNaming 23 = .ok (.iadd, 1) := by decide +kernel
theorem dX2_countNaming_24 : decode cX2_countNaming 24 = .ok (.istore_n 2, 1) := by decide +kernel
theorem dX2_countNaming_25 : decode cX2_countNaming 25 = .ok (.iinc 3 1, 3) := by decide +kernel
theorem dX2_countNaming_28 : decode cX2_countNaming 28 = .ok (.goto (-24), 3) := by decide +kernel
theorem dX2_countNaming_31 : decode cX2_countNaming 31 = .ok (.iload_n 2, 1) := by decide +kernel
theorem dX2_countNaming_32 : decode cX2_countNaming 32 = .ok (.ireturn, 1) := by decide +kernel
theorem dX3_init_0 : decode cX3_init 0 = .ok (.aload_n 0, 1) := by decide +kernel
theorem dX3_init_1 : decode cX3_init 1 = .ok (.invokespecial 3, 3) := by decide +kernel
theorem dX3_init_4 : decode cX3_init 4 = .ok (.aload_n 0, 1) := by decide +kernel
theorem dX3_init_5 : decode cX3_init 5 = .ok (.bipush 12, 2) := by decide +kernel
theorem dX3_init_7 : decode cX3_init 7 = .ok (.newarray .int, 2) := by decide +kernel
theorem dX3_init_9 : decode cX3_init 9 = .ok (.putfield 9, 3) := by decide +kernel
theorem dX3_init_12 : decode cX3_init 12 = .ok (.aload_n 0, 1) := by decide +kernel
theorem dX3_init_13 : decode cX3_init 13 = .ok (.bipush 12, 2) := by decide +kernel
theorem dX3_init_15 : decode cX3_init 15 = .ok (.newarray .int, 2) := by decide +kernel
theorem dX3_init_17 : decode cX3_init 17 = .ok (.putfield 15, 3) := by decide +kernel
theorem dX3_init_20 : decode cX3_init 20 = .ok (.aload_n 0, 1) := by decide +kernel
theorem dX3_init_21 : decode cX3_init 21 = .ok (.bipush 32, 2) := by decide +kernel
theorem dX3_init_23 : decode cX3_init 23 = .ok (.newarray .int, 2) := by decide +kernel
theorem dX3_init_25 : decode cX3_init 25 = .ok (.putfield 18, 3) := by decide +kernel
theorem dX3_init_28 : decode cX3_init 28 = .ok (.return_, 1) := by decide +kernel
theorem dX3_clear_0 : decode cX3_clear 0 = .ok (.iconst 0, 1) := by decide +kernel
theorem dX3_clear_1 : decode cX3_clear 1 = .ok (.istore_n 1, 1) := by decide +kernel
theorem dX3_clear_2 : decode cX3_clear 2 = .ok (.iload_n 1, 1) := by decide +kernel
theorem dX3_clear_3 : decode cX3_clear 3 = .ok (.bipush 32, 2) := by decide +kernel
theorem dX3_clear_5 : decode cX3_clear 5 = .ok (.if_icmp .ge 16, 3) := by decide +kernel
theorem dX3_clear_8 : decode cX3_clear 8 = .ok (.aload_n 0, 1) := by decide +kernel
theorem dX3_clear_9 : decode cX3_clear 9 = .ok (.getfield 18, 3) := by decide +kernel
theorem dX3_clear_12 : decode cX3_clear 12 = .ok (.iload_n 1, 1) := by decide +kernel
theorem dX3_clear_13 : decode cX3_clear 13 = .ok (.iconst (-1), 1) := by decide +kernel
theorem dX3_clear_14 : decode cX3_clear 14 = .ok (.iastore, 1) := by decide +kernel
theorem dX3_clear_15 : decode cX3_clear 15 = .ok (.iinc 1 1, 3) := by decide +kernel
theorem dX3_clear_18 : decode cX3_clear 18 = .ok (.goto (-16), 3) := by decide +kernel
theorem dX3_clear_21 : decode cX3_clear 21 = .ok (.aload_n 0, 1) := by decide +kernel
theorem dX3_clear_22 : decode cX3_clear 22 = .ok (.iconst 0, 1) := by decide +kernel
theorem dX3_clear_23 : decode cX3_clear 23 = .ok (.putfield 21, 3) := by decide +kernel
theorem dX3_clear_26 : decode cX3_clear 26 = .ok (.aload_n 0, 1) := by decide +kernel
theorem dX3_clear_27 : decode cX3_clear 27 = .ok (.iconst 0, 1) := by decide +kernel
theorem dX3_clear_28 : decode cX3_clear 28 = .ok (.putfield 25, 3) := by decide +kernel
theorem dX3_clear_31 : decode cX3_clear 31 = .ok (.return_, 1) := by decide +kernel
theorem dX3_has_0 : decode cX3_has 0 = .ok (.iload_n 1, 1) := by decide +kernel
theorem dX3_has_1 : decode cX3_has 1 = .ok (.ifCond .lt 15, 3) := by decide +kernel
theorem dX3_has_4 : decode cX3_has 4 = .ok (.iload_n 1, 1) := by decide +kernel
theorem dX3_has_5 : decode cX3_has 5 = .ok (.aload_n 0, 1) := by decide +kernel
theorem dX3_has_6 : decode cX3_has 6 = .ok (.getfield 21, 3) := by decide +kernel
theorem dX3_has_9 : decode cX3_has 9 = .ok (.if_icmp .ge 7, 3) := by decide +kernel
theorem dX3_has_12 : decode cX3_has 12 = .ok (.iconst 1, 1) := by decide +kernel
theorem dX3_has_13 : decode cX3_has 13 = .ok (.goto 4, 3) := by decide +kernel
theorem dX3_has_16 : decode cX3_has 16 = .ok (.iconst 0, 1) := by decide +kernel
theorem dX3_has_17 : decode cX3_has 17 = .ok (.ireturn, 1) := by decide +kernel
theorem dX3_isLet_0 : decode cX3_isLet 0 = .ok (.aload_n 0, 1) := by decide +kernel
theorem dX3_isLet_1 : decode cX3_isLet 1 = .ok (.getfield 25, 3) := by decide +kernel
theorem dX3_isLet_4 : decode cX3_isLet 4 = .ok (.iload_n 1, 1) := by decide +kernel
theorem dX3_isLet_5 : decode cX3_isLet 5 = .ok (.ishr, 1) := by decide +kernel
theorem dX3_isLet_6 : decode cX3_isLet 6 = .ok (.iconst 1, 1) := by decide +kernel
theorem dX3_isLet_7 : decode cX3_isLet 7 = .ok (.iand, 1) := by decide +kernel
theorem dX3_isLet_8 : decode cX3_isLet 8 = .ok (.ifCond .eq 7, 3) := by decide +kernel
theorem dX3_isLet_11 : decode cX3_isLet 11 = .ok (.iconst 1, 1) := by decide +kernel
theorem dX3_isLet_12 : decode cX3_isLet 12 = .ok (.goto 4, 3) := by decide +kernel
theorem dX3_isLet_15 : decode cX3_isLet 15 = .ok (.iconst 0, 1) := by decide +kernel
theorem dX3_isLet_16 : decode cX3_isLet 16 = .ok (.ireturn, 1) := by decide +kernel
set_option maxRecDepth 20000 in
theorem ggX3_anyIsLet_X3_isLet : GoodIn wsX3_anyIsLet wsX3_isLet := goodIn_r _ [6, 7, 8, 9, 10, 11, 12] (by decide +kernel) (by decide +kernel)
set_option maxRecDepth 20000 in
theorem gX3_anyIsLet_X3_isLet : GoodIn wsX3_anyIsLet (wsV RX3 28 RX3 yX3_isLet wsX3_isLet) := goodIn_app (goodIn_of _ (by decide +kernel)) ggX3_anyIsLet_X3_isLet
theorem dX3_anyIsLet_0 : decode cX3_anyIsLet 0 = .ok (.iload_n 1, 1) := by decide +kernel
theorem dX3_anyIsLet_1 : decode cX3_anyIsLet 1 = .ok (.istore_n 3, 1) := by decide +kernel
theorem dX3_anyIsLet_2 : decode cX3_anyIsLet 2 = .ok (.iload_n 3, 1) := by decide +kernel
theorem dX3_anyIsLet_3 : decode cX3_anyIsLet 3 = .ok (.iload_n 1, 1) := by decide +kernel
theorem dX3_anyIsLet_4 : decode cX3_anyIsLet 4 = .ok (.iload_n 2, 1) := by decide +kernel
theorem dX3_anyIsLet_5 : decode cX3_anyIsLet 5 = .ok (.iadd, 1) := by decide +kernel
theorem dX3_anyIsLet_6 : decode cX3_anyIsLet 6 = .ok (.if_icmp .ge 34, 3) := by decide +kernel
theorem dX3_anyIsLet_9 : decode cX3_anyIsLet 9 = .ok (.aload_n 0, 1) := by decide +kernel
theorem dX3_anyIsLet_10 : decode cX3_anyIsLet 10 = .ok (.getfield 18, 3) := by decide +kernel
theorem dX3_anyIsLet_13 : decode cX3_anyIsLet 13 = .ok (.iload_n 3, 1) := by decide +kernel
theorem dX3_anyIsLet_14 : decode cX3_anyIsLet 14 = .ok (.iaload, 1) := by decide +kernel
theorem dX3_anyIsLet_15 : decode cX3_anyIsLet 15 = .ok (.istore 4, 2) := by decide +kernel
theorem dX3_anyIsLet_17 : decode cX3_anyIsLet 17 = .ok (.iload 4, 2) := by decide +kernel
theorem dX3_anyIsLet_19 : decode cX3_anyIsLet 19 = .ok (.iconst (-1), 1) := by decide +kernel
theorem dX3_anyIsLet_20 : decode cX3_anyIsLet 20 = .ok (.if_icmp .eq 14, 3) := by decide +kernel
theorem dX3_anyIsLet_23 : decode cX3_anyIsLet 23 = .ok (.aload_n 0, 1) := by decide +kernel
theorem dX3_anyIsLet_24 : decode cX3_anyIsLet 24 = .ok (.iload 4, 2) := by decide +kernel
theorem dX3_anyIsLet_26 : decode cX3_anyIsLet 26 = .ok (.invokevirtual 28, 3) := by decide +kernel
theorem dX3_anyIsLet_29 : decode cX3_anyIsLet 29 = .ok (.ifCond .eq 5, 3) := by decide +kernel
theorem dX3_anyIsLet_32 : decode cX3_anyIsLet 32 = .ok (.iconst 1, 1) := by decide +kernel
theorem dX3_anyIsLet_33 : decode cX3_anyIsLet 33 = .ok (.ireturn, 1) := by decide +kernel
theorem dX3_anyIsLet_34 : decode cX3_anyIsLet 34 = .ok (.iinc 3 1, 3) := by decide +kernel
theorem dX3_anyIsLet_37 : decode cX3_anyIsLet 37 = .ok (.goto (-35), 3) := by decide +kernel
theorem dX3_anyIsLet_40 : decode cX3_anyIsLet 40 = .ok (.iconst 0, 1) := by decide +kernel
theorem dX3_anyIsLet_41 : decode cX3_anyIsLet 41 = .ok (.ireturn, 1) := by decide +kernel
theorem dX3_open_0 : decode cX3_open 0 = .ok (.aload_n 0, 1) := by decide +kernel
theorem dX3_open_1 : decode cX3_open 1 = .ok (.getfield 21, 3) := by decide +kernel
theorem dX3_open_4 : decode cX3_open 4 = .ok (.istore_n 3, 1) := by decide +kernel
theorem dX3_open_5 : decode cX3_open 5 = .ok (.aload_n 0, 1) := by decide +kernel
theorem dX3_open_6 : decode cX3_open 6 = .ok (.getfield 9, 3) := by decide +kernel
theorem dX3_open_9 : decode cX3_open 9 = .ok (.iload_n 3, 1) := by decide +kernel
theorem dX3_open_10 : decode cX3_open 10 = .ok (.iload_n 1, 1) := by decide +kernel
theorem dX3_open_11 : decode cX3_open 11 = .ok (.iastore, 1) := by decide +kernel
theorem dX3_open_12 : decode cX3_open 12 = .ok (.aload_n 0, 1) := by decide +kernel
theorem dX3_open_13 : decode cX3_open 13 = .ok (.getfield 15, 3) := by decide +kernel
theorem dX3_open_16 : decode cX3_open 16 = .ok (.iload_n 3, 1) := by decide +kernel
theorem dX3_open_17 : decode cX3_open 17 = .ok (.iload_n 2, 1) := by decide +kernel
theorem dX3_open_18 : decode cX3_open 18 = .ok (.iastore, 1) := by decide +kernel
theorem dX3_open_19 : decode cX3_open 19 = .ok (.iload_n 1, 1) := by decide +kernel
theorem dX3_open_20 : decode cX3_open 20 = .ok (.istore 4, 2) := by decide +kernel
theorem dX3_open_22 : decode cX3_open 22 = .ok (.iload 4, 2) := by decide +kernel
theorem dX3_open_24 : decode cX3_open 24 = .ok (.iload_n 1, 1) := by decide +kernel
theorem dX3_open_25 : decode cX3_open 25 = .ok (.iload_n 2, 1) := by decide +kernel
theorem dX3_open_26 : decode cX3_open 26 = .ok (.iadd, 1) := by decide +kernel
theorem dX3_open_27 : decode cX3_open 27 = .ok (.if_icmp .ge 17, 3) := by decide +kernel
theorem dX3_open_30 : decode cX3_open 30 = .ok (.aload_n 0, 1) := by decide +kernel
theorem dX3_open_31 : decode cX3_open 31 = .ok (.getfield 18, 3) := by decide +kernel
theorem dX3_open_34 : decode cX3_open 34 = .ok (.iload 4, 2) := by decide +kernel
theorem dX3_open_36 : decode cX3_open 36 = .ok (.iload_n 3, 1) := by decide +kernel
theorem dX3_open_37 : decode cX3_open 37 = .ok (.iastore, 1) := by decide +kernel
theorem dX3_open_38 : decode cX3_open 38 = .ok (.iinc 4 1, 3) := by decide +kernel
theorem dX3_open_41 : decode cX3_open 41 = .ok (.goto (-19), 3) := by decide +kernel
theorem dX3_open_44 : decode cX3_open 44 = .ok (.aload_n 0, 1) := by decide +kernel
theorem dX3_open_45 : decode cX3_open 45 = .ok (.dup, 1) := by decide +kernel
theorem dX3_open_46 : decode cX3_open 46 = .ok (.getfield 25, 3) := by decide +kernel
theorem dX3_open_49 : decode cX3_open 49 = .ok (.iconst 1, 1) := by decide +kernel
theorem dX3_open_50 : decode cX3_open 50 = .ok (.iload_n 3, 1) := by decide +kernel
theorem dX3_open_51 : decode cX3_open 51 = .ok (.ishl, 1) := by decide +kernel
theorem dX3_open_52 : decode cX3_open 52 = .ok (.ior, 1) := by decide +kernel
theorem dX3_open_53 : decode cX3_open 53 = .ok (.putfield 25, 3) := by decide +kernel
theorem dX3_open_56 : decode cX3_open 56 = .ok (.aload_n 0, 1) := by decide +kernel
theorem dX3_open_57 : decode cX3_open 57 = .ok (.dup, 1) := by decide +kernel
theorem dX3_open_58 : decode cX3_open 58 = .ok (.getfield 21, 3) := by decide +kernel
theorem dX3_open_61 : decode cX3_open 61 = .ok (.iconst 1, 1) := by decide +kernel
theorem dX3_open_62 : decode cX3_open 62 = .ok (.iadd, 1) := by decide +kernel
theorem dX3_open_63 : decode cX3_open 63 = .ok (.putfield 21, 3) := by decide +kernel
theorem dX3_open_66 : decode cX3_open 66 = .ok (.iload_n 3, 1) := by decide +kernel
theorem dX3_open_67 : decode cX3_open 67 = .ok (.ireturn, 1) := by decide +kernel
theorem dX3_close_0 : decode cX3_close 0 = .ok (.aload_n 0, 1) := by decide +kernel
theorem dX3_close_1 : decode cX3_close 1 = .ok (.dup, 1) := by decide +kernel
theorem dX3_close_2 : decode cX3_close 2 = .ok (.getfield 25, 3) := by decide +kernel
theorem dX3_close_5 : decode cX3_close 5 = .ok (.iconst 1, 1) := by decide +kernel
theorem dX3_close_6 : decode cX3_close 6 = .ok (.iload_n 1, 1) := by decide +kernel
theorem dX3_close_7 : decode cX3_close 7 = .ok (.ishl, 1) := by decide +kernel
theorem dX3_close_8 : decode cX3_close 8 = .ok (.iconst (-1), 1) := by decide +kernel
theorem dX3_close_9 : decode cX3_close 9 = .ok (.ixor, 1) := by decide +kernel
theorem dX3_close_10 : decode cX3_close 10 = .ok (.iand, 1) := by decide +kernel
theorem dX3_close_11 : decode cX3_close 11 = .ok (.putfield 25, 3) := by decide +kernel
theorem dX3_close_14 : decode cX3_close 14 = .ok (.return_, 1) := by decide +kernel
theorem dX4_init_0 : decode cX4_init 0 = .ok (.aload_n 0, 1) := by decide +kernel
theorem dX4_init_1 : decode cX4_init 1 = .ok (.invokespecial 3, 3) := by decide +kernel
theorem dX4_init_4 : decode cX4_init 4 = .ok (.aload_n 0, 1) := by decide +kernel
theorem dX4_init_5 : decode cX4_init 5 = .ok (.bipush 40, 2) := by decide +kernel
theorem dX4_init_7 : decode cX4_init 7 = .ok (.newarray .int, 2) := by decide +kernel
theorem dX4_init_9 : decode cX4_init 9 = .ok (.putfield 9, 3) := by decide +kernel
theorem dX4_init_12 : decode cX4_init 12 = .ok (.return_, 1) := by decide +kernel
theorem dX4_clear_0 : decode cX4_clear 0 = .ok (.iconst 0, 1) := by decide +kernel
theorem dX4_clear_1 : decode cX4_clear 1 = .ok (.istore_n 1, 1) := by decide +kernel
theorem dX4_clear_2 : decode cX4_clear 2 = .ok (.iload_n 1, 1) := by decide +kernel
theorem dX4_clear_3 : decode cX4_clear 3 = .ok (.bipush 40, 2) := by decide +kernel
theorem dX4_clear_5 : decode cX4_clear 5 = .ok (.if_icmp .ge 16, 3) := by decide +kernel
theorem dX4_clear_8 : decode cX4_clear 8 = .ok (.aload_n 0, 1) := by decide +kernel
theorem dX4_clear_9 : decode cX4_clear 9 = .ok (.getfield 9, 3) := by decide +kernel
theorem dX4_clear_12 : decode cX4_clear 12 = .ok (.iload_n 1, 1) := by decide +kernel
theorem dX4_clear_13 : decode cX4_clear 13 = .ok (.iconst 0, 1) := by decide +kernel
theorem dX4_clear_14 : decode cX4_clear 14 = .ok (.iastore, 1) := by decide +kernel
theorem dX4_clear_15 : decode cX4_clear 15 = .ok (.iinc 1 1, 3) := by decide +kernel
theorem dX4_clear_18 : decode cX4_clear 18 = .ok (.goto (-16), 3) := by decide +kernel
theorem dX4_clear_21 : decode cX4_clear 21 = .ok (.aload_n 0, 1) := by decide +kernel
theorem dX4_clear_22 : decode cX4_clear 22 = .ok (.iconst 0, 1) := by decide +kernel
theorem dX4_clear_23 : decode cX4_clear 23 = .ok (.putfield 15, 3) := by decide +kernel
theorem dX4_clear_26 : decode cX4_clear 26 = .ok (.return_, 1) := by decide +kernel
theorem dX4_becomeAs_0 : decode cX4_becomeAs 0 = .ok (.aload_n 1, 1) := by decide +kernel
theorem dX4_becomeAs_1 : decode cX4_becomeAs 1 = .ok (.getfield 9, 3) := by decide +kernel
theorem dX4_becomeAs_4 : decode cX4_becomeAs 4 = .ok (.iconst 0, 1) := by decide +kernel
theorem dX4_becomeAs_5 : decode cX4_becomeAs 5 = .ok (.aload_n 0, 1) := by decide +kernel
theorem dX4_becomeAs_6 : decode cX4_becomeAs 6 = .ok (.getfield 9, 3) := by decide +kernel
theorem dX4_becomeAs_9 : decode cX4_becomeAs 9 = .ok (.iconst 0, 1) := by decide +kernel
theorem dX4_becomeAs_10 : decode cX4_becomeAs 10 = .ok (.bipush 40, 2) := by decide +kernel
theorem dX4_becomeAs_12 : decode cX4_becomeAs 12 = .ok (.invokestatic 19, 3) := by decide +kernel
theorem dX4_becomeAs_15 : decode cX4_becomeAs 15 = .ok (.aload_n 0, 1) := by decide +kernel
theorem dX4_becomeAs_16 : decode cX4_becomeAs 16 = .ok (.aload_n 1, 1) := by decide +kernel
theorem dX4_becomeAs_17 : decode cX4_becomeAs 17 = .ok (.getfield 15, 3) := by decide +kernel
theorem dX4_becomeAs_20 : decode cX4_becomeAs 20 = .ok (.putfield 15, 3) := by decide +kernel
theorem dX4_becomeAs_23 : decode cX4_becomeAs 23 = .ok (.return_, 1) := by decide +kernel
theorem dX4_isDead_0 : decode cX4_isDead 0 = .ok (.aload_n 0, 1) := by decide +kernel
theorem dX4_isDead_1 : decode cX4_isDead 1 = .ok (.getfield 15, 3) := by decide +kernel
theorem dX4_isDead_4 : decode cX4_isDead 4 = .ok (.iload_n 1, 1) := by decide +kernel
theorem dX4_isDead_5 : decode cX4_isDead 5 = .ok (.iushr, 1) := by decide +kernel
theorem dX4_isDead_6 : decode cX4_isDead 6 = .ok (.iconst 1, 1) := by decide +kernel
theorem dX4_isDead_7 : decode cX4_isDead 7 = .ok (.iand, 1) := by decide +kernel
theorem dX4_isDead_8 : decode cX4_isDead 8 = .ok (.ifCond .eq 7, 3) := by decide +kernel
theorem dX4_isDead_11 : decode cX4_isDead 11 = .ok (.iconst 1, 1) := by decide +kernel
theorem dX4_isDead_12 : decode cX4_isDead 12 = .ok (.goto 4, 3) := by decide +kernel
theorem dX4_isDead_15 : decode cX4_isDead 15 = .ok (.iconst 0, 1) := by decide +kernel
theorem dX4_isDead_16 : decode cX4_isDead 16 = .ok (.ireturn, 1) := by decide +kernel
set_option maxRecDepth 20000 in
theorem ggX4_unknownBits_X0_shadowOf : GoodIn wsX4_unknownBits wsX0_shadowOf := goodIn_r _ [5] (by decide +kernel) (by decide +kernel)
set_option maxRecDepth 20000 in
theorem gX4_unknownBits_X0_shadowOf : GoodIn wsX4_unknownBits (va_wsS RX4 25 yX0_shadowOf wsX0_shadowOf) := goodIn_app (goodIn_of _ (by decide +kernel)) ggX4_unknownBits_X0_shadowOf
set_option maxRecDepth 20000 in
theorem ggX4_unknownBits_J6_bitCount_0f7a4 : GoodIn wsX4_unknownBits wsJ6_bitCount_0f7a4 := goodIn_r _ [9, 10, 11, 12] (by decide +kernel) (by decide +kernel)
set_option maxRecDepth 20000 in
theorem gX4_unknownBits_J6_bitCount_0f7a4 : GoodIn wsX4_unknownBits (va_wsS RX4 31 yJ6_bitCount_0f7a4 wsJ6_bitCount_0f7a4) := goodIn_app (goodIn_of _ (by decide +kernel)) ggX4_unknownBits_J6_bitCount_0f7a4
theorem dX4_unknownBits_0 : decode cX4_unknownBits 0 = .ok (.iconst 0, 1) := by decide +kernel
theorem dX4_unknownBits_1 : decode cX4_unknownBits 1 = .ok (.istore_n 3, 1) := by decide +kernel
theorem dX4_unknownBits_2 : decode cX4_unknownBits 2 = .ok (.iload_n 1, 1) := by decide +kernel
theorem dX4_unknownBits_3 : decode cX4_unknownBits 3 = .ok (.istore 4, 2) := by decide +kernel
theorem dX4_unknownBits_5 : decode cX4_unknownBits 5 = .ok (.iload 4, 2) := by decide +kernel
theorem dX4_unknownBits_7 : decode cX4_unknownBits 7 = .ok (.iload_n 2, 1) := by decide +kernel
theorem dX4_unknownBits_8 : decode cX4_unknownBits 8 = .ok (.if_icmp .ge 25, 3) := by decide +kernel
theorem dX4_unknownBits_11 : decode cX4_unknownBits 11 = .ok (.iload_n 3, 1) := by decide +kernel
theorem dX4_unknownBits_12 : decode cX4_unknownBits 12 = .ok (.aload_n 0, 1) := by decide +kernel
theorem dX4_unknownBits_13 : decode cX4_unknownBits 13 = .ok (.getfield 9, 3) := by decide +kernel
theorem dX4_unknownBits_16 : decode cX4_unknownBits 16 = .ok (.iload 4, 2) := by decide +kernel
theorem dX4_unknownBits_18 : decode cX4_unknownBits 18 = .ok (.iaload, 1) := by decide +kernel
theorem dX4_unknownBits_19 : decode cX4_unknownBits 19 = .ok (.invokestatic 25, 3) := by decide +kernel
theorem dX4_unknownBits_22 : decode cX4_unknownBits 22 = .ok (.invokestatic 31, 3) := by decide +kernel
theorem dX4_unknownBits_25 : decode cX4_unknownBits 25 = .ok (.iadd, 1) := by decide +kernel
theorem dX4_unknownBits_26 : decode cX4_unknownBits 26 = .ok (.istore_n 3, 1) := by decide +kernel
theorem dX4_unknownBits_27 : decode cX4_unknownBits 27 = .ok (.iinc 4 1, 3) := by decide +kernel
theorem dX4_unknownBits_30 : decode cX4_unknownBits 30 = .ok (.goto (-25), 3) := by decide +kernel
theorem dX4_unknownBits_33 : decode cX4_unknownBits 33 = .ok (.iload_n 3, 1) := by decide +kernel
theorem dX4_unknownBits_34 : decode cX4_unknownBits 34 = .ok (.ireturn, 1) := by decide +kernel
theorem dX5_init_0 : decode cX5_init 0 = .ok (.aload_n 0, 1) := by decide +kernel
theorem dX5_init_1 : decode cX5_init 1 = .ok (.invokespecial 3, 3) := by decide +kernel
theorem dX5_init_4 : decode cX5_init 4 = .ok (.aload_n 0, 1) := by decide +kernel
theorem dX5_init_5 : decode cX5_init 5 = .ok (.bipush 16, 2) := by decide +kernel
theorem dX5_init_7 : decode cX5_init 7 = .ok (.newarray .int, 2) := by decide +kernel
theorem dX5_init_9 : decode cX5_init 9 = .ok (.putfield 9, 3) := by decide +kernel
theorem dX5_init_12 : decode cX5_init 12 = .ok (.aload_n 0, 1) := by decide +kernel
theorem dX5_init_13 : decode cX5_init 13 = .ok (.bipush 16, 2) := by decide +kernel
theorem dX5_init_15 : decode cX5_init 15 = .ok (.newarray .int, 2) := by decide +kernel
theorem dX5_init_17 : decode cX5_init 17 = .ok (.putfield 15, 3) := by decide +kernel
theorem dX5_init_20 : decode cX5_init 20 = .ok (.aload_n 0, 1) := by decide +kernel
theorem dX5_init_21 : decode cX5_init 21 = .ok (.bipush 16, 2) := by decide +kernel
theorem dX5_init_23 : decode cX5_init 23 = .ok (.newarray .int, 2) := by decide +kernel
theorem dX5_init_25 : decode cX5_init 25 = .ok (.putfield 18, 3) := by decide +kernel
theorem dX5_init_28 : decode cX5_init 28 = .ok (.return_, 1) := by decide +kernel
theorem dX5_clear_0 : decode cX5_clear 0 = .ok (.aload_n 0, 1) := by decide +kernel
theorem dX5_clear_1 : decode cX5_clear 1 = .ok (.iconst 0, 1) := by decide +kernel
theorem dX5_clear_2 : decode cX5_clear 2 = .ok (.putfield 21, 3) := by decide +kernel
theorem dX5_clear_5 : decode cX5_clear 5 = .ok (.aload_n 0, 1) := by decide +kernel
theorem dX5_clear_6 : decode cX5_clear 6 = .ok (.iconst 0, 1) := by decide +kernel
theorem dX5_clear_7 : decode cX5_clear 7 = .ok (.putfield 25, 3) := by decide +kernel
theorem dX5_clear_10 : decode cX5_clear 10 = .ok (.return_, 1) := by decide +kernel
theorem dX5_add_0 : decode cX5_add 0 = .ok (.aload_n 0, 1) := by decide +kernel
theorem dX5_add_1 : decode cX5_add 1 = .ok (.getfield 9, 3) := by decide +kernel
theorem dX5_add_4 : decode cX5_add 4 = .ok (.aload_n 0, 1) := by decide +kernel
theorem dX5_add_5 : decode cX5_add 5 = .ok (.getfield 25, 3) := by decide +kernel
theorem dX5_add_8 : decode cX5_add 8 = .ok (.iload_n 1, 1) := by decide +kernel
theorem dX5_add_9 : decode cX5_add 9 = .ok (.iastore, 1) := by decide +kernel
theorem dX5_add_10 : decode cX5_add 10 = .ok (.aload_n 0, 1) := by decide +kernel
theorem dX5_add_11 : decode cX5_add 11 = .ok (.getfield 15, 3) := by decide +kernel
theorem dX5_add_14 : decode cX5_add 14 = .ok (.aload_n 0, 1) := by decide +kernel
theorem dX5_add_15 : decode cX5_add 15 = .ok (.getfield 25, 3) := by decide +kernel
theorem dX5_add_18 : decode cX5_add 18 = .ok (.iload_n 2, 1) := by decide +kernel
theorem dX5_add_19 : decode cX5_add 19 = .ok (.iastore, 1) := by decide +kernel
theorem dX5_add_20 : decode cX5_add 20 = .ok (.aload_n 0, 1) := by decide +kernel
theorem dX5_add_21 : decode cX5_add 21 = .ok (.getfield 18, 3) := by decide +kernel
theorem dX5_add_24 : decode cX5_add 24 = .ok (.aload_n 0, 1) := by decide +kernel
theorem dX5_add_25 : decode cX5_add 25 = .ok (.getfield 25, 3) := by decide +kernel
theorem dX5_add_28 : decode cX5_add 28 = .ok (.iload_n 3, 1) := by decide +kernel
theorem dX5_add_29 : decode cX5_add 29 = .ok (.iastore, 1) := by decide +kernel
theorem dX5_add_30 : decode cX5_add 30 = .ok (.aload_n 0, 1) := by decide +kernel
theorem dX5_add_31 : decode cX5_add 31 = .ok (.aload_n 0, 1) := by decide +kernel
theorem dX5_add_32 : decode cX5_add 32 = .ok (.getfield 25, 3) := by decide +kernel
theorem dX5_add_35 : decode cX5_add 35 = .ok (.iconst 1, 1) := by decide +kernel
theorem dX5_add_36 : decode cX5_add 36 = .ok (.iadd, 1) := by decide +kernel
theorem dX5_add_37 : decode cX5_add 37 = .ok (.bipush 15, 2) := by decide +kernel
theorem dX5_add_39 : decode cX5_add 39 = .ok (.iand, 1) := by decide +kernel
theorem dX5_add_40 : decode cX5_add 40 = .ok (.putfield 25, 3) := by decide +kernel
theorem dX5_add_43 : decode cX5_add 43 = .ok (.aload_n 0, 1) := by decide +kernel
theorem dX5_add_44 : decode cX5_add 44 = .ok (.aload_n 0, 1) := by decide +kernel
theorem dX5_add_45 : decode cX5_add 45 = .ok (.getfield 21, 3) := by decide +kernel
theorem dX5_add_48 : decode cX5_add 48 = .ok (.iconst 1, 1) := by decide +kernel
theorem dX5_add_49 : decode cX5_add 49 = .ok (.iadd, 1) := by decide +kernel
theorem dX5_add_50 : decode cX5_add 50 = .ok (.bipush 16, 2) := by decide +kernel
theorem dX5_add_52 : decode cX5_add 52 = .ok (.invokestatic 28, 3) := by decide +kernel
theorem dX5_add_55 : decode cX5_add 55 = .ok (.putfield 21, 3) := by decide +kernel
theorem dX5_add_58 : decode cX5_add 58 = .ok (.return_, 1) := by decide +kernel
theorem dX5_placeOf_0 : decode cX5_placeOf 0 = .ok (.aload_n 0, 1) := by decide +kernel
theorem dX5_placeOf_1 : decode cX5_placeOf 1 = .ok (.getfield 25, 3) := by decide +kernel
theorem dX5_placeOf_4 : decode cX5_placeOf 4 = .ok (.iconst 1, 1) := by decide +kernel
theorem dX5_placeOf_5 : decode cX5_placeOf 5 = .ok (.isub, 1) := by decide +kernel
theorem dX5_placeOf_6 : decode cX5_placeOf 6 = .ok (.iload_n 1, 1) := by decide +kernel
theorem dX5_placeOf_7 : decode cX5_placeOf 7 = .ok (.isub, 1) := by decide +kernel
theorem dX5_placeOf_8 : decode cX5_placeOf 8 = .ok (.bipush 15, 2) := by decide +kernel
theorem dX5_placeOf_10 : decode cX5_placeOf 10 = .ok (.iand, 1) := by decide +kernel
theorem dX5_placeOf_11 : decode cX5_placeOf 11 = .ok (.ireturn, 1) := by decide +kernel
theorem dX6_valueBy_0 : decode cX6_valueBy 0 = .ok (.iload_n 0, 1) := by decide +kernel
theorem dX6_valueBy_1 : decode cX6_valueBy 1 = .ok (.tableswitch 78 0 5 #[39, 43, 47, 51, 59, 67], 39) := by decide +kernel
theorem dX6_valueBy_40 : decode cX6_valueBy 40 = .ok (.iload_n 1, 1) := by decide +kernel
theorem dX6_valueBy_41 : decode cX6_valueBy 41 = .ok (.iload_n 2, 1) := by decide +kernel
theorem dX6_valueBy_42 : decode cX6_valueBy 42 = .ok (.iand, 1) := by decide +kernel
theorem dX6_valueBy_43 : decode cX6_valueBy 43 = .ok (.ireturn, 1) := by decide +kernel
theorem dX6_valueBy_44 : decode cX6_valueBy 44 = .ok (.iload_n 1, 1) := by decide +kernel
theorem dX6_valueBy_45 : decode cX6_valueBy 45 = .ok (.iload_n 2, 1) := by decide +kernel
theorem dX6_valueBy_46 : decode cX6_valueBy 46 = .ok (.ior, 1) := by decide +kernel
theorem dX6_valueBy_47 : decode cX6_valueBy 47 = .ok (.ireturn, 1) := by decide +kernel
theorem dX6_valueBy_48 : decode cX6_valueBy 48 = .ok (.iload_n 1, 1) := by decide +kernel
theorem dX6_valueBy_49 : decode cX6_valueBy 49 = .ok (.iload_n 2, 1) := by decide +kernel
theorem dX6_valueBy_50 : decode cX6_valueBy 50 = .ok (.ixor, 1) := by decide +kernel
theorem dX6_valueBy_51 : decode cX6_valueBy 51 = .ok (.ireturn, 1) := by decide +kernel
theorem dX6_valueBy_52 : decode cX6_valueBy 52 = .ok (.iload_n 1, 1) := by decide +kernel
theorem dX6_valueBy_53 : decode cX6_valueBy 53 = .ok (.iload_n 2, 1) := by decide +kernel
theorem dX6_valueBy_54 : decode cX6_valueBy 54 = .ok (.iadd, 1) := by decide +kernel
theorem dX6_valueBy_55 : decode cX6_valueBy 55 = .ok (.sipush 255, 3) := by decide +kernel
theorem dX6_valueBy_58 : decode cX6_valueBy 58 = .ok (.iand, 1) := by decide +kernel
theorem dX6_valueBy_59 : decode cX6_valueBy 59 = .ok (.ireturn, 1) := by decide +kernel
theorem dX6_valueBy_60 : decode cX6_valueBy 60 = .ok (.iload_n 1, 1) := by decide +kernel
theorem dX6_valueBy_61 : decode cX6_valueBy 61 = .ok (.iload_n 2, 1) := by decide +kernel
theorem dX6_valueBy_62 : decode cX6_valueBy 62 = .ok (.isub, 1) := by decide +kernel
theorem dX6_valueBy_63 : decode cX6_valueBy 63 = .ok (.sipush 255, 3) := by decide +kernel
theorem dX6_valueBy_66 : decode cX6_valueBy 66 = .ok (.iand, 1) := by decide +kernel
theorem dX6_valueBy_67 : decode cX6_valueBy 67 = .ok (.ireturn, 1) := by decide +kernel
theorem dX6_valueBy_68 : decode cX6_valueBy 68 = .ok (.iload_n 1, 1) := by decide +kernel
theorem dX6_valueBy_69 : decode cX6_valueBy 69 = .ok (.iload_n 2, 1) := by decide +kernel
theorem dX6_valueBy_70 : decode cX6_valueBy 70 = .ok (.bipush 7, 2) := by decide +kernel
theorem dX6_valueBy_72 : decode cX6_valueBy 72 = .ok (.iand, 1) := by decide +kernel
theorem dX6_valueBy_73 : decode cX6_valueBy 73 = .ok (.ishl, 1) := by decide +kernel
theorem dX6_valueBy_74 : decode cX6_valueBy 74 = .ok (.sipush 255, 3) := by decide +kernel
theorem dX6_valueBy_77 : decode cX6_valueBy 77 = .ok (.iand, 1) := by decide +kernel
theorem dX6_valueBy_78 : decode cX6_valueBy 78 = .ok (.ireturn, 1) := by decide +kernel
theorem dX6_valueBy_79 : decode cX6_valueBy 79 = .ok (.iload_n 1, 1) := by decide +kernel
theorem dX6_valueBy_80 : decode cX6_valueBy 80 = .ok (.iload_n 2, 1) := by decide +kernel
theorem dX6_valueBy_81 : decode cX6_valueBy 81 = .ok (.bipush 7, 2) := by decide +kernel
theorem dX6_valueBy_83 : decode cX6_valueBy 83 = .ok (.iand, 1) := by decide +kernel
theorem dX6_valueBy_84 : decode cX6_valueBy 84 = .ok (.ishr, 1) := by decide +kernel
theorem dX6_valueBy_85 : decode cX6_valueBy 85 = .ok (.ireturn, 1) := by decide +kernel
set_option maxRecDepth 20000 in
theorem ggX6_shadowBy_X6_valueBy : GoodIn wsX6_shadowBy wsX6_valueBy := goodIn_r _ [4] (by decide +kernel) (by decide +kernel)
set_option maxRecDepth 20000 in
theorem gX6_shadowBy_X6_valueBy : GoodIn wsX6_shadowBy (va_wsS RX6 9 yX6_valueBy wsX6_valueBy) := goodIn_app (goodIn_of _ (by decide +kernel)) ggX6_shadowBy_X6_valueBy
theorem dX6_shadowBy_0 : decode cX6_shadowBy 0 = .ok (.iload_n 1, 1) := by decide +kernel
theorem dX6_shadowBy_1 : decode cX6_shadowBy 1 = .ok (.iload_n 2, 1) := by decide +kernel
theorem dX6_shadowBy_2 : decode cX6_shadowBy 2 = .ok (.iconst (-1), 1) := by decide +kernel
theorem dX6_shadowBy_3 : decode cX6_shadowBy 3 = .ok (.ixor, 1) := by decide +kernel
theorem dX6_shadowBy_4 : decode cX6_shadowBy 4 = .ok (.iand, 1) := by decide +kernel
theorem dX6_shadowBy_5 : decode cX6_shadowBy 5 = .ok (.istore 5, 2) := by decide +kernel
theorem dX6_shadowBy_7 : decode cX6_shadowBy 7 = .ok (.iload_n 1, 1) := by decide +kernel
theorem dX6_shadowBy_8 : decode cX6_shadowBy 8 = .ok (.iload_n 2, 1) := by decide +kernel
theorem dX6_shadowBy_9 : decode cX6_shadowBy 9 = .ok (.ior, 1) := by decide +kernel
theorem dX6_shadowBy_10 : decode cX6_shadowBy 10 = .ok (.istore 6, 2) := by decide +kernel
theorem dX6_shadowBy_12 : decode cX6_shadowBy 12 = .ok (.iload_n 3, 1) := by decide +kernel
theorem dX6_shadowBy_13 : decode cX6_shadowBy 13 = .ok (.iload 4, 2) := by decide +kernel
theorem dX6_shadowBy_15 : decode cX6_shadowBy 15 = .ok (.iconst (-1), 1) := by decide +kernel
theorem dX6_shadowBy_16 : decode cX6_shadowBy 16 = .ok (.ixor, 1) := by decide +kernel
theorem dX6_shadowBy_17 : decode cX6_shadowBy 17 = .ok (.iand, 1) := by decide +kernel
theorem dX6_shadowBy_18 : decode cX6_shadowBy 18 = .ok (.istore 7, 2) := by decide +kernel
theorem dX6_shadowBy_20 : decode cX6_shadowBy 20 = .ok (.iload_n 3, 1) := by decide +kernel
theorem dX6_shadowBy_21 : decode cX6_shadowBy 21 = .ok (.iload 4, 2) := by decide +kernel
theorem dX6_shadowBy_23 : decode cX6_shadowBy 23 = .ok (.ior, 1) := by decide +kernel
theorem dX6_shadowBy_24 : decode cX6_shadowBy 24 = .ok (.istore 8, 2) := by decide +kernel
theorem dX6_shadowBy_26 : decode cX6_shadowBy 26 = .ok (.iload_n 0, 1) := by decide +kernel
theorem dX6_shadowBy_27 : decode cX6_shadowBy 27 = .ok (.tableswitch 106 0 4 #[33, 44, 59, 64, 85], 33) := by decide +kernel
theorem dX6_shadowBy_60 : decode cX6_shadowBy 60 = .ok (.iload_n 2, 1) := by decide +kernel
theorem dX6_shadowBy_61 : decode cX6_shadowBy 61 = .ok (.iload 4, 2) := by decide +kernel
theorem dX6_shadowBy_63 : decode cX6_shadowBy 63 = .ok (.ior, 1) := by decide +kernel
theorem dX6_shadowBy_64 : decode cX6_shadowBy 64 = .ok (.iload 6, 2) := by decide +kernel
theorem dX6_shadowBy_66 : decode cX6_shadowBy 66 = .ok (.iand, 1) := by decide +kernel
theorem dX6_shadowBy_67 : decode cX6_shadowBy 67 = .ok (.iload 8, 2) := by decide +kernel
theorem dX6_shadowBy_69 : decode cX6_shadowBy 69 = .ok (.iand, 1) := by decide +kernel
theorem dX6_shadowBy_70 : decode cX6_shadowBy 70 = .ok (.ireturn, 1) := by decide +kernel
theorem dX6_shadowBy_71 : decode cX6_shadowBy 71 = .ok (.iload_n 2, 1) := by decide +kernel
theorem dX6_shadowBy_72 : decode cX6_shadowBy 72 = .ok (.iload 4, 2) := by decide +kernel
theorem dX6_shadowBy_74 : decode cX6_shadowBy 74 = .ok (.ior, 1) := by decide +kernel
theorem dX6_shadowBy_75 : decode cX6_shadowBy 75 = .ok (.iload 5, 2) := by decide +kernel
theorem dX6_shadowBy_77 : decode cX6_shadowBy 77 = .ok (.iconst (-1), 1) := by decide +kernel
theorem dX6_shadowBy_78 : decode cX6_shadowBy 78 = .ok (.ixor, 1) := by decide +kernel
theorem dX6_shadowBy_79 : decode cX6_shadowBy 79 = .ok (.iand, 1) := by decide +kernel
theorem dX6_shadowBy_80 : decode cX6_shadowBy 80 = .ok (.iload 7, 2) := by decide +kernel
theorem dX6_shadowBy_82 : decode cX6_shadowBy 82 = .ok (.iconst (-1), 1) := by decide +kernel
theorem dX6_shadowBy_83 : decode cX6_shadowBy 83 = .ok (.ixor, 1) := by decide +kernel
theorem dX6_shadowBy_84 : decode cX6_shadowBy 84 = .ok (.iand, 1) := by decide +kernel
theorem dX6_shadowBy_85 : decode cX6_shadowBy 85 = .ok (.ireturn, 1) := by decide +kernel
theorem dX6_shadowBy_86 : decode cX6_shadowBy 86 = .ok (.iload_n 2, 1) := by decide +kernel
theorem dX6_shadowBy_87 : decode cX6_shadowBy 87 = .ok (.iload 4, 2) := by decide +kernel
theorem dX6_shadowBy_89 : decode cX6_shadowBy 89 = .ok (.ior, 1) := by decide +kernel
theorem dX6_shadowBy_90 : decode cX6_shadowBy 90 = .ok (.ireturn, 1) := by decide +kernel
theorem dX6_shadowBy_91 : decode cX6_shadowBy 91 = .ok (.iload 5, 2) := by decide +kernel
theorem dX6_shadowBy_93 : decode cX6_shadowBy 93 = .ok (.iload 7, 2) := by decide +kernel
theorem dX6_shadowBy_95 : decode cX6_shadowBy 95 = .ok (.iadd, 1) := by decide +kernel
theorem dX6_shadowBy_96 : decode cX6_shadowBy 96 = .ok (.iload 6, 2) := by decide +kernel
theorem dX6_shadowBy_98 : decode cX6_shadowBy 98 = .ok (.iload 8, 2) := by decide +kernel
theorem dX6_shadowBy_100 : decode cX6_shadowBy 100 = .ok (.iadd, 1) := by decide +kernel
theorem dX6_shadowBy_101 : decode cX6_shadowBy 101 = .ok (.ixor, 1) := by decide +kernel
theorem dX6_shadowBy_102 : decode cX6_shadowBy 102 = .ok (.iload_n 2, 1) := by decide +kernel
theorem dX6_shadowBy_103 : decode cX6_shadowBy 103 = .ok (.ior, 1) := by decide +kernel
theorem dX6_shadowBy_104 : decode cX6_shadowBy 104 = .ok (.iload 4, 2) := by decide +kernel
theorem dX6_shadowBy_106 : decode cX6_shadowBy 106 = .ok (.ior, 1) := by decide +kernel
theorem dX6_shadowBy_107 : decode cX6_shadowBy 107 = .ok (.sipush 255, 3) := by decide +kernel
theorem dX6_shadowBy_110 : decode cX6_shadowBy 110 = .ok (.iand, 1) := by decide +kernel
theorem dX6_shadowBy_111 : decode cX6_shadowBy 111 = .ok (.ireturn, 1) := by decide +kernel
theorem dX6_shadowBy_112 : decode cX6_shadowBy 112 = .ok (.iload 5, 2) := by decide +kernel
theorem dX6_shadowBy_114 : decode cX6_shadowBy 114 = .ok (.iload 8, 2) := by decide +kernel
theorem dX6_shadowBy_116 : decode cX6_shadowBy 116 = .ok (.isub, 1) := by decide +kernel
theorem dX6_shadowBy_117 : decode cX6_shadowBy 117 = .ok (.iload 6, 2) := by decide +kernel
theorem dX6_shadowBy_119 : decode cX6_shadowBy 119 = .ok (.iload 7, 2) := by decide +kernel
theorem dX6_shadowBy_121 : decode cX6_shadowBy 121 = .ok (.isub, 1) := by decide +kernel
theorem dX6_shadowBy_122 : decode cX6_shadowBy 122 = .ok (.ixor, 1) := by decide +kernel
theorem dX6_shadowBy_123 : decode cX6_shadowBy 123 = .ok (.iload_n 2, 1) := by decide +kernel
theorem dX6_shadowBy_124 : decode cX6_shadowBy 124 = .ok (.ior, 1) := by decide +kernel
theorem dX6_shadowBy_125 : decode cX6_shadowBy 125 = .ok (.iload 4, 2) := by decide +kernel
theorem dX6_shadowBy_127 : decode cX6_shadowBy 127 = .ok (.ior, 1) := by decide +kernel
theorem dX6_shadowBy_128 : decode cX6_shadowBy 128 = .ok (.sipush 255, 3) := by decide +kernel
theorem dX6_shadowBy_131 : decode cX6_shadowBy 131 = .ok (.iand, 1) := by decide +kernel
theorem dX6_shadowBy_132 : decode cX6_shadowBy 132 = .ok (.ireturn, 1) := by decide +kernel
theorem dX6_shadowBy_133 : decode cX6_shadowBy 133 = .ok (.iload 4, 2) := by decide +kernel
theorem dX6_shadowBy_135 : decode cX6_shadowBy 135 = .ok (.bipush 7, 2) := by decide +kernel
theorem dX6_shadowBy_137 : decode cX6_shadowBy 137 = .ok (.iand, 1) := by decide +kernel
theorem dX6_shadowBy_138 : decode cX6_shadowBy 138 = .ok (.ifCond .eq 9, 3) := by decide +kernel
theorem dX6_shadowBy_141 : decode cX6_shadowBy 141 = .ok (.sipush 255, 3) := by decide +kernel
theorem dX6_shadowBy_144 : decode cX6_shadowBy 144 = .ok (.goto 9, 3) := by decide +kernel
theorem dX6_shadowBy_147 : decode cX6_shadowBy 147 = .ok (.iload_n 0, 1) := by decide +kernel
theorem dX6_shadowBy_148 : decode cX6_shadowBy 148 = .ok (.iload_n 2, 1) := by decide +kernel
theorem dX6_shadowBy_149 : decode cX6_shadowBy 149 = .ok (.iload_n 3, 1) := by decide +kernel
theorem dX6_shadowBy_150 : decode cX6_shadowBy 150 = .ok (.invokestatic 9, 3) := by decide +kernel
theorem dX6_shadowBy_153 : decode cX6_shadowBy 153 = .ok (.ireturn, 1) := by decide +kernel
set_option maxRecDepth 20000 in
theorem ggX6_exactBy_X6_shadowBy : GoodIn wsX6_exactBy wsX6_shadowBy := goodIn_r _ [4, 5, 6, 3, 7] (by decide +kernel) (by decide +kernel)
set_option maxRecDepth 20000 in
theorem gX6_exactBy_X6_shadowBy : GoodIn wsX6_exactBy (va_wsS RX6 15 yX6_shadowBy wsX6_shadowBy) := goodIn_app (goodIn_of _ (by decide +kernel)) ggX6_exactBy_X6_shadowBy
set_option maxRecDepth 20000 in
theorem ggX6_exactBy_X6_exactShift : GoodIn wsX6_exactBy wsX6_exactShift := goodIn_r _ [10, 5, 6, 3, 7] (by decide +kernel) (by decide +kernel)
set_option maxRecDepth 20000 in
theorem gX6_exactBy_X6_exactShift : GoodIn wsX6_exactBy (va_wsS RX6 19 yX6_exactShift wsX6_exactShift) := goodIn_app (goodIn_of _ (by decide +kernel)) ggX6_exactBy_X6_exactShift
theorem dX6_exactBy_0 : decode cX6_exactBy 0 = .ok (.iload_n 0, 1) := by decide +kernel
theorem dX6_exactBy_1 : decode cX6_exactBy 1 = .ok (.iconst 5, 1) := by decide +kernel
theorem dX6_exactBy_2 : decode cX6_exactBy 2 = .ok (.if_icmp .ge 15, 3) := by decide +kernel
theorem dX6_exactBy_5 : decode cX6_exactBy 5 = .ok (.iload_n 0, 1) := by decide +kernel
theorem dX6_exactBy_6 : decode cX6_exactBy 6 = .ok (.iload_n 1, 1) := by decide +kernel
theorem dX6_exactBy_7 : decode cX6_exactBy 7 = .ok (.iload_n 2, 1) := by decide +kernel
theorem dX6_exactBy_8 : decode cX6_exactBy 8 = .ok (.iload_n 3, 1) := by decide +kernel
theorem dX6_exactBy_9 : decode cX6_exactBy 9 = .ok (.iload 4, 2) := by decide +kernel
theorem dX6_exactBy_11 : decode cX6_exactBy 11 = .ok (.invokestatic 15, 3) := by decide +kernel
theorem dX6_exactBy_14 : decode cX6_exactBy 14 = .ok (.goto 12, 3) := by decide +kernel
theorem dX6_exactBy_17 : decode cX6_exactBy 17 = .ok (.iload_n 0, 1) := by decide +kernel
theorem dX6_exactBy_18 : decode cX6_exactBy 18 = .ok (.iload_n 1, 1) := by decide +kernel
theorem dX6_exactBy_19 : decode cX6_exactBy 19 = .ok (.iload_n 2, 1) := by decide +kernel
theorem dX6_exactBy_20 : decode cX6_exactBy 20 = .ok (.iload_n 3, 1) := by decide +kernel
theorem dX6_exactBy_21 : decode cX6_exactBy 21 = .ok (.iload 4, 2) := by decide +kernel
theorem dX6_exactBy_23 : decode cX6_exactBy 23 = .ok (.invokestatic 19, 3) := by decide +kernel
theorem dX6_exactBy_26 : decode cX6_exactBy 26 = .ok (.ireturn, 1) := by decide +kernel
set_option maxRecDepth 20000 in
theorem ggX6_exactShift_X6_valueBy : GoodIn wsX6_exactShift wsX6_valueBy := goodIn_r _ [4] (by decide +kernel) (by decide +kernel)
set_option maxRecDepth 20000 in
theorem gX6_exactShift_X6_valueBy : GoodIn wsX6_exactShift (va_wsS RX6 9 yX6_valueBy wsX6_valueBy) := goodIn_app (goodIn_of _ (by decide +kernel)) ggX6_exactShift_X6_valueBy
theorem dX6_exactShift_0 : decode cX6_exactShift 0 = .ok (.iconst 0, 1) := by decide +kernel
theorem dX6_exactShift_1 : decode cX6_exactShift 1 = .ok (.istore 5, 2) := by decide +kernel
theorem dX6_exactShift_3 : decode cX6_exactShift 3 = .ok (.sipush 255, 3) := by decide +kernel
theorem dX6_exactShift_6 : decode cX6_exactShift 6 = .ok (.istore 6, 2) := by decide +kernel
theorem dX6_exactShift_8 : decode cX6_exactShift 8 = .ok (.iconst 0, 1) := by decide +kernel
theorem dX6_exactShift_9 : decode cX6_exactShift 9 = .ok (.istore 7, 2) := by decide +kernel
theorem dX6_exactShift_11 : decode cX6_exactShift 11 = .ok (.iload 7, 2) := by decide +kernel
theorem dX6_exactShift_13 : decode cX6_exactShift 13 = .ok (.bipush 7, 2) := by decide +kernel
theorem dX6_exactShift_15 : decode cX6_exactShift 15 = .ok (.if_icmp .gt 66, 3) := by decide +kernel
theorem dX6_exactShift_18 : decode cX6_exactShift 18 = .ok (.iload 7, 2) := by decide +kernel
theorem dX6_exactShift_20 : decode cX6_exactShift 20 = .ok (.iload_n 3, 1) := by decide +kernel
theorem dX6_exactShift_21 : decode cX6_exactShift 21 = .ok (.ixor, 1) := by decide +kernel
theorem dX6_exactShift_22 : decode cX6_exactShift 22 = .ok (.iload 4, 2) := by decide +kernel
theorem dX6_exactShift_24 : decode cX6_exactShift 24 = .ok (.iconst (-1), 1) := by decide +kernel
theorem dX6_exactShift_25 : decode cX6_exactShift 25 = .ok (.ixor, 1) := by decide +kernel
theorem dX6_exactShift_26 : decode cX6_exactShift 26 = .ok (.iand, 1) := by decide +kernel
theorem dX6_exactShift_27 : decode cX6_exactShift 27 = .ok (.bipush 7, 2) := by decide +kernel
theorem dX6_exactShift_29 : decode cX6_exactShift 29 = .ok (.iand, 1) := by decide +kernel
theorem dX6_exactShift_30 : decode cX6_exactShift 30 = .ok (.ifCond .ne 7, 3) := by decide +kernel
theorem dX6_exactShift_33 : decode cX6_exactShift 33 = .ok (.iconst 1, 1) := by decide +kernel
theorem dX6_exactShift_34 : decode cX6_exactShift 34 = .ok (.goto 4, 3) := by decide +kernel
theorem dX6_exactShift_37 : decode cX6_exactShift 37 = .ok (.iconst 0, 1) := by decide +kernel
theorem dX6_exactShift_38 : decode cX6_exactShift 38 = .ok (.istore 8, 2) := by decide +kernel
theorem dX6_exactShift_40 : decode cX6_exactShift 40 = .ok (.iload 8, 2) := by decide +kernel
theorem dX6_exactShift_42 : decode cX6_exactShift 42 = .ok (.ifCond .eq 33, 3) := by decide +kernel
theorem dX6_exactShift_45 : decode cX6_exactShift 45 = .ok (.iload 5, 2) := by decide +kernel
theorem dX6_exactShift_47 : decode cX6_exactShift 47 = .ok (.iload_n 0, 1) := by decide +kernel
theorem dX6_exactShift_48 : decode cX6_exactShift 48 = .ok (.iload_n 1, 1) := by decide +kernel
theorem dX6_exactShift_49 : decode cX6_exactShift 49 = .ok (.iload_n 2, 1) := by decide +kernel
theorem dX6_exactShift_50 : decode cX6_exactShift 50 = .ok (.ior, 1) := by decide +kernel
theorem dX6_exactShift_51 : decode cX6_exactShift 51 = .ok (.iload 7, 2) := by decide +kernel
theorem dX6_exactShift_53 : decode cX6_exactShift 53 = .ok (.invokestatic 9, 3) := by decide +kernel
theorem dX6_exactShift_56 : decode cX6_exactShift 56 = .ok (.ior, 1) := by decide +kernel
theorem dX6_exactShift_57 : decode cX6_exactShift 57 = .ok (.istore 5, 2) := by decide +kernel
theorem dX6_exactShift_59 : decode cX6_exactShift 59 = .ok (.iload 6, 2) := by decide +kernel
theorem dX6_exactShift_61 : decode cX6_exactShift 61 = .ok (.iload_n 0, 1) := by decide +kernel
theorem dX6_exactShift_62 : decode cX6_exactShift 62 = .ok (.iload_n 1, 1) := by decide +kernel
theorem dX6_exactShift_63 : decode cX6_exactShift 63 = .ok (.iload_n 2, 1) := by decide +kernel
theorem dX6_exactShift_64 : decode cX6_exactShift 64 = .ok (.iconst (-1), 1) := by decide +kernel
theorem dX6_exactShift_65 : decode cX6_exactShift 65 = .ok (.ixor, 1) := by decide +kernel
theorem dX6_exactShift_66 : decode cX6_exactShift 66 = .ok (.iand, 1) := by decide +kernel
theorem dX6_exactShift_67 : decode cX6_exactShift 67 = .ok (.iload 7, 2) := by decide +kernel
theorem dX6_exactShift_69 : decode cX6_exactShift 69 = .ok (.invokestatic 9, 3) := by decide +kernel
theorem dX6_exactShift_72 : decode cX6_exactShift 72 = .ok (.iand, 1) := by decide +kernel
theorem dX6_exactShift_73 : decode cX6_exactShift 73 = .ok (.istore 6, 2) := by decide +kernel
theorem dX6_exactShift_75 : decode cX6_exactShift 75 = .ok (.iinc 7 1, 3) := by decide +kernel
theorem dX6_exactShift_78 : decode cX6_exactShift 78 = .ok (.goto (-67), 3) := by decide +kernel
theorem dX6_exactShift_81 : decode cX6_exactShift 81 = .ok (.iload 5, 2) := by decide +kernel
theorem dX6_exactShift_83 : decode cX6_exactShift 83 = .ok (.iload 6, 2) := by decide +kernel
theorem dX6_exactShift_85 : decode cX6_exactShift 85 = .ok (.iconst (-1), 1) := by decide +kernel
theorem dX6_exactShift_86 : decode cX6_exactShift 86 = .ok (.ixor, 1) := by decide +kernel
theorem dX6_exactShift_87 : decode cX6_exactShift 87 = .ok (.iand, 1) := by decide +kernel
theorem dX6_exactShift_88 : decode cX6_exactShift 88 = .ok (.ireturn, 1) := by decide +kernel
set_option maxRecDepth 20000 in
theorem ggX6_cellBy_X0_valueOf : GoodIn wsX6_cellBy wsX0_valueOf := goodIn_r _ [4] (by decide +kernel) (by decide +kernel)
set_option maxRecDepth 20000 in
theorem gX6_cellBy_X0_valueOf : GoodIn wsX6_cellBy (va_wsS RX6 22 yX0_valueOf wsX0_valueOf) := goodIn_app (goodIn_of _ (by decide +kernel)) ggX6_cellBy_X0_valueOf
set_option maxRecDepth 20000 in
theorem ggX6_cellBy_X0_shadowOf : GoodIn wsX6_cellBy wsX0_shadowOf := goodIn_r _ [7] (by decide +kernel) (by decide +kernel)
set_option maxRecDepth 20000 in
theorem gX6_cellBy_X0_shadowOf : GoodIn wsX6_cellBy (va_wsS RX6 28 yX0_shadowOf wsX0_shadowOf) := goodIn_app (goodIn_of _ (by decide +kernel)) ggX6_cellBy_X0_shadowOf
set_option maxRecDepth 20000 in
theorem ggX6_cellBy_X6_shadowBy : GoodIn wsX6_cellBy wsX6_shadowBy := goodIn_r _ [11, 12, 13, 10, 14] (by decide +kernel) (by decide +kernel)
set_option maxRecDepth 20000 in
theorem gX6_cellBy_X6_shadowBy : GoodIn wsX6_cellBy (va_wsS RX6 15 yX6_shadowBy wsX6_shadowBy) := goodIn_app (goodIn_of _ (by decide +kernel)) ggX6_cellBy_X6_shadowBy
set_option maxRecDepth 20000 in
theorem ggX6_cellBy_X6_valueBy : GoodIn wsX6_cellBy wsX6_valueBy := goodIn_r _ [14] (by decide +kernel) (by decide +kernel)
set_option maxRecDepth 20000 in
theorem gX6_cellBy_X6_valueBy : GoodIn wsX6_cellBy (va_wsS RX6 9 yX6_valueBy wsX6_valueBy) := goodIn_app (goodIn_of _ (by decide +kernel)) ggX6_cellBy_X6_valueBy
set_option maxRecDepth 20000 in
theorem ggX6_cellBy_X0_fromOf : GoodIn wsX6_cellBy wsX0_fromOf := goodIn_r _ [17] (by decide +kernel) (by decide +kernel)
set_option maxRecDepth 20000 in
theorem gX6_cellBy_X0_fromOf : GoodIn wsX6_cellBy (va_wsS RX6 31 yX0_fromOf wsX0_fromOf) := goodIn_app (goodIn_of _ (by decide +kernel)) ggX6_cellBy_X0_fromOf
set_option maxRecDepth 20000 in
theorem ggX6_cellBy_X0_of : GoodIn wsX6_cellBy wsX0_of := goodIn_r _ [20] (by decide +kernel) (by decide +kernel)
set_option maxRecDepth 20000 in
theorem gX6_cellBy_X0_of : GoodIn wsX6_cellBy (va_wsS RX6 34 yX0_of wsX0_of) := goodIn_app (goodIn_of _ (by decide +kernel)) ggX6_cellBy_X0_of
theorem dX6_cellBy_0 : decode cX6_cellBy 0 = .ok (.iload_n 1, 1) := by decide +kernel
theorem dX6_cellBy_1 : decode cX6_cellBy 1 = .ok (.invokestatic 22, 3) := by decide +kernel
theorem dX6_cellBy_4 : decode cX6_cellBy 4 = .ok (.istore_n 3, 1) := by decide +kernel
theorem dX6_cellBy_5 : decode cX6_cellBy 5 = .ok (.iload_n 2, 1) := by decide +kernel
theorem dX6_cellBy_6 : decode cX6_cellBy 6 = .ok (.invokestatic 22, 3) := by decide +kernel
theorem dX6_cellBy_9 : decode cX6_cellBy 9 = .ok (.istore 4, 2) := by decide +kernel
theorem dX6_cellBy_11 : decode cX6_cellBy 11 = .ok (.iload_n 0, 1) := by decide +kernel
theorem dX6_cellBy_12 : decode cX6_cellBy 12 = .ok (.iload_n 3, 1) := by decide +kernel
theorem dX6_cellBy_13 : decode cX6_cellBy 13 = .ok (.iload_n 1, 1) := by decide +kernel
theorem dX6_cellBy_14 : decode cX6_cellBy 14 = .ok (.invokestatic 28, 3) := by decide +kernel
theorem dX6_cellBy_17 : decode cX6_cellBy 17 = .ok (.iload 4, 2) := by decide +kernel
theorem dX6_cellBy_19 : decode cX6_cellBy 19 = .ok (.iload_n 2, 1) := by decide +kernel
theorem dX6_cellBy_20 : decode cX6_cellBy 20 = .ok (.invokestatic 28, 3) := by decide +kernel
theorem dX6_cellBy_23 : decode cX6_cellBy 23 = .ok (.invokestatic 15, 3) := by decide +kernel
theorem dX6_cellBy_26 : decode cX6_cellBy 26 = .ok (.istore 5, 2) := by decide +kernel
theorem dX6_cellBy_28 : decode cX6_cellBy 28 = .ok (.iload_n 0, 1) := by decide +kernel
theorem dX6_cellBy_29 : decode cX6_cellBy 29 = .ok (.iload_n 3, 1) := by decide +kernel
theorem dX6_cellBy_30 : decode cX6_cellBy 30 = .ok (.iload 4, 2) := by decide +kernel
theorem dX6_cellBy_32 : decode cX6_cellBy 32 = .ok (.invokestatic 9, 3) := by decide +kernel
theorem dX6_cellBy_35 : decode cX6_cellBy 35 = .ok (.iload 5, 2) := by decide +kernel
theorem dX6_cellBy_37 : decode cX6_cellBy 37 = .ok (.iload_n 1, 1) := by decide +kernel
theorem dX6_cellBy_38 : decode cX6_cellBy 38 = .ok (.invokestatic 31, 3) := by decide +kernel
theorem dX6_cellBy_41 : decode cX6_cellBy 41 = .ok (.iload_n 2, 1) := by decide +kernel
theorem dX6_cellBy_42 : decode cX6_cellBy 42 = .ok (.invokestatic 31, 3) := by decide +kernel
theorem dX6_cellBy_45 : decode cX6_cellBy 45 = .ok (.ior, 1) := by decide +kernel
theorem dX6_cellBy_46 : decode cX6_cellBy 46 = .ok (.invokestatic 34, 3) := by decide +kernel
theorem dX6_cellBy_49 : decode cX6_cellBy 49 = .ok (.ireturn, 1) := by decide +kernel
set_option maxRecDepth 20000 in
theorem ggX6_slackOf_X0_valueOf : GoodIn wsX6_slackOf wsX0_valueOf := goodIn_r _ [4] (by decide +kernel) (by decide +kernel)
set_option maxRecDepth 20000 in
theorem gX6_slackOf_X0_valueOf : GoodIn wsX6_slackOf (va_wsS RX6 22 yX0_valueOf wsX0_valueOf) := goodIn_app (goodIn_of _ (by decide +kernel)) ggX6_slackOf_X0_valueOf
set_option maxRecDepth 20000 in
theorem ggX6_slackOf_X0_shadowOf : GoodIn wsX6_slackOf wsX0_shadowOf := goodIn_r _ [7] (by decide +kernel) (by decide +kernel)
set_option maxRecDepth 20000 in
theorem gX6_slackOf_X0_shadowOf : GoodIn wsX6_slackOf (va_wsS RX6 28 yX0_shadowOf wsX0_shadowOf) := goodIn_app (goodIn_of _ (by decide +kernel)) ggX6_slackOf_X0_shadowOf
set_option maxRecDepth 20000 in
theorem ggX6_slackOf_X6_shadowBy : GoodIn wsX6_slackOf wsX6_shadowBy := goodIn_r _ [11, 12, 13, 10, 14] (by decide +kernel) (by decide +kernel)
set_option maxRecDepth 20000 in
theorem gX6_slackOf_X6_shadowBy : GoodIn wsX6_slackOf (va_wsS RX6 15 yX6_shadowBy wsX6_shadowBy) := goodIn_app (goodIn_of _ (by decide +kernel)) ggX6_slackOf_X6_shadowBy
set_option maxRecDepth 20000 in
theorem ggX6_slackOf_X6_exactBy : GoodIn wsX6_slackOf wsX6_exactBy := goodIn_r _ [17, 8, 9, 10, 11, 12, 13, 14, 18, 19, 20] (by decide +kernel) (by decide +kernel)
set_option maxRecDepth 20000 in
theorem gX6_slackOf_X6_exactBy : GoodIn wsX6_slackOf (va_wsS RX6 37 yX6_exactBy wsX6_exactBy) := goodIn_app (goodIn_of _ (by decide +kernel)) ggX6_slackOf_X6_exactBy
set_option maxRecDepth 20000 in
theorem ggX6_slackOf_J6_bitCount_0f7a4 : GoodIn wsX6_slackOf wsJ6_bitCount_0f7a4 := goodIn_r _ [24, 25, 26, 27] (by decide +kernel) (by decide +kernel)
set_option maxRecDepth 20000 in
theorem gX6_slackOf_J6_bitCount_0f7a4 : GoodIn wsX6_slackOf (va_wsS RX6 40 yJ6_bitCount_0f7a4 wsJ6_bitCount_0f7a4) := goodIn_app (goodIn_of _ (by decide +kernel)) ggX6_slackOf_J6_bitCount_0f7a4
theorem dX6_slackOf_0 : decode cX6_slackOf 0 = .ok (.iload_n 1, 1) := by decide +kernel
theorem dX6_slackOf_1 : decode cX6_slackOf 1 = .ok (.invokestatic 22, 3) := by decide +kernel
theorem dX6_slackOf_4 : decode cX6_slackOf 4 = .ok (.istore_n 3, 1) := by decide +kernel
theorem dX6_slackOf_5 : decode cX6_slackOf 5 = .ok (.iload_n 1, 1) := by decide +kernel
theorem dX6_slackOf_6 : decode cX6_slackOf 6 = .ok (.invokestatic 28, 3) := by decide +kernel
theorem dX6_slackOf_9 : decode cX6_slackOf 9 = .ok (.istore 4, 2) := by decide +kernel
theorem dX6_slackOf_11 : decode cX6_slackOf 11 = .ok (.iload_n 2, 1) := by decide +kernel
theorem dX6_slackOf_12 : decode cX6_slackOf 12 = .ok (.invokestatic 22, 3) := by decide +kernel
theorem dX6_slackOf_15 : decode cX6_slackOf 15 = .ok (.istore 5, 2) := by decide +kernel
theorem dX6_slackOf_17 : decode cX6_slackOf 17 = .ok (.iload_n 2, 1) := by decide +kernel
theorem dX6_slackOf_18 : decode cX6_slackOf 18 = .ok (.invokestatic 28, 3) := by decide +kernel
theorem dX6_slackOf_21 : decode cX6_slackOf 21 = .ok (.istore 6, 2) := by decide +kernel
theorem dX6_slackOf_23 : decode cX6_slackOf 23 = .ok (.iload_n 0, 1) := by decide +kernel
theorem dX6_slackOf_24 : decode cX6_slackOf 24 = .ok (.iload_n 3, 1) := by decide +kernel
theorem dX6_slackOf_25 : decode cX6_slackOf 25 = .ok (.iload 4, 2) := by decide +kernel
theorem dX6_slackOf_27 : decode cX6_slackOf 27 = .ok (.iload 5, 2) := by decide +kernel
theorem dX6_slackOf_29 : decode cX6_slackOf 29 = .ok (.iload 6, 2) := by decide +kernel
theorem dX6_slackOf_31 : decode cX6_slackOf 31 = .ok (.invokestatic 15, 3) := by decide +kernel
theorem dX6_slackOf_34 : decode cX6_slackOf 34 = .ok (.iload_n 0, 1) := by decide +kernel
theorem dX6_slackOf_35 : decode cX6_slackOf 35 = .ok (.iload_n 3, 1) := by decide +kernel
theorem dX6_slackOf_36 : decode cX6_slackOf 36 = .ok (.iload 4, 2) := by decide +kernel
theorem dX6_slackOf_38 : decode cX6_slackOf 38 = .ok (.iload 5, 2) := by decide +kernel
theorem dX6_slackOf_40 : decode cX6_slackOf 40 = .ok (.iload 6, 2) := by decide +kernel
theorem dX6_slackOf_42 : decode cX6_slackOf 42 = .ok (.invokestatic 37, 3) := by decide +kernel
theorem dX6_slackOf_45 : decode cX6_slackOf 45 = .ok (.iconst (-1), 1) := by decide +kernel
theorem dX6_slackOf_46 : decode cX6_slackOf 46 = .ok (.ixor, 1) := by decide +kernel
theorem dX6_slackOf_47 : decode cX6_slackOf 47 = .ok (.iand, 1) := by decide +kernel
theorem dX6_slackOf_48 : decode cX6_slackOf 48 = .ok (.invokestatic 40, 3) := by decide +kernel
theorem dX6_slackOf_51 : decode cX6_slackOf 51 = .ok (.ireturn, 1) := by decide +kernel
set_option maxRecDepth 20000 in
theorem ggX7_init_X4_init : GoodIn wsX7_init wsX4_init := goodIn_r _ [27, 28, 2, 3, 29, 30, 93, 94] (by decide +kernel) (by decide +kernel)
set_option maxRecDepth 20000 in
theorem gX7_init_X4_init_n11 : GoodIn wsX7_init (wsX4_init) := ggX7_init_X4_init
set_option maxRecDepth 20000 in
theorem ggX7_init_X3_init : GoodIn wsX7_init wsX3_init := goodIn_r _ [32, 33, 2, 3, 29, 34, 35, 36, 107, 108, 109, 110, 111] (by decide +kernel) (by decide +kernel)
set_option maxRecDepth 20000 in
theorem gX7_init_X3_init_n24 : GoodIn wsX7_init (wsX3_init) := ggX7_init_X3_init
set_option maxRecDepth 20000 in
theorem ggX7_init_X2_init : GoodIn wsX7_init wsX2_init := goodIn_r _ [38, 39, 2, 3, 29, 40, 41, 42, 112, 113, 114, 115, 116] (by decide +kernel) (by decide +kernel)
set_option maxRecDepth 20000 in
theorem gX7_init_X2_init_n31 : GoodIn wsX7_init (wsX2_init) := ggX7_init_X2_init
set_option maxRecDepth 20000 in
theorem ggX7_init_X5_init : GoodIn wsX7_init wsX5_init := goodIn_r _ [44, 45, 2, 3, 29, 46, 47, 48, 117, 118, 119, 120, 121] (by decide +kernel) (by decide +kernel)
set_option maxRecDepth 20000 in
theorem gX7_init_X5_init_n38 : GoodIn wsX7_init (wsX5_init) := ggX7_init_X5_init
set_option maxRecDepth 20000 in
theorem ggX7_init_X1_init : GoodIn wsX7_init wsX1_init := goodIn_r _ [50, 51, 2, 3, 29, 52, 53, 122, 123, 124, 125] (by decide +kernel) (by decide +kernel)
set_option maxRecDepth 20000 in
theorem gX7_init_X1_init_n45 : GoodIn wsX7_init (wsX1_init) := ggX7_init_X1_init
set_option maxRecDepth 20000 in
theorem ggX7_init_X7_begin : GoodIn wsX7_init wsX7_begin := goodIn_r _ [58, 7, 13, 17, 21, 25, 59, 60, 61, 62, 63, 64, 65, 66, 6, 67, 30, 68, 69, 70, 71, 12, 72, 36, 73, 74, 75, 76, 77, 16, 78, 79, 80, 81, 82, 83, 20, 84, 85, 86, 87, 88, 89, 24, 90, 91, 92, 95, 96, 97, 98, 99, 100, 101, 102, 103, 104, 105, 106, 93, 94, 107, 108, 109, 110, 111, 112, 113, 114, 115, 116, 117, 118, 119, 120, 121, 122, 123, 124, 125] (by decide +kernel) (by decide +kernel)
set_option maxRecDepth 20000 in
theorem gX7_init_X7_begin : GoodIn wsX7_init (wsV RX7 50 RX7 yX7_begin wsX7_begin) := goodIn_app (goodIn_of _ (by decide +kernel)) ggX7_init_X7_begin
theorem dX7_init_0 : decode cX7_init 0 = .ok (.aload_n 0, 1) := by decide +kernel
theorem dX7_init_1 : decode cX7_init 1 = .ok (.invokespecial 3, 3) := by decide +kernel
theorem dX7_init_4 : decode cX7_init 4 = .ok (.aload_n 0, 1) := by decide +kernel
theorem dX7_init_5 : decode cX7_init 5 = .ok (.new 9, 3) := by decide +kernel
theorem dX7_init_8 : decode cX7_init 8 = .ok (.dup, 1) := by decide +kernel
theorem dX7_init_9 : decode cX7_init 9 = .ok (.invokespecial 11, 3) := by decide +kernel
theorem dX7_init_12 : decode cX7_init 12 = .ok (.putfield 12, 3) := by decide +kernel
theorem dX7_init_15 : decode cX7_init 15 = .ok (.aload_n 0, 1) := by decide +kernel
theorem dX7_init_16 : decode cX7_init 16 = .ok (.new 9, 3) := by decide +kernel
theorem dX7_init_19 : decode cX7_init 19 = .ok (.dup, 1) := by decide +kernel
theorem dX7_init_20 : decode cX7_init 20 = .ok (.invokespecial 11, 3) := by decide +kernel
theorem dX7_init_23 : decode cX7_init 23 = .ok (.putfield 16, 3) := by decide +kernel
theorem dX7_init_26 : decode cX7_init 26 = .ok (.aload_n 0, 1) := by decide +kernel
theorem dX7_init_27 : decode cX7_init 27 = .ok (.new 9, 3) := by decide +kernel
theorem dX7_init_30 : decode cX7_init 30 = .ok (.dup, 1) := by decide +kernel
theorem dX7_init_31 : decode cX7_init 31 = .ok (.invokespecial 11, 3) := by decide +kernel
theorem dX7_init_34 : decode cX7_init 34 = .ok (.putfield 19, 3) := by decide +kernel
theorem dX7_init_37 : decode cX7_init 37 = .ok (.aload_n 0, 1) := by decide +kernel
theorem dX7_init_38 : decode cX7_init 38 = .ok (.new 22, 3) := by decide +kernel
theorem dX7_init_41 : decode cX7_init 41 = .ok (.dup, 1) := by decide +kernel
theorem dX7_init_42 : decode cX7_init 42 = .ok (.invokespecial 24, 3) := by decide +kernel
theorem dX7_init_45 : decode cX7_init 45 = .ok (.putfield 25, 3) := by decide +kernel
theorem dX7_init_48 : decode cX7_init 48 = .ok (.aload_n 0, 1) := by decide +kernel
theorem dX7_init_49 : decode cX7_init 49 = .ok (.new 29, 3) := by decide +kernel
theorem dX7_init_52 : decode cX7_init 52 = .ok (.dup, 1) := by decide +kernel
theorem dX7_init_53 : decode cX7_init 53 = .ok (.invokespecial 31, 3) := by decide +kernel
theorem dX7_init_56 : decode cX7_init 56 = .ok (.putfield 32, 3) := by decide +kernel
theorem dX7_init_59 : decode cX7_init 59 = .ok (.aload_n 0, 1) := by decide +kernel
theorem dX7_init_60 : decode cX7_init 60 = .ok (.new 36, 3) := by decide +kernel
theorem dX7_init_63 : decode cX7_init 63 = .ok (.dup, 1) := by decide +kernel
theorem dX7_init_64 : decode cX7_init 64 = .ok (.invokespecial 38, 3) := by decide +kernel
theorem dX7_init_67 : decode cX7_init 67 = .ok (.putfield 39, 3) := by decide +kernel
theorem dX7_init_70 : decode cX7_init 70 = .ok (.aload_n 0, 1) := by decide +kernel
theorem dX7_init_71 : decode cX7_init 71 = .ok (.new 43, 3) := by decide +kernel
theorem dX7_init_74 : decode cX7_init 74 = .ok (.dup, 1) := by decide +kernel
theorem dX7_init_75 : decode cX7_init 75 = .ok (.invokespecial 45, 3) := by decide +kernel
theorem dX7_init_78 : decode cX7_init 78 = .ok (.putfield 46, 3) := by decide +kernel
theorem dX7_init_81 : decode cX7_init 81 = .ok (.aload_n 0, 1) := by decide +kernel
theorem dX7_init_82 : decode cX7_init 82 = .ok (.invokevirtual 50, 3) := by decide +kernel
theorem dX7_init_85 : decode cX7_init 85 = .ok (.return_, 1) := by decide +kernel
set_option maxRecDepth 20000 in
theorem ggX7_start_X7_begin : GoodIn wsX7_start wsX7_begin := goodIn_r _ [6, 7, 8, 9, 10, 11, 12, 13, 1, 14, 15, 16, 17, 18, 19, 20, 21, 22, 23, 24, 25, 26, 27, 28, 29, 30, 31, 32, 33, 34, 35, 36, 37, 38, 39, 40, 41, 42, 43, 44, 45, 46, 47, 48, 49, 50, 51, 52, 53, 54, 55, 56, 57, 58, 59, 60, 61, 62, 63, 64, 65, 66, 67, 68, 69, 70, 71, 72, 73, 74, 75, 76, 77, 78, 79, 80, 81, 82, 83, 84] (by decide +kernel) (by decide +kernel)
set_option maxRecDepth 20000 in
theorem gX7_start_X7_begin : GoodIn wsX7_start (wsV RX7 50 RX7 yX7_begin wsX7_begin) := goodIn_app (goodIn_of _ (by decide +kernel)) ggX7_start_X7_begin
theorem dX7_start_0 : decode cX7_start 0 = .ok (.aload_n 0, 1) := by decide +kernel
theorem dX7_start_1 : decode cX7_start 1 = .ok (.getfield 53, 3) := by decide +kernel
theorem dX7_start_4 : decode cX7_start 4 = .ok (.istore_n 1, 1) := by decide +kernel
theorem dX7_start_5 : decode cX7_start 5 = .ok (.aload_n 0, 1) := by decide +kernel
theorem dX7_start_6 : decode cX7_start 6 = .ok (.invokevirtual 50, 3) := by decide +kernel
theorem dX7_start_9 : decode cX7_start 9 = .ok (.iload_n 1, 1) := by decide +kernel
theorem dX7_start_10 : decode cX7_start 10 = .ok (.ireturn, 1) := by decide +kernel
set_option maxRecDepth 20000 in
theorem ggX7_set_X7_isRegister : GoodIn wsX7_set wsX7_isRegister := goodIn_r _ [8] (by decide +kernel) (by decide +kernel)
set_option maxRecDepth 20000 in
theorem gX7_set_X7_isRegister : GoodIn wsX7_set (va_wsS RX7 57 yX7_isRegister wsX7_isRegister) := goodIn_app (goodIn_of _ (by decide +kernel)) ggX7_set_X7_isRegister
set_option maxRecDepth 20000 in
theorem ggX7_set_X7_isByte : GoodIn wsX7_set wsX7_isByte := goodIn_r _ [11] (by decide +kernel) (by decide +kernel)
set_option maxRecDepth 20000 in
theorem gX7_set_X7_isByte : GoodIn wsX7_set (va_wsS RX7 62 yX7_isByte wsX7_isByte) := goodIn_app (goodIn_of _ (by decide +kernel)) ggX7_set_X7_isByte
set_option maxRecDepth 20000 in
theorem ggX7_set_X0_valueOf : GoodIn wsX7_set wsX0_valueOf := goodIn_r _ [15] (by decide +kernel) (by decide +kernel)
set_option maxRecDepth 20000 in
theorem gX7_set_X0_valueOf : GoodIn wsX7_set (va_wsS RX7 70 yX0_valueOf wsX0_valueOf) := goodIn_app (goodIn_of _ (by decide +kernel)) ggX7_set_X0_valueOf
set_option maxRecDepth 20000 in
theorem ggX7_set_X0_of : GoodIn wsX7_set wsX0_of := goodIn_r _ [18] (by decide +kernel) (by decide +kernel)
set_option maxRecDepth 20000 in
theorem gX7_set_X0_of : GoodIn wsX7_set (va_wsS RX7 76 yX0_of wsX0_of) := goodIn_app (goodIn_of _ (by decide +kernel)) ggX7_set_X0_of
set_option maxRecDepth 20000 in
theorem ggX7_set_X7_changeRegister : GoodIn wsX7_set wsX7_changeRegister := goodIn_r _ [22, 23, 3, 4, 24, 25, 26, 27, 28, 29, 30, 31, 32, 33, 34, 35, 36, 56, 57, 58, 59, 60, 61, 62, 63, 64, 65, 66, 67, 68, 69, 70, 71, 72, 73] (by decide +kernel) (by decide +kernel)
set_option maxRecDepth 20000 in
theorem gX7_set_X7_changeRegister : GoodIn wsX7_set (wsV RX7 80 RX7 yX7_changeRegister wsX7_changeRegister) := goodIn_app (goodIn_of _ (by decide +kernel)) ggX7_set_X7_changeRegister
set_option maxRecDepth 20000 in
theorem ggX7_set_X7_tick : GoodIn wsX7_set wsX7_tick := goodIn_r _ [40, 41, 42, 43, 44, 45, 46, 47, 48, 49, 50, 51, 52, 53, 54, 55, 34, 35, 36, 56, 57, 58, 59, 60, 61, 62, 63, 64, 65, 66, 67, 74, 75, 76, 77, 78] (by decide +kernel) (by decide +kernel)
set_option maxRecDepth 20000 in
theorem gX7_set_X7_tick : GoodIn wsX7_set (wsV RX7 84 RX7 yX7_tick wsX7_tick) := goodIn_app (goodIn_of _ (by decide +kernel)) ggX7_set_X7_tick
theorem dX7_set_0 : decode cX7_set 0 = .ok (.iload_n 1, 1) := by decide +kernel
theorem dX7_set_1 : decode cX7_set 1 = .ok (.invokestatic 57, 3) := by decide +kernel
theorem dX7_set_4 : decode cX7_set 4 = .ok (.ifCond .ne 6, 3) := by decide +kernel
theorem dX7_set_7 : decode cX7_set 7 = .ok (.ldc 61, 2) := by decide +kernel
theorem dX7_set_9 : decode cX7_set 9 = .ok (.ireturn, 1) := by decide +kernel
theorem dX7_set_10 : decode cX7_set 10 = .ok (.iload_n 2, 1) := by decide +kernel
theorem dX7_set_11 : decode cX7_set 11 = .ok (.invokestatic 62, 3) := by decide +kernel
theorem dX7_set_14 : decode cX7_set 14 = .ok (.ifCond .ne 6, 3) := by decide +kernel
theorem dX7_set_17 : decode cX7_set 17 = .ok (.ldc 65, 2) := by decide +kernel
theorem dX7_set_19 : decode cX7_set 19 = .ok (.ireturn, 1) := by decide +kernel
theorem dX7_set_20 : decode cX7_set 20 = .ok (.aload_n 0, 1) := by decide +kernel
theorem dX7_set_21 : decode cX7_set 21 = .ok (.getfield 12, 3) := by decide +kernel
theorem dX7_set_24 : decode cX7_set 24 = .ok (.getfield 66, 3) := by decide +kernel
theorem dX7_set_27 : decode cX7_set 27 = .ok (.iload_n 1, 1) := by decide +kernel
theorem dX7_set_28 : decode cX7_set 28 = .ok (.iaload, 1) := by decide +kernel
theorem dX7_set_29 : decode cX7_set 29 = .ok (.invokestatic 70, 3) := by decide +kernel
theorem dX7_set_32 : decode cX7_set 32 = .ok (.istore_n 3, 1) := by decide +kernel
theorem dX7_set_33 : decode cX7_set 33 = .ok (.aload_n 0, 1) := by decide +kernel
theorem dX7_set_34 : decode cX7_set 34 = .ok (.iload_n 1, 1) := by decide +kernel
theorem dX7_set_35 : decode cX7_set 35 = .ok (.iload_n 2, 1) := by decide +kernel
theorem dX7_set_36 : decode cX7_set 36 = .ok (.iconst 0, 1) := by decide +kernel
theorem dX7_set_37 : decode cX7_set 37 = .ok (.iconst 0, 1) := by decide +kernel
theorem dX7_set_38 : decode cX7_set 38 = .ok (.invokestatic 76, 3) := by decide +kernel
theorem dX7_set_41 : decode cX7_set 41 = .ok (.invokevirtual 80, 3) := by decide +kernel
theorem dX7_set_44 : decode cX7_set 44 = .ok (.aload_n 0, 1) := by decide +kernel
theorem dX7_set_45 : decode cX7_set 45 = .ok (.iconst 0, 1) := by decide +kernel
theorem dX7_set_46 : decode cX7_set 46 = .ok (.iload_n 3, 1) := by decide +kernel
theorem dX7_set_47 : decode cX7_set 47 = .ok (.invokevirtual 84, 3) := by decide +kernel
theorem dX7_set_50 : decode cX7_set 50 = .ok (.ireturn, 1) := by decide +kernel
set_option maxRecDepth 20000 in
theorem ggX7_forget_X7_isRegister : GoodIn wsX7_forget wsX7_isRegister := goodIn_r _ [9] (by decide +kernel) (by decide +kernel)
set_option maxRecDepth 20000 in
theorem gX7_forget_X7_isRegister : GoodIn wsX7_forget (va_wsS RX7 57 yX7_isRegister wsX7_isRegister) := goodIn_app (goodIn_of _ (by decide +kernel)) ggX7_forget_X7_isRegister
set_option maxRecDepth 20000 in
theorem ggX7_forget_X3_has : GoodIn wsX7_forget wsX3_has := goodIn_r _ [14, 15, 80, 81, 82, 83, 84] (by decide +kernel) (by decide +kernel)
set_option maxRecDepth 20000 in
theorem gX7_forget_X3_has : GoodIn wsX7_forget (wsV RX7 88 RX3 yX3_has wsX3_has) := goodIn_app (goodIn_of _ (by decide +kernel)) ggX7_forget_X3_has
set_option maxRecDepth 20000 in
theorem ggX7_forget_X0_shadowOf : GoodIn wsX7_forget wsX0_shadowOf := goodIn_r _ [19] (by decide +kernel) (by decide +kernel)
set_option maxRecDepth 20000 in
theorem gX7_forget_X0_shadowOf : GoodIn wsX7_forget (va_wsS RX7 91 yX0_shadowOf wsX0_shadowOf) := goodIn_app (goodIn_of _ (by decide +kernel)) ggX7_forget_X0_shadowOf
set_option maxRecDepth 20000 in
theorem ggX7_forget_X0_valueOf : GoodIn wsX7_forget wsX0_valueOf := goodIn_r _ [22] (by decide +kernel) (by decide +kernel)
set_option maxRecDepth 20000 in
theorem gX7_forget_X0_valueOf : GoodIn wsX7_forget (va_wsS RX7 70 yX0_valueOf wsX0_valueOf) := goodIn_app (goodIn_of _ (by decide +kernel)) ggX7_forget_X0_valueOf
set_option maxRecDepth 20000 in
theorem ggX7_forget_X0_fromOf : GoodIn wsX7_forget wsX0_fromOf := goodIn_r _ [25] (by decide +kernel) (by decide +kernel)
set_option maxRecDepth 20000 in
theorem gX7_forget_X0_fromOf : GoodIn wsX7_forget (va_wsS RX7 94 yX0_fromOf wsX0_fromOf) := goodIn_app (goodIn_of _ (by decide +kernel)) ggX7_forget_X0_fromOf
set_option maxRecDepth 20000 in
theorem ggX7_forget_X0_of : GoodIn wsX7_forget wsX0_of := goodIn_r _ [28] (by decide +kernel) (by decide +kernel)
set_option maxRecDepth 20000 in
theorem gX7_forget_X0_of : GoodIn wsX7_forget (va_wsS RX7 76 yX0_of wsX0_of) := goodIn_app (goodIn_of _ (by decide +kernel)) ggX7_forget_X0_of
set_option maxRecDepth 20000 in
theorem ggX7_forget_X7_changeRegister : GoodIn wsX7_forget wsX7_changeRegister := goodIn_r _ [32, 33, 4, 5, 34, 35, 36, 37, 38, 39, 40, 41, 42, 43, 44, 45, 46, 66, 67, 68, 69, 70, 71, 72, 73, 74, 75, 76, 77, 78, 79, 85, 86, 87, 88] (by decide +kernel) (by decide +kernel)
set_option maxRecDepth 20000 in
theorem gX7_forget_X7_changeRegister : GoodIn wsX7_forget (wsV RX7 80 RX7 yX7_changeRegister wsX7_changeRegister) := goodIn_app (goodIn_of _ (by decide +kernel)) ggX7_forget_X7_changeRegister
set_option maxRecDepth 20000 in
theorem ggX7_forget_X7_tick : GoodIn wsX7_forget wsX7_tick := goodIn_r _ [50, 51, 52, 53, 54, 55, 56, 57, 58, 59, 60, 61, 62, 63, 64, 65, 44, 45, 46, 66, 67, 68, 69, 70, 71, 72, 73, 74, 75, 76, 77, 89, 90, 91, 92, 93] (by decide +kernel) (by decide +kernel)
set_option maxRecDepth 20000 in
theorem gX7_forget_X7_tick : GoodIn wsX7_forget (wsV RX7 84 RX7 yX7_tick wsX7_tick) := goodIn_app (goodIn_of _ (by decide +kernel)) ggX7_forget_X7_tick
end
section
theorem dX7_forget_0 : decode cX7_forget 0 = .ok (.iload_n 1, 1) := by decide +kernel
theorem dX7_forget_1 : decode cX7_forget 1 = .ok (.invokestatic 57, 3) := by decide +kernel
theorem dX7_forget_4 : decode cX7_forget 4 = .ok (.ifCond .eq 14, 3) := by decide +kernel
theorem dX7_forget_7 : decode cX7_forget 7 = .ok (.aload_n 0, 1) := by decide +kernel
theorem dX7_forget_8 : decode cX7_forget 8 = .ok (.getfield 25, 3) := by decide +kernel
theorem dX7_forget_11 : decode cX7_forget 11 = .ok (.iload_n 3, 1) := by decide +kernel
theorem dX7_forget_12 : decode cX7_forget 12 = .ok (.invokevirtual 88, 3) := by decide +kernel
theorem dX7_forget_15 : decode cX7_forget 15 = .ok (.ifCond .ne 6, 3) := by decide +kernel
theorem dX7_forget_18 : decode cX7_forget 18 = .ok (.ldc 61, 2) := by decide +kernel
theorem dX7_forget_20 : decode cX7_forget 20 = .ok (.ireturn, 1) := by decide +kernel
theorem dX7_forget_21 : decode cX7_forget 21 = .ok (.iload_n 2, 1) := by decide +kernel
theorem dX7_forget_22 : decode cX7_forget 22 = .ok (.iconst 1, 1) := by decide +kernel
theorem dX7_forget_23 : decode cX7_forget 23 = .ok (.if_icmp .lt 10, 3) := by decide +kernel
theorem dX7_forget_26 : decode cX7_forget 26 = .ok (.iload_n 2, 1) := by decide +kernel
theorem dX7_forget_27 : decode cX7_forget 27 = .ok (.sipush 255, 3) := by decide +kernel
theorem dX7_forget_30 : decode cX7_forget 30 = .ok (.if_icmp .le 6, 3) := by decide +kernel
theorem dX7_forget_33 : decode cX7_forget 33 = .ok (.ldc 65, 2) := by decide +kernel
theorem dX7_forget_35 : decode cX7_forget 35 = .ok (.ireturn, 1) := by decide +kernel
theorem dX7_forget_36 : decode cX7_forget 36 = .ok (.aload_n 0, 1) := by decide +kernel
theorem dX7_forget_37 : decode cX7_forget 37 = .ok (.getfield 12, 3) := by decide +kernel
theorem dX7_forget_40 : decode cX7_forget 40 = .ok (.getfield 66, 3) := by decide +kernel
theorem dX7_forget_43 : decode cX7_forget 43 = .ok (.iload_n 1, 1) := by decide +kernel
theorem dX7_forget_44 : decode cX7_forget 44 = .ok (.iaload, 1) := by decide +kernel
theorem dX7_forget_45 : decode cX7_forget 45 = .ok (.istore 4, 2) := by decide +kernel
theorem dX7_forget_47 : decode cX7_forget 47 = .ok (.iload 4, 2) := by decide +kernel
theorem dX7_forget_49 : decode cX7_forget 49 = .ok (.invokestatic 91, 3) := by decide +kernel
theorem dX7_forget_52 : decode cX7_forget 52 = .ok (.iload_n 2, 1) := by decide +kernel
theorem dX7_forget_53 : decode cX7_forget 53 = .ok (.ior, 1) := by decide +kernel
theorem dX7_forget_54 : decode cX7_forget 54 = .ok (.istore 5, 2) := by decide +kernel
theorem dX7_forget_56 : decode cX7_forget 56 = .ok (.aload_n 0, 1) := by decide +kernel
theorem dX7_forget_57 : decode cX7_forget 57 = .ok (.iload_n 1, 1) := by decide +kernel
theorem dX7_forget_58 : decode cX7_forget 58 = .ok (.iload 4, 2) := by decide +kernel
theorem dX7_forget_60 : decode cX7_forget 60 = .ok (.invokestatic 70, 3) := by decide +kernel
theorem dX7_forget_63 : decode cX7_forget 63 = .ok (.iload 5, 2) := by decide +kernel
theorem dX7_forget_65 : decode cX7_forget 65 = .ok (.iload 4, 2) := by decide +kernel
theorem dX7_forget_67 : decode cX7_forget 67 = .ok (.invokestatic 94, 3) := by decide +kernel
theorem dX7_forget_70 : decode cX7_forget 70 = .ok (.iconst 1, 1) := by decide +kernel
theorem dX7_forget_71 : decode cX7_forget 71 = .ok (.iload_n 3, 1) := by decide +kernel
theorem dX7_forget_72 : decode cX7_forget 72 = .ok (.ishl, 1) := by decide +kernel
theorem dX7_forget_73 : decode cX7_forget 73 = .ok (.ior, 1) := by decide +kernel
theorem dX7_forget_74 : decode cX7_forget 74 = .ok (.invokestatic 76, 3) := by decide +kernel
theorem dX7_forget_77 : decode cX7_forget 77 = .ok (.invokevirtual 80, 3) := by decide +kernel
theorem dX7_forget_80 : decode cX7_forget 80 = .ok (.aload_n 0, 1) := by decide +kernel
theorem dX7_forget_81 : decode cX7_forget 81 = .ok (.bipush 11, 2) := by decide +kernel
theorem dX7_forget_83 : decode cX7_forget 83 = .ok (.iload 5, 2) := by decide +kernel
theorem dX7_forget_85 : decode cX7_forget 85 = .ok (.invokevirtual 84, 3) := by decide +kernel
theorem dX7_forget_88 : decode cX7_forget 88 = .ok (.ireturn, 1) := by decide +kernel
set_option maxRecDepth 20000 in
theorem ggX7_copy_X7_isRegister : GoodIn wsX7_copy wsX7_isRegister := goodIn_r _ [7] (by decide +kernel) (by decide +kernel)
set_option maxRecDepth 20000 in
theorem gX7_copy_X7_isRegister : GoodIn wsX7_copy (va_wsS RX7 57 yX7_isRegister wsX7_isRegister) := goodIn_app (goodIn_of _ (by decide +kernel)) ggX7_copy_X7_isRegister
set_option maxRecDepth 20000 in
theorem ggX7_copy_X7_changeRegister : GoodIn wsX7_copy wsX7_changeRegister := goodIn_r _ [11, 12, 2, 3, 13, 14, 15, 16, 17, 18, 19, 20, 21, 22, 23, 24, 25, 53, 54, 55, 56, 57, 58, 59, 60, 61, 62, 63, 64, 65, 66, 67, 68, 69, 70] (by decide +kernel) (by decide +kernel)
set_option maxRecDepth 20000 in
theorem gX7_copy_X7_changeRegister : GoodIn wsX7_copy (wsV RX7 80 RX7 yX7_changeRegister wsX7_changeRegister) := goodIn_app (goodIn_of _ (by decide +kernel)) ggX7_copy_X7_changeRegister
set_option maxRecDepth 20000 in
theorem ggX7_copy_X7_shadowOfRegister : GoodIn wsX7_copy wsX7_shadowOfRegister := goodIn_r _ [29, 2, 3, 30, 31, 32, 33, 53, 54, 55, 56, 57, 58, 59, 60, 61, 62, 63, 64, 65, 66] (by decide +kernel) (by decide +kernel)
set_option maxRecDepth 20000 in
theorem gX7_copy_X7_shadowOfRegister : GoodIn wsX7_copy (wsV RX7 97 RX7 yX7_shadowOfRegister wsX7_shadowOfRegister) := goodIn_app (goodIn_of _ (by decide +kernel)) ggX7_copy_X7_shadowOfRegister
set_option maxRecDepth 20000 in
theorem ggX7_copy_X7_tick : GoodIn wsX7_copy wsX7_tick := goodIn_r _ [37, 38, 39, 40, 41, 42, 43, 44, 45, 46, 47, 48, 49, 50, 51, 52, 23, 24, 25, 53, 54, 55, 56, 57, 58, 59, 60, 61, 62, 63, 64, 71, 72, 73, 74, 75] (by decide +kernel) (by decide +kernel)
set_option maxRecDepth 20000 in
theorem gX7_copy_X7_tick : GoodIn wsX7_copy (wsV RX7 84 RX7 yX7_tick wsX7_tick) := goodIn_app (goodIn_of _ (by decide +kernel)) ggX7_copy_X7_tick
theorem dX7_copy_0 : decode cX7_copy 0 = .ok (.iload_n 1, 1) := by decide +kernel
theorem dX7_copy_1 : decode cX7_copy 1 = .ok (.invokestatic 57, 3) := by decide +kernel
theorem dX7_copy_4 : decode cX7_copy 4 = .ok (.ifCond .eq 10, 3) := by decide +kernel
theorem dX7_copy_7 : decode cX7_copy 7 = .ok (.iload_n 2, 1) := by decide +kernel
theorem dX7_copy_8 : decode cX7_copy 8 = .ok (.invokestatic 57, 3) := by decide +kernel
theorem dX7_copy_11 : decode cX7_copy 11 = .ok (.ifCond .ne 6, 3) := by decide +kernel
theorem dX7_copy_14 : decode cX7_copy 14 = .ok (.ldc 61, 2) := by decide +kernel
theorem dX7_copy_16 : decode cX7_copy 16 = .ok (.ireturn, 1) := by decide +kernel
theorem dX7_copy_17 : decode cX7_copy 17 = .ok (.aload_n 0, 1) := by decide +kernel
theorem dX7_copy_18 : decode cX7_copy 18 = .ok (.iload_n 1, 1) := by decide +kernel
theorem dX7_copy_19 : decode cX7_copy 19 = .ok (.aload_n 0, 1) := by decide +kernel
theorem dX7_copy_20 : decode cX7_copy 20 = .ok (.getfield 12, 3) := by decide +kernel
theorem dX7_copy_23 : decode cX7_copy 23 = .ok (.getfield 66, 3) := by decide +kernel
theorem dX7_copy_26 : decode cX7_copy 26 = .ok (.iload_n 2, 1) := by decide +kernel
theorem dX7_copy_27 : decode cX7_copy 27 = .ok (.iaload, 1) := by decide +kernel
theorem dX7_copy_28 : decode cX7_copy 28 = .ok (.invokevirtual 80, 3) := by decide +kernel
theorem dX7_copy_31 : decode cX7_copy 31 = .ok (.aload_n 0, 1) := by decide +kernel
theorem dX7_copy_32 : decode cX7_copy 32 = .ok (.iconst 1, 1) := by decide +kernel
theorem dX7_copy_33 : decode cX7_copy 33 = .ok (.aload_n 0, 1) := by decide +kernel
theorem dX7_copy_34 : decode cX7_copy 34 = .ok (.iload_n 1, 1) := by decide +kernel
theorem dX7_copy_35 : decode cX7_copy 35 = .ok (.invokevirtual 97, 3) := by decide +kernel
theorem dX7_copy_38 : decode cX7_copy 38 = .ok (.invokevirtual 84, 3) := by decide +kernel
theorem dX7_copy_41 : decode cX7_copy 41 = .ok (.ireturn, 1) := by decide +kernel
set_option maxRecDepth 20000 in
theorem ggX7_load_X7_isRegister : GoodIn wsX7_load wsX7_isRegister := goodIn_r _ [5] (by decide +kernel) (by decide +kernel)
set_option maxRecDepth 20000 in
theorem gX7_load_X7_isRegister : GoodIn wsX7_load (va_wsS RX7 57 yX7_isRegister wsX7_isRegister) := goodIn_app (goodIn_of _ (by decide +kernel)) ggX7_load_X7_isRegister
set_option maxRecDepth 20000 in
theorem ggX7_load_X7_isOctet : GoodIn wsX7_load wsX7_isOctet := goodIn_r _ [8] (by decide +kernel) (by decide +kernel)
set_option maxRecDepth 20000 in
theorem gX7_load_X7_isOctet : GoodIn wsX7_load (va_wsS RX7 100 yX7_isOctet wsX7_isOctet) := goodIn_app (goodIn_of _ (by decide +kernel)) ggX7_load_X7_isOctet
set_option maxRecDepth 20000 in
theorem ggX7_load_X7_readOctet : GoodIn wsX7_load wsX7_readOctet := goodIn_r _ [12, 13, 14, 15, 16, 17, 18, 19, 20, 21, 22, 23, 24, 25, 26, 27, 28, 29, 30, 31, 32, 33, 34, 79, 80, 81, 82, 83, 84, 85, 86, 87, 88, 89, 90, 91, 92, 93, 94, 95, 96, 97, 98, 99, 100, 101, 102] (by decide +kernel) (by decide +kernel)
set_option maxRecDepth 20000 in
theorem gX7_load_X7_readOctet : GoodIn wsX7_load (wsV RX7 103 RX7 yX7_readOctet wsX7_readOctet) := goodIn_app (goodIn_of _ (by decide +kernel)) ggX7_load_X7_readOctet
set_option maxRecDepth 20000 in
theorem ggX7_load_X7_changeRegister : GoodIn wsX7_load wsX7_changeRegister := goodIn_r _ [38, 39, 15, 18, 40, 41, 42, 43, 44, 45, 46, 47, 48, 49, 50, 51, 52, 79, 80, 81, 82, 83, 84, 85, 86, 87, 88, 89, 90, 96, 97, 103, 104, 105, 106] (by decide +kernel) (by decide +kernel)
set_option maxRecDepth 20000 in
theorem gX7_load_X7_changeRegister : GoodIn wsX7_load (wsV RX7 80 RX7 yX7_changeRegister wsX7_changeRegister) := goodIn_app (goodIn_of _ (by decide +kernel)) ggX7_load_X7_changeRegister
set_option maxRecDepth 20000 in
theorem ggX7_load_X7_shadowOfRegister : GoodIn wsX7_load wsX7_shadowOfRegister := goodIn_r _ [56, 15, 18, 57, 58, 59, 60, 79, 80, 81, 82, 83, 84, 85, 86, 87, 88, 89, 90, 96, 97] (by decide +kernel) (by decide +kernel)
set_option maxRecDepth 20000 in
theorem gX7_load_X7_shadowOfRegister : GoodIn wsX7_load (wsV RX7 97 RX7 yX7_shadowOfRegister wsX7_shadowOfRegister) := goodIn_app (goodIn_of _ (by decide +kernel)) ggX7_load_X7_shadowOfRegister
set_option maxRecDepth 20000 in
theorem ggX7_load_X7_tick : GoodIn wsX7_load wsX7_tick := goodIn_r _ [64, 65, 17, 66, 67, 68, 69, 70, 71, 72, 73, 74, 75, 76, 77, 78, 50, 51, 52, 79, 80, 81, 82, 83, 84, 85, 86, 87, 88, 89, 90, 107, 108, 109, 110, 111] (by decide +kernel) (by decide +kernel)
set_option maxRecDepth 20000 in
theorem gX7_load_X7_tick : GoodIn wsX7_load (wsV RX7 84 RX7 yX7_tick wsX7_tick) := goodIn_app (goodIn_of _ (by decide +kernel)) ggX7_load_X7_tick
theorem dX7_load_0 : decode cX7_load 0 = .ok (.iload_n 1, 1) := by decide +kernel
theorem dX7_load_1 : decode cX7_load 1 = .ok (.invokestatic 57, 3) := by decide +kernel
theorem dX7_load_4 : decode cX7_load 4 = .ok (.ifCond .eq 10, 3) := by decide +kernel
theorem dX7_load_7 : decode cX7_load 7 = .ok (.iload_n 2, 1) := by decide +kernel
theorem dX7_load_8 : decode cX7_load 8 = .ok (.invokestatic 100, 3) := by decide +kernel
theorem dX7_load_11 : decode cX7_load 11 = .ok (.ifCond .ne 6, 3) := by decide +kernel
theorem dX7_load_14 : decode cX7_load 14 = .ok (.ldc 61, 2) := by decide +kernel
theorem dX7_load_16 : decode cX7_load 16 = .ok (.ireturn, 1) := by decide +kernel
theorem dX7_load_17 : decode cX7_load 17 = .ok (.aload_n 0, 1) := by decide +kernel
theorem dX7_load_18 : decode cX7_load 18 = .ok (.iload_n 1, 1) := by decide +kernel
theorem dX7_load_19 : decode cX7_load 19 = .ok (.aload_n 0, 1) := by decide +kernel
theorem dX7_load_20 : decode cX7_load 20 = .ok (.iload_n 2, 1) := by decide +kernel
theorem dX7_load_21 : decode cX7_load 21 = .ok (.invokevirtual 103, 3) := by decide +kernel
theorem dX7_load_24 : decode cX7_load 24 = .ok (.invokevirtual 80, 3) := by decide +kernel
theorem dX7_load_27 : decode cX7_load 27 = .ok (.aload_n 0, 1) := by decide +kernel
theorem dX7_load_28 : decode cX7_load 28 = .ok (.iconst 2, 1) := by decide +kernel
theorem dX7_load_29 : decode cX7_load 29 = .ok (.aload_n 0, 1) := by decide +kernel
theorem dX7_load_30 : decode cX7_load 30 = .ok (.iload_n 1, 1) := by decide +kernel
theorem dX7_load_31 : decode cX7_load 31 = .ok (.invokevirtual 97, 3) := by decide +kernel
theorem dX7_load_34 : decode cX7_load 34 = .ok (.invokevirtual 84, 3) := by decide +kernel
theorem dX7_load_37 : decode cX7_load 37 = .ok (.ireturn, 1) := by decide +kernel
set_option maxRecDepth 20000 in
theorem ggX7_part_X7_isRegister : GoodIn wsX7_part wsX7_isRegister := goodIn_r _ [6] (by decide +kernel) (by decide +kernel)
set_option maxRecDepth 20000 in
theorem gX7_part_X7_isRegister : GoodIn wsX7_part (va_wsS RX7 57 yX7_isRegister wsX7_isRegister) := goodIn_app (goodIn_of _ (by decide +kernel)) ggX7_part_X7_isRegister
set_option maxRecDepth 20000 in
theorem ggX7_part_X7_isOctet : GoodIn wsX7_part wsX7_isOctet := goodIn_r _ [9] (by decide +kernel) (by decide +kernel)
set_option maxRecDepth 20000 in
theorem gX7_part_X7_isOctet : GoodIn wsX7_part (va_wsS RX7 100 yX7_isOctet wsX7_isOctet) := goodIn_app (goodIn_of _ (by decide +kernel)) ggX7_part_X7_isOctet
set_option maxRecDepth 20000 in
theorem ggX7_part_X7_readOctet : GoodIn wsX7_part wsX7_readOctet := goodIn_r _ [13, 14, 15, 16, 17, 18, 19, 20, 21, 22, 23, 24, 25, 26, 27, 28, 29, 30, 31, 32, 33, 34, 35, 93, 94, 95, 96, 97, 98, 99, 100, 101, 102, 103, 104, 105, 106, 107, 108, 109, 110, 111, 112, 113, 114, 115, 116] (by decide +kernel) (by decide +kernel)
set_option maxRecDepth 20000 in
theorem gX7_part_X7_readOctet : GoodIn wsX7_part (wsV RX7 103 RX7 yX7_readOctet wsX7_readOctet) := goodIn_app (goodIn_of _ (by decide +kernel)) ggX7_part_X7_readOctet
set_option maxRecDepth 20000 in
theorem ggX7_part_X0_partOf : GoodIn wsX7_part wsX0_partOf := goodIn_r _ [39, 40, 41, 38, 42, 43, 44, 45, 46, 47, 48, 49, 50, 51] (by decide +kernel) (by decide +kernel)
set_option maxRecDepth 20000 in
theorem gX7_part_X0_partOf : GoodIn wsX7_part (va_wsS RX7 106 yX0_partOf wsX0_partOf) := goodIn_app (goodIn_of _ (by decide +kernel)) ggX7_part_X0_partOf
set_option maxRecDepth 20000 in
theorem ggX7_part_X7_changeRegister : GoodIn wsX7_part wsX7_changeRegister := goodIn_r _ [55, 56, 16, 19, 57, 58, 59, 60, 61, 62, 63, 64, 65, 66, 67, 68, 69, 93, 94, 95, 96, 97, 98, 99, 100, 101, 102, 103, 104, 110, 111, 117, 118, 119, 120] (by decide +kernel) (by decide +kernel)
set_option maxRecDepth 20000 in
theorem gX7_part_X7_changeRegister : GoodIn wsX7_part (wsV RX7 80 RX7 yX7_changeRegister wsX7_changeRegister) := goodIn_app (goodIn_of _ (by decide +kernel)) ggX7_part_X7_changeRegister
set_option maxRecDepth 20000 in
theorem ggX7_part_X7_shadowOfRegister : GoodIn wsX7_part wsX7_shadowOfRegister := goodIn_r _ [73, 16, 19, 74, 44, 38, 45, 93, 94, 95, 96, 97, 98, 99, 100, 101, 102, 103, 104, 110, 111] (by decide +kernel) (by decide +kernel)
set_option maxRecDepth 20000 in
theorem gX7_part_X7_shadowOfRegister : GoodIn wsX7_part (wsV RX7 97 RX7 yX7_shadowOfRegister wsX7_shadowOfRegister) := goodIn_app (goodIn_of _ (by decide +kernel)) ggX7_part_X7_shadowOfRegister
set_option maxRecDepth 20000 in
theorem ggX7_part_X7_tick : GoodIn wsX7_part wsX7_tick := goodIn_r _ [78, 79, 18, 80, 81, 82, 83, 84, 85, 86, 87, 88, 89, 90, 91, 92, 67, 68, 69, 93, 94, 95, 96, 97, 98, 99, 100, 101, 102, 103, 104, 121, 122, 123, 124, 125] (by decide +kernel) (by decide +kernel)
set_option maxRecDepth 20000 in
theorem gX7_part_X7_tick : GoodIn wsX7_part (wsV RX7 84 RX7 yX7_tick wsX7_tick) := goodIn_app (goodIn_of _ (by decide +kernel)) ggX7_part_X7_tick
theorem dX7_part_0 : decode cX7_part 0 = .ok (.iload_n 1, 1) := by decide +kernel
theorem dX7_part_1 : decode cX7_part 1 = .ok (.invokestatic 57, 3) := by decide +kernel
theorem dX7_part_4 : decode cX7_part 4 = .ok (.ifCond .eq 10, 3) := by decide +kernel
theorem dX7_part_7 : decode cX7_part 7 = .ok (.iload_n 2, 1) := by decide +kernel
theorem dX7_part_8 : decode cX7_part 8 = .ok (.invokestatic 100, 3) := by decide +kernel
theorem dX7_part_11 : decode cX7_part 11 = .ok (.ifCond .ne 6, 3) := by decide +kernel
theorem dX7_part_14 : decode cX7_part 14 = .ok (.ldc 61, 2) := by decide +kernel
theorem dX7_part_16 : decode cX7_part 16 = .ok (.ireturn, 1) := by decide +kernel
theorem dX7_part_17 : decode cX7_part 17 = .ok (.iload 4, 2) := by decide +kernel
theorem dX7_part_19 : decode cX7_part 19 = .ok (.iconst 1, 1) := by decide +kernel
theorem dX7_part_20 : decode cX7_part 20 = .ok (.if_icmp .lt 29, 3) := by decide +kernel
theorem dX7_part_23 : decode cX7_part 23 = .ok (.iload 4, 2) := by decide +kernel
theorem dX7_part_25 : decode cX7_part 25 = .ok (.bipush 8, 2) := by decide +kernel
theorem dX7_part_27 : decode cX7_part 27 = .ok (.if_icmp .gt 22, 3) := by decide +kernel
theorem dX7_part_30 : decode cX7_part 30 = .ok (.iload_n 3, 1) := by decide +kernel
theorem dX7_part_31 : decode cX7_part 31 = .ok (.ifCond .lt 18, 3) := by decide +kernel
theorem dX7_part_34 : decode cX7_part 34 = .ok (.iload_n 3, 1) := by decide +kernel
theorem dX7_part_35 : decode cX7_part 35 = .ok (.bipush 7, 2) := by decide +kernel
theorem dX7_part_37 : decode cX7_part 37 = .ok (.if_icmp .gt 12, 3) := by decide +kernel
theorem dX7_part_40 : decode cX7_part 40 = .ok (.iload_n 3, 1) := by decide +kernel
theorem dX7_part_41 : decode cX7_part 41 = .ok (.iload 4, 2) := by decide +kernel
theorem dX7_part_43 : decode cX7_part 43 = .ok (.iadd, 1) := by decide +kernel
theorem dX7_part_44 : decode cX7_part 44 = .ok (.bipush 8, 2) := by decide +kernel
theorem dX7_part_46 : decode cX7_part 46 = .ok (.if_icmp .le 6, 3) := by decide +kernel
theorem dX7_part_49 : decode cX7_part 49 = .ok (.ldc 65, 2) := by decide +kernel
theorem dX7_part_51 : decode cX7_part 51 = .ok (.ireturn, 1) := by decide +kernel
theorem dX7_part_52 : decode cX7_part 52 = .ok (.aload_n 0, 1) := by decide +kernel
theorem dX7_part_53 : decode cX7_part 53 = .ok (.iload_n 1, 1) := by decide +kernel
theorem dX7_part_54 : decode cX7_part 54 = .ok (.aload_n 0, 1) := by decide +kernel
theorem dX7_part_55 : decode cX7_part 55 = .ok (.iload_n 2, 1) := by decide +kernel
theorem dX7_part_56 : decode cX7_part 56 = .ok (.invokevirtual 103, 3) := by decide +kernel
theorem dX7_part_59 : decode cX7_part 59 = .ok (.iload_n 3, 1) := by decide +kernel
theorem dX7_part_60 : decode cX7_part 60 = .ok (.iload 4, 2) := by decide +kernel
theorem dX7_part_62 : decode cX7_part 62 = .ok (.invokestatic 106, 3) := by decide +kernel
theorem dX7_part_65 : decode cX7_part 65 = .ok (.invokevirtual 80, 3) := by decide +kernel
theorem dX7_part_68 : decode cX7_part 68 = .ok (.aload_n 0, 1) := by decide +kernel
theorem dX7_part_69 : decode cX7_part 69 = .ok (.bipush 8, 2) := by decide +kernel
theorem dX7_part_71 : decode cX7_part 71 = .ok (.aload_n 0, 1) := by decide +kernel
theorem dX7_part_72 : decode cX7_part 72 = .ok (.iload_n 1, 1) := by decide +kernel
theorem dX7_part_73 : decode cX7_part 73 = .ok (.invokevirtual 97, 3) := by decide +kernel
theorem dX7_part_76 : decode cX7_part 76 = .ok (.invokevirtual 84, 3) := by decide +kernel
theorem dX7_part_79 : decode cX7_part 79 = .ok (.ireturn, 1) := by decide +kernel
set_option maxRecDepth 20000 in
theorem ggX7_store_X7_isRegister : GoodIn wsX7_store wsX7_isRegister := goodIn_r _ [7] (by decide +kernel) (by decide +kernel)
set_option maxRecDepth 20000 in
theorem gX7_store_X7_isRegister : GoodIn wsX7_store (va_wsS RX7 57 yX7_isRegister wsX7_isRegister) := goodIn_app (goodIn_of _ (by decide +kernel)) ggX7_store_X7_isRegister
set_option maxRecDepth 20000 in
theorem ggX7_store_X7_isOctet : GoodIn wsX7_store wsX7_isOctet := goodIn_r _ [10] (by decide +kernel) (by decide +kernel)
set_option maxRecDepth 20000 in
theorem gX7_store_X7_isOctet : GoodIn wsX7_store (va_wsS RX7 100 yX7_isOctet wsX7_isOctet) := goodIn_app (goodIn_of _ (by decide +kernel)) ggX7_store_X7_isOctet
set_option maxRecDepth 20000 in
theorem ggX7_store_X7_changeOctet : GoodIn wsX7_store wsX7_changeOctet := goodIn_r _ [14, 15, 2, 3, 16, 17, 18, 19, 20, 21, 22, 23, 24, 25, 26, 27, 28, 29, 30, 31, 6, 32, 60, 61, 62, 63, 64, 65, 66, 67, 68, 69, 70, 71, 72, 73, 74, 75, 76, 77] (by decide +kernel) (by decide +kernel)
set_option maxRecDepth 20000 in
theorem gX7_store_X7_changeOctet : GoodIn wsX7_store (wsV RX7 109 RX7 yX7_changeOctet wsX7_changeOctet) := goodIn_app (goodIn_of _ (by decide +kernel)) ggX7_store_X7_changeOctet
set_option maxRecDepth 20000 in
theorem ggX7_store_X7_shadowOfRegister : GoodIn wsX7_store wsX7_shadowOfRegister := goodIn_r _ [36, 2, 3, 37, 38, 39, 40, 60, 61, 62, 63, 64, 65, 66, 67, 68, 69, 70, 71, 72, 73] (by decide +kernel) (by decide +kernel)
set_option maxRecDepth 20000 in
theorem gX7_store_X7_shadowOfRegister : GoodIn wsX7_store (wsV RX7 97 RX7 yX7_shadowOfRegister wsX7_shadowOfRegister) := goodIn_app (goodIn_of _ (by decide +kernel)) ggX7_store_X7_shadowOfRegister
set_option maxRecDepth 20000 in
theorem ggX7_store_X7_tick : GoodIn wsX7_store wsX7_tick := goodIn_r _ [44, 45, 46, 47, 48, 49, 50, 51, 52, 53, 54, 55, 56, 57, 58, 59, 27, 28, 29, 60, 61, 62, 63, 64, 65, 66, 67, 68, 69, 70, 71, 78, 79, 80, 81, 82] (by decide +kernel) (by decide +kernel)
set_option maxRecDepth 20000 in
theorem gX7_store_X7_tick : GoodIn wsX7_store (wsV RX7 84 RX7 yX7_tick wsX7_tick) := goodIn_app (goodIn_of _ (by decide +kernel)) ggX7_store_X7_tick
theorem dX7_store_0 : decode cX7_store 0 = .ok (.iload_n 1, 1) := by decide +kernel
theorem dX7_store_1 : decode cX7_store 1 = .ok (.invokestatic 57, 3) := by decide +kernel
theorem dX7_store_4 : decode cX7_store 4 = .ok (.ifCond .eq 10, 3) := by decide +kernel
theorem dX7_store_7 : decode cX7_store 7 = .ok (.iload_n 2, 1) := by decide +kernel
theorem dX7_store_8 : decode cX7_store 8 = .ok (.invokestatic 100, 3) := by decide +kernel
theorem dX7_store_11 : decode cX7_store 11 = .ok (.ifCond .ne 6, 3) := by decide +kernel
theorem dX7_store_14 : decode cX7_store 14 = .ok (.ldc 61, 2) := by decide +kernel
theorem dX7_store_16 : decode cX7_store 16 = .ok (.ireturn, 1) := by decide +kernel
theorem dX7_store_17 : decode cX7_store 17 = .ok (.aload_n 0, 1) := by decide +kernel
theorem dX7_store_18 : decode cX7_store 18 = .ok (.iload_n 2, 1) := by decide +kernel
theorem dX7_store_19 : decode cX7_store 19 = .ok (.aload_n 0, 1) := by decide +kernel
theorem dX7_store_20 : decode cX7_store 20 = .ok (.getfield 12, 3) := by decide +kernel
theorem dX7_store_23 : decode cX7_store 23 = .ok (.getfield 66, 3) := by decide +kernel
theorem dX7_store_26 : decode cX7_store 26 = .ok (.iload_n 1, 1) := by decide +kernel
theorem dX7_store_27 : decode cX7_store 27 = .ok (.iaload, 1) := by decide +kernel
theorem dX7_store_28 : decode cX7_store 28 = .ok (.invokevirtual 109, 3) := by decide +kernel
theorem dX7_store_31 : decode cX7_store 31 = .ok (.aload_n 0, 1) := by decide +kernel
theorem dX7_store_32 : decode cX7_store 32 = .ok (.iconst 3, 1) := by decide +kernel
theorem dX7_store_33 : decode cX7_store 33 = .ok (.aload_n 0, 1) := by decide +kernel
theorem dX7_store_34 : decode cX7_store 34 = .ok (.iload_n 1, 1) := by decide +kernel
theorem dX7_store_35 : decode cX7_store 35 = .ok (.invokevirtual 97, 3) := by decide +kernel
theorem dX7_store_38 : decode cX7_store 38 = .ok (.invokevirtual 84, 3) := by decide +kernel
theorem dX7_store_41 : decode cX7_store 41 = .ok (.ireturn, 1) := by decide +kernel
set_option maxRecDepth 20000 in
theorem ggX7_loadAt_X7_isRegister : GoodIn wsX7_loadAt wsX7_isRegister := goodIn_r _ [5] (by decide +kernel) (by decide +kernel)
set_option maxRecDepth 20000 in
theorem gX7_loadAt_X7_isRegister : GoodIn wsX7_loadAt (va_wsS RX7 57 yX7_isRegister wsX7_isRegister) := goodIn_app (goodIn_of _ (by decide +kernel)) ggX7_loadAt_X7_isRegister
set_option maxRecDepth 20000 in
theorem ggX7_loadAt_X7_placeAt : GoodIn wsX7_loadAt wsX7_placeAt := goodIn_r _ [9, 10, 11, 12, 13, 14, 15, 16, 17, 18, 19, 20, 21, 22, 23, 24, 25, 26, 27, 28, 29, 30, 31, 32, 33, 86, 87, 88, 89, 90, 91, 92, 93, 94, 95, 96, 97, 98, 99, 100, 101, 102, 103, 104] (by decide +kernel) (by decide +kernel)
set_option maxRecDepth 20000 in
theorem gX7_loadAt_X7_placeAt : GoodIn wsX7_loadAt (wsV RX7 112 RX7 yX7_placeAt wsX7_placeAt) := goodIn_app (goodIn_of _ (by decide +kernel)) ggX7_loadAt_X7_placeAt
set_option maxRecDepth 20000 in
theorem ggX7_loadAt_X7_readOctet : GoodIn wsX7_loadAt wsX7_readOctet := goodIn_r _ [37, 38, 39, 10, 12, 13, 11, 40, 41, 42, 43, 44, 45, 21, 22, 23, 24, 25, 26, 27, 28, 29, 30, 86, 87, 88, 89, 90, 91, 92, 93, 94, 95, 96, 97, 105, 106, 107, 108, 109, 98, 99, 100, 101, 102, 103, 104] (by decide +kernel) (by decide +kernel)
set_option maxRecDepth 20000 in
theorem gX7_loadAt_X7_readOctet : GoodIn wsX7_loadAt (wsV RX7 103 RX7 yX7_readOctet wsX7_readOctet) := goodIn_app (goodIn_of _ (by decide +kernel)) ggX7_loadAt_X7_readOctet
set_option maxRecDepth 20000 in
theorem ggX7_loadAt_X7_changeRegister : GoodIn wsX7_loadAt wsX7_changeRegister := goodIn_r _ [49, 50, 10, 11, 51, 52, 53, 54, 55, 56, 57, 58, 59, 60, 61, 62, 63, 86, 87, 88, 89, 90, 91, 92, 93, 94, 95, 96, 97, 98, 99, 110, 111, 112, 113] (by decide +kernel) (by decide +kernel)
set_option maxRecDepth 20000 in
theorem gX7_loadAt_X7_changeRegister : GoodIn wsX7_loadAt (wsV RX7 80 RX7 yX7_changeRegister wsX7_changeRegister) := goodIn_app (goodIn_of _ (by decide +kernel)) ggX7_loadAt_X7_changeRegister
set_option maxRecDepth 20000 in
theorem ggX7_loadAt_X7_shadowOfRegister : GoodIn wsX7_loadAt wsX7_shadowOfRegister := goodIn_r _ [67, 10, 11, 14, 15, 16, 17, 86, 87, 88, 89, 90, 91, 92, 93, 94, 95, 96, 97, 98, 99] (by decide +kernel) (by decide +kernel)
set_option maxRecDepth 20000 in
theorem gX7_loadAt_X7_shadowOfRegister : GoodIn wsX7_loadAt (wsV RX7 97 RX7 yX7_shadowOfRegister wsX7_shadowOfRegister) := goodIn_app (goodIn_of _ (by decide +kernel)) ggX7_loadAt_X7_shadowOfRegister
set_option maxRecDepth 20000 in
theorem ggX7_loadAt_X7_tick : GoodIn wsX7_loadAt wsX7_tick := goodIn_r _ [71, 72, 13, 73, 74, 75, 76, 77, 78, 79, 80, 81, 82, 83, 84, 85, 61, 62, 63, 86, 87, 88, 89, 90, 91, 92, 93, 94, 95, 96, 97, 114, 115, 116, 117, 118] (by decide +kernel) (by decide +kernel)
set_option maxRecDepth 20000 in
theorem gX7_loadAt_X7_tick : GoodIn wsX7_loadAt (wsV RX7 84 RX7 yX7_tick wsX7_tick) := goodIn_app (goodIn_of _ (by decide +kernel)) ggX7_loadAt_X7_tick
theorem dX7_loadAt_0 : decode cX7_loadAt 0 = .ok (.iload_n 1, 1) := by decide +kernel
theorem dX7_loadAt_1 : decode cX7_loadAt 1 = .ok (.invokestatic 57, 3) := by decide +kernel
theorem dX7_loadAt_4 : decode cX7_loadAt 4 = .ok (.ifCond .eq 10, 3) := by decide +kernel
theorem dX7_loadAt_7 : decode cX7_loadAt 7 = .ok (.iload_n 2, 1) := by decide +kernel
theorem dX7_loadAt_8 : decode cX7_loadAt 8 = .ok (.invokestatic 57, 3) := by decide +kernel
theorem dX7_loadAt_11 : decode cX7_loadAt 11 = .ok (.ifCond .ne 6, 3) := by decide +kernel
theorem dX7_loadAt_14 : decode cX7_loadAt 14 = .ok (.ldc 61, 2) := by decide +kernel
theorem dX7_loadAt_16 : decode cX7_loadAt 16 = .ok (.ireturn, 1) := by decide +kernel
theorem dX7_loadAt_17 : decode cX7_loadAt 17 = .ok (.aload_n 0, 1) := by decide +kernel
theorem dX7_loadAt_18 : decode cX7_loadAt 18 = .ok (.iload_n 1, 1) := by decide +kernel
theorem dX7_loadAt_19 : decode cX7_loadAt 19 = .ok (.aload_n 0, 1) := by decide +kernel
theorem dX7_loadAt_20 : decode cX7_loadAt 20 = .ok (.aload_n 0, 1) := by decide +kernel
theorem dX7_loadAt_21 : decode cX7_loadAt 21 = .ok (.iload_n 2, 1) := by decide +kernel
theorem dX7_loadAt_22 : decode cX7_loadAt 22 = .ok (.invokevirtual 112, 3) := by decide +kernel
theorem dX7_loadAt_25 : decode cX7_loadAt 25 = .ok (.invokevirtual 103, 3) := by decide +kernel
theorem dX7_loadAt_28 : decode cX7_loadAt 28 = .ok (.invokevirtual 80, 3) := by decide +kernel
theorem dX7_loadAt_31 : decode cX7_loadAt 31 = .ok (.aload_n 0, 1) := by decide +kernel
theorem dX7_loadAt_32 : decode cX7_loadAt 32 = .ok (.bipush 9, 2) := by decide +kernel
theorem dX7_loadAt_34 : decode cX7_loadAt 34 = .ok (.aload_n 0, 1) := by decide +kernel
theorem dX7_loadAt_35 : decode cX7_loadAt 35 = .ok (.iload_n 1, 1) := by decide +kernel
theorem dX7_loadAt_36 : decode cX7_loadAt 36 = .ok (.invokevirtual 97, 3) := by decide +kernel
theorem dX7_loadAt_39 : decode cX7_loadAt 39 = .ok (.invokevirtual 84, 3) := by decide +kernel
theorem dX7_loadAt_42 : decode cX7_loadAt 42 = .ok (.ireturn, 1) := by decide +kernel
set_option maxRecDepth 20000 in
theorem ggX7_storeAt_X7_isRegister : GoodIn wsX7_storeAt wsX7_isRegister := goodIn_r _ [7] (by decide +kernel) (by decide +kernel)
set_option maxRecDepth 20000 in
theorem gX7_storeAt_X7_isRegister : GoodIn wsX7_storeAt (va_wsS RX7 57 yX7_isRegister wsX7_isRegister) := goodIn_app (goodIn_of _ (by decide +kernel)) ggX7_storeAt_X7_isRegister
set_option maxRecDepth 20000 in
theorem ggX7_storeAt_X7_placeAt : GoodIn wsX7_storeAt wsX7_placeAt := goodIn_r _ [11, 2, 3, 12, 13, 14, 15, 16, 17, 18, 19, 20, 21, 22, 23, 24, 25, 26, 27, 28, 29, 30, 31, 32, 33, 78, 79, 80, 81, 82, 83, 84, 85, 86, 87, 88, 89, 90, 91, 92, 93, 94, 95, 96] (by decide +kernel) (by decide +kernel)
set_option maxRecDepth 20000 in
theorem gX7_storeAt_X7_placeAt : GoodIn wsX7_storeAt (wsV RX7 112 RX7 yX7_placeAt wsX7_placeAt) := goodIn_app (goodIn_of _ (by decide +kernel)) ggX7_storeAt_X7_placeAt
set_option maxRecDepth 20000 in
theorem ggX7_storeAt_X7_changeOctet : GoodIn wsX7_storeAt wsX7_changeOctet := goodIn_r _ [37, 38, 2, 3, 39, 40, 41, 42, 43, 44, 45, 46, 47, 48, 49, 50, 51, 52, 53, 54, 6, 55, 78, 79, 80, 81, 82, 83, 84, 85, 86, 87, 88, 89, 90, 91, 97, 98, 99, 100] (by decide +kernel) (by decide +kernel)
set_option maxRecDepth 20000 in
theorem gX7_storeAt_X7_changeOctet : GoodIn wsX7_storeAt (wsV RX7 109 RX7 yX7_changeOctet wsX7_changeOctet) := goodIn_app (goodIn_of _ (by decide +kernel)) ggX7_storeAt_X7_changeOctet
set_option maxRecDepth 20000 in
theorem ggX7_storeAt_X7_shadowOfRegister : GoodIn wsX7_storeAt wsX7_shadowOfRegister := goodIn_r _ [59, 2, 3, 14, 15, 16, 17, 78, 79, 80, 81, 82, 83, 84, 85, 86, 87, 88, 89, 90, 91] (by decide +kernel) (by decide +kernel)
set_option maxRecDepth 20000 in
theorem gX7_storeAt_X7_shadowOfRegister : GoodIn wsX7_storeAt (wsV RX7 97 RX7 yX7_shadowOfRegister wsX7_shadowOfRegister) := goodIn_app (goodIn_of _ (by decide +kernel)) ggX7_storeAt_X7_shadowOfRegister
set_option maxRecDepth 20000 in
theorem ggX7_storeAt_X7_tick : GoodIn wsX7_storeAt wsX7_tick := goodIn_r _ [63, 64, 13, 65, 66, 67, 68, 69, 70, 71, 72, 73, 74, 75, 76, 77, 50, 51, 52, 78, 79, 80, 81, 82, 83, 84, 85, 86, 87, 88, 89, 101, 102, 103, 104, 105] (by decide +kernel) (by decide +kernel)
set_option maxRecDepth 20000 in
theorem gX7_storeAt_X7_tick : GoodIn wsX7_storeAt (wsV RX7 84 RX7 yX7_tick wsX7_tick) := goodIn_app (goodIn_of _ (by decide +kernel)) ggX7_storeAt_X7_tick
theorem dX7_storeAt_0 : decode cX7_storeAt 0 = .ok (.iload_n 1, 1) := by decide +kernel
theorem dX7_storeAt_1 : decode cX7_storeAt 1 = .ok (.invokestatic 57, 3) := by decide +kernel
theorem dX7_storeAt_4 : decode cX7_storeAt 4 = .ok (.ifCond .eq 10, 3) := by decide +kernel
theorem dX7_storeAt_7 : decode cX7_storeAt 7 = .ok (.iload_n 2, 1) := by decide +kernel
theorem dX7_storeAt_8 : decode cX7_storeAt 8 = .ok (.invokestatic 57, 3) := by decide +kernel
theorem dX7_storeAt_11 : decode cX7_storeAt 11 = .ok (.ifCond .ne 6, 3) := by decide +kernel
theorem dX7_storeAt_14 : decode cX7_storeAt 14 = .ok (.ldc 61, 2) := by decide +kernel
theorem dX7_storeAt_16 : decode cX7_storeAt 16 = .ok (.ireturn, 1) := by decide +kernel
theorem dX7_storeAt_17 : decode cX7_storeAt 17 = .ok (.aload_n 0, 1) := by decide +kernel
theorem dX7_storeAt_18 : decode cX7_storeAt 18 = .ok (.aload_n 0, 1) := by decide +kernel
theorem dX7_storeAt_19 : decode cX7_storeAt 19 = .ok (.iload_n 2, 1) := by decide +kernel
theorem dX7_storeAt_20 : decode cX7_storeAt 20 = .ok (.invokevirtual 112, 3) := by decide +kernel
theorem dX7_storeAt_23 : decode cX7_storeAt 23 = .ok (.aload_n 0, 1) := by decide +kernel
theorem dX7_storeAt_24 : decode cX7_storeAt 24 = .ok (.getfield 12, 3) := by decide +kernel
theorem dX7_storeAt_27 : decode cX7_storeAt 27 = .ok (.getfield 66, 3) := by decide +kernel
theorem dX7_storeAt_30 : decode cX7_storeAt 30 = .ok (.iload_n 1, 1) := by decide +kernel
theorem dX7_storeAt_31 : decode cX7_storeAt 31 = .ok (.iaload, 1) := by decide +kernel
theorem dX7_storeAt_32 : decode cX7_storeAt 32 = .ok (.invokevirtual 109, 3) := by decide +kernel
theorem dX7_storeAt_35 : decode cX7_storeAt 35 = .ok (.aload_n 0, 1) := by decide +kernel
theorem dX7_storeAt_36 : decode cX7_storeAt 36 = .ok (.bipush 10, 2) := by decide +kernel
theorem dX7_storeAt_38 : decode cX7_storeAt 38 = .ok (.aload_n 0, 1) := by decide +kernel
theorem dX7_storeAt_39 : decode cX7_storeAt 39 = .ok (.iload_n 1, 1) := by decide +kernel
theorem dX7_storeAt_40 : decode cX7_storeAt 40 = .ok (.invokevirtual 97, 3) := by decide +kernel
theorem dX7_storeAt_43 : decode cX7_storeAt 43 = .ok (.invokevirtual 84, 3) := by decide +kernel
theorem dX7_storeAt_46 : decode cX7_storeAt 46 = .ok (.ireturn, 1) := by decide +kernel
set_option maxRecDepth 20000 in
theorem ggX7_rule_X7_isRegister : GoodIn wsX7_rule wsX7_isRegister := goodIn_r _ [9] (by decide +kernel) (by decide +kernel)
set_option maxRecDepth 20000 in
theorem gX7_rule_X7_isRegister : GoodIn wsX7_rule (va_wsS RX7 57 yX7_isRegister wsX7_isRegister) := goodIn_app (goodIn_of _ (by decide +kernel)) ggX7_rule_X7_isRegister
set_option maxRecDepth 20000 in
theorem ggX7_rule_X7_isSort : GoodIn wsX7_rule wsX7_isSort := goodIn_r _ [12] (by decide +kernel) (by decide +kernel)
set_option maxRecDepth 20000 in
theorem gX7_rule_X7_isSort : GoodIn wsX7_rule (va_wsS RX7 115 yX7_isSort wsX7_isSort) := goodIn_app (goodIn_of _ (by decide +kernel)) ggX7_rule_X7_isSort
set_option maxRecDepth 20000 in
theorem ggX7_rule_X6_slackOf : GoodIn wsX7_rule wsX6_slackOf := goodIn_r _ [16, 17, 18, 19, 20, 21, 22, 23, 24, 25, 15, 26, 27, 28, 29, 30, 31, 32, 33, 34, 35, 36, 37, 38, 39, 40, 41, 42] (by decide +kernel) (by decide +kernel)
set_option maxRecDepth 20000 in
theorem gX7_rule_X6_slackOf : GoodIn wsX7_rule (va_wsS RX7 121 yX6_slackOf wsX6_slackOf) := goodIn_app (goodIn_of _ (by decide +kernel)) ggX7_rule_X6_slackOf
set_option maxRecDepth 20000 in
theorem ggX7_rule_X7_followRule : GoodIn wsX7_rule wsX7_followRule := goodIn_r _ [46, 4, 5, 47, 48, 15, 49, 17, 18, 19, 20, 21, 22, 23, 24, 25, 26, 27, 28, 29, 50, 51, 52, 53, 54, 55, 56, 57, 58, 8, 59, 60, 61, 62, 63, 64, 65, 66, 67, 68, 69, 70, 71, 72, 73, 74, 75, 76, 77, 78, 79, 80, 81, 82, 83, 84, 85, 86, 87, 88, 89, 90, 91, 92, 93, 94, 95, 96, 97, 98, 99, 100, 101, 102, 103, 104, 105, 106, 107, 108, 109, 110, 111, 112, 113, 114, 115, 116, 117, 118, 119, 120] (by decide +kernel) (by decide +kernel)
set_option maxRecDepth 20000 in
theorem gX7_rule_X7_followRule : GoodIn wsX7_rule (wsV RX7 126 RX7 yX7_followRule wsX7_followRule) := goodIn_app (goodIn_of _ (by decide +kernel)) ggX7_rule_X7_followRule
theorem dX7_rule_0 : decode cX7_rule 0 = .ok (.iload_n 2, 1) := by decide +kernel
theorem dX7_rule_1 : decode cX7_rule 1 = .ok (.invokestatic 57, 3) := by decide +kernel
theorem dX7_rule_4 : decode cX7_rule 4 = .ok (.ifCond .eq 18, 3) := by decide +kernel
theorem dX7_rule_7 : decode cX7_rule 7 = .ok (.iload_n 3, 1) := by decide +kernel
theorem dX7_rule_8 : decode cX7_rule 8 = .ok (.invokestatic 57, 3) := by decide +kernel
theorem dX7_rule_11 : decode cX7_rule 11 = .ok (.ifCond .eq 11, 3) := by decide +kernel
theorem dX7_rule_14 : decode cX7_rule 14 = .ok (.iload 4, 2) := by decide +kernel
theorem dX7_rule_16 : decode cX7_rule 16 = .ok (.invokestatic 57, 3) := by decide +kernel
theorem dX7_rule_19 : decode cX7_rule 19 = .ok (.ifCond .ne 6, 3) := by decide +kernel
theorem dX7_rule_22 : decode cX7_rule 22 = .ok (.ldc 61, 2) := by decide +kernel
theorem dX7_rule_24 : decode cX7_rule 24 = .ok (.ireturn, 1) := by decide +kernel
theorem dX7_rule_25 : decode cX7_rule 25 = .ok (.iload_n 1, 1) := by decide +kernel
theorem dX7_rule_26 : decode cX7_rule 26 = .ok (.invokestatic 115, 3) := by decide +kernel
theorem dX7_rule_29 : decode cX7_rule 29 = .ok (.ifCond .ne 6, 3) := by decide +kernel
theorem dX7_rule_32 : decode cX7_rule 32 = .ok (.ldc 65, 2) := by decide +kernel
theorem dX7_rule_34 : decode cX7_rule 34 = .ok (.ireturn, 1) := by decide +kernel
theorem dX7_rule_35 : decode cX7_rule 35 = .ok (.aload_n 0, 1) := by decide +kernel
theorem dX7_rule_36 : decode cX7_rule 36 = .ok (.dup, 1) := by decide +kernel
theorem dX7_rule_37 : decode cX7_rule 37 = .ok (.getfield 118, 3) := by decide +kernel
theorem dX7_rule_40 : decode cX7_rule 40 = .ok (.iload_n 1, 1) := by decide +kernel
theorem dX7_rule_41 : decode cX7_rule 41 = .ok (.aload_n 0, 1) := by decide +kernel
theorem dX7_rule_42 : decode cX7_rule 42 = .ok (.getfield 12, 3) := by decide +kernel
theorem dX7_rule_45 : decode cX7_rule 45 = .ok (.getfield 66, 3) := by decide +kernel
theorem dX7_rule_48 : decode cX7_rule 48 = .ok (.iload_n 3, 1) := by decide +kernel
theorem dX7_rule_49 : decode cX7_rule 49 = .ok (.iaload, 1) := by decide +kernel
theorem dX7_rule_50 : decode cX7_rule 50 = .ok (.aload_n 0, 1) := by decide +kernel
theorem dX7_rule_51 : decode cX7_rule 51 = .ok (.getfield 12, 3) := by decide +kernel
theorem dX7_rule_54 : decode cX7_rule 54 = .ok (.getfield 66, 3) := by decide +kernel
theorem dX7_rule_57 : decode cX7_rule 57 = .ok (.iload 4, 2) := by decide +kernel
theorem dX7_rule_59 : decode cX7_rule 59 = .ok (.iaload, 1) := by decide +kernel
theorem dX7_rule_60 : decode cX7_rule 60 = .ok (.invokestatic 121, 3) := by decide +kernel
theorem dX7_rule_63 : decode cX7_rule 63 = .ok (.iadd, 1) := by decide +kernel
theorem dX7_rule_64 : decode cX7_rule 64 = .ok (.putfield 118, 3) := by decide +kernel
theorem dX7_rule_67 : decode cX7_rule 67 = .ok (.aload_n 0, 1) := by decide +kernel
theorem dX7_rule_68 : decode cX7_rule 68 = .ok (.iload_n 1, 1) := by decide +kernel
theorem dX7_rule_69 : decode cX7_rule 69 = .ok (.iload_n 2, 1) := by decide +kernel
theorem dX7_rule_70 : decode cX7_rule 70 = .ok (.iload_n 3, 1) := by decide +kernel
theorem dX7_rule_71 : decode cX7_rule 71 = .ok (.iload 4, 2) := by decide +kernel
theorem dX7_rule_73 : decode cX7_rule 73 = .ok (.invokevirtual 126, 3) := by decide +kernel
theorem dX7_rule_76 : decode cX7_rule 76 = .ok (.ireturn, 1) := by decide +kernel
set_option maxRecDepth 20000 in
theorem ggX7_decide_X7_isRegister : GoodIn wsX7_decide wsX7_isRegister := goodIn_r _ [9] (by decide +kernel) (by decide +kernel)
set_option maxRecDepth 20000 in
theorem gX7_decide_X7_isRegister : GoodIn wsX7_decide (va_wsS RX7 57 yX7_isRegister wsX7_isRegister) := goodIn_app (goodIn_of _ (by decide +kernel)) ggX7_decide_X7_isRegister
set_option maxRecDepth 20000 in
theorem ggX7_decide_X0_isDecided : GoodIn wsX7_decide wsX0_isDecided := goodIn_r _ [13, 14, 15, 12, 16, 17, 18, 19, 20, 21, 22] (by decide +kernel) (by decide +kernel)
set_option maxRecDepth 20000 in
theorem gX7_decide_X0_isDecided : GoodIn wsX7_decide (va_wsS RX7 130 yX0_isDecided wsX0_isDecided) := goodIn_app (goodIn_of _ (by decide +kernel)) ggX7_decide_X0_isDecided
set_option maxRecDepth 20000 in
theorem ggX7_decide_X0_fromOf : GoodIn wsX7_decide wsX0_fromOf := goodIn_r _ [25] (by decide +kernel) (by decide +kernel)
set_option maxRecDepth 20000 in
theorem gX7_decide_X0_fromOf : GoodIn wsX7_decide (va_wsS RX7 94 yX0_fromOf wsX0_fromOf) := goodIn_app (goodIn_of _ (by decide +kernel)) ggX7_decide_X0_fromOf
set_option maxRecDepth 20000 in
theorem ggX7_decide_X2_add : GoodIn wsX7_decide wsX2_add := goodIn_r _ [30, 31, 32, 33, 34, 35, 72, 73, 74, 75, 76] (by decide +kernel) (by decide +kernel)
set_option maxRecDepth 20000 in
theorem gX7_decide_X2_add : GoodIn wsX7_decide (wsV RX7 133 RX2 yX2_add wsX2_add) := goodIn_app (goodIn_of _ (by decide +kernel)) ggX7_decide_X2_add
set_option maxRecDepth 20000 in
theorem ggX7_decide_X0_valueOf : GoodIn wsX7_decide wsX0_valueOf := goodIn_r _ [19] (by decide +kernel) (by decide +kernel)
set_option maxRecDepth 20000 in
theorem gX7_decide_X0_valueOf : GoodIn wsX7_decide (va_wsS RX7 70 yX0_valueOf wsX0_valueOf) := goodIn_app (goodIn_of _ (by decide +kernel)) ggX7_decide_X0_valueOf
set_option maxRecDepth 20000 in
theorem ggX7_decide_X7_tick : GoodIn wsX7_decide wsX7_tick := goodIn_r _ [40, 41, 5, 42, 43, 44, 45, 46, 47, 48, 49, 50, 51, 52, 53, 54, 55, 56, 57, 58, 59, 60, 61, 62, 63, 64, 65, 66, 67, 68, 69, 77, 78, 79, 80, 81] (by decide +kernel) (by decide +kernel)
set_option maxRecDepth 20000 in
theorem gX7_decide_X7_tick : GoodIn wsX7_decide (wsV RX7 84 RX7 yX7_tick wsX7_tick) := goodIn_app (goodIn_of _ (by decide +kernel)) ggX7_decide_X7_tick
theorem dX7_decide_0 : decode cX7_decide 0 = .ok (.iload_n 1, 1) := by decide +kernel
theorem dX7_decide_1 : decode cX7_decide 1 = .ok (.invokestatic 57, 3) := by decide +kernel
theorem dX7_decide_4 : decode cX7_decide 4 = .ok (.ifCond .ne 6, 3) := by decide +kernel
theorem dX7_decide_7 : decode cX7_decide 7 = .ok (.ldc 61, 2) := by decide +kernel
theorem dX7_decide_9 : decode cX7_decide 9 = .ok (.ireturn, 1) := by decide +kernel
theorem dX7_decide_10 : decode cX7_decide 10 = .ok (.aload_n 0, 1) := by decide +kernel
theorem dX7_decide_11 : decode cX7_decide 11 = .ok (.getfield 12, 3) := by decide +kernel
theorem dX7_decide_14 : decode cX7_decide 14 = .ok (.getfield 66, 3) := by decide +kernel
theorem dX7_decide_17 : decode cX7_decide 17 = .ok (.iload_n 1, 1) := by decide +kernel
theorem dX7_decide_18 : decode cX7_decide 18 = .ok (.iaload, 1) := by decide +kernel
theorem dX7_decide_19 : decode cX7_decide 19 = .ok (.istore_n 2, 1) := by decide +kernel
theorem dX7_decide_20 : decode cX7_decide 20 = .ok (.iload_n 2, 1) := by decide +kernel
theorem dX7_decide_21 : decode cX7_decide 21 = .ok (.invokestatic 130, 3) := by decide +kernel
theorem dX7_decide_24 : decode cX7_decide 24 = .ok (.ifCond .ne 19, 3) := by decide +kernel
theorem dX7_decide_27 : decode cX7_decide 27 = .ok (.aload_n 0, 1) := by decide +kernel
theorem dX7_decide_28 : decode cX7_decide 28 = .ok (.getfield 32, 3) := by decide +kernel
theorem dX7_decide_31 : decode cX7_decide 31 = .ok (.iconst 0, 1) := by decide +kernel
theorem dX7_decide_32 : decode cX7_decide 32 = .ok (.aload_n 0, 1) := by decide +kernel
theorem dX7_decide_33 : decode cX7_decide 33 = .ok (.getfield 53, 3) := by decide +kernel
theorem dX7_decide_36 : decode cX7_decide 36 = .ok (.iload_n 2, 1) := by decide +kernel
theorem dX7_decide_37 : decode cX7_decide 37 = .ok (.invokestatic 94, 3) := by decide +kernel
theorem dX7_decide_40 : decode cX7_decide 40 = .ok (.invokevirtual 133, 3) := by decide +kernel
theorem dX7_decide_43 : decode cX7_decide 43 = .ok (.aload_n 0, 1) := by decide +kernel
theorem dX7_decide_44 : decode cX7_decide 44 = .ok (.iconst 5, 1) := by decide +kernel
theorem dX7_decide_45 : decode cX7_decide 45 = .ok (.iload_n 2, 1) := by decide +kernel
theorem dX7_decide_46 : decode cX7_decide 46 = .ok (.invokestatic 70, 3) := by decide +kernel
theorem dX7_decide_49 : decode cX7_decide 49 = .ok (.ifCond .eq 7, 3) := by decide +kernel
theorem dX7_decide_52 : decode cX7_decide 52 = .ok (.iconst 1, 1) := by decide +kernel
theorem dX7_decide_53 : decode cX7_decide 53 = .ok (.goto 4, 3) := by decide +kernel
theorem dX7_decide_56 : decode cX7_decide 56 = .ok (.iconst 0, 1) := by decide +kernel
theorem dX7_decide_57 : decode cX7_decide 57 = .ok (.invokevirtual 84, 3) := by decide +kernel
theorem dX7_decide_60 : decode cX7_decide 60 = .ok (.ireturn, 1) := by decide +kernel
set_option maxRecDepth 20000 in
theorem ggX7_let_X7_isOctet : GoodIn wsX7_let wsX7_isOctet := goodIn_r _ [12] (by decide +kernel) (by decide +kernel)
set_option maxRecDepth 20000 in
theorem gX7_let_X7_isOctet : GoodIn wsX7_let (va_wsS RX7 100 yX7_isOctet wsX7_isOctet) := goodIn_app (goodIn_of _ (by decide +kernel)) ggX7_let_X7_isOctet
set_option maxRecDepth 20000 in
theorem ggX7_let_X3_anyIsLet : GoodIn wsX7_let wsX3_anyIsLet := goodIn_r _ [17, 18, 19, 20, 21, 16, 22, 23, 79, 80, 81, 82, 83] (by decide +kernel) (by decide +kernel)
set_option maxRecDepth 20000 in
theorem gX7_let_X3_anyIsLet : GoodIn wsX7_let (wsV RX7 137 RX3 yX3_anyIsLet wsX3_anyIsLet) := goodIn_app (goodIn_of _ (by decide +kernel)) ggX7_let_X3_anyIsLet
set_option maxRecDepth 20000 in
theorem ggX7_let_X3_open : GoodIn wsX7_let wsX3_open := goodIn_r _ [27, 28, 29, 30, 18, 23, 79, 80, 81, 82, 83] (by decide +kernel) (by decide +kernel)
set_option maxRecDepth 20000 in
theorem gX7_let_X3_open : GoodIn wsX7_let (wsV RX7 146 RX3 yX3_open wsX3_open) := goodIn_app (goodIn_of _ (by decide +kernel)) ggX7_let_X3_open
set_option maxRecDepth 20000 in
theorem ggX7_let_X7_nextLot : GoodIn wsX7_let wsX7_nextLot := goodIn_r _ [34, 35, 36, 37, 67, 68, 69, 70, 71, 72, 73, 74, 75, 76, 77, 78] (by decide +kernel) (by decide +kernel)
set_option maxRecDepth 20000 in
theorem gX7_let_X7_nextLot : GoodIn wsX7_let (wsV RX7 149 RX7 yX7_nextLot wsX7_nextLot) := goodIn_app (goodIn_of _ (by decide +kernel)) ggX7_let_X7_nextLot
set_option maxRecDepth 20000 in
theorem ggX7_let_X0_of : GoodIn wsX7_let wsX0_of := goodIn_r _ [41] (by decide +kernel) (by decide +kernel)
set_option maxRecDepth 20000 in
theorem gX7_let_X0_of : GoodIn wsX7_let (va_wsS RX7 76 yX0_of wsX0_of) := goodIn_app (goodIn_of _ (by decide +kernel)) ggX7_let_X0_of
set_option maxRecDepth 20000 in
theorem ggX7_let_X7_octetSet : GoodIn wsX7_let wsX7_octetSet := goodIn_r _ [44] (by decide +kernel) (by decide +kernel)
set_option maxRecDepth 20000 in
theorem gX7_let_X7_octetSet : GoodIn wsX7_let (va_wsS RX7 156 yX7_octetSet wsX7_octetSet) := goodIn_app (goodIn_of _ (by decide +kernel)) ggX7_let_X7_octetSet
set_option maxRecDepth 20000 in
theorem ggX7_let_X7_tick : GoodIn wsX7_let wsX7_tick := goodIn_r _ [48, 49, 50, 51, 52, 53, 54, 55, 56, 57, 58, 59, 60, 61, 62, 63, 64, 65, 66, 67, 68, 69, 70, 71, 72, 73, 74, 75, 76, 77, 78, 86, 87, 88, 89, 90] (by decide +kernel) (by decide +kernel)
set_option maxRecDepth 20000 in
theorem gX7_let_X7_tick : GoodIn wsX7_let (wsV RX7 84 RX7 yX7_tick wsX7_tick) := goodIn_app (goodIn_of _ (by decide +kernel)) ggX7_let_X7_tick
theorem dX7_let_0 : decode cX7_let 0 = .ok (.iload_n 1, 1) := by decide +kernel
theorem dX7_let_1 : decode cX7_let 1 = .ok (.invokestatic 100, 3) := by decide +kernel
theorem dX7_let_4 : decode cX7_let 4 = .ok (.ifCond .eq 22, 3) := by decide +kernel
theorem dX7_let_7 : decode cX7_let 7 = .ok (.iload_n 2, 1) := by decide +kernel
theorem dX7_let_8 : decode cX7_let 8 = .ok (.iconst 1, 1) := by decide +kernel
theorem dX7_let_9 : decode cX7_let 9 = .ok (.if_icmp .lt 17, 3) := by decide +kernel
theorem dX7_let_12 : decode cX7_let 12 = .ok (.iload_n 2, 1) := by decide +kernel
theorem dX7_let_13 : decode cX7_let 13 = .ok (.bipush 8, 2) := by decide +kernel
theorem dX7_let_15 : decode cX7_let 15 = .ok (.if_icmp .gt 11, 3) := by decide +kernel
theorem dX7_let_18 : decode cX7_let 18 = .ok (.iload_n 1, 1) := by decide +kernel
theorem dX7_let_19 : decode cX7_let 19 = .ok (.iload_n 2, 1) := by decide +kernel
theorem dX7_let_20 : decode cX7_let 20 = .ok (.iadd, 1) := by decide +kernel
theorem dX7_let_21 : decode cX7_let 21 = .ok (.bipush 32, 2) := by decide +kernel
theorem dX7_let_23 : decode cX7_let 23 = .ok (.if_icmp .le 6, 3) := by decide +kernel
theorem dX7_let_26 : decode cX7_let 26 = .ok (.ldc 65, 2) := by decide +kernel
theorem dX7_let_28 : decode cX7_let 28 = .ok (.ireturn, 1) := by decide +kernel
theorem dX7_let_29 : decode cX7_let 29 = .ok (.aload_n 0, 1) := by decide +kernel
theorem dX7_let_30 : decode cX7_let 30 = .ok (.getfield 25, 3) := by decide +kernel
theorem dX7_let_33 : decode cX7_let 33 = .ok (.iload_n 1, 1) := by decide +kernel
theorem dX7_let_34 : decode cX7_let 34 = .ok (.iload_n 2, 1) := by decide +kernel
theorem dX7_let_35 : decode cX7_let 35 = .ok (.invokevirtual 137, 3) := by decide +kernel
theorem dX7_let_38 : decode cX7_let 38 = .ok (.ifCond .eq 6, 3) := by decide +kernel
theorem dX7_let_41 : decode cX7_let 41 = .ok (.ldc 141, 2) := by decide +kernel
theorem dX7_let_43 : decode cX7_let 43 = .ok (.ireturn, 1) := by decide +kernel
theorem dX7_let_44 : decode cX7_let 44 = .ok (.aload_n 0, 1) := by decide +kernel
theorem dX7_let_45 : decode cX7_let 45 = .ok (.getfield 25, 3) := by decide +kernel
theorem dX7_let_48 : decode cX7_let 48 = .ok (.getfield 142, 3) := by decide +kernel
theorem dX7_let_51 : decode cX7_let 51 = .ok (.bipush 12, 2) := by decide +kernel
theorem dX7_let_53 : decode cX7_let 53 = .ok (.if_icmp .lt 6, 3) := by decide +kernel
theorem dX7_let_56 : decode cX7_let 56 = .ok (.ldc 145, 2) := by decide +kernel
theorem dX7_let_58 : decode cX7_let 58 = .ok (.ireturn, 1) := by decide +kernel
theorem dX7_let_59 : decode cX7_let 59 = .ok (.aload_n 0, 1) := by decide +kernel
theorem dX7_let_60 : decode cX7_let 60 = .ok (.getfield 25, 3) := by decide +kernel
theorem dX7_let_63 : decode cX7_let 63 = .ok (.iload_n 1, 1) := by decide +kernel
theorem dX7_let_64 : decode cX7_let 64 = .ok (.iload_n 2, 1) := by decide +kernel
theorem dX7_let_65 : decode cX7_let 65 = .ok (.invokevirtual 146, 3) := by decide +kernel
theorem dX7_let_68 : decode cX7_let 68 = .ok (.istore_n 3, 1) := by decide +kernel
theorem dX7_let_69 : decode cX7_let 69 = .ok (.iload_n 1, 1) := by decide +kernel
theorem dX7_let_70 : decode cX7_let 70 = .ok (.istore 4, 2) := by decide +kernel
theorem dX7_let_72 : decode cX7_let 72 = .ok (.iload 4, 2) := by decide +kernel
theorem dX7_let_74 : decode cX7_let 74 = .ok (.iload_n 1, 1) := by decide +kernel
theorem dX7_let_75 : decode cX7_let 75 = .ok (.iload_n 2, 1) := by decide +kernel
theorem dX7_let_76 : decode cX7_let 76 = .ok (.iadd, 1) := by decide +kernel
theorem dX7_let_77 : decode cX7_let 77 = .ok (.if_icmp .ge 39, 3) := by decide +kernel
theorem dX7_let_80 : decode cX7_let 80 = .ok (.aload_n 0, 1) := by decide +kernel
theorem dX7_let_81 : decode cX7_let 81 = .ok (.getfield 12, 3) := by decide +kernel
theorem dX7_let_84 : decode cX7_let 84 = .ok (.getfield 66, 3) := by decide +kernel
theorem dX7_let_87 : decode cX7_let 87 = .ok (.bipush 8, 2) := by decide +kernel
theorem dX7_let_89 : decode cX7_let 89 = .ok (.iload 4, 2) := by decide +kernel
theorem dX7_let_91 : decode cX7_let 91 = .ok (.iadd, 1) := by decide +kernel
theorem dX7_let_92 : decode cX7_let 92 = .ok (.aload_n 0, 1) := by decide +kernel
theorem dX7_let_93 : decode cX7_let 93 = .ok (.invokevirtual 149, 3) := by decide +kernel
theorem dX7_let_96 : decode cX7_let 96 = .ok (.sipush 256, 3) := by decide +kernel
theorem dX7_let_99 : decode cX7_let 99 = .ok (.irem, 1) := by decide +kernel
theorem dX7_let_100 : decode cX7_let 100 = .ok (.sipush 255, 3) := by decide +kernel
theorem dX7_let_103 : decode cX7_let 103 = .ok (.iconst 1, 1) := by decide +kernel
theorem dX7_let_104 : decode cX7_let 104 = .ok (.iload_n 3, 1) := by decide +kernel
theorem dX7_let_105 : decode cX7_let 105 = .ok (.ishl, 1) := by decide +kernel
theorem dX7_let_106 : decode cX7_let 106 = .ok (.invokestatic 76, 3) := by decide +kernel
theorem dX7_let_109 : decode cX7_let 109 = .ok (.iastore, 1) := by decide +kernel
theorem dX7_let_110 : decode cX7_let 110 = .ok (.iinc 4 1, 3) := by decide +kernel
theorem dX7_let_113 : decode cX7_let 113 = .ok (.goto (-41), 3) := by decide +kernel
theorem dX7_let_116 : decode cX7_let 116 = .ok (.aload_n 0, 1) := by decide +kernel
theorem dX7_let_117 : decode cX7_let 117 = .ok (.getfield 12, 3) := by decide +kernel
theorem dX7_let_120 : decode cX7_let 120 = .ok (.dup, 1) := by decide +kernel
theorem dX7_let_121 : decode cX7_let 121 = .ok (.getfield 153, 3) := by decide +kernel
theorem dX7_let_124 : decode cX7_let 124 = .ok (.iload_n 1, 1) := by decide +kernel
theorem dX7_let_125 : decode cX7_let 125 = .ok (.iload_n 2, 1) := by decide +kernel
theorem dX7_let_126 : decode cX7_let 126 = .ok (.invokestatic 156, 3) := by decide +kernel
theorem dX7_let_129 : decode cX7_let 129 = .ok (.iconst (-1), 1) := by decide +kernel
theorem dX7_let_130 : decode cX7_let 130 = .ok (.ixor, 1) := by decide +kernel
theorem dX7_let_131 : decode cX7_let 131 = .ok (.iand, 1) := by decide +kernel
theorem dX7_let_132 : decode cX7_let 132 = .ok (.putfield 153, 3) := by decide +kernel
theorem dX7_let_135 : decode cX7_let 135 = .ok (.aload_n 0, 1) := by decide +kernel
theorem dX7_let_136 : decode cX7_let 136 = .ok (.bipush 6, 2) := by decide +kernel
theorem dX7_let_138 : decode cX7_let 138 = .ok (.iload_n 3, 1) := by decide +kernel
theorem dX7_let_139 : decode cX7_let 139 = .ok (.invokevirtual 84, 3) := by decide +kernel
theorem dX7_let_142 : decode cX7_let 142 = .ok (.ireturn, 1) := by decide +kernel
set_option maxRecDepth 20000 in
theorem ggX7_giveBack_X3_has : GoodIn wsX7_giveBack wsX3_has := goodIn_r _ [13, 14, 71, 72, 73, 74, 75] (by decide +kernel) (by decide +kernel)
set_option maxRecDepth 20000 in
theorem gX7_giveBack_X3_has : GoodIn wsX7_giveBack (wsV RX7 88 RX3 yX3_has wsX3_has) := goodIn_app (goodIn_of _ (by decide +kernel)) ggX7_giveBack_X3_has
set_option maxRecDepth 20000 in
theorem ggX7_giveBack_X3_isLet : GoodIn wsX7_giveBack wsX3_isLet := goodIn_r _ [18, 19, 71, 72, 73, 74, 75] (by decide +kernel) (by decide +kernel)
set_option maxRecDepth 20000 in
theorem gX7_giveBack_X3_isLet : GoodIn wsX7_giveBack (wsV RX7 159 RX3 yX3_isLet wsX3_isLet) := goodIn_app (goodIn_of _ (by decide +kernel)) ggX7_giveBack_X3_isLet
set_option maxRecDepth 20000 in
theorem ggX7_giveBack_X3_close : GoodIn wsX7_giveBack wsX3_close := goodIn_r _ [23, 19, 71, 72, 73, 74, 75] (by decide +kernel) (by decide +kernel)
set_option maxRecDepth 20000 in
theorem gX7_giveBack_X3_close : GoodIn wsX7_giveBack (wsV RX7 162 RX3 yX3_close wsX3_close) := goodIn_app (goodIn_of _ (by decide +kernel)) ggX7_giveBack_X3_close
set_option maxRecDepth 20000 in
theorem ggX7_giveBack_X7_octetSet : GoodIn wsX7_giveBack wsX7_octetSet := goodIn_r _ [27] (by decide +kernel) (by decide +kernel)
set_option maxRecDepth 20000 in
theorem gX7_giveBack_X7_octetSet : GoodIn wsX7_giveBack (va_wsS RX7 156 yX7_octetSet wsX7_octetSet) := goodIn_app (goodIn_of _ (by decide +kernel)) ggX7_giveBack_X7_octetSet
set_option maxRecDepth 20000 in
theorem ggX7_giveBack_J6_bitCount_0f7a4 : GoodIn wsX7_giveBack wsJ6_bitCount_0f7a4 := goodIn_r _ [31, 32, 33, 34] (by decide +kernel) (by decide +kernel)
set_option maxRecDepth 20000 in
theorem gX7_giveBack_J6_bitCount_0f7a4 : GoodIn wsX7_giveBack (va_wsS RX7 175 yJ6_bitCount_0f7a4 wsJ6_bitCount_0f7a4) := goodIn_app (goodIn_of _ (by decide +kernel)) ggX7_giveBack_J6_bitCount_0f7a4
set_option maxRecDepth 20000 in
theorem ggX7_giveBack_X7_tick : GoodIn wsX7_giveBack wsX7_tick := goodIn_r _ [38, 39, 40, 41, 42, 43, 44, 45, 46, 47, 48, 49, 50, 51, 52, 53, 54, 55, 56, 57, 58, 59, 60, 61, 62, 63, 64, 65, 66, 67, 68, 76, 77, 78, 79, 80] (by decide +kernel) (by decide +kernel)
set_option maxRecDepth 20000 in
theorem gX7_giveBack_X7_tick : GoodIn wsX7_giveBack (wsV RX7 84 RX7 yX7_tick wsX7_tick) := goodIn_app (goodIn_of _ (by decide +kernel)) ggX7_giveBack_X7_tick
theorem dX7_giveBack_0 : decode cX7_giveBack 0 = .ok (.aload_n 0, 1) := by decide +kernel
theorem dX7_giveBack_1 : decode cX7_giveBack 1 = .ok (.getfield 25, 3) := by decide +kernel
theorem dX7_giveBack_4 : decode cX7_giveBack 4 = .ok (.iload_n 1, 1) := by decide +kernel
theorem dX7_giveBack_5 : decode cX7_giveBack 5 = .ok (.invokevirtual 88, 3) := by decide +kernel
theorem dX7_giveBack_8 : decode cX7_giveBack 8 = .ok (.ifCond .ne 6, 3) := by decide +kernel
theorem dX7_giveBack_11 : decode cX7_giveBack 11 = .ok (.ldc 61, 2) := by decide +kernel
theorem dX7_giveBack_13 : decode cX7_giveBack 13 = .ok (.ireturn, 1) := by decide +kernel
theorem dX7_giveBack_14 : decode cX7_giveBack 14 = .ok (.aload_n 0, 1) := by decide +kernel
theorem dX7_giveBack_15 : decode cX7_giveBack 15 = .ok (.getfield 25, 3) := by decide +kernel
theorem dX7_giveBack_18 : decode cX7_giveBack 18 = .ok (.iload_n 1, 1) := by decide +kernel
theorem dX7_giveBack_19 : decode cX7_giveBack 19 = .ok (.invokevirtual 159, 3) := by decide +kernel
theorem dX7_giveBack_22 : decode cX7_giveBack 22 = .ok (.ifCond .ne 6, 3) := by decide +kernel
theorem dX7_giveBack_25 : decode cX7_giveBack 25 = .ok (.ldc 141, 2) := by decide +kernel
theorem dX7_giveBack_27 : decode cX7_giveBack 27 = .ok (.ireturn, 1) := by decide +kernel
theorem dX7_giveBack_28 : decode cX7_giveBack 28 = .ok (.aload_n 0, 1) := by decide +kernel
theorem dX7_giveBack_29 : decode cX7_giveBack 29 = .ok (.getfield 25, 3) := by decide +kernel
theorem dX7_giveBack_32 : decode cX7_giveBack 32 = .ok (.iload_n 1, 1) := by decide +kernel
theorem dX7_giveBack_33 : decode cX7_giveBack 33 = .ok (.invokevirtual 162, 3) := by decide +kernel
theorem dX7_giveBack_36 : decode cX7_giveBack 36 = .ok (.aload_n 0, 1) := by decide +kernel
theorem dX7_giveBack_37 : decode cX7_giveBack 37 = .ok (.getfield 12, 3) := by decide +kernel
theorem dX7_giveBack_40 : decode cX7_giveBack 40 = .ok (.dup, 1) := by decide +kernel
theorem dX7_giveBack_41 : decode cX7_giveBack 41 = .ok (.getfield 153, 3) := by decide +kernel
theorem dX7_giveBack_44 : decode cX7_giveBack 44 = .ok (.aload_n 0, 1) := by decide +kernel
theorem dX7_giveBack_45 : decode cX7_giveBack 45 = .ok (.getfield 25, 3) := by decide +kernel
theorem dX7_giveBack_48 : decode cX7_giveBack 48 = .ok (.getfield 166, 3) := by decide +kernel
theorem dX7_giveBack_51 : decode cX7_giveBack 51 = .ok (.iload_n 1, 1) := by decide +kernel
theorem dX7_giveBack_52 : decode cX7_giveBack 52 = .ok (.iaload, 1) := by decide +kernel
theorem dX7_giveBack_53 : decode cX7_giveBack 53 = .ok (.aload_n 0, 1) := by decide +kernel
theorem dX7_giveBack_54 : decode cX7_giveBack 54 = .ok (.getfield 25, 3) := by decide +kernel
theorem dX7_giveBack_57 : decode cX7_giveBack 57 = .ok (.getfield 169, 3) := by decide +kernel
theorem dX7_giveBack_60 : decode cX7_giveBack 60 = .ok (.iload_n 1, 1) := by decide +kernel
theorem dX7_giveBack_61 : decode cX7_giveBack 61 = .ok (.iaload, 1) := by decide +kernel
theorem dX7_giveBack_62 : decode cX7_giveBack 62 = .ok (.invokestatic 156, 3) := by decide +kernel
theorem dX7_giveBack_65 : decode cX7_giveBack 65 = .ok (.ior, 1) := by decide +kernel
theorem dX7_giveBack_66 : decode cX7_giveBack 66 = .ok (.putfield 153, 3) := by decide +kernel
theorem dX7_giveBack_69 : decode cX7_giveBack 69 = .ok (.aload_n 0, 1) := by decide +kernel
theorem dX7_giveBack_70 : decode cX7_giveBack 70 = .ok (.bipush 7, 2) := by decide +kernel
theorem dX7_giveBack_72 : decode cX7_giveBack 72 = .ok (.aload_n 0, 1) := by decide +kernel
theorem dX7_giveBack_73 : decode cX7_giveBack 73 = .ok (.getfield 25, 3) := by decide +kernel
theorem dX7_giveBack_76 : decode cX7_giveBack 76 = .ok (.getfield 172, 3) := by decide +kernel
theorem dX7_giveBack_79 : decode cX7_giveBack 79 = .ok (.invokestatic 175, 3) := by decide +kernel
theorem dX7_giveBack_82 : decode cX7_giveBack 82 = .ok (.invokevirtual 84, 3) := by decide +kernel
theorem dX7_giveBack_85 : decode cX7_giveBack 85 = .ok (.ireturn, 1) := by decide +kernel
set_option maxRecDepth 20000 in
theorem ggX7_drift_X7_doByLots : GoodIn wsX7_drift wsX7_doByLots := goodIn_r _ [8, 9, 10, 11, 7, 12, 13, 14, 15, 16, 17, 18, 19, 20, 21, 22, 23, 24, 25, 26, 27, 28, 29, 30, 31, 32, 33, 34, 35, 36, 37, 38, 39, 40, 41, 42, 43, 44, 45, 46, 47, 48, 49, 50, 51, 52, 53, 54, 55, 56, 57, 58, 59, 60, 61, 62, 63, 64, 65, 66, 67, 68, 69, 70, 71, 72, 73, 74, 75, 76, 77, 78, 79, 80, 81, 82, 83, 84, 85, 86, 87, 88, 89, 90, 91, 92, 93, 94, 95, 96, 97, 98, 99, 100, 101, 102, 103, 2, 104, 105, 106, 107, 108, 109, 110, 111, 112, 113, 114, 115, 116, 117, 118, 119, 120, 121, 122, 123, 124, 125, 126, 127, 128, 129, 130, 131, 132, 133, 134, 135, 136, 137, 138, 139, 140, 141, 142, 143, 144, 145, 146, 147, 148, 149, 150, 151, 152, 153, 154, 155, 156, 157, 163, 164, 165, 166, 167, 168, 169, 170, 171, 172, 173, 174, 175, 176, 177, 178, 158, 159, 160, 161, 162] (by decide +kernel) (by decide +kernel)
set_option maxRecDepth 20000 in
theorem gX7_drift_X7_doByLots : GoodIn wsX7_drift (wsV RX7 180 RX7 yX7_doByLots wsX7_doByLots) := goodIn_app (goodIn_of _ (by decide +kernel)) ggX7_drift_X7_doByLots
theorem dX7_drift_0 : decode cX7_drift 0 = .ok (.iload_n 1, 1) := by decide +kernel
theorem dX7_drift_1 : decode cX7_drift 1 = .ok (.iconst 1, 1) := by decide +kernel
theorem dX7_drift_2 : decode cX7_drift 2 = .ok (.if_icmp .lt 9, 3) := by decide +kernel
theorem dX7_drift_5 : decode cX7_drift 5 = .ok (.iload_n 1, 1) := by decide +kernel
theorem dX7_drift_6 : decode cX7_drift 6 = .ok (.bipush 40, 2) := by decide +kernel
theorem dX7_drift_8 : decode cX7_drift 8 = .ok (.if_icmp .le 6, 3) := by decide +kernel
theorem dX7_drift_11 : decode cX7_drift 11 = .ok (.ldc 65, 2) := by decide +kernel
theorem dX7_drift_13 : decode cX7_drift 13 = .ok (.ireturn, 1) := by decide +kernel
theorem dX7_drift_14 : decode cX7_drift 14 = .ok (.iconst 0, 1) := by decide +kernel
theorem dX7_drift_15 : decode cX7_drift 15 = .ok (.istore_n 2, 1) := by decide +kernel
theorem dX7_drift_16 : decode cX7_drift 16 = .ok (.iload_n 2, 1) := by decide +kernel
theorem dX7_drift_17 : decode cX7_drift 17 = .ok (.iload_n 1, 1) := by decide +kernel
theorem dX7_drift_18 : decode cX7_drift 18 = .ok (.if_icmp .ge 13, 3) := by decide +kernel
theorem dX7_drift_21 : decode cX7_drift 21 = .ok (.aload_n 0, 1) := by decide +kernel
theorem dX7_drift_22 : decode cX7_drift 22 = .ok (.invokevirtual 180, 3) := by decide +kernel
theorem dX7_drift_25 : decode cX7_drift 25 = .ok (.iinc 2 1, 3) := by decide +kernel
theorem dX7_drift_28 : decode cX7_drift 28 = .ok (.goto (-12), 3) := by decide +kernel
theorem dX7_drift_31 : decode cX7_drift 31 = .ok (.aload_n 0, 1) := by decide +kernel
theorem dX7_drift_32 : decode cX7_drift 32 = .ok (.getfield 32, 3) := by decide +kernel
theorem dX7_drift_35 : decode cX7_drift 35 = .ok (.getfield 183, 3) := by decide +kernel
theorem dX7_drift_38 : decode cX7_drift 38 = .ok (.ireturn, 1) := by decide +kernel
theorem dX7_lot_0 : decode cX7_lot 0 = .ok (.iload_n 1, 1) := by decide +kernel
theorem dX7_lot_1 : decode cX7_lot 1 = .ok (.iconst 1, 1) := by decide +kernel
theorem dX7_lot_2 : decode cX7_lot 2 = .ok (.if_icmp .lt 9, 3) := by decide +kernel
theorem dX7_lot_5 : decode cX7_lot 5 = .ok (.iload_n 1, 1) := by decide +kernel
theorem dX7_lot_6 : decode cX7_lot 6 = .ok (.ldc 186, 2) := by decide +kernel
theorem dX7_lot_8 : decode cX7_lot 8 = .ok (.if_icmp .lt 6, 3) := by decide +kernel
theorem dX7_lot_11 : decode cX7_lot 11 = .ok (.ldc 65, 2) := by decide +kernel
theorem dX7_lot_13 : decode cX7_lot 13 = .ok (.ireturn, 1) := by decide +kernel
theorem dX7_lot_14 : decode cX7_lot 14 = .ok (.aload_n 0, 1) := by decide +kernel
theorem dX7_lot_15 : decode cX7_lot 15 = .ok (.getfield 187, 3) := by decide +kernel
theorem dX7_lot_18 : decode cX7_lot 18 = .ok (.istore_n 2, 1) := by decide +kernel
theorem dX7_lot_19 : decode cX7_lot 19 = .ok (.aload_n 0, 1) := by decide +kernel
theorem dX7_lot_20 : decode cX7_lot 20 = .ok (.iload_n 1, 1) := by decide +kernel
theorem dX7_lot_21 : decode cX7_lot 21 = .ok (.putfield 187, 3) := by decide +kernel
theorem dX7_lot_24 : decode cX7_lot 24 = .ok (.iload_n 2, 1) := by decide +kernel
theorem dX7_lot_25 : decode cX7_lot 25 = .ok (.ireturn, 1) := by decide +kernel
set_option maxRecDepth 20000 in
theorem ggX7_undo_X1_takeBackLatest : GoodIn wsX7_undo wsX1_takeBackLatest := goodIn_r _ [10, 11, 12, 13, 14, 27, 28, 29, 30] (by decide +kernel) (by decide +kernel)
set_option maxRecDepth 20000 in
theorem gX7_undo_X1_takeBackLatest : GoodIn wsX7_undo (wsV RX7 191 RX1 yX1_takeBackLatest wsX1_takeBackLatest) := goodIn_app (goodIn_of _ (by decide +kernel)) ggX7_undo_X1_takeBackLatest
theorem dX7_undo_0 : decode cX7_undo 0 = .ok (.aload_n 0, 1) := by decide +kernel
theorem dX7_undo_1 : decode cX7_undo 1 = .ok (.getfield 46, 3) := by decide +kernel
theorem dX7_undo_4 : decode cX7_undo 4 = .ok (.getfield 190, 3) := by decide +kernel
theorem dX7_undo_7 : decode cX7_undo 7 = .ok (.ifCond .ne 6, 3) := by decide +kernel
theorem dX7_undo_10 : decode cX7_undo 10 = .ok (.ldc 141, 2) := by decide +kernel
theorem dX7_undo_12 : decode cX7_undo 12 = .ok (.ireturn, 1) := by decide +kernel
theorem dX7_undo_13 : decode cX7_undo 13 = .ok (.aload_n 0, 1) := by decide +kernel
theorem dX7_undo_14 : decode cX7_undo 14 = .ok (.getfield 46, 3) := by decide +kernel
theorem dX7_undo_17 : decode cX7_undo 17 = .ok (.aload_n 0, 1) := by decide +kernel
theorem dX7_undo_18 : decode cX7_undo 18 = .ok (.getfield 12, 3) := by decide +kernel
theorem dX7_undo_21 : decode cX7_undo 21 = .ok (.getfield 66, 3) := by decide +kernel
theorem dX7_undo_24 : decode cX7_undo 24 = .ok (.invokevirtual 191, 3) := by decide +kernel
theorem dX7_undo_27 : decode cX7_undo 27 = .ok (.aload_n 0, 1) := by decide +kernel
theorem dX7_undo_28 : decode cX7_undo 28 = .ok (.getfield 46, 3) := by decide +kernel
theorem dX7_undo_31 : decode cX7_undo 31 = .ok (.getfield 190, 3) := by decide +kernel
theorem dX7_undo_34 : decode cX7_undo 34 = .ok (.ireturn, 1) := by decide +kernel
set_option maxRecDepth 20000 in
theorem ggX7_told_J6_bitCount_0f7a4 : GoodIn wsX7_told wsJ6_bitCount_0f7a4 := goodIn_r _ [20, 21, 22, 23] (by decide +kernel) (by decide +kernel)
set_option maxRecDepth 20000 in
theorem gX7_told_J6_bitCount_0f7a4 : GoodIn wsX7_told (va_wsS RX7 175 yJ6_bitCount_0f7a4 wsJ6_bitCount_0f7a4) := goodIn_app (goodIn_of _ (by decide +kernel)) ggX7_told_J6_bitCount_0f7a4
set_option maxRecDepth 20000 in
theorem ggX7_told_X4_unknownBits : GoodIn wsX7_told wsX4_unknownBits := goodIn_r _ [28, 29, 30, 31, 32, 33, 34, 18, 19, 20, 21, 22, 23, 57, 58] (by decide +kernel) (by decide +kernel)
set_option maxRecDepth 20000 in
theorem gX7_told_X4_unknownBits : GoodIn wsX7_told (wsV RX7 199 RX4 yX4_unknownBits wsX4_unknownBits) := goodIn_app (goodIn_of _ (by decide +kernel)) ggX7_told_X4_unknownBits
theorem dX7_told_0 : decode cX7_told 0 = .ok (.iload_n 1, 1) := by decide +kernel
theorem dX7_told_1 : decode cX7_told 1 = .ok (.tableswitch 160 0 11 #[63, 68, 76, 84, 89, 97, 105, 116, 124, 135, 147, 152], 63) := by decide +kernel
theorem dX7_told_64 : decode cX7_told 64 = .ok (.aload_n 0, 1) := by decide +kernel
theorem dX7_told_65 : decode cX7_told 65 = .ok (.getfield 53, 3) := by decide +kernel
theorem dX7_told_68 : decode cX7_told 68 = .ok (.ireturn, 1) := by decide +kernel
theorem dX7_told_69 : decode cX7_told 69 = .ok (.aload_n 0, 1) := by decide +kernel
theorem dX7_told_70 : decode cX7_told 70 = .ok (.getfield 32, 3) := by decide +kernel
theorem dX7_told_73 : decode cX7_told 73 = .ok (.getfield 183, 3) := by decide +kernel
theorem dX7_told_76 : decode cX7_told 76 = .ok (.ireturn, 1) := by decide +kernel
theorem dX7_told_77 : decode cX7_told 77 = .ok (.aload_n 0, 1) := by decide +kernel
theorem dX7_told_78 : decode cX7_told 78 = .ok (.getfield 32, 3) := by decide +kernel
theorem dX7_told_81 : decode cX7_told 81 = .ok (.getfield 195, 3) := by decide +kernel
theorem dX7_told_84 : decode cX7_told 84 = .ok (.ireturn, 1) := by decide +kernel
theorem dX7_told_85 : decode cX7_told 85 = .ok (.aload_n 0, 1) := by decide +kernel
theorem dX7_told_86 : decode cX7_told 86 = .ok (.getfield 118, 3) := by decide +kernel
theorem dX7_told_89 : decode cX7_told 89 = .ok (.ireturn, 1) := by decide +kernel
theorem dX7_told_90 : decode cX7_told 90 = .ok (.aload_n 0, 1) := by decide +kernel
theorem dX7_told_91 : decode cX7_told 91 = .ok (.getfield 25, 3) := by decide +kernel
theorem dX7_told_94 : decode cX7_told 94 = .ok (.getfield 142, 3) := by decide +kernel
theorem dX7_told_97 : decode cX7_told 97 = .ok (.ireturn, 1) := by decide +kernel
theorem dX7_told_98 : decode cX7_told 98 = .ok (.aload_n 0, 1) := by decide +kernel
theorem dX7_told_99 : decode cX7_told 99 = .ok (.getfield 25, 3) := by decide +kernel
theorem dX7_told_102 : decode cX7_told 102 = .ok (.getfield 172, 3) := by decide +kernel
theorem dX7_told_105 : decode cX7_told 105 = .ok (.ireturn, 1) := by decide +kernel
theorem dX7_told_106 : decode cX7_told 106 = .ok (.aload_n 0, 1) := by decide +kernel
theorem dX7_told_107 : decode cX7_told 107 = .ok (.getfield 12, 3) := by decide +kernel
theorem dX7_told_110 : decode cX7_told 110 = .ok (.getfield 153, 3) := by decide +kernel
theorem dX7_told_113 : decode cX7_told 113 = .ok (.invokestatic 175, 3) := by decide +kernel
theorem dX7_told_116 : decode cX7_told 116 = .ok (.ireturn, 1) := by decide +kernel
theorem dX7_told_117 : decode cX7_told 117 = .ok (.aload_n 0, 1) := by decide +kernel
theorem dX7_told_118 : decode cX7_told 118 = .ok (.getfield 39, 3) := by decide +kernel
theorem dX7_told_121 : decode cX7_told 121 = .ok (.getfield 198, 3) := by decide +kernel
theorem dX7_told_124 : decode cX7_told 124 = .ok (.ireturn, 1) := by decide +kernel
theorem dX7_told_125 : decode cX7_told 125 = .ok (.aload_n 0, 1) := by decide +kernel
theorem dX7_told_126 : decode cX7_told 126 = .ok (.getfield 12, 3) := by decide +kernel
theorem dX7_told_129 : decode cX7_told 129 = .ok (.iconst 0, 1) := by decide +kernel
theorem dX7_told_130 : decode cX7_told 130 = .ok (.bipush 8, 2) := by decide +kernel
theorem dX7_told_132 : decode cX7_told 132 = .ok (.invokevirtual 199, 3) := by decide +kernel
theorem dX7_told_135 : decode cX7_told 135 = .ok (.ireturn, 1) := by decide +kernel
theorem dX7_told_136 : decode cX7_told 136 = .ok (.aload_n 0, 1) := by decide +kernel
theorem dX7_told_137 : decode cX7_told 137 = .ok (.getfield 12, 3) := by decide +kernel
theorem dX7_told_140 : decode cX7_told 140 = .ok (.bipush 8, 2) := by decide +kernel
theorem dX7_told_142 : decode cX7_told 142 = .ok (.bipush 40, 2) := by decide +kernel
theorem dX7_told_144 : decode cX7_told 144 = .ok (.invokevirtual 199, 3) := by decide +kernel
theorem dX7_told_147 : decode cX7_told 147 = .ok (.ireturn, 1) := by decide +kernel
theorem dX7_told_148 : decode cX7_told 148 = .ok (.aload_n 0, 1) := by decide +kernel
theorem dX7_told_149 : decode cX7_told 149 = .ok (.getfield 187, 3) := by decide +kernel
theorem dX7_told_152 : decode cX7_told 152 = .ok (.ireturn, 1) := by decide +kernel
theorem dX7_told_153 : decode cX7_told 153 = .ok (.aload_n 0, 1) := by decide +kernel
theorem dX7_told_154 : decode cX7_told 154 = .ok (.getfield 46, 3) := by decide +kernel
theorem dX7_told_157 : decode cX7_told 157 = .ok (.getfield 190, 3) := by decide +kernel
theorem dX7_told_160 : decode cX7_told 160 = .ok (.ireturn, 1) := by decide +kernel
theorem dX7_told_161 : decode cX7_told 161 = .ok (.ldc 65, 2) := by decide +kernel
theorem dX7_told_163 : decode cX7_told 163 = .ok (.ireturn, 1) := by decide +kernel
theorem dX7_mark_0 : decode cX7_mark 0 = .ok (.aload_n 0, 1) := by decide +kernel
theorem dX7_mark_1 : decode cX7_mark 1 = .ok (.getfield 202, 3) := by decide +kernel
theorem dX7_mark_4 : decode cX7_mark 4 = .ok (.lreturn, 1) := by decide +kernel
set_option maxRecDepth 20000 in
theorem ggX7_register_X7_isRegister : GoodIn wsX7_register wsX7_isRegister := goodIn_r _ [8] (by decide +kernel) (by decide +kernel)
set_option maxRecDepth 20000 in
theorem gX7_register_X7_isRegister : GoodIn wsX7_register (va_wsS RX7 57 yX7_isRegister wsX7_isRegister) := goodIn_app (goodIn_of _ (by decide +kernel)) ggX7_register_X7_isRegister
set_option maxRecDepth 20000 in
theorem ggX7_register_X0_valueOf : GoodIn wsX7_register wsX0_valueOf := goodIn_r _ [12] (by decide +kernel) (by decide +kernel)
set_option maxRecDepth 20000 in
theorem gX7_register_X0_valueOf : GoodIn wsX7_register (va_wsS RX7 70 yX0_valueOf wsX0_valueOf) := goodIn_app (goodIn_of _ (by decide +kernel)) ggX7_register_X0_valueOf
set_option maxRecDepth 20000 in
theorem ggX7_register_X0_shadowOf : GoodIn wsX7_register wsX0_shadowOf := goodIn_r _ [15] (by decide +kernel) (by decide +kernel)
set_option maxRecDepth 20000 in
theorem gX7_register_X0_shadowOf : GoodIn wsX7_register (va_wsS RX7 91 yX0_shadowOf wsX0_shadowOf) := goodIn_app (goodIn_of _ (by decide +kernel)) ggX7_register_X0_shadowOf
set_option maxRecDepth 20000 in
theorem ggX7_register_X0_fromOf : GoodIn wsX7_register wsX0_fromOf := goodIn_r _ [18] (by decide +kernel) (by decide +kernel)
set_option maxRecDepth 20000 in
theorem gX7_register_X0_fromOf : GoodIn wsX7_register (va_wsS RX7 94 yX0_fromOf wsX0_fromOf) := goodIn_app (goodIn_of _ (by decide +kernel)) ggX7_register_X0_fromOf
set_option maxRecDepth 20000 in
theorem ggX7_register_X0_leastOf : GoodIn wsX7_register wsX0_leastOf := goodIn_r _ [21, 22, 10, 11, 12, 23, 14, 15] (by decide +kernel) (by decide +kernel)
set_option maxRecDepth 20000 in
theorem gX7_register_X0_leastOf : GoodIn wsX7_register (va_wsS RX7 206 yX0_leastOf wsX0_leastOf) := goodIn_app (goodIn_of _ (by decide +kernel)) ggX7_register_X0_leastOf
set_option maxRecDepth 20000 in
theorem ggX7_register_X0_mostOf : GoodIn wsX7_register wsX0_mostOf := goodIn_r _ [26, 22, 10, 11, 12, 23, 14, 15] (by decide +kernel) (by decide +kernel)
set_option maxRecDepth 20000 in
theorem gX7_register_X0_mostOf : GoodIn wsX7_register (va_wsS RX7 209 yX0_mostOf wsX0_mostOf) := goodIn_app (goodIn_of _ (by decide +kernel)) ggX7_register_X0_mostOf
set_option maxRecDepth 20000 in
theorem ggX7_register_J6_bitCount_0f7a4 : GoodIn wsX7_register wsJ6_bitCount_0f7a4 := goodIn_r _ [30, 31, 32, 33] (by decide +kernel) (by decide +kernel)
set_option maxRecDepth 20000 in
theorem gX7_register_J6_bitCount_0f7a4 : GoodIn wsX7_register (va_wsS RX7 175 yJ6_bitCount_0f7a4 wsJ6_bitCount_0f7a4) := goodIn_app (goodIn_of _ (by decide +kernel)) ggX7_register_J6_bitCount_0f7a4
set_option maxRecDepth 20000 in
theorem ggX7_register_X0_isDecided : GoodIn wsX7_register wsX0_isDecided := goodIn_r _ [36, 37, 20, 11, 21, 22, 10, 12, 23, 14, 15] (by decide +kernel) (by decide +kernel)
set_option maxRecDepth 20000 in
theorem gX7_register_X0_isDecided : GoodIn wsX7_register (va_wsS RX7 130 yX0_isDecided wsX0_isDecided) := goodIn_app (goodIn_of _ (by decide +kernel)) ggX7_register_X0_isDecided
theorem dX7_register_0 : decode cX7_register 0 = .ok (.iload_n 1, 1) := by decide +kernel
theorem dX7_register_1 : decode cX7_register 1 = .ok (.invokestatic 57, 3) := by decide +kernel
theorem dX7_register_4 : decode cX7_register 4 = .ok (.ifCond .ne 6, 3) := by decide +kernel
theorem dX7_register_7 : decode cX7_register 7 = .ok (.ldc 61, 2) := by decide +kernel
theorem dX7_register_9 : decode cX7_register 9 = .ok (.ireturn, 1) := by decide +kernel
theorem dX7_register_10 : decode cX7_register 10 = .ok (.aload_n 0, 1) := by decide +kernel
theorem dX7_register_11 : decode cX7_register 11 = .ok (.getfield 12, 3) := by decide +kernel
theorem dX7_register_14 : decode cX7_register 14 = .ok (.getfield 66, 3) := by decide +kernel
theorem dX7_register_17 : decode cX7_register 17 = .ok (.iload_n 1, 1) := by decide +kernel
theorem dX7_register_18 : decode cX7_register 18 = .ok (.iaload, 1) := by decide +kernel
theorem dX7_register_19 : decode cX7_register 19 = .ok (.istore_n 3, 1) := by decide +kernel
theorem dX7_register_20 : decode cX7_register 20 = .ok (.iload_n 2, 1) := by decide +kernel
theorem dX7_register_21 : decode cX7_register 21 = .ok (.tableswitch 91 0 6 #[43, 48, 53, 58, 63, 68, 78], 43) := by decide +kernel
theorem dX7_register_64 : decode cX7_register 64 = .ok (.iload_n 3, 1) := by decide +kernel
theorem dX7_register_65 : decode cX7_register 65 = .ok (.invokestatic 70, 3) := by decide +kernel
theorem dX7_register_68 : decode cX7_register 68 = .ok (.ireturn, 1) := by decide +kernel
theorem dX7_register_69 : decode cX7_register 69 = .ok (.iload_n 3, 1) := by decide +kernel
theorem dX7_register_70 : decode cX7_register 70 = .ok (.invokestatic 91, 3) := by decide +kernel
theorem dX7_register_73 : decode cX7_register 73 = .ok (.ireturn, 1) := by decide +kernel
theorem dX7_register_74 : decode cX7_register 74 = .ok (.iload_n 3, 1) := by decide +kernel
theorem dX7_register_75 : decode cX7_register 75 = .ok (.invokestatic 94, 3) := by decide +kernel
theorem dX7_register_78 : decode cX7_register 78 = .ok (.ireturn, 1) := by decide +kernel
theorem dX7_register_79 : decode cX7_register 79 = .ok (.iload_n 3, 1) := by decide +kernel
theorem dX7_register_80 : decode cX7_register 80 = .ok (.invokestatic 206, 3) := by decide +kernel
theorem dX7_register_83 : decode cX7_register 83 = .ok (.ireturn, 1) := by decide +kernel
theorem dX7_register_84 : decode cX7_register 84 = .ok (.iload_n 3, 1) := by decide +kernel
theorem dX7_register_85 : decode cX7_register 85 = .ok (.invokestatic 209, 3) := by decide +kernel
theorem dX7_register_88 : decode cX7_register 88 = .ok (.ireturn, 1) := by decide +kernel
theorem dX7_register_89 : decode cX7_register 89 = .ok (.iconst 1, 1) := by decide +kernel
theorem dX7_register_90 : decode cX7_register 90 = .ok (.iload_n 3, 1) := by decide +kernel
theorem dX7_register_91 : decode cX7_register 91 = .ok (.invokestatic 91, 3) := by decide +kernel
theorem dX7_register_94 : decode cX7_register 94 = .ok (.invokestatic 175, 3) := by decide +kernel
theorem dX7_register_97 : decode cX7_register 97 = .ok (.ishl, 1) := by decide +kernel
theorem dX7_register_98 : decode cX7_register 98 = .ok (.ireturn, 1) := by decide +kernel
theorem dX7_register_99 : decode cX7_register 99 = .ok (.iload_n 3, 1) := by decide +kernel
theorem dX7_register_100 : decode cX7_register 100 = .ok (.invokestatic 130, 3) := by decide +kernel
theorem dX7_register_103 : decode cX7_register 103 = .ok (.ifCond .eq 7, 3) := by decide +kernel
theorem dX7_register_106 : decode cX7_register 106 = .ok (.iconst 1, 1) := by decide +kernel
theorem dX7_register_107 : decode cX7_register 107 = .ok (.goto 4, 3) := by decide +kernel
theorem dX7_register_110 : decode cX7_register 110 = .ok (.iconst 0, 1) := by decide +kernel
theorem dX7_register_111 : decode cX7_register 111 = .ok (.ireturn, 1) := by decide +kernel
theorem dX7_register_112 : decode cX7_register 112 = .ok (.ldc 65, 2) := by decide +kernel
theorem dX7_register_114 : decode cX7_register 114 = .ok (.ireturn, 1) := by decide +kernel
set_option maxRecDepth 20000 in
theorem ggX7_octet_X7_isOctet : GoodIn wsX7_octet wsX7_isOctet := goodIn_r _ [10] (by decide +kernel) (by decide +kernel)
set_option maxRecDepth 20000 in
theorem gX7_octet_X7_isOctet : GoodIn wsX7_octet (va_wsS RX7 100 yX7_isOctet wsX7_isOctet) := goodIn_app (goodIn_of _ (by decide +kernel)) ggX7_octet_X7_isOctet
set_option maxRecDepth 20000 in
theorem ggX7_octet_X0_valueOf : GoodIn wsX7_octet wsX0_valueOf := goodIn_r _ [14] (by decide +kernel) (by decide +kernel)
set_option maxRecDepth 20000 in
theorem gX7_octet_X0_valueOf : GoodIn wsX7_octet (va_wsS RX7 70 yX0_valueOf wsX0_valueOf) := goodIn_app (goodIn_of _ (by decide +kernel)) ggX7_octet_X0_valueOf
set_option maxRecDepth 20000 in
theorem ggX7_octet_X0_shadowOf : GoodIn wsX7_octet wsX0_shadowOf := goodIn_r _ [17] (by decide +kernel) (by decide +kernel)
set_option maxRecDepth 20000 in
theorem gX7_octet_X0_shadowOf : GoodIn wsX7_octet (va_wsS RX7 91 yX0_shadowOf wsX0_shadowOf) := goodIn_app (goodIn_of _ (by decide +kernel)) ggX7_octet_X0_shadowOf
set_option maxRecDepth 20000 in
theorem ggX7_octet_X0_fromOf : GoodIn wsX7_octet wsX0_fromOf := goodIn_r _ [20] (by decide +kernel) (by decide +kernel)
set_option maxRecDepth 20000 in
theorem gX7_octet_X0_fromOf : GoodIn wsX7_octet (va_wsS RX7 94 yX0_fromOf wsX0_fromOf) := goodIn_app (goodIn_of _ (by decide +kernel)) ggX7_octet_X0_fromOf
set_option maxRecDepth 20000 in
theorem ggX7_octet_X4_isDead : GoodIn wsX7_octet wsX4_isDead := goodIn_r _ [25, 26, 39, 40] (by decide +kernel) (by decide +kernel)
set_option maxRecDepth 20000 in
theorem gX7_octet_X4_isDead : GoodIn wsX7_octet (wsV RX7 212 RX4 yX4_isDead wsX4_isDead) := goodIn_app (goodIn_of _ (by decide +kernel)) ggX7_octet_X4_isDead
theorem dX7_octet_0 : decode cX7_octet 0 = .ok (.iload_n 1, 1) := by decide +kernel
theorem dX7_octet_1 : decode cX7_octet 1 = .ok (.invokestatic 100, 3) := by decide +kernel
theorem dX7_octet_4 : decode cX7_octet 4 = .ok (.ifCond .ne 6, 3) := by decide +kernel
theorem dX7_octet_7 : decode cX7_octet 7 = .ok (.ldc 61, 2) := by decide +kernel
theorem dX7_octet_9 : decode cX7_octet 9 = .ok (.ireturn, 1) := by decide +kernel
theorem dX7_octet_10 : decode cX7_octet 10 = .ok (.aload_n 0, 1) := by decide +kernel
theorem dX7_octet_11 : decode cX7_octet 11 = .ok (.getfield 12, 3) := by decide +kernel
theorem dX7_octet_14 : decode cX7_octet 14 = .ok (.getfield 66, 3) := by decide +kernel
theorem dX7_octet_17 : decode cX7_octet 17 = .ok (.bipush 8, 2) := by decide +kernel
theorem dX7_octet_19 : decode cX7_octet 19 = .ok (.iload_n 1, 1) := by decide +kernel
theorem dX7_octet_20 : decode cX7_octet 20 = .ok (.iadd, 1) := by decide +kernel
theorem dX7_octet_21 : decode cX7_octet 21 = .ok (.iaload, 1) := by decide +kernel
theorem dX7_octet_22 : decode cX7_octet 22 = .ok (.istore_n 3, 1) := by decide +kernel
theorem dX7_octet_23 : decode cX7_octet 23 = .ok (.iload_n 2, 1) := by decide +kernel
theorem dX7_octet_24 : decode cX7_octet 24 = .ok (.tableswitch 78 0 4 #[36, 41, 46, 51, 68], 36) := by decide +kernel
theorem dX7_octet_60 : decode cX7_octet 60 = .ok (.iload_n 3, 1) := by decide +kernel
theorem dX7_octet_61 : decode cX7_octet 61 = .ok (.invokestatic 70, 3) := by decide +kernel
theorem dX7_octet_64 : decode cX7_octet 64 = .ok (.ireturn, 1) := by decide +kernel
theorem dX7_octet_65 : decode cX7_octet 65 = .ok (.iload_n 3, 1) := by decide +kernel
theorem dX7_octet_66 : decode cX7_octet 66 = .ok (.invokestatic 91, 3) := by decide +kernel
theorem dX7_octet_69 : decode cX7_octet 69 = .ok (.ireturn, 1) := by decide +kernel
theorem dX7_octet_70 : decode cX7_octet 70 = .ok (.iload_n 3, 1) := by decide +kernel
theorem dX7_octet_71 : decode cX7_octet 71 = .ok (.invokestatic 94, 3) := by decide +kernel
theorem dX7_octet_74 : decode cX7_octet 74 = .ok (.ireturn, 1) := by decide +kernel
theorem dX7_octet_75 : decode cX7_octet 75 = .ok (.aload_n 0, 1) := by decide +kernel
theorem dX7_octet_76 : decode cX7_octet 76 = .ok (.getfield 12, 3) := by decide +kernel
theorem dX7_octet_79 : decode cX7_octet 79 = .ok (.iload_n 1, 1) := by decide +kernel
theorem dX7_octet_80 : decode cX7_octet 80 = .ok (.invokevirtual 212, 3) := by decide +kernel
theorem dX7_octet_83 : decode cX7_octet 83 = .ok (.ifCond .eq 7, 3) := by decide +kernel
theorem dX7_octet_86 : decode cX7_octet 86 = .ok (.iconst 1, 1) := by decide +kernel
theorem dX7_octet_87 : decode cX7_octet 87 = .ok (.goto 4, 3) := by decide +kernel
theorem dX7_octet_90 : decode cX7_octet 90 = .ok (.iconst 0, 1) := by decide +kernel
theorem dX7_octet_91 : decode cX7_octet 91 = .ok (.ireturn, 1) := by decide +kernel
theorem dX7_octet_92 : decode cX7_octet 92 = .ok (.aload_n 0, 1) := by decide +kernel
theorem dX7_octet_93 : decode cX7_octet 93 = .ok (.getfield 25, 3) := by decide +kernel
theorem dX7_octet_96 : decode cX7_octet 96 = .ok (.getfield 215, 3) := by decide +kernel
theorem dX7_octet_99 : decode cX7_octet 99 = .ok (.iload_n 1, 1) := by decide +kernel
theorem dX7_octet_100 : decode cX7_octet 100 = .ok (.iaload, 1) := by decide +kernel
theorem dX7_octet_101 : decode cX7_octet 101 = .ok (.ireturn, 1) := by decide +kernel
theorem dX7_octet_102 : decode cX7_octet 102 = .ok (.ldc 65, 2) := by decide +kernel
theorem dX7_octet_104 : decode cX7_octet 104 = .ok (.ireturn, 1) := by decide +kernel
set_option maxRecDepth 20000 in
theorem ggX7_ground_X3_has : GoodIn wsX7_ground wsX3_has := goodIn_r _ [11, 12, 37, 38, 39, 40, 41] (by decide +kernel) (by decide +kernel)
set_option maxRecDepth 20000 in
theorem gX7_ground_X3_has : GoodIn wsX7_ground (wsV RX7 88 RX3 yX3_has wsX3_has) := goodIn_app (goodIn_of _ (by decide +kernel)) ggX7_ground_X3_has
set_option maxRecDepth 20000 in
theorem ggX7_ground_X3_isLet : GoodIn wsX7_ground wsX3_isLet := goodIn_r _ [16, 17, 37, 38, 39, 40, 41] (by decide +kernel) (by decide +kernel)
set_option maxRecDepth 20000 in
theorem gX7_ground_X3_isLet : GoodIn wsX7_ground (wsV RX7 159 RX3 yX3_isLet wsX3_isLet) := goodIn_app (goodIn_of _ (by decide +kernel)) ggX7_ground_X3_isLet
set_option maxRecDepth 20000 in
theorem ggX7_ground_X2_countNaming : GoodIn wsX7_ground wsX2_countNaming := goodIn_r _ [22, 23, 24, 42, 43, 44, 45, 46] (by decide +kernel) (by decide +kernel)
set_option maxRecDepth 20000 in
theorem gX7_ground_X2_countNaming : GoodIn wsX7_ground (wsV RX7 218 RX2 yX2_countNaming wsX2_countNaming) := goodIn_app (goodIn_of _ (by decide +kernel)) ggX7_ground_X2_countNaming
theorem dX7_ground_0 : decode cX7_ground 0 = .ok (.aload_n 0, 1) := by decide +kernel
theorem dX7_ground_1 : decode cX7_ground 1 = .ok (.getfield 25, 3) := by decide +kernel
theorem dX7_ground_4 : decode cX7_ground 4 = .ok (.iload_n 1, 1) := by decide +kernel
theorem dX7_ground_5 : decode cX7_ground 5 = .ok (.invokevirtual 88, 3) := by decide +kernel
theorem dX7_ground_8 : decode cX7_ground 8 = .ok (.ifCond .ne 6, 3) := by decide +kernel
theorem dX7_ground_11 : decode cX7_ground 11 = .ok (.ldc 61, 2) := by decide +kernel
theorem dX7_ground_13 : decode cX7_ground 13 = .ok (.ireturn, 1) := by decide +kernel
theorem dX7_ground_14 : decode cX7_ground 14 = .ok (.iload_n 2, 1) := by decide +kernel
theorem dX7_ground_15 : decode cX7_ground 15 = .ok (.tableswitch 75 0 3 #[29, 39, 49, 66], 29) := by decide +kernel
theorem dX7_ground_44 : decode cX7_ground 44 = .ok (.aload_n 0, 1) := by decide +kernel
theorem dX7_ground_45 : decode cX7_ground 45 = .ok (.getfield 25, 3) := by decide +kernel
theorem dX7_ground_48 : decode cX7_ground 48 = .ok (.getfield 166, 3) := by decide +kernel
theorem dX7_ground_51 : decode cX7_ground 51 = .ok (.iload_n 1, 1) := by decide +kernel
theorem dX7_ground_52 : decode cX7_ground 52 = .ok (.iaload, 1) := by decide +kernel
theorem dX7_ground_53 : decode cX7_ground 53 = .ok (.ireturn, 1) := by decide +kernel
theorem dX7_ground_54 : decode cX7_ground 54 = .ok (.aload_n 0, 1) := by decide +kernel
theorem dX7_ground_55 : decode cX7_ground 55 = .ok (.getfield 25, 3) := by decide +kernel
theorem dX7_ground_58 : decode cX7_ground 58 = .ok (.getfield 169, 3) := by decide +kernel
theorem dX7_ground_61 : decode cX7_ground 61 = .ok (.iload_n 1, 1) := by decide +kernel
theorem dX7_ground_62 : decode cX7_ground 62 = .ok (.iaload, 1) := by decide +kernel
theorem dX7_ground_63 : decode cX7_ground 63 = .ok (.ireturn, 1) := by decide +kernel
theorem dX7_ground_64 : decode cX7_ground 64 = .ok (.aload_n 0, 1) := by decide +kernel
theorem dX7_ground_65 : decode cX7_ground 65 = .ok (.getfield 25, 3) := by decide +kernel
theorem dX7_ground_68 : decode cX7_ground 68 = .ok (.iload_n 1, 1) := by decide +kernel
theorem dX7_ground_69 : decode cX7_ground 69 = .ok (.invokevirtual 159, 3) := by decide +kernel
theorem dX7_ground_72 : decode cX7_ground 72 = .ok (.ifCond .eq 7, 3) := by decide +kernel
theorem dX7_ground_75 : decode cX7_ground 75 = .ok (.iconst 1, 1) := by decide +kernel
theorem dX7_ground_76 : decode cX7_ground 76 = .ok (.goto 4, 3) := by decide +kernel
theorem dX7_ground_79 : decode cX7_ground 79 = .ok (.iconst 0, 1) := by decide +kernel
theorem dX7_ground_80 : decode cX7_ground 80 = .ok (.ireturn, 1) := by decide +kernel
theorem dX7_ground_81 : decode cX7_ground 81 = .ok (.aload_n 0, 1) := by decide +kernel
theorem dX7_ground_82 : decode cX7_ground 82 = .ok (.getfield 32, 3) := by decide +kernel
theorem dX7_ground_85 : decode cX7_ground 85 = .ok (.iload_n 1, 1) := by decide +kernel
theorem dX7_ground_86 : decode cX7_ground 86 = .ok (.invokevirtual 218, 3) := by decide +kernel
theorem dX7_ground_89 : decode cX7_ground 89 = .ok (.ireturn, 1) := by decide +kernel
theorem dX7_ground_90 : decode cX7_ground 90 = .ok (.ldc 65, 2) := by decide +kernel
theorem dX7_ground_92 : decode cX7_ground 92 = .ok (.ireturn, 1) := by decide +kernel
theorem dX7_cry_0 : decode cX7_cry 0 = .ok (.iload_n 1, 1) := by decide +kernel
theorem dX7_cry_1 : decode cX7_cry 1 = .ok (.ifCond .lt 14, 3) := by decide +kernel
theorem dX7_cry_4 : decode cX7_cry 4 = .ok (.iload_n 1, 1) := by decide +kernel
theorem dX7_cry_5 : decode cX7_cry 5 = .ok (.aload_n 0, 1) := by decide +kernel
theorem dX7_cry_6 : decode cX7_cry 6 = .ok (.getfield 32, 3) := by decide +kernel
theorem dX7_cry_9 : decode cX7_cry 9 = .ok (.getfield 195, 3) := by decide +kernel
theorem dX7_cry_12 : decode cX7_cry 12 = .ok (.if_icmp .lt 6, 3) := by decide +kernel
theorem dX7_cry_15 : decode cX7_cry 15 = .ok (.ldc 61, 2) := by decide +kernel
theorem dX7_cry_17 : decode cX7_cry 17 = .ok (.ireturn, 1) := by decide +kernel
theorem dX7_cry_18 : decode cX7_cry 18 = .ok (.iload_n 2, 1) := by decide +kernel
theorem dX7_cry_19 : decode cX7_cry 19 = .ok (.tableswitch 55 0 2 #[25, 35, 45], 25) := by decide +kernel
theorem dX7_cry_44 : decode cX7_cry 44 = .ok (.aload_n 0, 1) := by decide +kernel
theorem dX7_cry_45 : decode cX7_cry 45 = .ok (.getfield 32, 3) := by decide +kernel
theorem dX7_cry_48 : decode cX7_cry 48 = .ok (.getfield 221, 3) := by decide +kernel
theorem dX7_cry_51 : decode cX7_cry 51 = .ok (.iload_n 1, 1) := by decide +kernel
theorem dX7_cry_52 : decode cX7_cry 52 = .ok (.iaload, 1) := by decide +kernel
theorem dX7_cry_53 : decode cX7_cry 53 = .ok (.ireturn, 1) := by decide +kernel
theorem dX7_cry_54 : decode cX7_cry 54 = .ok (.aload_n 0, 1) := by decide +kernel
theorem dX7_cry_55 : decode cX7_cry 55 = .ok (.getfield 32, 3) := by decide +kernel
theorem dX7_cry_58 : decode cX7_cry 58 = .ok (.getfield 224, 3) := by decide +kernel
theorem dX7_cry_61 : decode cX7_cry 61 = .ok (.iload_n 1, 1) := by decide +kernel
theorem dX7_cry_62 : decode cX7_cry 62 = .ok (.iaload, 1) := by decide +kernel
theorem dX7_cry_63 : decode cX7_cry 63 = .ok (.ireturn, 1) := by decide +kernel
theorem dX7_cry_64 : decode cX7_cry 64 = .ok (.aload_n 0, 1) := by decide +kernel
theorem dX7_cry_65 : decode cX7_cry 65 = .ok (.getfield 32, 3) := by decide +kernel
theorem dX7_cry_68 : decode cX7_cry 68 = .ok (.getfield 226, 3) := by decide +kernel
theorem dX7_cry_71 : decode cX7_cry 71 = .ok (.iload_n 1, 1) := by decide +kernel
theorem dX7_cry_72 : decode cX7_cry 72 = .ok (.iaload, 1) := by decide +kernel
theorem dX7_cry_73 : decode cX7_cry 73 = .ok (.ireturn, 1) := by decide +kernel
theorem dX7_cry_74 : decode cX7_cry 74 = .ok (.ldc 65, 2) := by decide +kernel
theorem dX7_cry_76 : decode cX7_cry 76 = .ok (.ireturn, 1) := by decide +kernel
set_option maxRecDepth 20000 in
theorem ggX7_ring_X5_placeOf : GoodIn wsX7_ring wsX5_placeOf := goodIn_r _ [11, 12, 25, 26, 27, 28, 29] (by decide +kernel) (by decide +kernel)
set_option maxRecDepth 20000 in
theorem gX7_ring_X5_placeOf : GoodIn wsX7_ring (wsV RX7 229 RX5 yX5_placeOf wsX5_placeOf) := goodIn_app (goodIn_of _ (by decide +kernel)) ggX7_ring_X5_placeOf
theorem dX7_ring_0 : decode cX7_ring 0 = .ok (.iload_n 2, 1) := by decide +kernel
theorem dX7_ring_1 : decode cX7_ring 1 = .ok (.ifCond .lt 8, 3) := by decide +kernel
theorem dX7_ring_4 : decode cX7_ring 4 = .ok (.iload_n 2, 1) := by decide +kernel
theorem dX7_ring_5 : decode cX7_ring 5 = .ok (.iconst 2, 1) := by decide +kernel
theorem dX7_ring_6 : decode cX7_ring 6 = .ok (.if_icmp .le 6, 3) := by decide +kernel
theorem dX7_ring_9 : decode cX7_ring 9 = .ok (.ldc 65, 2) := by decide +kernel
theorem dX7_ring_11 : decode cX7_ring 11 = .ok (.ireturn, 1) := by decide +kernel
theorem dX7_ring_12 : decode cX7_ring 12 = .ok (.iload_n 1, 1) := by decide +kernel
theorem dX7_ring_13 : decode cX7_ring 13 = .ok (.ifCond .lt 14, 3) := by decide +kernel
theorem dX7_ring_16 : decode cX7_ring 16 = .ok (.iload_n 1, 1) := by decide +kernel
theorem dX7_ring_17 : decode cX7_ring 17 = .ok (.aload_n 0, 1) := by decide +kernel
theorem dX7_ring_18 : decode cX7_ring 18 = .ok (.getfield 39, 3) := by decide +kernel
theorem dX7_ring_21 : decode cX7_ring 21 = .ok (.getfield 198, 3) := by decide +kernel
theorem dX7_ring_24 : decode cX7_ring 24 = .ok (.if_icmp .lt 5, 3) := by decide +kernel
theorem dX7_ring_27 : decode cX7_ring 27 = .ok (.iconst (-1), 1) := by decide +kernel
theorem dX7_ring_28 : decode cX7_ring 28 = .ok (.ireturn, 1) := by decide +kernel
theorem dX7_ring_29 : decode cX7_ring 29 = .ok (.aload_n 0, 1) := by decide +kernel
theorem dX7_ring_30 : decode cX7_ring 30 = .ok (.getfield 39, 3) := by decide +kernel
theorem dX7_ring_33 : decode cX7_ring 33 = .ok (.iload_n 1, 1) := by decide +kernel
theorem dX7_ring_34 : decode cX7_ring 34 = .ok (.invokevirtual 229, 3) := by decide +kernel
theorem dX7_ring_37 : decode cX7_ring 37 = .ok (.istore_n 3, 1) := by decide +kernel
theorem dX7_ring_38 : decode cX7_ring 38 = .ok (.iload_n 2, 1) := by decide +kernel
theorem dX7_ring_39 : decode cX7_ring 39 = .ok (.lookupswitch 45 #[(0, 25), (1, 35)], 25) := by decide +kernel
theorem dX7_ring_64 : decode cX7_ring 64 = .ok (.aload_n 0, 1) := by decide +kernel
theorem dX7_ring_65 : decode cX7_ring 65 = .ok (.getfield 39, 3) := by decide +kernel
theorem dX7_ring_68 : decode cX7_ring 68 = .ok (.getfield 232, 3) := by decide +kernel
theorem dX7_ring_71 : decode cX7_ring 71 = .ok (.iload_n 3, 1) := by decide +kernel
theorem dX7_ring_72 : decode cX7_ring 72 = .ok (.iaload, 1) := by decide +kernel
theorem dX7_ring_73 : decode cX7_ring 73 = .ok (.ireturn, 1) := by decide +kernel
theorem dX7_ring_74 : decode cX7_ring 74 = .ok (.aload_n 0, 1) := by decide +kernel
theorem dX7_ring_75 : decode cX7_ring 75 = .ok (.getfield 39, 3) := by decide +kernel
theorem dX7_ring_78 : decode cX7_ring 78 = .ok (.getfield 233, 3) := by decide +kernel
theorem dX7_ring_81 : decode cX7_ring 81 = .ok (.iload_n 3, 1) := by decide +kernel
theorem dX7_ring_82 : decode cX7_ring 82 = .ok (.iaload, 1) := by decide +kernel
theorem dX7_ring_83 : decode cX7_ring 83 = .ok (.ireturn, 1) := by decide +kernel
theorem dX7_ring_84 : decode cX7_ring 84 = .ok (.aload_n 0, 1) := by decide +kernel
theorem dX7_ring_85 : decode cX7_ring 85 = .ok (.getfield 39, 3) := by decide +kernel
theorem dX7_ring_88 : decode cX7_ring 88 = .ok (.getfield 234, 3) := by decide +kernel
theorem dX7_ring_91 : decode cX7_ring 91 = .ok (.iload_n 3, 1) := by decide +kernel
end
section
theorem dX7_ring_92 : decode cX7_ring 92 = .ok (.iaload, 1) := by decide +kernel
theorem dX7_ring_93 : decode cX7_ring 93 = .ok (.ireturn, 1) := by decide +kernel
set_option maxRecDepth 20000 in
theorem ggX7_shadow_X7_isSort : GoodIn wsX7_shadow wsX7_isSort := goodIn_r _ [5] (by decide +kernel) (by decide +kernel)
set_option maxRecDepth 20000 in
theorem gX7_shadow_X7_isSort : GoodIn wsX7_shadow (va_wsS RX7 115 yX7_isSort wsX7_isSort) := goodIn_app (goodIn_of _ (by decide +kernel)) ggX7_shadow_X7_isSort
set_option maxRecDepth 20000 in
theorem ggX7_shadow_X7_isByte : GoodIn wsX7_shadow wsX7_isByte := goodIn_r _ [8] (by decide +kernel) (by decide +kernel)
set_option maxRecDepth 20000 in
theorem gX7_shadow_X7_isByte : GoodIn wsX7_shadow (va_wsS RX7 62 yX7_isByte wsX7_isByte) := goodIn_app (goodIn_of _ (by decide +kernel)) ggX7_shadow_X7_isByte
set_option maxRecDepth 20000 in
theorem ggX7_shadow_X6_shadowBy : GoodIn wsX7_shadow wsX6_shadowBy := goodIn_r _ [12, 13, 14, 11, 15] (by decide +kernel) (by decide +kernel)
set_option maxRecDepth 20000 in
theorem gX7_shadow_X6_shadowBy : GoodIn wsX7_shadow (va_wsS RX7 237 yX6_shadowBy wsX6_shadowBy) := goodIn_app (goodIn_of _ (by decide +kernel)) ggX7_shadow_X6_shadowBy
theorem dX7_shadow_0 : decode cX7_shadow 0 = .ok (.iload_n 1, 1) := by decide +kernel
theorem dX7_shadow_1 : decode cX7_shadow 1 = .ok (.invokestatic 115, 3) := by decide +kernel
theorem dX7_shadow_4 : decode cX7_shadow 4 = .ok (.ifCond .eq 33, 3) := by decide +kernel
theorem dX7_shadow_7 : decode cX7_shadow 7 = .ok (.iload_n 2, 1) := by decide +kernel
theorem dX7_shadow_8 : decode cX7_shadow 8 = .ok (.invokestatic 62, 3) := by decide +kernel
theorem dX7_shadow_11 : decode cX7_shadow 11 = .ok (.ifCond .eq 26, 3) := by decide +kernel
theorem dX7_shadow_14 : decode cX7_shadow 14 = .ok (.iload_n 3, 1) := by decide +kernel
theorem dX7_shadow_15 : decode cX7_shadow 15 = .ok (.invokestatic 62, 3) := by decide +kernel
theorem dX7_shadow_18 : decode cX7_shadow 18 = .ok (.ifCond .eq 19, 3) := by decide +kernel
theorem dX7_shadow_21 : decode cX7_shadow 21 = .ok (.iload 4, 2) := by decide +kernel
theorem dX7_shadow_23 : decode cX7_shadow 23 = .ok (.invokestatic 62, 3) := by decide +kernel
theorem dX7_shadow_26 : decode cX7_shadow 26 = .ok (.ifCond .eq 11, 3) := by decide +kernel
theorem dX7_shadow_29 : decode cX7_shadow 29 = .ok (.iload 5, 2) := by decide +kernel
theorem dX7_shadow_31 : decode cX7_shadow 31 = .ok (.invokestatic 62, 3) := by decide +kernel
theorem dX7_shadow_34 : decode cX7_shadow 34 = .ok (.ifCond .ne 6, 3) := by decide +kernel
theorem dX7_shadow_37 : decode cX7_shadow 37 = .ok (.ldc 65, 2) := by decide +kernel
theorem dX7_shadow_39 : decode cX7_shadow 39 = .ok (.ireturn, 1) := by decide +kernel
theorem dX7_shadow_40 : decode cX7_shadow 40 = .ok (.iload_n 1, 1) := by decide +kernel
theorem dX7_shadow_41 : decode cX7_shadow 41 = .ok (.iload_n 2, 1) := by decide +kernel
theorem dX7_shadow_42 : decode cX7_shadow 42 = .ok (.iload_n 3, 1) := by decide +kernel
theorem dX7_shadow_43 : decode cX7_shadow 43 = .ok (.iload 4, 2) := by decide +kernel
theorem dX7_shadow_45 : decode cX7_shadow 45 = .ok (.iload 5, 2) := by decide +kernel
theorem dX7_shadow_47 : decode cX7_shadow 47 = .ok (.invokestatic 237, 3) := by decide +kernel
theorem dX7_shadow_50 : decode cX7_shadow 50 = .ok (.ireturn, 1) := by decide +kernel
set_option maxRecDepth 20000 in
theorem ggX7_exact_X7_isSort : GoodIn wsX7_exact wsX7_isSort := goodIn_r _ [5] (by decide +kernel) (by decide +kernel)
set_option maxRecDepth 20000 in
theorem gX7_exact_X7_isSort : GoodIn wsX7_exact (va_wsS RX7 115 yX7_isSort wsX7_isSort) := goodIn_app (goodIn_of _ (by decide +kernel)) ggX7_exact_X7_isSort
set_option maxRecDepth 20000 in
theorem ggX7_exact_X7_isByte : GoodIn wsX7_exact wsX7_isByte := goodIn_r _ [8] (by decide +kernel) (by decide +kernel)
set_option maxRecDepth 20000 in
theorem gX7_exact_X7_isByte : GoodIn wsX7_exact (va_wsS RX7 62 yX7_isByte wsX7_isByte) := goodIn_app (goodIn_of _ (by decide +kernel)) ggX7_exact_X7_isByte
set_option maxRecDepth 20000 in
theorem ggX7_exact_X6_exactBy : GoodIn wsX7_exact wsX6_exactBy := goodIn_r _ [12, 13, 14, 11, 15, 16, 17, 18, 19, 20, 21] (by decide +kernel) (by decide +kernel)
set_option maxRecDepth 20000 in
theorem gX7_exact_X6_exactBy : GoodIn wsX7_exact (va_wsS RX7 241 yX6_exactBy wsX6_exactBy) := goodIn_app (goodIn_of _ (by decide +kernel)) ggX7_exact_X6_exactBy
theorem dX7_exact_0 : decode cX7_exact 0 = .ok (.iload_n 1, 1) := by decide +kernel
theorem dX7_exact_1 : decode cX7_exact 1 = .ok (.invokestatic 115, 3) := by decide +kernel
theorem dX7_exact_4 : decode cX7_exact 4 = .ok (.ifCond .eq 33, 3) := by decide +kernel
theorem dX7_exact_7 : decode cX7_exact 7 = .ok (.iload_n 2, 1) := by decide +kernel
theorem dX7_exact_8 : decode cX7_exact 8 = .ok (.invokestatic 62, 3) := by decide +kernel
theorem dX7_exact_11 : decode cX7_exact 11 = .ok (.ifCond .eq 26, 3) := by decide +kernel
theorem dX7_exact_14 : decode cX7_exact 14 = .ok (.iload_n 3, 1) := by decide +kernel
theorem dX7_exact_15 : decode cX7_exact 15 = .ok (.invokestatic 62, 3) := by decide +kernel
theorem dX7_exact_18 : decode cX7_exact 18 = .ok (.ifCond .eq 19, 3) := by decide +kernel
theorem dX7_exact_21 : decode cX7_exact 21 = .ok (.iload 4, 2) := by decide +kernel
theorem dX7_exact_23 : decode cX7_exact 23 = .ok (.invokestatic 62, 3) := by decide +kernel
theorem dX7_exact_26 : decode cX7_exact 26 = .ok (.ifCond .eq 11, 3) := by decide +kernel
theorem dX7_exact_29 : decode cX7_exact 29 = .ok (.iload 5, 2) := by decide +kernel
theorem dX7_exact_31 : decode cX7_exact 31 = .ok (.invokestatic 62, 3) := by decide +kernel
theorem dX7_exact_34 : decode cX7_exact 34 = .ok (.ifCond .ne 6, 3) := by decide +kernel
theorem dX7_exact_37 : decode cX7_exact 37 = .ok (.ldc 65, 2) := by decide +kernel
theorem dX7_exact_39 : decode cX7_exact 39 = .ok (.ireturn, 1) := by decide +kernel
theorem dX7_exact_40 : decode cX7_exact 40 = .ok (.iload_n 1, 1) := by decide +kernel
theorem dX7_exact_41 : decode cX7_exact 41 = .ok (.iload_n 2, 1) := by decide +kernel
theorem dX7_exact_42 : decode cX7_exact 42 = .ok (.iload_n 3, 1) := by decide +kernel
theorem dX7_exact_43 : decode cX7_exact 43 = .ok (.iload 4, 2) := by decide +kernel
theorem dX7_exact_45 : decode cX7_exact 45 = .ok (.iload 5, 2) := by decide +kernel
theorem dX7_exact_47 : decode cX7_exact 47 = .ok (.invokestatic 241, 3) := by decide +kernel
theorem dX7_exact_50 : decode cX7_exact 50 = .ok (.ireturn, 1) := by decide +kernel
set_option maxRecDepth 20000 in
theorem ggX7_keep_X7_isImage : GoodIn wsX7_keep wsX7_isImage := goodIn_r _ [8] (by decide +kernel) (by decide +kernel)
set_option maxRecDepth 20000 in
theorem gX7_keep_X7_isImage : GoodIn wsX7_keep (va_wsS RX7 244 yX7_isImage wsX7_isImage) := goodIn_app (goodIn_of _ (by decide +kernel)) ggX7_keep_X7_isImage
set_option maxRecDepth 20000 in
theorem ggX7_keep_X7_imageOf : GoodIn wsX7_keep wsX7_imageOf := goodIn_r _ [12, 13, 14, 33, 34, 35, 36, 37, 38, 39, 40, 41, 42, 43, 44] (by decide +kernel) (by decide +kernel)
set_option maxRecDepth 20000 in
theorem gX7_keep_X7_imageOf : GoodIn wsX7_keep (wsV RX7 247 RX7 yX7_imageOf wsX7_imageOf) := goodIn_app (goodIn_of _ (by decide +kernel)) ggX7_keep_X7_imageOf
set_option maxRecDepth 20000 in
theorem ggX7_keep_X4_becomeAs : GoodIn wsX7_keep wsX4_becomeAs := goodIn_r _ [19, 20, 21, 22, 23, 24, 25, 45, 46] (by decide +kernel) (by decide +kernel)
set_option maxRecDepth 20000 in
theorem gX7_keep_X4_becomeAs : GoodIn wsX7_keep (wsV RX7 251 RX4 yX4_becomeAs wsX4_becomeAs) := goodIn_app (goodIn_of _ (by decide +kernel)) ggX7_keep_X4_becomeAs
set_option maxRecDepth 20000 in
theorem ggX7_keep_X1_clear : GoodIn wsX7_keep wsX1_clear := goodIn_r _ [30, 31, 32, 47, 48, 49, 50] (by decide +kernel) (by decide +kernel)
set_option maxRecDepth 20000 in
theorem gX7_keep_X1_clear : GoodIn wsX7_keep (wsV RX7 258 RX1 yX1_clear wsX1_clear) := goodIn_app (goodIn_of _ (by decide +kernel)) ggX7_keep_X1_clear
theorem dX7_keep_0 : decode cX7_keep 0 = .ok (.iload_n 1, 1) := by decide +kernel
theorem dX7_keep_1 : decode cX7_keep 1 = .ok (.invokestatic 244, 3) := by decide +kernel
theorem dX7_keep_4 : decode cX7_keep 4 = .ok (.ifCond .ne 6, 3) := by decide +kernel
theorem dX7_keep_7 : decode cX7_keep 7 = .ok (.ldc 61, 2) := by decide +kernel
theorem dX7_keep_9 : decode cX7_keep 9 = .ok (.ireturn, 1) := by decide +kernel
theorem dX7_keep_10 : decode cX7_keep 10 = .ok (.aload_n 0, 1) := by decide +kernel
theorem dX7_keep_11 : decode cX7_keep 11 = .ok (.iload_n 1, 1) := by decide +kernel
theorem dX7_keep_12 : decode cX7_keep 12 = .ok (.invokevirtual 247, 3) := by decide +kernel
theorem dX7_keep_15 : decode cX7_keep 15 = .ok (.aload_n 0, 1) := by decide +kernel
theorem dX7_keep_16 : decode cX7_keep 16 = .ok (.getfield 12, 3) := by decide +kernel
theorem dX7_keep_19 : decode cX7_keep 19 = .ok (.invokevirtual 251, 3) := by decide +kernel
theorem dX7_keep_22 : decode cX7_keep 22 = .ok (.aload_n 0, 1) := by decide +kernel
theorem dX7_keep_23 : decode cX7_keep 23 = .ok (.dup, 1) := by decide +kernel
theorem dX7_keep_24 : decode cX7_keep 24 = .ok (.getfield 255, 3) := by decide +kernel
theorem dX7_keep_27 : decode cX7_keep 27 = .ok (.iconst 1, 1) := by decide +kernel
theorem dX7_keep_28 : decode cX7_keep 28 = .ok (.iload_n 1, 1) := by decide +kernel
theorem dX7_keep_29 : decode cX7_keep 29 = .ok (.ishl, 1) := by decide +kernel
theorem dX7_keep_30 : decode cX7_keep 30 = .ok (.ior, 1) := by decide +kernel
theorem dX7_keep_31 : decode cX7_keep 31 = .ok (.putfield 255, 3) := by decide +kernel
theorem dX7_keep_34 : decode cX7_keep 34 = .ok (.aload_n 0, 1) := by decide +kernel
theorem dX7_keep_35 : decode cX7_keep 35 = .ok (.getfield 46, 3) := by decide +kernel
theorem dX7_keep_38 : decode cX7_keep 38 = .ok (.invokevirtual 258, 3) := by decide +kernel
theorem dX7_keep_41 : decode cX7_keep 41 = .ok (.iconst 1, 1) := by decide +kernel
theorem dX7_keep_42 : decode cX7_keep 42 = .ok (.ireturn, 1) := by decide +kernel
set_option maxRecDepth 20000 in
theorem ggX7_goBack_X7_isImage : GoodIn wsX7_goBack wsX7_isImage := goodIn_r _ [9] (by decide +kernel) (by decide +kernel)
set_option maxRecDepth 20000 in
theorem gX7_goBack_X7_isImage : GoodIn wsX7_goBack (va_wsS RX7 244 yX7_isImage wsX7_isImage) := goodIn_app (goodIn_of _ (by decide +kernel)) ggX7_goBack_X7_isImage
set_option maxRecDepth 20000 in
theorem ggX7_goBack_X7_imageOf : GoodIn wsX7_goBack wsX7_imageOf := goodIn_r _ [13, 14, 15, 34, 35, 36, 37, 38, 39, 40, 41, 42, 43, 44, 45] (by decide +kernel) (by decide +kernel)
set_option maxRecDepth 20000 in
theorem gX7_goBack_X7_imageOf : GoodIn wsX7_goBack (wsV RX7 247 RX7 yX7_imageOf wsX7_imageOf) := goodIn_app (goodIn_of _ (by decide +kernel)) ggX7_goBack_X7_imageOf
set_option maxRecDepth 20000 in
theorem ggX7_goBack_X4_becomeAs : GoodIn wsX7_goBack wsX4_becomeAs := goodIn_r _ [20, 21, 22, 23, 24, 25, 26, 46, 47] (by decide +kernel) (by decide +kernel)
set_option maxRecDepth 20000 in
theorem gX7_goBack_X4_becomeAs : GoodIn wsX7_goBack (wsV RX7 251 RX4 yX4_becomeAs wsX4_becomeAs) := goodIn_app (goodIn_of _ (by decide +kernel)) ggX7_goBack_X4_becomeAs
set_option maxRecDepth 20000 in
theorem ggX7_goBack_X1_clear : GoodIn wsX7_goBack wsX1_clear := goodIn_r _ [31, 32, 33, 48, 49, 50, 51] (by decide +kernel) (by decide +kernel)
set_option maxRecDepth 20000 in
theorem gX7_goBack_X1_clear : GoodIn wsX7_goBack (wsV RX7 258 RX1 yX1_clear wsX1_clear) := goodIn_app (goodIn_of _ (by decide +kernel)) ggX7_goBack_X1_clear
theorem dX7_goBack_0 : decode cX7_goBack 0 = .ok (.iload_n 1, 1) := by decide +kernel
theorem dX7_goBack_1 : decode cX7_goBack 1 = .ok (.invokestatic 244, 3) := by decide +kernel
theorem dX7_goBack_4 : decode cX7_goBack 4 = .ok (.ifCond .ne 6, 3) := by decide +kernel
theorem dX7_goBack_7 : decode cX7_goBack 7 = .ok (.ldc 61, 2) := by decide +kernel
theorem dX7_goBack_9 : decode cX7_goBack 9 = .ok (.ireturn, 1) := by decide +kernel
theorem dX7_goBack_10 : decode cX7_goBack 10 = .ok (.aload_n 0, 1) := by decide +kernel
theorem dX7_goBack_11 : decode cX7_goBack 11 = .ok (.getfield 255, 3) := by decide +kernel
theorem dX7_goBack_14 : decode cX7_goBack 14 = .ok (.iload_n 1, 1) := by decide +kernel
theorem dX7_goBack_15 : decode cX7_goBack 15 = .ok (.ishr, 1) := by decide +kernel
theorem dX7_goBack_16 : decode cX7_goBack 16 = .ok (.iconst 1, 1) := by decide +kernel
theorem dX7_goBack_17 : decode cX7_goBack 17 = .ok (.iand, 1) := by decide +kernel
theorem dX7_goBack_18 : decode cX7_goBack 18 = .ok (.ifCond .ne 6, 3) := by decide +kernel
theorem dX7_goBack_21 : decode cX7_goBack 21 = .ok (.ldc 141, 2) := by decide +kernel
theorem dX7_goBack_23 : decode cX7_goBack 23 = .ok (.ireturn, 1) := by decide +kernel
theorem dX7_goBack_24 : decode cX7_goBack 24 = .ok (.aload_n 0, 1) := by decide +kernel
theorem dX7_goBack_25 : decode cX7_goBack 25 = .ok (.getfield 12, 3) := by decide +kernel
theorem dX7_goBack_28 : decode cX7_goBack 28 = .ok (.aload_n 0, 1) := by decide +kernel
theorem dX7_goBack_29 : decode cX7_goBack 29 = .ok (.iload_n 1, 1) := by decide +kernel
theorem dX7_goBack_30 : decode cX7_goBack 30 = .ok (.invokevirtual 247, 3) := by decide +kernel
theorem dX7_goBack_33 : decode cX7_goBack 33 = .ok (.invokevirtual 251, 3) := by decide +kernel
theorem dX7_goBack_36 : decode cX7_goBack 36 = .ok (.aload_n 0, 1) := by decide +kernel
theorem dX7_goBack_37 : decode cX7_goBack 37 = .ok (.getfield 46, 3) := by decide +kernel
theorem dX7_goBack_40 : decode cX7_goBack 40 = .ok (.invokevirtual 258, 3) := by decide +kernel
theorem dX7_goBack_43 : decode cX7_goBack 43 = .ok (.iconst 1, 1) := by decide +kernel
theorem dX7_goBack_44 : decode cX7_goBack 44 = .ok (.ireturn, 1) := by decide +kernel
set_option maxRecDepth 20000 in
theorem ggX7_begin_X4_clear : GoodIn wsX7_begin wsX4_clear := goodIn_r _ [15, 16, 17, 59, 60] (by decide +kernel) (by decide +kernel)
set_option maxRecDepth 20000 in
theorem gX7_begin_X4_clear : GoodIn wsX7_begin (wsV RX7 261 RX4 yX4_clear wsX4_clear) := goodIn_app (goodIn_of _ (by decide +kernel)) ggX7_begin_X4_clear
set_option maxRecDepth 20000 in
theorem ggX7_begin_X3_clear : GoodIn wsX7_begin wsX3_clear := goodIn_r _ [22, 23, 24, 25, 61, 62, 63, 64, 65] (by decide +kernel) (by decide +kernel)
set_option maxRecDepth 20000 in
theorem gX7_begin_X3_clear : GoodIn wsX7_begin (wsV RX7 262 RX3 yX3_clear wsX3_clear) := goodIn_app (goodIn_of _ (by decide +kernel)) ggX7_begin_X3_clear
set_option maxRecDepth 20000 in
theorem ggX7_begin_X2_clear : GoodIn wsX7_begin wsX2_clear := goodIn_r _ [30, 31, 32, 66, 67, 68, 69, 70] (by decide +kernel) (by decide +kernel)
set_option maxRecDepth 20000 in
theorem gX7_begin_X2_clear : GoodIn wsX7_begin (wsV RX7 263 RX2 yX2_clear wsX2_clear) := goodIn_app (goodIn_of _ (by decide +kernel)) ggX7_begin_X2_clear
set_option maxRecDepth 20000 in
theorem ggX7_begin_X5_clear : GoodIn wsX7_begin wsX5_clear := goodIn_r _ [37, 38, 39, 71, 72, 73, 74, 75] (by decide +kernel) (by decide +kernel)
set_option maxRecDepth 20000 in
theorem gX7_begin_X5_clear : GoodIn wsX7_begin (wsV RX7 264 RX5 yX5_clear wsX5_clear) := goodIn_app (goodIn_of _ (by decide +kernel)) ggX7_begin_X5_clear
set_option maxRecDepth 20000 in
theorem ggX7_begin_X1_clear : GoodIn wsX7_begin wsX1_clear := goodIn_r _ [44, 45, 46, 76, 77, 78, 79] (by decide +kernel) (by decide +kernel)
set_option maxRecDepth 20000 in
theorem gX7_begin_X1_clear : GoodIn wsX7_begin (wsV RX7 258 RX1 yX1_clear wsX1_clear) := goodIn_app (goodIn_of _ (by decide +kernel)) ggX7_begin_X1_clear
theorem dX7_begin_0 : decode cX7_begin 0 = .ok (.aload_n 0, 1) := by decide +kernel
theorem dX7_begin_1 : decode cX7_begin 1 = .ok (.getfield 12, 3) := by decide +kernel
theorem dX7_begin_4 : decode cX7_begin 4 = .ok (.invokevirtual 261, 3) := by decide +kernel
theorem dX7_begin_7 : decode cX7_begin 7 = .ok (.aload_n 0, 1) := by decide +kernel
theorem dX7_begin_8 : decode cX7_begin 8 = .ok (.getfield 25, 3) := by decide +kernel
theorem dX7_begin_11 : decode cX7_begin 11 = .ok (.invokevirtual 262, 3) := by decide +kernel
theorem dX7_begin_14 : decode cX7_begin 14 = .ok (.aload_n 0, 1) := by decide +kernel
theorem dX7_begin_15 : decode cX7_begin 15 = .ok (.getfield 32, 3) := by decide +kernel
theorem dX7_begin_18 : decode cX7_begin 18 = .ok (.invokevirtual 263, 3) := by decide +kernel
theorem dX7_begin_21 : decode cX7_begin 21 = .ok (.aload_n 0, 1) := by decide +kernel
theorem dX7_begin_22 : decode cX7_begin 22 = .ok (.getfield 39, 3) := by decide +kernel
theorem dX7_begin_25 : decode cX7_begin 25 = .ok (.invokevirtual 264, 3) := by decide +kernel
theorem dX7_begin_28 : decode cX7_begin 28 = .ok (.aload_n 0, 1) := by decide +kernel
theorem dX7_begin_29 : decode cX7_begin 29 = .ok (.getfield 46, 3) := by decide +kernel
theorem dX7_begin_32 : decode cX7_begin 32 = .ok (.invokevirtual 258, 3) := by decide +kernel
theorem dX7_begin_35 : decode cX7_begin 35 = .ok (.aload_n 0, 1) := by decide +kernel
theorem dX7_begin_36 : decode cX7_begin 36 = .ok (.iconst 0, 1) := by decide +kernel
theorem dX7_begin_37 : decode cX7_begin 37 = .ok (.putfield 255, 3) := by decide +kernel
theorem dX7_begin_40 : decode cX7_begin 40 = .ok (.aload_n 0, 1) := by decide +kernel
theorem dX7_begin_41 : decode cX7_begin 41 = .ok (.iconst 1, 1) := by decide +kernel
theorem dX7_begin_42 : decode cX7_begin 42 = .ok (.putfield 187, 3) := by decide +kernel
theorem dX7_begin_45 : decode cX7_begin 45 = .ok (.aload_n 0, 1) := by decide +kernel
theorem dX7_begin_46 : decode cX7_begin 46 = .ok (.iconst 0, 1) := by decide +kernel
theorem dX7_begin_47 : decode cX7_begin 47 = .ok (.putfield 53, 3) := by decide +kernel
theorem dX7_begin_50 : decode cX7_begin 50 = .ok (.aload_n 0, 1) := by decide +kernel
theorem dX7_begin_51 : decode cX7_begin 51 = .ok (.iconst 0, 1) := by decide +kernel
theorem dX7_begin_52 : decode cX7_begin 52 = .ok (.putfield 118, 3) := by decide +kernel
theorem dX7_begin_55 : decode cX7_begin 55 = .ok (.aload_n 0, 1) := by decide +kernel
theorem dX7_begin_56 : decode cX7_begin 56 = .ok (.lconst 0, 1) := by decide +kernel
theorem dX7_begin_57 : decode cX7_begin 57 = .ok (.putfield 202, 3) := by decide +kernel
theorem dX7_begin_60 : decode cX7_begin 60 = .ok (.return_, 1) := by decide +kernel
theorem dX7_isRegister_0 : decode cX7_isRegister 0 = .ok (.iload_n 0, 1) := by decide +kernel
theorem dX7_isRegister_1 : decode cX7_isRegister 1 = .ok (.ifCond .lt 13, 3) := by decide +kernel
theorem dX7_isRegister_4 : decode cX7_isRegister 4 = .ok (.iload_n 0, 1) := by decide +kernel
theorem dX7_isRegister_5 : decode cX7_isRegister 5 = .ok (.bipush 8, 2) := by decide +kernel
theorem dX7_isRegister_7 : decode cX7_isRegister 7 = .ok (.if_icmp .ge 7, 3) := by decide +kernel
theorem dX7_isRegister_10 : decode cX7_isRegister 10 = .ok (.iconst 1, 1) := by decide +kernel
theorem dX7_isRegister_11 : decode cX7_isRegister 11 = .ok (.goto 4, 3) := by decide +kernel
theorem dX7_isRegister_14 : decode cX7_isRegister 14 = .ok (.iconst 0, 1) := by decide +kernel
theorem dX7_isRegister_15 : decode cX7_isRegister 15 = .ok (.ireturn, 1) := by decide +kernel
theorem dX7_isOctet_0 : decode cX7_isOctet 0 = .ok (.iload_n 0, 1) := by decide +kernel
theorem dX7_isOctet_1 : decode cX7_isOctet 1 = .ok (.ifCond .lt 13, 3) := by decide +kernel
theorem dX7_isOctet_4 : decode cX7_isOctet 4 = .ok (.iload_n 0, 1) := by decide +kernel
theorem dX7_isOctet_5 : decode cX7_isOctet 5 = .ok (.bipush 32, 2) := by decide +kernel
theorem dX7_isOctet_7 : decode cX7_isOctet 7 = .ok (.if_icmp .ge 7, 3) := by decide +kernel
theorem dX7_isOctet_10 : decode cX7_isOctet 10 = .ok (.iconst 1, 1) := by decide +kernel
theorem dX7_isOctet_11 : decode cX7_isOctet 11 = .ok (.goto 4, 3) := by decide +kernel
theorem dX7_isOctet_14 : decode cX7_isOctet 14 = .ok (.iconst 0, 1) := by decide +kernel
theorem dX7_isOctet_15 : decode cX7_isOctet 15 = .ok (.ireturn, 1) := by decide +kernel
theorem dX7_isImage_0 : decode cX7_isImage 0 = .ok (.iload_n 0, 1) := by decide +kernel
theorem dX7_isImage_1 : decode cX7_isImage 1 = .ok (.ifCond .lt 12, 3) := by decide +kernel
theorem dX7_isImage_4 : decode cX7_isImage 4 = .ok (.iload_n 0, 1) := by decide +kernel
theorem dX7_isImage_5 : decode cX7_isImage 5 = .ok (.iconst 2, 1) := by decide +kernel
theorem dX7_isImage_6 : decode cX7_isImage 6 = .ok (.if_icmp .ge 7, 3) := by decide +kernel
theorem dX7_isImage_9 : decode cX7_isImage 9 = .ok (.iconst 1, 1) := by decide +kernel
theorem dX7_isImage_10 : decode cX7_isImage 10 = .ok (.goto 4, 3) := by decide +kernel
theorem dX7_isImage_13 : decode cX7_isImage 13 = .ok (.iconst 0, 1) := by decide +kernel
theorem dX7_isImage_14 : decode cX7_isImage 14 = .ok (.ireturn, 1) := by decide +kernel
theorem dX7_imageOf_0 : decode cX7_imageOf 0 = .ok (.iload_n 1, 1) := by decide +kernel
theorem dX7_imageOf_1 : decode cX7_imageOf 1 = .ok (.ifCond .ne 10, 3) := by decide +kernel
theorem dX7_imageOf_4 : decode cX7_imageOf 4 = .ok (.aload_n 0, 1) := by decide +kernel
theorem dX7_imageOf_5 : decode cX7_imageOf 5 = .ok (.getfield 16, 3) := by decide +kernel
theorem dX7_imageOf_8 : decode cX7_imageOf 8 = .ok (.goto 7, 3) := by decide +kernel
theorem dX7_imageOf_11 : decode cX7_imageOf 11 = .ok (.aload_n 0, 1) := by decide +kernel
theorem dX7_imageOf_12 : decode cX7_imageOf 12 = .ok (.getfield 19, 3) := by decide +kernel
theorem dX7_imageOf_15 : decode cX7_imageOf 15 = .ok (.areturn, 1) := by decide +kernel
theorem dX7_isByte_0 : decode cX7_isByte 0 = .ok (.iload_n 0, 1) := by decide +kernel
theorem dX7_isByte_1 : decode cX7_isByte 1 = .ok (.ifCond .lt 14, 3) := by decide +kernel
theorem dX7_isByte_4 : decode cX7_isByte 4 = .ok (.iload_n 0, 1) := by decide +kernel
theorem dX7_isByte_5 : decode cX7_isByte 5 = .ok (.sipush 255, 3) := by decide +kernel
theorem dX7_isByte_8 : decode cX7_isByte 8 = .ok (.if_icmp .gt 7, 3) := by decide +kernel
theorem dX7_isByte_11 : decode cX7_isByte 11 = .ok (.iconst 1, 1) := by decide +kernel
theorem dX7_isByte_12 : decode cX7_isByte 12 = .ok (.goto 4, 3) := by decide +kernel
theorem dX7_isByte_15 : decode cX7_isByte 15 = .ok (.iconst 0, 1) := by decide +kernel
theorem dX7_isByte_16 : decode cX7_isByte 16 = .ok (.ireturn, 1) := by decide +kernel
theorem dX7_isSort_0 : decode cX7_isSort 0 = .ok (.iload_n 0, 1) := by decide +kernel
theorem dX7_isSort_1 : decode cX7_isSort 1 = .ok (.ifCond .lt 13, 3) := by decide +kernel
theorem dX7_isSort_4 : decode cX7_isSort 4 = .ok (.iload_n 0, 1) := by decide +kernel
theorem dX7_isSort_5 : decode cX7_isSort 5 = .ok (.bipush 7, 2) := by decide +kernel
theorem dX7_isSort_7 : decode cX7_isSort 7 = .ok (.if_icmp .ge 7, 3) := by decide +kernel
theorem dX7_isSort_10 : decode cX7_isSort 10 = .ok (.iconst 1, 1) := by decide +kernel
theorem dX7_isSort_11 : decode cX7_isSort 11 = .ok (.goto 4, 3) := by decide +kernel
theorem dX7_isSort_14 : decode cX7_isSort 14 = .ok (.iconst 0, 1) := by decide +kernel
theorem dX7_isSort_15 : decode cX7_isSort 15 = .ok (.ireturn, 1) := by decide +kernel
theorem dX7_octetSet_0 : decode cX7_octetSet 0 = .ok (.iconst 1, 1) := by decide +kernel
theorem dX7_octetSet_1 : decode cX7_octetSet 1 = .ok (.iload_n 1, 1) := by decide +kernel
theorem dX7_octetSet_2 : decode cX7_octetSet 2 = .ok (.ishl, 1) := by decide +kernel
theorem dX7_octetSet_3 : decode cX7_octetSet 3 = .ok (.iconst 1, 1) := by decide +kernel
theorem dX7_octetSet_4 : decode cX7_octetSet 4 = .ok (.isub, 1) := by decide +kernel
theorem dX7_octetSet_5 : decode cX7_octetSet 5 = .ok (.iload_n 0, 1) := by decide +kernel
theorem dX7_octetSet_6 : decode cX7_octetSet 6 = .ok (.ishl, 1) := by decide +kernel
theorem dX7_octetSet_7 : decode cX7_octetSet 7 = .ok (.ireturn, 1) := by decide +kernel
set_option maxRecDepth 20000 in
theorem ggX7_tick_X5_add : GoodIn wsX7_tick wsX5_add := goodIn_r _ [9, 10, 11, 12, 13, 14, 15, 16, 17, 18, 31, 32, 33, 34, 35] (by decide +kernel) (by decide +kernel)
set_option maxRecDepth 20000 in
theorem gX7_tick_X5_add : GoodIn wsX7_tick (wsV RX7 265 RX5 yX5_add wsX5_add) := goodIn_app (goodIn_of _ (by decide +kernel)) ggX7_tick_X5_add
theorem dX7_tick_0 : decode cX7_tick 0 = .ok (.aload_n 0, 1) := by decide +kernel
theorem dX7_tick_1 : decode cX7_tick 1 = .ok (.getfield 39, 3) := by decide +kernel
theorem dX7_tick_4 : decode cX7_tick 4 = .ok (.iload_n 1, 1) := by decide +kernel
theorem dX7_tick_5 : decode cX7_tick 5 = .ok (.aload_n 0, 1) := by decide +kernel
theorem dX7_tick_6 : decode cX7_tick 6 = .ok (.getfield 53, 3) := by decide +kernel
theorem dX7_tick_9 : decode cX7_tick 9 = .ok (.iload_n 2, 1) := by decide +kernel
theorem dX7_tick_10 : decode cX7_tick 10 = .ok (.invokevirtual 265, 3) := by decide +kernel
theorem dX7_tick_13 : decode cX7_tick 13 = .ok (.aload_n 0, 1) := by decide +kernel
theorem dX7_tick_14 : decode cX7_tick 14 = .ok (.ldc2_w 266, 3) := by decide +kernel
theorem dX7_tick_17 : decode cX7_tick 17 = .ok (.aload_n 0, 1) := by decide +kernel
theorem dX7_tick_18 : decode cX7_tick 18 = .ok (.getfield 202, 3) := by decide +kernel
theorem dX7_tick_21 : decode cX7_tick 21 = .ok (.lmul, 1) := by decide +kernel
theorem dX7_tick_22 : decode cX7_tick 22 = .ok (.iload_n 2, 1) := by decide +kernel
theorem dX7_tick_23 : decode cX7_tick 23 = .ok (.i2l, 1) := by decide +kernel
theorem dX7_tick_24 : decode cX7_tick 24 = .ok (.ladd, 1) := by decide +kernel
theorem dX7_tick_25 : decode cX7_tick 25 = .ok (.putfield 202, 3) := by decide +kernel
theorem dX7_tick_28 : decode cX7_tick 28 = .ok (.aload_n 0, 1) := by decide +kernel
theorem dX7_tick_29 : decode cX7_tick 29 = .ok (.dup, 1) := by decide +kernel
theorem dX7_tick_30 : decode cX7_tick 30 = .ok (.getfield 53, 3) := by decide +kernel
theorem dX7_tick_33 : decode cX7_tick 33 = .ok (.iconst 1, 1) := by decide +kernel
theorem dX7_tick_34 : decode cX7_tick 34 = .ok (.iadd, 1) := by decide +kernel
theorem dX7_tick_35 : decode cX7_tick 35 = .ok (.putfield 53, 3) := by decide +kernel
theorem dX7_tick_38 : decode cX7_tick 38 = .ok (.iload_n 2, 1) := by decide +kernel
theorem dX7_tick_39 : decode cX7_tick 39 = .ok (.ireturn, 1) := by decide +kernel
set_option maxRecDepth 20000 in
theorem ggX7_shadowOfRegister_X0_shadowOf : GoodIn wsX7_shadowOfRegister wsX0_shadowOf := goodIn_r _ [6] (by decide +kernel) (by decide +kernel)
set_option maxRecDepth 20000 in
theorem gX7_shadowOfRegister_X0_shadowOf : GoodIn wsX7_shadowOfRegister (va_wsS RX7 91 yX0_shadowOf wsX0_shadowOf) := goodIn_app (goodIn_of _ (by decide +kernel)) ggX7_shadowOfRegister_X0_shadowOf
theorem dX7_shadowOfRegister_0 : decode cX7_shadowOfRegister 0 = .ok (.aload_n 0, 1) := by decide +kernel
theorem dX7_shadowOfRegister_1 : decode cX7_shadowOfRegister 1 = .ok (.getfield 12, 3) := by decide +kernel
theorem dX7_shadowOfRegister_4 : decode cX7_shadowOfRegister 4 = .ok (.getfield 66, 3) := by decide +kernel
theorem dX7_shadowOfRegister_7 : decode cX7_shadowOfRegister 7 = .ok (.iload_n 1, 1) := by decide +kernel
theorem dX7_shadowOfRegister_8 : decode cX7_shadowOfRegister 8 = .ok (.iaload, 1) := by decide +kernel
theorem dX7_shadowOfRegister_9 : decode cX7_shadowOfRegister 9 = .ok (.invokestatic 91, 3) := by decide +kernel
theorem dX7_shadowOfRegister_12 : decode cX7_shadowOfRegister 12 = .ok (.ireturn, 1) := by decide +kernel
set_option maxRecDepth 20000 in
theorem ggX7_changeRegister_X1_add : GoodIn wsX7_changeRegister wsX1_add := goodIn_r _ [8, 9, 10, 11, 12, 13, 14, 15, 16, 31, 32, 33, 34] (by decide +kernel) (by decide +kernel)
set_option maxRecDepth 20000 in
theorem gX7_changeRegister_X1_add : GoodIn wsX7_changeRegister (wsV RX7 268 RX1 yX1_add wsX1_add) := goodIn_app (goodIn_of _ (by decide +kernel)) ggX7_changeRegister_X1_add
theorem dX7_changeRegister_0 : decode cX7_changeRegister 0 = .ok (.aload_n 0, 1) := by decide +kernel
theorem dX7_changeRegister_1 : decode cX7_changeRegister 1 = .ok (.getfield 46, 3) := by decide +kernel
theorem dX7_changeRegister_4 : decode cX7_changeRegister 4 = .ok (.iload_n 1, 1) := by decide +kernel
theorem dX7_changeRegister_5 : decode cX7_changeRegister 5 = .ok (.aload_n 0, 1) := by decide +kernel
theorem dX7_changeRegister_6 : decode cX7_changeRegister 6 = .ok (.getfield 12, 3) := by decide +kernel
theorem dX7_changeRegister_9 : decode cX7_changeRegister 9 = .ok (.getfield 66, 3) := by decide +kernel
theorem dX7_changeRegister_12 : decode cX7_changeRegister 12 = .ok (.iload_n 1, 1) := by decide +kernel
theorem dX7_changeRegister_13 : decode cX7_changeRegister 13 = .ok (.iaload, 1) := by decide +kernel
theorem dX7_changeRegister_14 : decode cX7_changeRegister 14 = .ok (.invokevirtual 268, 3) := by decide +kernel
theorem dX7_changeRegister_17 : decode cX7_changeRegister 17 = .ok (.aload_n 0, 1) := by decide +kernel
theorem dX7_changeRegister_18 : decode cX7_changeRegister 18 = .ok (.getfield 12, 3) := by decide +kernel
theorem dX7_changeRegister_21 : decode cX7_changeRegister 21 = .ok (.getfield 66, 3) := by decide +kernel
theorem dX7_changeRegister_24 : decode cX7_changeRegister 24 = .ok (.iload_n 1, 1) := by decide +kernel
theorem dX7_changeRegister_25 : decode cX7_changeRegister 25 = .ok (.iload_n 2, 1) := by decide +kernel
theorem dX7_changeRegister_26 : decode cX7_changeRegister 26 = .ok (.iastore, 1) := by decide +kernel
theorem dX7_changeRegister_27 : decode cX7_changeRegister 27 = .ok (.return_, 1) := by decide +kernel
set_option maxRecDepth 20000 in
theorem ggX7_changeOctet_X1_add : GoodIn wsX7_changeOctet wsX1_add := goodIn_r _ [9, 10, 11, 12, 13, 14, 15, 16, 17, 36, 37, 38, 39] (by decide +kernel) (by decide +kernel)
set_option maxRecDepth 20000 in
theorem gX7_changeOctet_X1_add : GoodIn wsX7_changeOctet (wsV RX7 268 RX1 yX1_add wsX1_add) := goodIn_app (goodIn_of _ (by decide +kernel)) ggX7_changeOctet_X1_add
set_option maxRecDepth 20000 in
theorem ggX7_changeOctet_X7_octetSet : GoodIn wsX7_changeOctet wsX7_octetSet := goodIn_r _ [21] (by decide +kernel) (by decide +kernel)
set_option maxRecDepth 20000 in
theorem gX7_changeOctet_X7_octetSet : GoodIn wsX7_changeOctet (va_wsS RX7 156 yX7_octetSet wsX7_octetSet) := goodIn_app (goodIn_of _ (by decide +kernel)) ggX7_changeOctet_X7_octetSet
theorem dX7_changeOctet_0 : decode cX7_changeOctet 0 = .ok (.aload_n 0, 1) := by decide +kernel
theorem dX7_changeOctet_1 : decode cX7_changeOctet 1 = .ok (.getfield 46, 3) := by decide +kernel
theorem dX7_changeOctet_4 : decode cX7_changeOctet 4 = .ok (.bipush 8, 2) := by decide +kernel
theorem dX7_changeOctet_6 : decode cX7_changeOctet 6 = .ok (.iload_n 1, 1) := by decide +kernel
theorem dX7_changeOctet_7 : decode cX7_changeOctet 7 = .ok (.iadd, 1) := by decide +kernel
theorem dX7_changeOctet_8 : decode cX7_changeOctet 8 = .ok (.aload_n 0, 1) := by decide +kernel
theorem dX7_changeOctet_9 : decode cX7_changeOctet 9 = .ok (.getfield 12, 3) := by decide +kernel
theorem dX7_changeOctet_12 : decode cX7_changeOctet 12 = .ok (.getfield 66, 3) := by decide +kernel
theorem dX7_changeOctet_15 : decode cX7_changeOctet 15 = .ok (.bipush 8, 2) := by decide +kernel
theorem dX7_changeOctet_17 : decode cX7_changeOctet 17 = .ok (.iload_n 1, 1) := by decide +kernel
theorem dX7_changeOctet_18 : decode cX7_changeOctet 18 = .ok (.iadd, 1) := by decide +kernel
theorem dX7_changeOctet_19 : decode cX7_changeOctet 19 = .ok (.iaload, 1) := by decide +kernel
theorem dX7_changeOctet_20 : decode cX7_changeOctet 20 = .ok (.invokevirtual 268, 3) := by decide +kernel
theorem dX7_changeOctet_23 : decode cX7_changeOctet 23 = .ok (.aload_n 0, 1) := by decide +kernel
theorem dX7_changeOctet_24 : decode cX7_changeOctet 24 = .ok (.getfield 12, 3) := by decide +kernel
theorem dX7_changeOctet_27 : decode cX7_changeOctet 27 = .ok (.getfield 66, 3) := by decide +kernel
theorem dX7_changeOctet_30 : decode cX7_changeOctet 30 = .ok (.bipush 8, 2) := by decide +kernel
theorem dX7_changeOctet_32 : decode cX7_changeOctet 32 = .ok (.iload_n 1, 1) := by decide +kernel
theorem dX7_changeOctet_33 : decode cX7_changeOctet 33 = .ok (.iadd, 1) := by decide +kernel
theorem dX7_changeOctet_34 : decode cX7_changeOctet 34 = .ok (.iload_n 2, 1) := by decide +kernel
theorem dX7_changeOctet_35 : decode cX7_changeOctet 35 = .ok (.iastore, 1) := by decide +kernel
theorem dX7_changeOctet_36 : decode cX7_changeOctet 36 = .ok (.aload_n 0, 1) := by decide +kernel
theorem dX7_changeOctet_37 : decode cX7_changeOctet 37 = .ok (.getfield 12, 3) := by decide +kernel
theorem dX7_changeOctet_40 : decode cX7_changeOctet 40 = .ok (.dup, 1) := by decide +kernel
theorem dX7_changeOctet_41 : decode cX7_changeOctet 41 = .ok (.getfield 153, 3) := by decide +kernel
theorem dX7_changeOctet_44 : decode cX7_changeOctet 44 = .ok (.iload_n 1, 1) := by decide +kernel
theorem dX7_changeOctet_45 : decode cX7_changeOctet 45 = .ok (.iconst 1, 1) := by decide +kernel
theorem dX7_changeOctet_46 : decode cX7_changeOctet 46 = .ok (.invokestatic 156, 3) := by decide +kernel
theorem dX7_changeOctet_49 : decode cX7_changeOctet 49 = .ok (.iconst (-1), 1) := by decide +kernel
theorem dX7_changeOctet_50 : decode cX7_changeOctet 50 = .ok (.ixor, 1) := by decide +kernel
theorem dX7_changeOctet_51 : decode cX7_changeOctet 51 = .ok (.iand, 1) := by decide +kernel
theorem dX7_changeOctet_52 : decode cX7_changeOctet 52 = .ok (.putfield 153, 3) := by decide +kernel
theorem dX7_changeOctet_55 : decode cX7_changeOctet 55 = .ok (.return_, 1) := by decide +kernel
set_option maxRecDepth 20000 in
theorem ggX7_readOctet_X4_isDead : GoodIn wsX7_readOctet wsX4_isDead := goodIn_r _ [11, 12, 40, 41] (by decide +kernel) (by decide +kernel)
set_option maxRecDepth 20000 in
theorem gX7_readOctet_X4_isDead : GoodIn wsX7_readOctet (wsV RX7 212 RX4 yX4_isDead wsX4_isDead) := goodIn_app (goodIn_of _ (by decide +kernel)) ggX7_readOctet_X4_isDead
set_option maxRecDepth 20000 in
theorem ggX7_readOctet_X2_add : GoodIn wsX7_readOctet wsX2_add := goodIn_r _ [17, 18, 19, 20, 21, 22, 42, 43, 44, 45, 46] (by decide +kernel) (by decide +kernel)
set_option maxRecDepth 20000 in
theorem gX7_readOctet_X2_add : GoodIn wsX7_readOctet (wsV RX7 133 RX2 yX2_add wsX2_add) := goodIn_app (goodIn_of _ (by decide +kernel)) ggX7_readOctet_X2_add
theorem dX7_readOctet_0 : decode cX7_readOctet 0 = .ok (.aload_n 0, 1) := by decide +kernel
theorem dX7_readOctet_1 : decode cX7_readOctet 1 = .ok (.getfield 25, 3) := by decide +kernel
theorem dX7_readOctet_4 : decode cX7_readOctet 4 = .ok (.getfield 215, 3) := by decide +kernel
theorem dX7_readOctet_7 : decode cX7_readOctet 7 = .ok (.iload_n 1, 1) := by decide +kernel
theorem dX7_readOctet_8 : decode cX7_readOctet 8 = .ok (.iaload, 1) := by decide +kernel
theorem dX7_readOctet_9 : decode cX7_readOctet 9 = .ok (.istore_n 2, 1) := by decide +kernel
theorem dX7_readOctet_10 : decode cX7_readOctet 10 = .ok (.aload_n 0, 1) := by decide +kernel
theorem dX7_readOctet_11 : decode cX7_readOctet 11 = .ok (.getfield 12, 3) := by decide +kernel
theorem dX7_readOctet_14 : decode cX7_readOctet 14 = .ok (.iload_n 1, 1) := by decide +kernel
theorem dX7_readOctet_15 : decode cX7_readOctet 15 = .ok (.invokevirtual 212, 3) := by decide +kernel
theorem dX7_readOctet_18 : decode cX7_readOctet 18 = .ok (.ifCond .eq 23, 3) := by decide +kernel
theorem dX7_readOctet_21 : decode cX7_readOctet 21 = .ok (.iload_n 2, 1) := by decide +kernel
theorem dX7_readOctet_22 : decode cX7_readOctet 22 = .ok (.iconst (-1), 1) := by decide +kernel
theorem dX7_readOctet_23 : decode cX7_readOctet 23 = .ok (.if_icmp .eq 18, 3) := by decide +kernel
theorem dX7_readOctet_26 : decode cX7_readOctet 26 = .ok (.aload_n 0, 1) := by decide +kernel
theorem dX7_readOctet_27 : decode cX7_readOctet 27 = .ok (.getfield 32, 3) := by decide +kernel
theorem dX7_readOctet_30 : decode cX7_readOctet 30 = .ok (.iconst 2, 1) := by decide +kernel
theorem dX7_readOctet_31 : decode cX7_readOctet 31 = .ok (.aload_n 0, 1) := by decide +kernel
theorem dX7_readOctet_32 : decode cX7_readOctet 32 = .ok (.getfield 53, 3) := by decide +kernel
theorem dX7_readOctet_35 : decode cX7_readOctet 35 = .ok (.iconst 1, 1) := by decide +kernel
theorem dX7_readOctet_36 : decode cX7_readOctet 36 = .ok (.iload_n 2, 1) := by decide +kernel
theorem dX7_readOctet_37 : decode cX7_readOctet 37 = .ok (.ishl, 1) := by decide +kernel
theorem dX7_readOctet_38 : decode cX7_readOctet 38 = .ok (.invokevirtual 133, 3) := by decide +kernel
theorem dX7_readOctet_41 : decode cX7_readOctet 41 = .ok (.aload_n 0, 1) := by decide +kernel
theorem dX7_readOctet_42 : decode cX7_readOctet 42 = .ok (.getfield 12, 3) := by decide +kernel
theorem dX7_readOctet_45 : decode cX7_readOctet 45 = .ok (.getfield 66, 3) := by decide +kernel
theorem dX7_readOctet_48 : decode cX7_readOctet 48 = .ok (.bipush 8, 2) := by decide +kernel
theorem dX7_readOctet_50 : decode cX7_readOctet 50 = .ok (.iload_n 1, 1) := by decide +kernel
theorem dX7_readOctet_51 : decode cX7_readOctet 51 = .ok (.iadd, 1) := by decide +kernel
theorem dX7_readOctet_52 : decode cX7_readOctet 52 = .ok (.iaload, 1) := by decide +kernel
theorem dX7_readOctet_53 : decode cX7_readOctet 53 = .ok (.ireturn, 1) := by decide +kernel
set_option maxRecDepth 20000 in
theorem ggX7_placeAt_X0_shadowOf : GoodIn wsX7_placeAt wsX0_shadowOf := goodIn_r _ [8] (by decide +kernel) (by decide +kernel)
set_option maxRecDepth 20000 in
theorem gX7_placeAt_X0_shadowOf : GoodIn wsX7_placeAt (va_wsS RX7 91 yX0_shadowOf wsX0_shadowOf) := goodIn_app (goodIn_of _ (by decide +kernel)) ggX7_placeAt_X0_shadowOf
set_option maxRecDepth 20000 in
theorem ggX7_placeAt_X0_fromOf : GoodIn wsX7_placeAt wsX0_fromOf := goodIn_r _ [11] (by decide +kernel) (by decide +kernel)
set_option maxRecDepth 20000 in
theorem gX7_placeAt_X0_fromOf : GoodIn wsX7_placeAt (va_wsS RX7 94 yX0_fromOf wsX0_fromOf) := goodIn_app (goodIn_of _ (by decide +kernel)) ggX7_placeAt_X0_fromOf
set_option maxRecDepth 20000 in
theorem ggX7_placeAt_X2_add : GoodIn wsX7_placeAt wsX2_add := goodIn_r _ [16, 17, 18, 19, 20, 21, 39, 40, 41, 42, 43] (by decide +kernel) (by decide +kernel)
set_option maxRecDepth 20000 in
theorem gX7_placeAt_X2_add : GoodIn wsX7_placeAt (wsV RX7 133 RX2 yX2_add wsX2_add) := goodIn_app (goodIn_of _ (by decide +kernel)) ggX7_placeAt_X2_add
set_option maxRecDepth 20000 in
theorem ggX7_placeAt_X0_valueOf : GoodIn wsX7_placeAt wsX0_valueOf := goodIn_r _ [24] (by decide +kernel) (by decide +kernel)
set_option maxRecDepth 20000 in
theorem gX7_placeAt_X0_valueOf : GoodIn wsX7_placeAt (va_wsS RX7 70 yX0_valueOf wsX0_valueOf) := goodIn_app (goodIn_of _ (by decide +kernel)) ggX7_placeAt_X0_valueOf
theorem dX7_placeAt_0 : decode cX7_placeAt 0 = .ok (.aload_n 0, 1) := by decide +kernel
theorem dX7_placeAt_1 : decode cX7_placeAt 1 = .ok (.getfield 12, 3) := by decide +kernel
theorem dX7_placeAt_4 : decode cX7_placeAt 4 = .ok (.getfield 66, 3) := by decide +kernel
theorem dX7_placeAt_7 : decode cX7_placeAt 7 = .ok (.iload_n 1, 1) := by decide +kernel
theorem dX7_placeAt_8 : decode cX7_placeAt 8 = .ok (.iaload, 1) := by decide +kernel
theorem dX7_placeAt_9 : decode cX7_placeAt 9 = .ok (.istore_n 2, 1) := by decide +kernel
theorem dX7_placeAt_10 : decode cX7_placeAt 10 = .ok (.iload_n 2, 1) := by decide +kernel
theorem dX7_placeAt_11 : decode cX7_placeAt 11 = .ok (.invokestatic 91, 3) := by decide +kernel
theorem dX7_placeAt_14 : decode cX7_placeAt 14 = .ok (.bipush 31, 2) := by decide +kernel
theorem dX7_placeAt_16 : decode cX7_placeAt 16 = .ok (.iand, 1) := by decide +kernel
theorem dX7_placeAt_17 : decode cX7_placeAt 17 = .ok (.ifCond .eq 19, 3) := by decide +kernel
theorem dX7_placeAt_20 : decode cX7_placeAt 20 = .ok (.aload_n 0, 1) := by decide +kernel
theorem dX7_placeAt_21 : decode cX7_placeAt 21 = .ok (.getfield 32, 3) := by decide +kernel
theorem dX7_placeAt_24 : decode cX7_placeAt 24 = .ok (.iconst 1, 1) := by decide +kernel
theorem dX7_placeAt_25 : decode cX7_placeAt 25 = .ok (.aload_n 0, 1) := by decide +kernel
theorem dX7_placeAt_26 : decode cX7_placeAt 26 = .ok (.getfield 53, 3) := by decide +kernel
theorem dX7_placeAt_29 : decode cX7_placeAt 29 = .ok (.iload_n 2, 1) := by decide +kernel
theorem dX7_placeAt_30 : decode cX7_placeAt 30 = .ok (.invokestatic 94, 3) := by decide +kernel
theorem dX7_placeAt_33 : decode cX7_placeAt 33 = .ok (.invokevirtual 133, 3) := by decide +kernel
theorem dX7_placeAt_36 : decode cX7_placeAt 36 = .ok (.iload_n 2, 1) := by decide +kernel
theorem dX7_placeAt_37 : decode cX7_placeAt 37 = .ok (.invokestatic 70, 3) := by decide +kernel
theorem dX7_placeAt_40 : decode cX7_placeAt 40 = .ok (.bipush 31, 2) := by decide +kernel
theorem dX7_placeAt_42 : decode cX7_placeAt 42 = .ok (.iand, 1) := by decide +kernel
theorem dX7_placeAt_43 : decode cX7_placeAt 43 = .ok (.ireturn, 1) := by decide +kernel
set_option maxRecDepth 20000 in
theorem ggX7_followRule_X6_cellBy : GoodIn wsX7_followRule wsX6_cellBy := goodIn_r _ [6, 7, 8, 9, 10, 11, 12, 13, 14, 15, 5, 16, 17, 18, 19, 20, 21, 22, 23, 24, 25] (by decide +kernel) (by decide +kernel)
set_option maxRecDepth 20000 in
theorem gX7_followRule_X6_cellBy : GoodIn wsX7_followRule (va_wsS RX7 270 yX6_cellBy wsX6_cellBy) := goodIn_app (goodIn_of _ (by decide +kernel)) ggX7_followRule_X6_cellBy
set_option maxRecDepth 20000 in
theorem ggX7_followRule_X7_changeRegister : GoodIn wsX7_followRule wsX7_changeRegister := goodIn_r _ [30, 31, 1, 2, 32, 33, 34, 35, 36, 37, 38, 39, 40, 41, 42, 43, 44, 69, 70, 71, 72, 73, 74, 75, 76, 77, 78, 79, 80, 81, 82, 83, 84, 85, 86] (by decide +kernel) (by decide +kernel)
set_option maxRecDepth 20000 in
theorem gX7_followRule_X7_changeRegister : GoodIn wsX7_followRule (wsV RX7 80 RX7 yX7_changeRegister wsX7_changeRegister) := goodIn_app (goodIn_of _ (by decide +kernel)) ggX7_followRule_X7_changeRegister
set_option maxRecDepth 20000 in
theorem ggX7_followRule_X7_shadowOfRegister : GoodIn wsX7_followRule wsX7_shadowOfRegister := goodIn_r _ [48, 1, 2, 49, 12, 9, 13, 69, 70, 71, 72, 73, 74, 75, 76, 77, 78, 79, 80, 81, 82] (by decide +kernel) (by decide +kernel)
set_option maxRecDepth 20000 in
theorem gX7_followRule_X7_shadowOfRegister : GoodIn wsX7_followRule (wsV RX7 97 RX7 yX7_shadowOfRegister wsX7_shadowOfRegister) := goodIn_app (goodIn_of _ (by decide +kernel)) ggX7_followRule_X7_shadowOfRegister
set_option maxRecDepth 20000 in
theorem ggX7_followRule_X7_tick : GoodIn wsX7_followRule wsX7_tick := goodIn_r _ [53, 54, 55, 56, 57, 58, 59, 60, 61, 62, 63, 64, 65, 66, 67, 68, 42, 43, 44, 69, 70, 71, 72, 73, 74, 75, 76, 77, 78, 79, 80, 87, 88, 89, 90, 91] (by decide +kernel) (by decide +kernel)
set_option maxRecDepth 20000 in
theorem gX7_followRule_X7_tick : GoodIn wsX7_followRule (wsV RX7 84 RX7 yX7_tick wsX7_tick) := goodIn_app (goodIn_of _ (by decide +kernel)) ggX7_followRule_X7_tick
theorem dX7_followRule_0 : decode cX7_followRule 0 = .ok (.aload_n 0, 1) := by decide +kernel
theorem dX7_followRule_1 : decode cX7_followRule 1 = .ok (.iload_n 2, 1) := by decide +kernel
theorem dX7_followRule_2 : decode cX7_followRule 2 = .ok (.iload_n 1, 1) := by decide +kernel
theorem dX7_followRule_3 : decode cX7_followRule 3 = .ok (.aload_n 0, 1) := by decide +kernel
theorem dX7_followRule_4 : decode cX7_followRule 4 = .ok (.getfield 12, 3) := by decide +kernel
theorem dX7_followRule_7 : decode cX7_followRule 7 = .ok (.getfield 66, 3) := by decide +kernel
theorem dX7_followRule_10 : decode cX7_followRule 10 = .ok (.iload_n 3, 1) := by decide +kernel
theorem dX7_followRule_11 : decode cX7_followRule 11 = .ok (.iaload, 1) := by decide +kernel
theorem dX7_followRule_12 : decode cX7_followRule 12 = .ok (.aload_n 0, 1) := by decide +kernel
theorem dX7_followRule_13 : decode cX7_followRule 13 = .ok (.getfield 12, 3) := by decide +kernel
theorem dX7_followRule_16 : decode cX7_followRule 16 = .ok (.getfield 66, 3) := by decide +kernel
theorem dX7_followRule_19 : decode cX7_followRule 19 = .ok (.iload 4, 2) := by decide +kernel
theorem dX7_followRule_21 : decode cX7_followRule 21 = .ok (.iaload, 1) := by decide +kernel
theorem dX7_followRule_22 : decode cX7_followRule 22 = .ok (.invokestatic 270, 3) := by decide +kernel
theorem dX7_followRule_25 : decode cX7_followRule 25 = .ok (.invokevirtual 80, 3) := by decide +kernel
theorem dX7_followRule_28 : decode cX7_followRule 28 = .ok (.aload_n 0, 1) := by decide +kernel
theorem dX7_followRule_29 : decode cX7_followRule 29 = .ok (.iconst 4, 1) := by decide +kernel
theorem dX7_followRule_30 : decode cX7_followRule 30 = .ok (.aload_n 0, 1) := by decide +kernel
theorem dX7_followRule_31 : decode cX7_followRule 31 = .ok (.iload_n 2, 1) := by decide +kernel
theorem dX7_followRule_32 : decode cX7_followRule 32 = .ok (.invokevirtual 97, 3) := by decide +kernel
theorem dX7_followRule_35 : decode cX7_followRule 35 = .ok (.invokevirtual 84, 3) := by decide +kernel
theorem dX7_followRule_38 : decode cX7_followRule 38 = .ok (.ireturn, 1) := by decide +kernel
theorem dX7_nextLot_0 : decode cX7_nextLot 0 = .ok (.aload_n 0, 1) := by decide +kernel
theorem dX7_nextLot_1 : decode cX7_nextLot 1 = .ok (.aload_n 0, 1) := by decide +kernel
theorem dX7_nextLot_2 : decode cX7_nextLot 2 = .ok (.getfield 187, 3) := by decide +kernel
theorem dX7_nextLot_5 : decode cX7_nextLot 5 = .ok (.i2l, 1) := by decide +kernel
theorem dX7_nextLot_6 : decode cX7_nextLot 6 = .ok (.ldc2_w 273, 3) := by decide +kernel
theorem dX7_nextLot_9 : decode cX7_nextLot 9 = .ok (.lmul, 1) := by decide +kernel
theorem dX7_nextLot_10 : decode cX7_nextLot 10 = .ok (.ldc2_w 275, 3) := by decide +kernel
theorem dX7_nextLot_13 : decode cX7_nextLot 13 = .ok (.lrem, 1) := by decide +kernel
theorem dX7_nextLot_14 : decode cX7_nextLot 14 = .ok (.l2i, 1) := by decide +kernel
theorem dX7_nextLot_15 : decode cX7_nextLot 15 = .ok (.putfield 187, 3) := by decide +kernel
theorem dX7_nextLot_18 : decode cX7_nextLot 18 = .ok (.aload_n 0, 1) := by decide +kernel
theorem dX7_nextLot_19 : decode cX7_nextLot 19 = .ok (.getfield 187, 3) := by decide +kernel
theorem dX7_nextLot_22 : decode cX7_nextLot 22 = .ok (.ireturn, 1) := by decide +kernel
set_option maxRecDepth 20000 in
theorem ggX7_doByLots_X7_nextLot : GoodIn wsX7_doByLots wsX7_nextLot := goodIn_r _ [5, 6, 7, 8, 140, 141, 142, 143, 144, 145, 146, 147, 148, 149, 150, 151] (by decide +kernel) (by decide +kernel)
set_option maxRecDepth 20000 in
theorem gX7_doByLots_X7_nextLot : GoodIn wsX7_doByLots (wsV RX7 149 RX7 yX7_nextLot wsX7_nextLot) := goodIn_app (goodIn_of _ (by decide +kernel)) ggX7_doByLots_X7_nextLot
set_option maxRecDepth 20000 in
theorem ggX7_doByLots_X7_followRule : GoodIn wsX7_doByLots wsX7_followRule := goodIn_r _ [12, 13, 14, 15, 16, 17, 18, 19, 20, 21, 22, 23, 24, 25, 26, 27, 28, 29, 30, 31, 32, 33, 34, 35, 36, 37, 38, 39, 40, 4, 41, 42, 43, 44, 45, 46, 47, 48, 49, 50, 51, 52, 53, 54, 55, 56, 57, 58, 59, 60, 61, 62, 63, 64, 65, 66, 67, 68, 69, 70, 71, 72, 73, 74, 75, 76, 77, 78, 79, 140, 141, 142, 143, 144, 145, 146, 147, 148, 149, 150, 151, 152, 153, 154, 155, 156, 157, 158, 159, 160, 161, 162] (by decide +kernel) (by decide +kernel)
set_option maxRecDepth 20000 in
theorem gX7_doByLots_X7_followRule : GoodIn wsX7_doByLots (wsV RX7 126 RX7 yX7_followRule wsX7_followRule) := goodIn_app (goodIn_of _ (by decide +kernel)) ggX7_doByLots_X7_followRule
set_option maxRecDepth 20000 in
theorem ggX7_doByLots_X7_load : GoodIn wsX7_doByLots wsX7_load := goodIn_r _ [83, 84, 85, 86, 4, 87, 88, 89, 90, 91, 92, 93, 94, 95, 96, 13, 97, 66, 14, 98, 99, 100, 101, 102, 103, 104, 105, 106, 107, 108, 109, 110, 111, 112, 113, 38, 39, 40, 41, 42, 43, 44, 45, 46, 47, 48, 49, 50, 51, 52, 53, 54, 55, 56, 57, 58, 59, 60, 24, 21, 25, 61, 62, 63, 64, 65, 67, 68, 69, 70, 71, 72, 73, 74, 75, 76, 77, 78, 79, 140, 141, 142, 143, 144, 145, 146, 147, 148, 149, 150, 151, 163, 164, 165, 166, 167, 152, 153, 168, 169, 170, 171, 172, 154, 155, 156, 157, 158, 159, 160, 161, 162] (by decide +kernel) (by decide +kernel)
set_option maxRecDepth 20000 in
theorem gX7_doByLots_X7_load : GoodIn wsX7_doByLots (wsV RX7 277 RX7 yX7_load wsX7_load) := goodIn_app (goodIn_of _ (by decide +kernel)) ggX7_doByLots_X7_load
set_option maxRecDepth 20000 in
theorem ggX7_doByLots_X7_store : GoodIn wsX7_doByLots wsX7_store := goodIn_r _ [117, 84, 13, 14, 85, 86, 4, 87, 88, 89, 90, 118, 119, 120, 121, 42, 122, 43, 44, 45, 46, 47, 48, 49, 50, 51, 52, 53, 54, 55, 123, 124, 125, 56, 57, 58, 59, 60, 24, 21, 25, 61, 62, 63, 64, 65, 66, 67, 68, 69, 70, 71, 72, 73, 74, 75, 76, 77, 78, 79, 140, 141, 142, 143, 144, 145, 146, 147, 148, 149, 150, 151, 152, 153, 154, 155, 156, 157, 158, 159, 160, 161, 162] (by decide +kernel) (by decide +kernel)
set_option maxRecDepth 20000 in
theorem gX7_doByLots_X7_store : GoodIn wsX7_doByLots (wsV RX7 280 RX7 yX7_store wsX7_store) := goodIn_app (goodIn_of _ (by decide +kernel)) ggX7_doByLots_X7_store
set_option maxRecDepth 20000 in
theorem ggX7_doByLots_X7_decide : GoodIn wsX7_doByLots wsX7_decide := goodIn_r _ [129, 84, 13, 14, 97, 66, 85, 86, 4, 87, 130, 131, 21, 132, 133, 134, 135, 136, 20, 22, 137, 24, 25, 138, 33, 34, 104, 105, 106, 107, 108, 109, 110, 111, 112, 113, 139, 61, 62, 63, 64, 65, 67, 68, 69, 70, 71, 72, 73, 74, 75, 76, 77, 78, 79, 53, 54, 55, 140, 141, 142, 143, 144, 145, 146, 147, 148, 149, 150, 151, 152, 153, 168, 169, 170, 171, 172, 158, 159, 160, 161, 162] (by decide +kernel) (by decide +kernel)
set_option maxRecDepth 20000 in
theorem gX7_doByLots_X7_decide : GoodIn wsX7_doByLots (wsV RX7 283 RX7 yX7_decide wsX7_decide) := goodIn_app (goodIn_of _ (by decide +kernel)) ggX7_doByLots_X7_decide
theorem dX7_doByLots_0 : decode cX7_doByLots 0 = .ok (.aload_n 0, 1) := by decide +kernel
theorem dX7_doByLots_1 : decode cX7_doByLots 1 = .ok (.invokevirtual 149, 3) := by decide +kernel
theorem dX7_doByLots_4 : decode cX7_doByLots 4 = .ok (.iconst 4, 1) := by decide +kernel
theorem dX7_doByLots_5 : decode cX7_doByLots 5 = .ok (.irem, 1) := by decide +kernel
theorem dX7_doByLots_6 : decode cX7_doByLots 6 = .ok (.istore_n 1, 1) := by decide +kernel
theorem dX7_doByLots_7 : decode cX7_doByLots 7 = .ok (.iload_n 1, 1) := by decide +kernel
theorem dX7_doByLots_8 : decode cX7_doByLots 8 = .ok (.ifCond .ne 47, 3) := by decide +kernel
theorem dX7_doByLots_11 : decode cX7_doByLots 11 = .ok (.aload_n 0, 1) := by decide +kernel
theorem dX7_doByLots_12 : decode cX7_doByLots 12 = .ok (.invokevirtual 149, 3) := by decide +kernel
theorem dX7_doByLots_15 : decode cX7_doByLots 15 = .ok (.bipush 7, 2) := by decide +kernel
theorem dX7_doByLots_17 : decode cX7_doByLots 17 = .ok (.irem, 1) := by decide +kernel
theorem dX7_doByLots_18 : decode cX7_doByLots 18 = .ok (.istore_n 2, 1) := by decide +kernel
theorem dX7_doByLots_19 : decode cX7_doByLots 19 = .ok (.aload_n 0, 1) := by decide +kernel
theorem dX7_doByLots_20 : decode cX7_doByLots 20 = .ok (.invokevirtual 149, 3) := by decide +kernel
theorem dX7_doByLots_23 : decode cX7_doByLots 23 = .ok (.bipush 8, 2) := by decide +kernel
theorem dX7_doByLots_25 : decode cX7_doByLots 25 = .ok (.irem, 1) := by decide +kernel
theorem dX7_doByLots_26 : decode cX7_doByLots 26 = .ok (.istore_n 3, 1) := by decide +kernel
theorem dX7_doByLots_27 : decode cX7_doByLots 27 = .ok (.aload_n 0, 1) := by decide +kernel
theorem dX7_doByLots_28 : decode cX7_doByLots 28 = .ok (.invokevirtual 149, 3) := by decide +kernel
theorem dX7_doByLots_31 : decode cX7_doByLots 31 = .ok (.bipush 8, 2) := by decide +kernel
theorem dX7_doByLots_33 : decode cX7_doByLots 33 = .ok (.irem, 1) := by decide +kernel
theorem dX7_doByLots_34 : decode cX7_doByLots 34 = .ok (.istore 4, 2) := by decide +kernel
theorem dX7_doByLots_36 : decode cX7_doByLots 36 = .ok (.aload_n 0, 1) := by decide +kernel
theorem dX7_doByLots_37 : decode cX7_doByLots 37 = .ok (.iload_n 2, 1) := by decide +kernel
theorem dX7_doByLots_38 : decode cX7_doByLots 38 = .ok (.iload_n 3, 1) := by decide +kernel
theorem dX7_doByLots_39 : decode cX7_doByLots 39 = .ok (.iload 4, 2) := by decide +kernel
theorem dX7_doByLots_41 : decode cX7_doByLots 41 = .ok (.aload_n 0, 1) := by decide +kernel
theorem dX7_doByLots_42 : decode cX7_doByLots 42 = .ok (.invokevirtual 149, 3) := by decide +kernel
theorem dX7_doByLots_45 : decode cX7_doByLots 45 = .ok (.bipush 8, 2) := by decide +kernel
theorem dX7_doByLots_47 : decode cX7_doByLots 47 = .ok (.irem, 1) := by decide +kernel
theorem dX7_doByLots_48 : decode cX7_doByLots 48 = .ok (.invokevirtual 126, 3) := by decide +kernel
theorem dX7_doByLots_51 : decode cX7_doByLots 51 = .ok (.pop, 1) := by decide +kernel
theorem dX7_doByLots_52 : decode cX7_doByLots 52 = .ok (.goto 73, 3) := by decide +kernel
theorem dX7_doByLots_55 : decode cX7_doByLots 55 = .ok (.iload_n 1, 1) := by decide +kernel
theorem dX7_doByLots_56 : decode cX7_doByLots 56 = .ok (.iconst 1, 1) := by decide +kernel
theorem dX7_doByLots_57 : decode cX7_doByLots 57 = .ok (.if_icmp .ne 27, 3) := by decide +kernel
theorem dX7_doByLots_60 : decode cX7_doByLots 60 = .ok (.aload_n 0, 1) := by decide +kernel
theorem dX7_doByLots_61 : decode cX7_doByLots 61 = .ok (.invokevirtual 149, 3) := by decide +kernel
theorem dX7_doByLots_64 : decode cX7_doByLots 64 = .ok (.bipush 8, 2) := by decide +kernel
theorem dX7_doByLots_66 : decode cX7_doByLots 66 = .ok (.irem, 1) := by decide +kernel
theorem dX7_doByLots_67 : decode cX7_doByLots 67 = .ok (.istore_n 2, 1) := by decide +kernel
theorem dX7_doByLots_68 : decode cX7_doByLots 68 = .ok (.aload_n 0, 1) := by decide +kernel
theorem dX7_doByLots_69 : decode cX7_doByLots 69 = .ok (.iload_n 2, 1) := by decide +kernel
theorem dX7_doByLots_70 : decode cX7_doByLots 70 = .ok (.aload_n 0, 1) := by decide +kernel
theorem dX7_doByLots_71 : decode cX7_doByLots 71 = .ok (.invokevirtual 149, 3) := by decide +kernel
theorem dX7_doByLots_74 : decode cX7_doByLots 74 = .ok (.bipush 32, 2) := by decide +kernel
theorem dX7_doByLots_76 : decode cX7_doByLots 76 = .ok (.irem, 1) := by decide +kernel
theorem dX7_doByLots_77 : decode cX7_doByLots 77 = .ok (.invokevirtual 277, 3) := by decide +kernel
theorem dX7_doByLots_80 : decode cX7_doByLots 80 = .ok (.pop, 1) := by decide +kernel
theorem dX7_doByLots_81 : decode cX7_doByLots 81 = .ok (.goto 44, 3) := by decide +kernel
theorem dX7_doByLots_84 : decode cX7_doByLots 84 = .ok (.iload_n 1, 1) := by decide +kernel
theorem dX7_doByLots_85 : decode cX7_doByLots 85 = .ok (.iconst 2, 1) := by decide +kernel
theorem dX7_doByLots_86 : decode cX7_doByLots 86 = .ok (.if_icmp .ne 27, 3) := by decide +kernel
theorem dX7_doByLots_89 : decode cX7_doByLots 89 = .ok (.aload_n 0, 1) := by decide +kernel
theorem dX7_doByLots_90 : decode cX7_doByLots 90 = .ok (.invokevirtual 149, 3) := by decide +kernel
theorem dX7_doByLots_93 : decode cX7_doByLots 93 = .ok (.bipush 8, 2) := by decide +kernel
theorem dX7_doByLots_95 : decode cX7_doByLots 95 = .ok (.irem, 1) := by decide +kernel
theorem dX7_doByLots_96 : decode cX7_doByLots 96 = .ok (.istore_n 2, 1) := by decide +kernel
theorem dX7_doByLots_97 : decode cX7_doByLots 97 = .ok (.aload_n 0, 1) := by decide +kernel
theorem dX7_doByLots_98 : decode cX7_doByLots 98 = .ok (.iload_n 2, 1) := by decide +kernel
theorem dX7_doByLots_99 : decode cX7_doByLots 99 = .ok (.aload_n 0, 1) := by decide +kernel
theorem dX7_doByLots_100 : decode cX7_doByLots 100 = .ok (.invokevirtual 149, 3) := by decide +kernel
theorem dX7_doByLots_103 : decode cX7_doByLots 103 = .ok (.bipush 32, 2) := by decide +kernel
theorem dX7_doByLots_105 : decode cX7_doByLots 105 = .ok (.irem, 1) := by decide +kernel
theorem dX7_doByLots_106 : decode cX7_doByLots 106 = .ok (.invokevirtual 280, 3) := by decide +kernel
theorem dX7_doByLots_109 : decode cX7_doByLots 109 = .ok (.pop, 1) := by decide +kernel
theorem dX7_doByLots_110 : decode cX7_doByLots 110 = .ok (.goto 15, 3) := by decide +kernel
theorem dX7_doByLots_113 : decode cX7_doByLots 113 = .ok (.aload_n 0, 1) := by decide +kernel
theorem dX7_doByLots_114 : decode cX7_doByLots 114 = .ok (.aload_n 0, 1) := by decide +kernel
theorem dX7_doByLots_115 : decode cX7_doByLots 115 = .ok (.invokevirtual 149, 3) := by decide +kernel
theorem dX7_doByLots_118 : decode cX7_doByLots 118 = .ok (.bipush 8, 2) := by decide +kernel
theorem dX7_doByLots_120 : decode cX7_doByLots 120 = .ok (.irem, 1) := by decide +kernel
theorem dX7_doByLots_121 : decode cX7_doByLots 121 = .ok (.invokevirtual 283, 3) := by decide +kernel
theorem dX7_doByLots_124 : decode cX7_doByLots 124 = .ok (.pop, 1) := by decide +kernel
theorem dX7_doByLots_125 : decode cX7_doByLots 125 = .ok (.return_, 1) := by decide +kernel
set_option maxRecDepth 20000 in
theorem ggX8_init_X8_start : GoodIn wsX8_init wsX8_start := goodIn_r _ [30, 31, 5, 6, 7, 9, 10, 32, 33, 34, 35, 36, 37, 38, 25, 39, 40, 41, 42, 43, 44, 45, 46, 47, 48, 49, 50, 51, 52, 53, 54, 55, 56, 57, 58, 59, 60, 61, 62, 63, 64, 65, 66] (by decide +kernel) (by decide +kernel)
set_option maxRecDepth 20000 in
theorem gX8_init_X8_start : GoodIn wsX8_init (wsV RX8 71 RX8 yX8_start wsX8_start) := goodIn_app (goodIn_of _ (by decide +kernel)) ggX8_init_X8_start
theorem dX8_init_0 : decode cX8_init 0 = .ok (.aload_n 0, 1) := by decide +kernel
theorem dX8_init_1 : decode cX8_init 1 = .ok (.invokespecial 1, 3) := by decide +kernel
theorem dX8_init_4 : decode cX8_init 4 = .ok (.aload_n 0, 1) := by decide +kernel
theorem dX8_init_5 : decode cX8_init 5 = .ok (.bipush 40, 2) := by decide +kernel
theorem dX8_init_7 : decode cX8_init 7 = .ok (.newarray .int, 2) := by decide +kernel
theorem dX8_init_9 : decode cX8_init 9 = .ok (.putfield 7, 3) := by decide +kernel
theorem dX8_init_12 : decode cX8_init 12 = .ok (.aload_n 0, 1) := by decide +kernel
theorem dX8_init_13 : decode cX8_init 13 = .ok (.bipush 40, 2) := by decide +kernel
theorem dX8_init_15 : decode cX8_init 15 = .ok (.newarray .int, 2) := by decide +kernel
theorem dX8_init_17 : decode cX8_init 17 = .ok (.putfield 13, 3) := by decide +kernel
theorem dX8_init_20 : decode cX8_init 20 = .ok (.aload_n 0, 1) := by decide +kernel
theorem dX8_init_21 : decode cX8_init 21 = .ok (.bipush 40, 2) := by decide +kernel
theorem dX8_init_23 : decode cX8_init 23 = .ok (.newarray .int, 2) := by decide +kernel
theorem dX8_init_25 : decode cX8_init 25 = .ok (.putfield 16, 3) := by decide +kernel
theorem dX8_init_28 : decode cX8_init 28 = .ok (.aload_n 0, 1) := by decide +kernel
theorem dX8_init_29 : decode cX8_init 29 = .ok (.bipush 32, 2) := by decide +kernel
theorem dX8_init_31 : decode cX8_init 31 = .ok (.newarray .boolean, 2) := by decide +kernel
theorem dX8_init_33 : decode cX8_init 33 = .ok (.putfield 19, 3) := by decide +kernel
theorem dX8_init_36 : decode cX8_init 36 = .ok (.aload_n 0, 1) := by decide +kernel
theorem dX8_init_37 : decode cX8_init 37 = .ok (.bipush 32, 2) := by decide +kernel
theorem dX8_init_39 : decode cX8_init 39 = .ok (.newarray .int, 2) := by decide +kernel
theorem dX8_init_41 : decode cX8_init 41 = .ok (.putfield 23, 3) := by decide +kernel
theorem dX8_init_44 : decode cX8_init 44 = .ok (.aload_n 0, 1) := by decide +kernel
theorem dX8_init_45 : decode cX8_init 45 = .ok (.bipush 12, 2) := by decide +kernel
theorem dX8_init_47 : decode cX8_init 47 = .ok (.newarray .int, 2) := by decide +kernel
theorem dX8_init_49 : decode cX8_init 49 = .ok (.putfield 26, 3) := by decide +kernel
theorem dX8_init_52 : decode cX8_init 52 = .ok (.aload_n 0, 1) := by decide +kernel
theorem dX8_init_53 : decode cX8_init 53 = .ok (.bipush 12, 2) := by decide +kernel
theorem dX8_init_55 : decode cX8_init 55 = .ok (.newarray .int, 2) := by decide +kernel
theorem dX8_init_57 : decode cX8_init 57 = .ok (.putfield 29, 3) := by decide +kernel
theorem dX8_init_60 : decode cX8_init 60 = .ok (.aload_n 0, 1) := by decide +kernel
theorem dX8_init_61 : decode cX8_init 61 = .ok (.bipush 12, 2) := by decide +kernel
theorem dX8_init_63 : decode cX8_init 63 = .ok (.newarray .boolean, 2) := by decide +kernel
theorem dX8_init_65 : decode cX8_init 65 = .ok (.putfield 32, 3) := by decide +kernel
theorem dX8_init_68 : decode cX8_init 68 = .ok (.aload_n 0, 1) := by decide +kernel
theorem dX8_init_69 : decode cX8_init 69 = .ok (.bipush 20, 2) := by decide +kernel
theorem dX8_init_71 : decode cX8_init 71 = .ok (.newarray .int, 2) := by decide +kernel
theorem dX8_init_73 : decode cX8_init 73 = .ok (.putfield 35, 3) := by decide +kernel
theorem dX8_init_76 : decode cX8_init 76 = .ok (.aload_n 0, 1) := by decide +kernel
theorem dX8_init_77 : decode cX8_init 77 = .ok (.bipush 20, 2) := by decide +kernel
theorem dX8_init_79 : decode cX8_init 79 = .ok (.newarray .int, 2) := by decide +kernel
theorem dX8_init_81 : decode cX8_init 81 = .ok (.putfield 38, 3) := by decide +kernel
theorem dX8_init_84 : decode cX8_init 84 = .ok (.aload_n 0, 1) := by decide +kernel
theorem dX8_init_85 : decode cX8_init 85 = .ok (.bipush 20, 2) := by decide +kernel
theorem dX8_init_87 : decode cX8_init 87 = .ok (.newarray .int, 2) := by decide +kernel
theorem dX8_init_89 : decode cX8_init 89 = .ok (.putfield 41, 3) := by decide +kernel
theorem dX8_init_92 : decode cX8_init 92 = .ok (.aload_n 0, 1) := by decide +kernel
theorem dX8_init_93 : decode cX8_init 93 = .ok (.bipush 16, 2) := by decide +kernel
theorem dX8_init_95 : decode cX8_init 95 = .ok (.newarray .int, 2) := by decide +kernel
theorem dX8_init_97 : decode cX8_init 97 = .ok (.putfield 44, 3) := by decide +kernel
theorem dX8_init_100 : decode cX8_init 100 = .ok (.aload_n 0, 1) := by decide +kernel
theorem dX8_init_101 : decode cX8_init 101 = .ok (.bipush 16, 2) := by decide +kernel
theorem dX8_init_103 : decode cX8_init 103 = .ok (.newarray .int, 2) := by decide +kernel
theorem dX8_init_105 : decode cX8_init 105 = .ok (.putfield 47, 3) := by decide +kernel
theorem dX8_init_108 : decode cX8_init 108 = .ok (.aload_n 0, 1) := by decide +kernel
theorem dX8_init_109 : decode cX8_init 109 = .ok (.bipush 16, 2) := by decide +kernel
theorem dX8_init_111 : decode cX8_init 111 = .ok (.newarray .int, 2) := by decide +kernel
theorem dX8_init_113 : decode cX8_init 113 = .ok (.putfield 50, 3) := by decide +kernel
theorem dX8_init_116 : decode cX8_init 116 = .ok (.aload_n 0, 1) := by decide +kernel
theorem dX8_init_117 : decode cX8_init 117 = .ok (.bipush 32, 2) := by decide +kernel
theorem dX8_init_119 : decode cX8_init 119 = .ok (.newarray .int, 2) := by decide +kernel
theorem dX8_init_121 : decode cX8_init 121 = .ok (.putfield 53, 3) := by decide +kernel
theorem dX8_init_124 : decode cX8_init 124 = .ok (.aload_n 0, 1) := by decide +kernel
theorem dX8_init_125 : decode cX8_init 125 = .ok (.bipush 32, 2) := by decide +kernel
theorem dX8_init_127 : decode cX8_init 127 = .ok (.newarray .int, 2) := by decide +kernel
theorem dX8_init_129 : decode cX8_init 129 = .ok (.putfield 56, 3) := by decide +kernel
theorem dX8_init_132 : decode cX8_init 132 = .ok (.aload_n 0, 1) := by decide +kernel
theorem dX8_init_133 : decode cX8_init 133 = .ok (.bipush 32, 2) := by decide +kernel
theorem dX8_init_135 : decode cX8_init 135 = .ok (.newarray .int, 2) := by decide +kernel
theorem dX8_init_137 : decode cX8_init 137 = .ok (.putfield 59, 3) := by decide +kernel
theorem dX8_init_140 : decode cX8_init 140 = .ok (.aload_n 0, 1) := by decide +kernel
theorem dX8_init_141 : decode cX8_init 141 = .ok (.bipush 32, 2) := by decide +kernel
theorem dX8_init_143 : decode cX8_init 143 = .ok (.newarray .int, 2) := by decide +kernel
theorem dX8_init_145 : decode cX8_init 145 = .ok (.putfield 62, 3) := by decide +kernel
theorem dX8_init_148 : decode cX8_init 148 = .ok (.aload_n 0, 1) := by decide +kernel
theorem dX8_init_149 : decode cX8_init 149 = .ok (.sipush 304, 3) := by decide +kernel
theorem dX8_init_152 : decode cX8_init 152 = .ok (.newarray .int, 2) := by decide +kernel
theorem dX8_init_154 : decode cX8_init 154 = .ok (.putfield 65, 3) := by decide +kernel
theorem dX8_init_157 : decode cX8_init 157 = .ok (.aload_n 0, 1) := by decide +kernel
theorem dX8_init_158 : decode cX8_init 158 = .ok (.iconst 2, 1) := by decide +kernel
theorem dX8_init_159 : decode cX8_init 159 = .ok (.newarray .boolean, 2) := by decide +kernel
theorem dX8_init_161 : decode cX8_init 161 = .ok (.putfield 68, 3) := by decide +kernel
theorem dX8_init_164 : decode cX8_init 164 = .ok (.aload_n 0, 1) := by decide +kernel
theorem dX8_init_165 : decode cX8_init 165 = .ok (.invokevirtual 71, 3) := by decide +kernel
theorem dX8_init_168 : decode cX8_init 168 = .ok (.istore_n 1, 1) := by decide +kernel
theorem dX8_init_169 : decode cX8_init 169 = .ok (.return_, 1) := by decide +kernel
theorem dX8_in_0 : decode cX8_in 0 = .ok (.lload_n 0, 1) := by decide +kernel
theorem dX8_in_1 : decode cX8_in 1 = .ok (.lload_n 2, 1) := by decide +kernel
theorem dX8_in_2 : decode cX8_in 2 = .ok (.lcmp, 1) := by decide +kernel
theorem dX8_in_3 : decode cX8_in 3 = .ok (.ifCond .lt 14, 3) := by decide +kernel
theorem dX8_in_6 : decode cX8_in 6 = .ok (.lload_n 0, 1) := by decide +kernel
theorem dX8_in_7 : decode cX8_in 7 = .ok (.lload 4, 2) := by decide +kernel
theorem dX8_in_9 : decode cX8_in 9 = .ok (.lcmp, 1) := by decide +kernel
theorem dX8_in_10 : decode cX8_in 10 = .ok (.ifCond .gt 7, 3) := by decide +kernel
theorem dX8_in_13 : decode cX8_in 13 = .ok (.iconst 1, 1) := by decide +kernel
theorem dX8_in_14 : decode cX8_in 14 = .ok (.goto 4, 3) := by decide +kernel
theorem dX8_in_17 : decode cX8_in 17 = .ok (.iconst 0, 1) := by decide +kernel
theorem dX8_in_18 : decode cX8_in 18 = .ok (.ireturn, 1) := by decide +kernel
set_option maxRecDepth 20000 in
theorem ggX8_isRegister_X8_in : GoodIn wsX8_isRegister wsX8_in := goodIn_r _ [5] (by decide +kernel) (by decide +kernel)
set_option maxRecDepth 20000 in
theorem gX8_isRegister_X8_in : GoodIn wsX8_isRegister (va_wsS RX8 77 yX8_in wsX8_in) := goodIn_app (goodIn_of _ (by decide +kernel)) ggX8_isRegister_X8_in
theorem dX8_isRegister_0 : decode cX8_isRegister 0 = .ok (.iload_n 0, 1) := by decide +kernel
theorem dX8_isRegister_1 : decode cX8_isRegister 1 = .ok (.i2l, 1) := by decide +kernel
theorem dX8_isRegister_2 : decode cX8_isRegister 2 = .ok (.lconst 0, 1) := by decide +kernel
theorem dX8_isRegister_3 : decode cX8_isRegister 3 = .ok (.ldc2_w 75, 3) := by decide +kernel
theorem dX8_isRegister_6 : decode cX8_isRegister 6 = .ok (.invokestatic 77, 3) := by decide +kernel
theorem dX8_isRegister_9 : decode cX8_isRegister 9 = .ok (.ireturn, 1) := by decide +kernel
set_option maxRecDepth 20000 in
theorem ggX8_isOctet_X8_in : GoodIn wsX8_isOctet wsX8_in := goodIn_r _ [5] (by decide +kernel) (by decide +kernel)
set_option maxRecDepth 20000 in
theorem gX8_isOctet_X8_in : GoodIn wsX8_isOctet (va_wsS RX8 77 yX8_in wsX8_in) := goodIn_app (goodIn_of _ (by decide +kernel)) ggX8_isOctet_X8_in
theorem dX8_isOctet_0 : decode cX8_isOctet 0 = .ok (.iload_n 0, 1) := by decide +kernel
theorem dX8_isOctet_1 : decode cX8_isOctet 1 = .ok (.i2l, 1) := by decide +kernel
theorem dX8_isOctet_2 : decode cX8_isOctet 2 = .ok (.lconst 0, 1) := by decide +kernel
theorem dX8_isOctet_3 : decode cX8_isOctet 3 = .ok (.ldc2_w 81, 3) := by decide +kernel
theorem dX8_isOctet_6 : decode cX8_isOctet 6 = .ok (.invokestatic 77, 3) := by decide +kernel
theorem dX8_isOctet_9 : decode cX8_isOctet 9 = .ok (.ireturn, 1) := by decide +kernel
set_option maxRecDepth 20000 in
theorem ggX8_isGround_X8_in : GoodIn wsX8_isGround wsX8_in := goodIn_r _ [5] (by decide +kernel) (by decide +kernel)
set_option maxRecDepth 20000 in
theorem gX8_isGround_X8_in : GoodIn wsX8_isGround (va_wsS RX8 77 yX8_in wsX8_in) := goodIn_app (goodIn_of _ (by decide +kernel)) ggX8_isGround_X8_in
theorem dX8_isGround_0 : decode cX8_isGround 0 = .ok (.iload_n 1, 1) := by decide +kernel
theorem dX8_isGround_1 : decode cX8_isGround 1 = .ok (.i2l, 1) := by decide +kernel
theorem dX8_isGround_2 : decode cX8_isGround 2 = .ok (.lconst 0, 1) := by decide +kernel
theorem dX8_isGround_3 : decode cX8_isGround 3 = .ok (.aload_n 0, 1) := by decide +kernel
theorem dX8_isGround_4 : decode cX8_isGround 4 = .ok (.getfield 83, 3) := by decide +kernel
theorem dX8_isGround_7 : decode cX8_isGround 7 = .ok (.iconst 1, 1) := by decide +kernel
theorem dX8_isGround_8 : decode cX8_isGround 8 = .ok (.isub, 1) := by decide +kernel
theorem dX8_isGround_9 : decode cX8_isGround 9 = .ok (.i2l, 1) := by decide +kernel
theorem dX8_isGround_10 : decode cX8_isGround 10 = .ok (.invokestatic 77, 3) := by decide +kernel
theorem dX8_isGround_13 : decode cX8_isGround 13 = .ok (.ireturn, 1) := by decide +kernel
set_option maxRecDepth 20000 in
theorem ggX8_isByte_X8_in : GoodIn wsX8_isByte wsX8_in := goodIn_r _ [5] (by decide +kernel) (by decide +kernel)
set_option maxRecDepth 20000 in
theorem gX8_isByte_X8_in : GoodIn wsX8_isByte (va_wsS RX8 77 yX8_in wsX8_in) := goodIn_app (goodIn_of _ (by decide +kernel)) ggX8_isByte_X8_in
theorem dX8_isByte_0 : decode cX8_isByte 0 = .ok (.iload_n 0, 1) := by decide +kernel
theorem dX8_isByte_1 : decode cX8_isByte 1 = .ok (.i2l, 1) := by decide +kernel
theorem dX8_isByte_2 : decode cX8_isByte 2 = .ok (.lconst 0, 1) := by decide +kernel
theorem dX8_isByte_3 : decode cX8_isByte 3 = .ok (.ldc2_w 87, 3) := by decide +kernel
theorem dX8_isByte_6 : decode cX8_isByte 6 = .ok (.invokestatic 77, 3) := by decide +kernel
theorem dX8_isByte_9 : decode cX8_isByte 9 = .ok (.ireturn, 1) := by decide +kernel
theorem dX8_bits_0 : decode cX8_bits 0 = .ok (.iconst 0, 1) := by decide +kernel
theorem dX8_bits_1 : decode cX8_bits 1 = .ok (.istore_n 1, 1) := by decide +kernel
theorem dX8_bits_2 : decode cX8_bits 2 = .ok (.iconst 0, 1) := by decide +kernel
theorem dX8_bits_3 : decode cX8_bits 3 = .ok (.istore_n 2, 1) := by decide +kernel
theorem dX8_bits_4 : decode cX8_bits 4 = .ok (.iload_n 2, 1) := by decide +kernel
theorem dX8_bits_5 : decode cX8_bits 5 = .ok (.bipush 16, 2) := by decide +kernel
theorem dX8_bits_7 : decode cX8_bits 7 = .ok (.if_icmp .ge 17, 3) := by decide +kernel
theorem dX8_bits_10 : decode cX8_bits 10 = .ok (.iload_n 1, 1) := by decide +kernel
theorem dX8_bits_11 : decode cX8_bits 11 = .ok (.iload_n 0, 1) := by decide +kernel
theorem dX8_bits_12 : decode cX8_bits 12 = .ok (.iload_n 2, 1) := by decide +kernel
theorem dX8_bits_13 : decode cX8_bits 13 = .ok (.ishr, 1) := by decide +kernel
theorem dX8_bits_14 : decode cX8_bits 14 = .ok (.iconst 1, 1) := by decide +kernel
theorem dX8_bits_15 : decode cX8_bits 15 = .ok (.iand, 1) := by decide +kernel
theorem dX8_bits_16 : decode cX8_bits 16 = .ok (.iadd, 1) := by decide +kernel
theorem dX8_bits_17 : decode cX8_bits 17 = .ok (.istore_n 1, 1) := by decide +kernel
theorem dX8_bits_18 : decode cX8_bits 18 = .ok (.iinc 2 1, 3) := by decide +kernel
theorem dX8_bits_21 : decode cX8_bits 21 = .ok (.goto (-17), 3) := by decide +kernel
theorem dX8_bits_24 : decode cX8_bits 24 = .ok (.iload_n 1, 1) := by decide +kernel
theorem dX8_bits_25 : decode cX8_bits 25 = .ok (.ireturn, 1) := by decide +kernel
theorem dX8_start_0 : decode cX8_start 0 = .ok (.aload_n 0, 1) := by decide +kernel
theorem dX8_start_1 : decode cX8_start 1 = .ok (.getfield 89, 3) := by decide +kernel
theorem dX8_start_4 : decode cX8_start 4 = .ok (.istore_n 1, 1) := by decide +kernel
theorem dX8_start_5 : decode cX8_start 5 = .ok (.iconst 0, 1) := by decide +kernel
theorem dX8_start_6 : decode cX8_start 6 = .ok (.istore_n 2, 1) := by decide +kernel
theorem dX8_start_7 : decode cX8_start 7 = .ok (.iload_n 2, 1) := by decide +kernel
theorem dX8_start_8 : decode cX8_start 8 = .ok (.bipush 40, 2) := by decide +kernel
theorem dX8_start_10 : decode cX8_start 10 = .ok (.if_icmp .ge 30, 3) := by decide +kernel
theorem dX8_start_13 : decode cX8_start 13 = .ok (.aload_n 0, 1) := by decide +kernel
theorem dX8_start_14 : decode cX8_start 14 = .ok (.getfield 7, 3) := by decide +kernel
theorem dX8_start_17 : decode cX8_start 17 = .ok (.iload_n 2, 1) := by decide +kernel
theorem dX8_start_18 : decode cX8_start 18 = .ok (.iconst 0, 1) := by decide +kernel
theorem dX8_start_19 : decode cX8_start 19 = .ok (.iastore, 1) := by decide +kernel
theorem dX8_start_20 : decode cX8_start 20 = .ok (.aload_n 0, 1) := by decide +kernel
theorem dX8_start_21 : decode cX8_start 21 = .ok (.getfield 13, 3) := by decide +kernel
theorem dX8_start_24 : decode cX8_start 24 = .ok (.iload_n 2, 1) := by decide +kernel
theorem dX8_start_25 : decode cX8_start 25 = .ok (.iconst 0, 1) := by decide +kernel
theorem dX8_start_26 : decode cX8_start 26 = .ok (.iastore, 1) := by decide +kernel
theorem dX8_start_27 : decode cX8_start 27 = .ok (.aload_n 0, 1) := by decide +kernel
theorem dX8_start_28 : decode cX8_start 28 = .ok (.getfield 16, 3) := by decide +kernel
theorem dX8_start_31 : decode cX8_start 31 = .ok (.iload_n 2, 1) := by decide +kernel
theorem dX8_start_32 : decode cX8_start 32 = .ok (.iconst 0, 1) := by decide +kernel
theorem dX8_start_33 : decode cX8_start 33 = .ok (.iastore, 1) := by decide +kernel
theorem dX8_start_34 : decode cX8_start 34 = .ok (.iinc 2 1, 3) := by decide +kernel
theorem dX8_start_37 : decode cX8_start 37 = .ok (.goto (-30), 3) := by decide +kernel
theorem dX8_start_40 : decode cX8_start 40 = .ok (.iconst 0, 1) := by decide +kernel
theorem dX8_start_41 : decode cX8_start 41 = .ok (.istore_n 2, 1) := by decide +kernel
theorem dX8_start_42 : decode cX8_start 42 = .ok (.iload_n 2, 1) := by decide +kernel
theorem dX8_start_43 : decode cX8_start 43 = .ok (.bipush 32, 2) := by decide +kernel
theorem dX8_start_45 : decode cX8_start 45 = .ok (.if_icmp .ge 23, 3) := by decide +kernel
theorem dX8_start_48 : decode cX8_start 48 = .ok (.aload_n 0, 1) := by decide +kernel
theorem dX8_start_49 : decode cX8_start 49 = .ok (.getfield 19, 3) := by decide +kernel
theorem dX8_start_52 : decode cX8_start 52 = .ok (.iload_n 2, 1) := by decide +kernel
theorem dX8_start_53 : decode cX8_start 53 = .ok (.iconst 0, 1) := by decide +kernel
theorem dX8_start_54 : decode cX8_start 54 = .ok (.bastore, 1) := by decide +kernel
theorem dX8_start_55 : decode cX8_start 55 = .ok (.aload_n 0, 1) := by decide +kernel
theorem dX8_start_56 : decode cX8_start 56 = .ok (.getfield 23, 3) := by decide +kernel
theorem dX8_start_59 : decode cX8_start 59 = .ok (.iload_n 2, 1) := by decide +kernel
theorem dX8_start_60 : decode cX8_start 60 = .ok (.iconst (-1), 1) := by decide +kernel
theorem dX8_start_61 : decode cX8_start 61 = .ok (.iastore, 1) := by decide +kernel
theorem dX8_start_62 : decode cX8_start 62 = .ok (.iinc 2 1, 3) := by decide +kernel
theorem dX8_start_65 : decode cX8_start 65 = .ok (.goto (-23), 3) := by decide +kernel
theorem dX8_start_68 : decode cX8_start 68 = .ok (.aload_n 0, 1) := by decide +kernel
theorem dX8_start_69 : decode cX8_start 69 = .ok (.iconst 0, 1) := by decide +kernel
theorem dX8_start_70 : decode cX8_start 70 = .ok (.putfield 83, 3) := by decide +kernel
theorem dX8_start_73 : decode cX8_start 73 = .ok (.aload_n 0, 1) := by decide +kernel
theorem dX8_start_74 : decode cX8_start 74 = .ok (.iconst 1, 1) := by decide +kernel
theorem dX8_start_75 : decode cX8_start 75 = .ok (.putfield 92, 3) := by decide +kernel
theorem dX8_start_78 : decode cX8_start 78 = .ok (.aload_n 0, 1) := by decide +kernel
theorem dX8_start_79 : decode cX8_start 79 = .ok (.iconst 0, 1) := by decide +kernel
theorem dX8_start_80 : decode cX8_start 80 = .ok (.putfield 89, 3) := by decide +kernel
theorem dX8_start_83 : decode cX8_start 83 = .ok (.aload_n 0, 1) := by decide +kernel
theorem dX8_start_84 : decode cX8_start 84 = .ok (.iconst 0, 1) := by decide +kernel
theorem dX8_start_85 : decode cX8_start 85 = .ok (.putfield 95, 3) := by decide +kernel
theorem dX8_start_88 : decode cX8_start 88 = .ok (.aload_n 0, 1) := by decide +kernel
theorem dX8_start_89 : decode cX8_start 89 = .ok (.iconst 0, 1) := by decide +kernel
theorem dX8_start_90 : decode cX8_start 90 = .ok (.putfield 98, 3) := by decide +kernel
theorem dX8_start_93 : decode cX8_start 93 = .ok (.aload_n 0, 1) := by decide +kernel
theorem dX8_start_94 : decode cX8_start 94 = .ok (.lconst 0, 1) := by decide +kernel
theorem dX8_start_95 : decode cX8_start 95 = .ok (.putfield 101, 3) := by decide +kernel
theorem dX8_start_98 : decode cX8_start 98 = .ok (.aload_n 0, 1) := by decide +kernel
theorem dX8_start_99 : decode cX8_start 99 = .ok (.iconst 0, 1) := by decide +kernel
theorem dX8_start_100 : decode cX8_start 100 = .ok (.putfield 105, 3) := by decide +kernel
theorem dX8_start_103 : decode cX8_start 103 = .ok (.aload_n 0, 1) := by decide +kernel
theorem dX8_start_104 : decode cX8_start 104 = .ok (.iconst 0, 1) := by decide +kernel
theorem dX8_start_105 : decode cX8_start 105 = .ok (.putfield 108, 3) := by decide +kernel
theorem dX8_start_108 : decode cX8_start 108 = .ok (.aload_n 0, 1) := by decide +kernel
theorem dX8_start_109 : decode cX8_start 109 = .ok (.getfield 68, 3) := by decide +kernel
theorem dX8_start_112 : decode cX8_start 112 = .ok (.iconst 0, 1) := by decide +kernel
theorem dX8_start_113 : decode cX8_start 113 = .ok (.iconst 0, 1) := by decide +kernel
theorem dX8_start_114 : decode cX8_start 114 = .ok (.bastore, 1) := by decide +kernel
theorem dX8_start_115 : decode cX8_start 115 = .ok (.aload_n 0, 1) := by decide +kernel
theorem dX8_start_116 : decode cX8_start 116 = .ok (.getfield 68, 3) := by decide +kernel
theorem dX8_start_119 : decode cX8_start 119 = .ok (.iconst 1, 1) := by decide +kernel
theorem dX8_start_120 : decode cX8_start 120 = .ok (.iconst 0, 1) := by decide +kernel
theorem dX8_start_121 : decode cX8_start 121 = .ok (.bastore, 1) := by decide +kernel
theorem dX8_start_122 : decode cX8_start 122 = .ok (.iload_n 1, 1) := by decide +kernel
theorem dX8_start_123 : decode cX8_start 123 = .ok (.ireturn, 1) := by decide +kernel
theorem dX8_lotBy_0 : decode cX8_lotBy 0 = .ok (.aload_n 0, 1) := by decide +kernel
theorem dX8_lotBy_1 : decode cX8_lotBy 1 = .ok (.aload_n 0, 1) := by decide +kernel
theorem dX8_lotBy_2 : decode cX8_lotBy 2 = .ok (.getfield 92, 3) := by decide +kernel
theorem dX8_lotBy_5 : decode cX8_lotBy 5 = .ok (.i2l, 1) := by decide +kernel
theorem dX8_lotBy_6 : decode cX8_lotBy 6 = .ok (.ldc2_w 111, 3) := by decide +kernel
theorem dX8_lotBy_9 : decode cX8_lotBy 9 = .ok (.lmul, 1) := by decide +kernel
theorem dX8_lotBy_10 : decode cX8_lotBy 10 = .ok (.ldc2_w 113, 3) := by decide +kernel
theorem dX8_lotBy_13 : decode cX8_lotBy 13 = .ok (.lrem, 1) := by decide +kernel
theorem dX8_lotBy_14 : decode cX8_lotBy 14 = .ok (.l2i, 1) := by decide +kernel
theorem dX8_lotBy_15 : decode cX8_lotBy 15 = .ok (.putfield 92, 3) := by decide +kernel
theorem dX8_lotBy_18 : decode cX8_lotBy 18 = .ok (.aload_n 0, 1) := by decide +kernel
theorem dX8_lotBy_19 : decode cX8_lotBy 19 = .ok (.getfield 92, 3) := by decide +kernel
theorem dX8_lotBy_22 : decode cX8_lotBy 22 = .ok (.iload_n 1, 1) := by decide +kernel
theorem dX8_lotBy_23 : decode cX8_lotBy 23 = .ok (.irem, 1) := by decide +kernel
theorem dX8_lotBy_24 : decode cX8_lotBy 24 = .ok (.ireturn, 1) := by decide +kernel
theorem dX8_cries_0 : decode cX8_cries 0 = .ok (.aload_n 0, 1) := by decide +kernel
theorem dX8_cries_1 : decode cX8_cries 1 = .ok (.getfield 95, 3) := by decide +kernel
theorem dX8_cries_4 : decode cX8_cries 4 = .ok (.bipush 20, 2) := by decide +kernel
theorem dX8_cries_6 : decode cX8_cries 6 = .ok (.if_icmp .ge 36, 3) := by decide +kernel
theorem dX8_cries_9 : decode cX8_cries 9 = .ok (.aload_n 0, 1) := by decide +kernel
theorem dX8_cries_10 : decode cX8_cries 10 = .ok (.getfield 35, 3) := by decide +kernel
theorem dX8_cries_13 : decode cX8_cries 13 = .ok (.aload_n 0, 1) := by decide +kernel
theorem dX8_cries_14 : decode cX8_cries 14 = .ok (.getfield 95, 3) := by decide +kernel
theorem dX8_cries_17 : decode cX8_cries 17 = .ok (.iload_n 1, 1) := by decide +kernel
theorem dX8_cries_18 : decode cX8_cries 18 = .ok (.iastore, 1) := by decide +kernel
theorem dX8_cries_19 : decode cX8_cries 19 = .ok (.aload_n 0, 1) := by decide +kernel
theorem dX8_cries_20 : decode cX8_cries 20 = .ok (.getfield 38, 3) := by decide +kernel
theorem dX8_cries_23 : decode cX8_cries 23 = .ok (.aload_n 0, 1) := by decide +kernel
theorem dX8_cries_24 : decode cX8_cries 24 = .ok (.getfield 95, 3) := by decide +kernel
theorem dX8_cries_27 : decode cX8_cries 27 = .ok (.aload_n 0, 1) := by decide +kernel
theorem dX8_cries_28 : decode cX8_cries 28 = .ok (.getfield 89, 3) := by decide +kernel
theorem dX8_cries_31 : decode cX8_cries 31 = .ok (.iastore, 1) := by decide +kernel
theorem dX8_cries_32 : decode cX8_cries 32 = .ok (.aload_n 0, 1) := by decide +kernel
theorem dX8_cries_33 : decode cX8_cries 33 = .ok (.getfield 41, 3) := by decide +kernel
theorem dX8_cries_36 : decode cX8_cries 36 = .ok (.aload_n 0, 1) := by decide +kernel
theorem dX8_cries_37 : decode cX8_cries 37 = .ok (.getfield 95, 3) := by decide +kernel
theorem dX8_cries_40 : decode cX8_cries 40 = .ok (.iload_n 2, 1) := by decide +kernel
theorem dX8_cries_41 : decode cX8_cries 41 = .ok (.iastore, 1) := by decide +kernel
theorem dX8_cries_42 : decode cX8_cries 42 = .ok (.aload_n 0, 1) := by decide +kernel
theorem dX8_cries_43 : decode cX8_cries 43 = .ok (.dup, 1) := by decide +kernel
theorem dX8_cries_44 : decode cX8_cries 44 = .ok (.getfield 95, 3) := by decide +kernel
theorem dX8_cries_47 : decode cX8_cries 47 = .ok (.iconst 1, 1) := by decide +kernel
theorem dX8_cries_48 : decode cX8_cries 48 = .ok (.iadd, 1) := by decide +kernel
theorem dX8_cries_49 : decode cX8_cries 49 = .ok (.putfield 95, 3) := by decide +kernel
theorem dX8_cries_52 : decode cX8_cries 52 = .ok (.return_, 1) := by decide +kernel
theorem dX8_tick_0 : decode cX8_tick 0 = .ok (.bipush 15, 2) := by decide +kernel
theorem dX8_tick_2 : decode cX8_tick 2 = .ok (.istore_n 3, 1) := by decide +kernel
theorem dX8_tick_3 : decode cX8_tick 3 = .ok (.iload_n 3, 1) := by decide +kernel
theorem dX8_tick_4 : decode cX8_tick 4 = .ok (.ifCond .le 51, 3) := by decide +kernel
theorem dX8_tick_7 : decode cX8_tick 7 = .ok (.aload_n 0, 1) := by decide +kernel
theorem dX8_tick_8 : decode cX8_tick 8 = .ok (.getfield 44, 3) := by decide +kernel
theorem dX8_tick_11 : decode cX8_tick 11 = .ok (.iload_n 3, 1) := by decide +kernel
theorem dX8_tick_12 : decode cX8_tick 12 = .ok (.aload_n 0, 1) := by decide +kernel
theorem dX8_tick_13 : decode cX8_tick 13 = .ok (.getfield 44, 3) := by decide +kernel
theorem dX8_tick_16 : decode cX8_tick 16 = .ok (.iload_n 3, 1) := by decide +kernel
theorem dX8_tick_17 : decode cX8_tick 17 = .ok (.iconst 1, 1) := by decide +kernel
theorem dX8_tick_18 : decode cX8_tick 18 = .ok (.isub, 1) := by decide +kernel
theorem dX8_tick_19 : decode cX8_tick 19 = .ok (.iaload, 1) := by decide +kernel
theorem dX8_tick_20 : decode cX8_tick 20 = .ok (.iastore, 1) := by decide +kernel
theorem dX8_tick_21 : decode cX8_tick 21 = .ok (.aload_n 0, 1) := by decide +kernel
theorem dX8_tick_22 : decode cX8_tick 22 = .ok (.getfield 47, 3) := by decide +kernel
theorem dX8_tick_25 : decode cX8_tick 25 = .ok (.iload_n 3, 1) := by decide +kernel
theorem dX8_tick_26 : decode cX8_tick 26 = .ok (.aload_n 0, 1) := by decide +kernel
theorem dX8_tick_27 : decode cX8_tick 27 = .ok (.getfield 47, 3) := by decide +kernel
theorem dX8_tick_30 : decode cX8_tick 30 = .ok (.iload_n 3, 1) := by decide +kernel
theorem dX8_tick_31 : decode cX8_tick 31 = .ok (.iconst 1, 1) := by decide +kernel
theorem dX8_tick_32 : decode cX8_tick 32 = .ok (.isub, 1) := by decide +kernel
theorem dX8_tick_33 : decode cX8_tick 33 = .ok (.iaload, 1) := by decide +kernel
theorem dX8_tick_34 : decode cX8_tick 34 = .ok (.iastore, 1) := by decide +kernel
theorem dX8_tick_35 : decode cX8_tick 35 = .ok (.aload_n 0, 1) := by decide +kernel
theorem dX8_tick_36 : decode cX8_tick 36 = .ok (.getfield 50, 3) := by decide +kernel
theorem dX8_tick_39 : decode cX8_tick 39 = .ok (.iload_n 3, 1) := by decide +kernel
theorem dX8_tick_40 : decode cX8_tick 40 = .ok (.aload_n 0, 1) := by decide +kernel
theorem dX8_tick_41 : decode cX8_tick 41 = .ok (.getfield 50, 3) := by decide +kernel
theorem dX8_tick_44 : decode cX8_tick 44 = .ok (.iload_n 3, 1) := by decide +kernel
theorem dX8_tick_45 : decode cX8_tick 45 = .ok (.iconst 1, 1) := by decide +kernel
theorem dX8_tick_46 : decode cX8_tick 46 = .ok (.isub, 1) := by decide +kernel
theorem dX8_tick_47 : decode cX8_tick 47 = .ok (.iaload, 1) := by decide +kernel
theorem dX8_tick_48 : decode cX8_tick 48 = .ok (.iastore, 1) := by decide +kernel
theorem dX8_tick_49 : decode cX8_tick 49 = .ok (.iinc 3 (-1), 3) := by decide +kernel
theorem dX8_tick_52 : decode cX8_tick 52 = .ok (.goto (-49), 3) := by decide +kernel
theorem dX8_tick_55 : decode cX8_tick 55 = .ok (.aload_n 0, 1) := by decide +kernel
theorem dX8_tick_56 : decode cX8_tick 56 = .ok (.getfield 44, 3) := by decide +kernel
theorem dX8_tick_59 : decode cX8_tick 59 = .ok (.iconst 0, 1) := by decide +kernel
theorem dX8_tick_60 : decode cX8_tick 60 = .ok (.iload_n 1, 1) := by decide +kernel
theorem dX8_tick_61 : decode cX8_tick 61 = .ok (.iastore, 1) := by decide +kernel
theorem dX8_tick_62 : decode cX8_tick 62 = .ok (.aload_n 0, 1) := by decide +kernel
theorem dX8_tick_63 : decode cX8_tick 63 = .ok (.getfield 47, 3) := by decide +kernel
theorem dX8_tick_66 : decode cX8_tick 66 = .ok (.iconst 0, 1) := by decide +kernel
theorem dX8_tick_67 : decode cX8_tick 67 = .ok (.aload_n 0, 1) := by decide +kernel
theorem dX8_tick_68 : decode cX8_tick 68 = .ok (.getfield 89, 3) := by decide +kernel
theorem dX8_tick_71 : decode cX8_tick 71 = .ok (.iastore, 1) := by decide +kernel
theorem dX8_tick_72 : decode cX8_tick 72 = .ok (.aload_n 0, 1) := by decide +kernel
theorem dX8_tick_73 : decode cX8_tick 73 = .ok (.getfield 50, 3) := by decide +kernel
theorem dX8_tick_76 : decode cX8_tick 76 = .ok (.iconst 0, 1) := by decide +kernel
theorem dX8_tick_77 : decode cX8_tick 77 = .ok (.iload_n 2, 1) := by decide +kernel
theorem dX8_tick_78 : decode cX8_tick 78 = .ok (.iastore, 1) := by decide +kernel
theorem dX8_tick_79 : decode cX8_tick 79 = .ok (.aload_n 0, 1) := by decide +kernel
theorem dX8_tick_80 : decode cX8_tick 80 = .ok (.dup, 1) := by decide +kernel
theorem dX8_tick_81 : decode cX8_tick 81 = .ok (.getfield 105, 3) := by decide +kernel
theorem dX8_tick_84 : decode cX8_tick 84 = .ok (.aload_n 0, 1) := by decide +kernel
theorem dX8_tick_85 : decode cX8_tick 85 = .ok (.getfield 105, 3) := by decide +kernel
theorem dX8_tick_88 : decode cX8_tick 88 = .ok (.bipush 16, 2) := by decide +kernel
theorem dX8_tick_90 : decode cX8_tick 90 = .ok (.if_icmp .ge 7, 3) := by decide +kernel
theorem dX8_tick_93 : decode cX8_tick 93 = .ok (.iconst 1, 1) := by decide +kernel
theorem dX8_tick_94 : decode cX8_tick 94 = .ok (.goto 4, 3) := by decide +kernel
theorem dX8_tick_97 : decode cX8_tick 97 = .ok (.iconst 0, 1) := by decide +kernel
theorem dX8_tick_98 : decode cX8_tick 98 = .ok (.iadd, 1) := by decide +kernel
theorem dX8_tick_99 : decode cX8_tick 99 = .ok (.putfield 105, 3) := by decide +kernel
theorem dX8_tick_102 : decode cX8_tick 102 = .ok (.aload_n 0, 1) := by decide +kernel
theorem dX8_tick_103 : decode cX8_tick 103 = .ok (.ldc2_w 81, 3) := by decide +kernel
theorem dX8_tick_106 : decode cX8_tick 106 = .ok (.aload_n 0, 1) := by decide +kernel
theorem dX8_tick_107 : decode cX8_tick 107 = .ok (.getfield 101, 3) := by decide +kernel
theorem dX8_tick_110 : decode cX8_tick 110 = .ok (.lmul, 1) := by decide +kernel
theorem dX8_tick_111 : decode cX8_tick 111 = .ok (.iload_n 2, 1) := by decide +kernel
theorem dX8_tick_112 : decode cX8_tick 112 = .ok (.i2l, 1) := by decide +kernel
theorem dX8_tick_113 : decode cX8_tick 113 = .ok (.ladd, 1) := by decide +kernel
theorem dX8_tick_114 : decode cX8_tick 114 = .ok (.putfield 101, 3) := by decide +kernel
theorem dX8_tick_117 : decode cX8_tick 117 = .ok (.aload_n 0, 1) := by decide +kernel
theorem dX8_tick_118 : decode cX8_tick 118 = .ok (.dup, 1) := by decide +kernel
theorem dX8_tick_119 : decode cX8_tick 119 = .ok (.getfield 89, 3) := by decide +kernel
theorem dX8_tick_122 : decode cX8_tick 122 = .ok (.iconst 1, 1) := by decide +kernel
theorem dX8_tick_123 : decode cX8_tick 123 = .ok (.iadd, 1) := by decide +kernel
theorem dX8_tick_124 : decode cX8_tick 124 = .ok (.putfield 89, 3) := by decide +kernel
theorem dX8_tick_127 : decode cX8_tick 127 = .ok (.iload_n 2, 1) := by decide +kernel
theorem dX8_tick_128 : decode cX8_tick 128 = .ok (.ireturn, 1) := by decide +kernel
theorem dX8_remember_0 : decode cX8_remember 0 = .ok (.aload_n 0, 1) := by decide +kernel
theorem dX8_remember_1 : decode cX8_remember 1 = .ok (.getfield 108, 3) := by decide +kernel
theorem dX8_remember_4 : decode cX8_remember 4 = .ok (.bipush 32, 2) := by decide +kernel
theorem dX8_remember_6 : decode cX8_remember 6 = .ok (.if_icmp .ne 83, 3) := by decide +kernel
theorem dX8_remember_9 : decode cX8_remember 9 = .ok (.iconst 1, 1) := by decide +kernel
theorem dX8_remember_10 : decode cX8_remember 10 = .ok (.istore_n 2, 1) := by decide +kernel
theorem dX8_remember_11 : decode cX8_remember 11 = .ok (.iload_n 2, 1) := by decide +kernel
theorem dX8_remember_12 : decode cX8_remember 12 = .ok (.bipush 32, 2) := by decide +kernel
theorem dX8_remember_14 : decode cX8_remember 14 = .ok (.if_icmp .ge 65, 3) := by decide +kernel
theorem dX8_remember_17 : decode cX8_remember 17 = .ok (.aload_n 0, 1) := by decide +kernel
theorem dX8_remember_18 : decode cX8_remember 18 = .ok (.getfield 53, 3) := by decide +kernel
theorem dX8_remember_21 : decode cX8_remember 21 = .ok (.iload_n 2, 1) := by decide +kernel
theorem dX8_remember_22 : decode cX8_remember 22 = .ok (.iconst 1, 1) := by decide +kernel
theorem dX8_remember_23 : decode cX8_remember 23 = .ok (.isub, 1) := by decide +kernel
theorem dX8_remember_24 : decode cX8_remember 24 = .ok (.aload_n 0, 1) := by decide +kernel
theorem dX8_remember_25 : decode cX8_remember 25 = .ok (.getfield 53, 3) := by decide +kernel
theorem dX8_remember_28 : decode cX8_remember 28 = .ok (.iload_n 2, 1) := by decide +kernel
theorem dX8_remember_29 : decode cX8_remember 29 = .ok (.iaload, 1) := by decide +kernel
theorem dX8_remember_30 : decode cX8_remember 30 = .ok (.iastore, 1) := by decide +kernel
theorem dX8_remember_31 : decode cX8_remember 31 = .ok (.aload_n 0, 1) := by decide +kernel
theorem dX8_remember_32 : decode cX8_remember 32 = .ok (.getfield 56, 3) := by decide +kernel
theorem dX8_remember_35 : decode cX8_remember 35 = .ok (.iload_n 2, 1) := by decide +kernel
theorem dX8_remember_36 : decode cX8_remember 36 = .ok (.iconst 1, 1) := by decide +kernel
theorem dX8_remember_37 : decode cX8_remember 37 = .ok (.isub, 1) := by decide +kernel
theorem dX8_remember_38 : decode cX8_remember 38 = .ok (.aload_n 0, 1) := by decide +kernel
theorem dX8_remember_39 : decode cX8_remember 39 = .ok (.getfield 56, 3) := by decide +kernel
theorem dX8_remember_42 : decode cX8_remember 42 = .ok (.iload_n 2, 1) := by decide +kernel
theorem dX8_remember_43 : decode cX8_remember 43 = .ok (.iaload, 1) := by decide +kernel
theorem dX8_remember_44 : decode cX8_remember 44 = .ok (.iastore, 1) := by decide +kernel
theorem dX8_remember_45 : decode cX8_remember 45 = .ok (.aload_n 0, 1) := by decide +kernel
theorem dX8_remember_46 : decode cX8_remember 46 = .ok (.getfield 59, 3) := by decide +kernel
theorem dX8_remember_49 : decode cX8_remember 49 = .ok (.iload_n 2, 1) := by decide +kernel
theorem dX8_remember_50 : decode cX8_remember 50 = .ok (.iconst 1, 1) := by decide +kernel
theorem dX8_remember_51 : decode cX8_remember 51 = .ok (.isub, 1) := by decide +kernel
theorem dX8_remember_52 : decode cX8_remember 52 = .ok (.aload_n 0, 1) := by decide +kernel
theorem dX8_remember_53 : decode cX8_remember 53 = .ok (.getfield 59, 3) := by decide +kernel
theorem dX8_remember_56 : decode cX8_remember 56 = .ok (.iload_n 2, 1) := by decide +kernel
theorem dX8_remember_57 : decode cX8_remember 57 = .ok (.iaload, 1) := by decide +kernel
theorem dX8_remember_58 : decode cX8_remember 58 = .ok (.iastore, 1) := by decide +kernel
theorem dX8_remember_59 : decode cX8_remember 59 = .ok (.aload_n 0, 1) := by decide +kernel
theorem dX8_remember_60 : decode cX8_remember 60 = .ok (.getfield 62, 3) := by decide +kernel
theorem dX8_remember_63 : decode cX8_remember 63 = .ok (.iload_n 2, 1) := by decide +kernel
theorem dX8_remember_64 : decode cX8_remember 64 = .ok (.iconst 1, 1) := by decide +kernel
theorem dX8_remember_65 : decode cX8_remember 65 = .ok (.isub, 1) := by decide +kernel
theorem dX8_remember_66 : decode cX8_remember 66 = .ok (.aload_n 0, 1) := by decide +kernel
theorem dX8_remember_67 : decode cX8_remember 67 = .ok (.getfield 62, 3) := by decide +kernel
theorem dX8_remember_70 : decode cX8_remember 70 = .ok (.iload_n 2, 1) := by decide +kernel
theorem dX8_remember_71 : decode cX8_remember 71 = .ok (.iaload, 1) := by decide +kernel
theorem dX8_remember_72 : decode cX8_remember 72 = .ok (.iastore, 1) := by decide +kernel
theorem dX8_remember_73 : decode cX8_remember 73 = .ok (.iinc 2 1, 3) := by decide +kernel
theorem dX8_remember_76 : decode cX8_remember 76 = .ok (.goto (-65), 3) := by decide +kernel
theorem dX8_remember_79 : decode cX8_remember 79 = .ok (.aload_n 0, 1) := by decide +kernel
end
section
theorem dX8_remember_80 : decode cX8_remember 80 = .ok (.dup, 1) := by decide +kernel
theorem dX8_remember_81 : decode cX8_remember 81 = .ok (.getfield 108, 3) := by decide +kernel
theorem dX8_remember_84 : decode cX8_remember 84 = .ok (.iconst 1, 1) := by decide +kernel
theorem dX8_remember_85 : decode cX8_remember 85 = .ok (.isub, 1) := by decide +kernel
theorem dX8_remember_86 : decode cX8_remember 86 = .ok (.putfield 108, 3) := by decide +kernel
theorem dX8_remember_89 : decode cX8_remember 89 = .ok (.aload_n 0, 1) := by decide +kernel
theorem dX8_remember_90 : decode cX8_remember 90 = .ok (.getfield 53, 3) := by decide +kernel
theorem dX8_remember_93 : decode cX8_remember 93 = .ok (.aload_n 0, 1) := by decide +kernel
theorem dX8_remember_94 : decode cX8_remember 94 = .ok (.getfield 108, 3) := by decide +kernel
theorem dX8_remember_97 : decode cX8_remember 97 = .ok (.iload_n 1, 1) := by decide +kernel
theorem dX8_remember_98 : decode cX8_remember 98 = .ok (.iastore, 1) := by decide +kernel
theorem dX8_remember_99 : decode cX8_remember 99 = .ok (.aload_n 0, 1) := by decide +kernel
theorem dX8_remember_100 : decode cX8_remember 100 = .ok (.getfield 56, 3) := by decide +kernel
theorem dX8_remember_103 : decode cX8_remember 103 = .ok (.aload_n 0, 1) := by decide +kernel
theorem dX8_remember_104 : decode cX8_remember 104 = .ok (.getfield 108, 3) := by decide +kernel
theorem dX8_remember_107 : decode cX8_remember 107 = .ok (.aload_n 0, 1) := by decide +kernel
theorem dX8_remember_108 : decode cX8_remember 108 = .ok (.getfield 7, 3) := by decide +kernel
theorem dX8_remember_111 : decode cX8_remember 111 = .ok (.iload_n 1, 1) := by decide +kernel
theorem dX8_remember_112 : decode cX8_remember 112 = .ok (.iaload, 1) := by decide +kernel
theorem dX8_remember_113 : decode cX8_remember 113 = .ok (.iastore, 1) := by decide +kernel
theorem dX8_remember_114 : decode cX8_remember 114 = .ok (.aload_n 0, 1) := by decide +kernel
theorem dX8_remember_115 : decode cX8_remember 115 = .ok (.getfield 59, 3) := by decide +kernel
theorem dX8_remember_118 : decode cX8_remember 118 = .ok (.aload_n 0, 1) := by decide +kernel
theorem dX8_remember_119 : decode cX8_remember 119 = .ok (.getfield 108, 3) := by decide +kernel
theorem dX8_remember_122 : decode cX8_remember 122 = .ok (.aload_n 0, 1) := by decide +kernel
theorem dX8_remember_123 : decode cX8_remember 123 = .ok (.getfield 13, 3) := by decide +kernel
theorem dX8_remember_126 : decode cX8_remember 126 = .ok (.iload_n 1, 1) := by decide +kernel
theorem dX8_remember_127 : decode cX8_remember 127 = .ok (.iaload, 1) := by decide +kernel
theorem dX8_remember_128 : decode cX8_remember 128 = .ok (.iastore, 1) := by decide +kernel
theorem dX8_remember_129 : decode cX8_remember 129 = .ok (.aload_n 0, 1) := by decide +kernel
theorem dX8_remember_130 : decode cX8_remember 130 = .ok (.getfield 62, 3) := by decide +kernel
theorem dX8_remember_133 : decode cX8_remember 133 = .ok (.aload_n 0, 1) := by decide +kernel
theorem dX8_remember_134 : decode cX8_remember 134 = .ok (.getfield 108, 3) := by decide +kernel
theorem dX8_remember_137 : decode cX8_remember 137 = .ok (.aload_n 0, 1) := by decide +kernel
theorem dX8_remember_138 : decode cX8_remember 138 = .ok (.getfield 16, 3) := by decide +kernel
theorem dX8_remember_141 : decode cX8_remember 141 = .ok (.iload_n 1, 1) := by decide +kernel
theorem dX8_remember_142 : decode cX8_remember 142 = .ok (.iaload, 1) := by decide +kernel
theorem dX8_remember_143 : decode cX8_remember 143 = .ok (.iastore, 1) := by decide +kernel
theorem dX8_remember_144 : decode cX8_remember 144 = .ok (.aload_n 0, 1) := by decide +kernel
theorem dX8_remember_145 : decode cX8_remember 145 = .ok (.dup, 1) := by decide +kernel
theorem dX8_remember_146 : decode cX8_remember 146 = .ok (.getfield 108, 3) := by decide +kernel
theorem dX8_remember_149 : decode cX8_remember 149 = .ok (.iconst 1, 1) := by decide +kernel
theorem dX8_remember_150 : decode cX8_remember 150 = .ok (.iadd, 1) := by decide +kernel
theorem dX8_remember_151 : decode cX8_remember 151 = .ok (.putfield 108, 3) := by decide +kernel
theorem dX8_remember_154 : decode cX8_remember 154 = .ok (.return_, 1) := by decide +kernel
set_option maxRecDepth 20000 in
theorem ggX8_become_X8_remember : GoodIn wsX8_become wsX8_remember := goodIn_r _ [8, 9, 10, 11, 12, 13, 1, 2, 3, 14, 15, 16, 17, 18, 19, 20, 21, 22, 23, 24, 25, 26, 27, 28, 29, 30, 31, 32, 33, 34, 35, 36, 37, 38, 39, 40, 41] (by decide +kernel) (by decide +kernel)
set_option maxRecDepth 20000 in
theorem gX8_become_X8_remember : GoodIn wsX8_become (wsV RX8 115 RX8 yX8_remember wsX8_remember) := goodIn_app (goodIn_of _ (by decide +kernel)) ggX8_become_X8_remember
theorem dX8_become_0 : decode cX8_become 0 = .ok (.aload_n 0, 1) := by decide +kernel
theorem dX8_become_1 : decode cX8_become 1 = .ok (.iload_n 1, 1) := by decide +kernel
theorem dX8_become_2 : decode cX8_become 2 = .ok (.invokevirtual 115, 3) := by decide +kernel
theorem dX8_become_5 : decode cX8_become 5 = .ok (.aload_n 0, 1) := by decide +kernel
theorem dX8_become_6 : decode cX8_become 6 = .ok (.getfield 7, 3) := by decide +kernel
theorem dX8_become_9 : decode cX8_become 9 = .ok (.iload_n 1, 1) := by decide +kernel
theorem dX8_become_10 : decode cX8_become 10 = .ok (.iload_n 2, 1) := by decide +kernel
theorem dX8_become_11 : decode cX8_become 11 = .ok (.iastore, 1) := by decide +kernel
theorem dX8_become_12 : decode cX8_become 12 = .ok (.aload_n 0, 1) := by decide +kernel
theorem dX8_become_13 : decode cX8_become 13 = .ok (.getfield 13, 3) := by decide +kernel
theorem dX8_become_16 : decode cX8_become 16 = .ok (.iload_n 1, 1) := by decide +kernel
theorem dX8_become_17 : decode cX8_become 17 = .ok (.iload_n 3, 1) := by decide +kernel
theorem dX8_become_18 : decode cX8_become 18 = .ok (.iastore, 1) := by decide +kernel
theorem dX8_become_19 : decode cX8_become 19 = .ok (.aload_n 0, 1) := by decide +kernel
theorem dX8_become_20 : decode cX8_become 20 = .ok (.getfield 16, 3) := by decide +kernel
theorem dX8_become_23 : decode cX8_become 23 = .ok (.iload_n 1, 1) := by decide +kernel
theorem dX8_become_24 : decode cX8_become 24 = .ok (.iload_n 3, 1) := by decide +kernel
theorem dX8_become_25 : decode cX8_become 25 = .ok (.ifCond .ne 7, 3) := by decide +kernel
theorem dX8_become_28 : decode cX8_become 28 = .ok (.iconst 0, 1) := by decide +kernel
theorem dX8_become_29 : decode cX8_become 29 = .ok (.goto 5, 3) := by decide +kernel
theorem dX8_become_32 : decode cX8_become 32 = .ok (.iload 4, 2) := by decide +kernel
theorem dX8_become_34 : decode cX8_become 34 = .ok (.iastore, 1) := by decide +kernel
theorem dX8_become_35 : decode cX8_become 35 = .ok (.iload_n 3, 1) := by decide +kernel
theorem dX8_become_36 : decode cX8_become 36 = .ok (.ireturn, 1) := by decide +kernel
set_option maxRecDepth 20000 in
theorem ggX8_set_X8_isRegister : GoodIn wsX8_set wsX8_isRegister := goodIn_r _ [7, 8, 9, 10, 6, 11] (by decide +kernel) (by decide +kernel)
set_option maxRecDepth 20000 in
theorem gX8_set_X8_isRegister : GoodIn wsX8_set (va_wsS RX8 119 yX8_isRegister wsX8_isRegister) := goodIn_app (goodIn_of _ (by decide +kernel)) ggX8_set_X8_isRegister
set_option maxRecDepth 20000 in
theorem ggX8_set_X8_isByte : GoodIn wsX8_set wsX8_isByte := goodIn_r _ [14, 15, 9, 10, 6, 11] (by decide +kernel) (by decide +kernel)
set_option maxRecDepth 20000 in
theorem gX8_set_X8_isByte : GoodIn wsX8_set (va_wsS RX8 124 yX8_isByte wsX8_isByte) := goodIn_app (goodIn_of _ (by decide +kernel)) ggX8_set_X8_isByte
set_option maxRecDepth 20000 in
theorem ggX8_set_X8_become : GoodIn wsX8_set wsX8_become := goodIn_r _ [19, 3, 20, 21, 22, 23, 24, 6, 25, 26, 27, 28, 29, 30, 42, 43, 44, 45, 46, 47, 48, 49, 50, 51, 52, 53, 54, 55, 56, 57, 58, 59, 60, 61, 62, 63, 64, 65, 66, 67, 68, 69] (by decide +kernel) (by decide +kernel)
set_option maxRecDepth 20000 in
theorem gX8_set_X8_become : GoodIn wsX8_set (wsV RX8 128 RX8 yX8_become wsX8_become) := goodIn_app (goodIn_of _ (by decide +kernel)) ggX8_set_X8_become
set_option maxRecDepth 20000 in
theorem ggX8_set_X8_tick : GoodIn wsX8_set wsX8_tick := goodIn_r _ [34, 35, 36, 37, 38, 39, 40, 41, 42, 43, 44, 45, 46, 47, 48, 49, 50, 51, 52, 53, 54, 55, 56, 57, 58, 59, 60, 61, 62, 63, 64, 65, 66, 67, 68, 69] (by decide +kernel) (by decide +kernel)
set_option maxRecDepth 20000 in
theorem gX8_set_X8_tick : GoodIn wsX8_set (wsV RX8 132 RX8 yX8_tick wsX8_tick) := goodIn_app (goodIn_of _ (by decide +kernel)) ggX8_set_X8_tick
theorem dX8_set_0 : decode cX8_set 0 = .ok (.iload_n 1, 1) := by decide +kernel
theorem dX8_set_1 : decode cX8_set 1 = .ok (.invokestatic 119, 3) := by decide +kernel
theorem dX8_set_4 : decode cX8_set 4 = .ok (.ifCond .ne 6, 3) := by decide +kernel
theorem dX8_set_7 : decode cX8_set 7 = .ok (.ldc 123, 2) := by decide +kernel
theorem dX8_set_9 : decode cX8_set 9 = .ok (.ireturn, 1) := by decide +kernel
theorem dX8_set_10 : decode cX8_set 10 = .ok (.iload_n 2, 1) := by decide +kernel
theorem dX8_set_11 : decode cX8_set 11 = .ok (.invokestatic 124, 3) := by decide +kernel
theorem dX8_set_14 : decode cX8_set 14 = .ok (.ifCond .ne 6, 3) := by decide +kernel
theorem dX8_set_17 : decode cX8_set 17 = .ok (.ldc 127, 2) := by decide +kernel
theorem dX8_set_19 : decode cX8_set 19 = .ok (.ireturn, 1) := by decide +kernel
theorem dX8_set_20 : decode cX8_set 20 = .ok (.aload_n 0, 1) := by decide +kernel
theorem dX8_set_21 : decode cX8_set 21 = .ok (.getfield 7, 3) := by decide +kernel
theorem dX8_set_24 : decode cX8_set 24 = .ok (.iload_n 1, 1) := by decide +kernel
theorem dX8_set_25 : decode cX8_set 25 = .ok (.iaload, 1) := by decide +kernel
theorem dX8_set_26 : decode cX8_set 26 = .ok (.istore_n 3, 1) := by decide +kernel
theorem dX8_set_27 : decode cX8_set 27 = .ok (.aload_n 0, 1) := by decide +kernel
theorem dX8_set_28 : decode cX8_set 28 = .ok (.iload_n 1, 1) := by decide +kernel
theorem dX8_set_29 : decode cX8_set 29 = .ok (.iload_n 2, 1) := by decide +kernel
theorem dX8_set_30 : decode cX8_set 30 = .ok (.iconst 0, 1) := by decide +kernel
theorem dX8_set_31 : decode cX8_set 31 = .ok (.iconst 0, 1) := by decide +kernel
theorem dX8_set_32 : decode cX8_set 32 = .ok (.invokevirtual 128, 3) := by decide +kernel
theorem dX8_set_35 : decode cX8_set 35 = .ok (.istore 4, 2) := by decide +kernel
theorem dX8_set_37 : decode cX8_set 37 = .ok (.aload_n 0, 1) := by decide +kernel
theorem dX8_set_38 : decode cX8_set 38 = .ok (.iconst 0, 1) := by decide +kernel
theorem dX8_set_39 : decode cX8_set 39 = .ok (.iload_n 3, 1) := by decide +kernel
theorem dX8_set_40 : decode cX8_set 40 = .ok (.iload 4, 2) := by decide +kernel
theorem dX8_set_42 : decode cX8_set 42 = .ok (.iadd, 1) := by decide +kernel
theorem dX8_set_43 : decode cX8_set 43 = .ok (.invokevirtual 132, 3) := by decide +kernel
theorem dX8_set_46 : decode cX8_set 46 = .ok (.ireturn, 1) := by decide +kernel
set_option maxRecDepth 20000 in
theorem ggX8_forget_X8_isRegister : GoodIn wsX8_forget wsX8_isRegister := goodIn_r _ [10, 11, 12, 13, 9, 14] (by decide +kernel) (by decide +kernel)
set_option maxRecDepth 20000 in
theorem gX8_forget_X8_isRegister : GoodIn wsX8_forget (va_wsS RX8 119 yX8_isRegister wsX8_isRegister) := goodIn_app (goodIn_of _ (by decide +kernel)) ggX8_forget_X8_isRegister
set_option maxRecDepth 20000 in
theorem ggX8_forget_X8_isGround : GoodIn wsX8_forget wsX8_isGround := goodIn_r _ [18, 19, 12, 13, 9, 14, 44, 45, 46, 47, 48, 49, 50, 51, 52, 53, 54, 55, 56, 57, 58, 59, 60, 61, 62, 63, 64, 65, 66, 67, 68, 69, 70, 71] (by decide +kernel) (by decide +kernel)
set_option maxRecDepth 20000 in
theorem gX8_forget_X8_isGround : GoodIn wsX8_forget (wsV RX8 136 RX8 yX8_isGround wsX8_isGround) := goodIn_app (goodIn_of _ (by decide +kernel)) ggX8_forget_X8_isGround
set_option maxRecDepth 20000 in
theorem ggX8_forget_X8_in : GoodIn wsX8_forget wsX8_in := goodIn_r _ [14] (by decide +kernel) (by decide +kernel)
set_option maxRecDepth 20000 in
theorem gX8_forget_X8_in : GoodIn wsX8_forget (va_wsS RX8 77 yX8_in wsX8_in) := goodIn_app (goodIn_of _ (by decide +kernel)) ggX8_forget_X8_in
set_option maxRecDepth 20000 in
theorem ggX8_forget_X8_become : GoodIn wsX8_forget wsX8_become := goodIn_r _ [23, 4, 5, 6, 24, 25, 26, 9, 27, 28, 29, 30, 31, 32, 44, 45, 46, 47, 48, 49, 50, 51, 52, 53, 54, 55, 56, 57, 58, 59, 60, 61, 62, 63, 64, 65, 66, 67, 68, 69, 70, 71] (by decide +kernel) (by decide +kernel)
set_option maxRecDepth 20000 in
theorem gX8_forget_X8_become : GoodIn wsX8_forget (wsV RX8 128 RX8 yX8_become wsX8_become) := goodIn_app (goodIn_of _ (by decide +kernel)) ggX8_forget_X8_become
set_option maxRecDepth 20000 in
theorem ggX8_forget_X8_tick : GoodIn wsX8_forget wsX8_tick := goodIn_r _ [36, 37, 38, 39, 40, 41, 42, 43, 44, 45, 46, 47, 48, 49, 50, 51, 52, 53, 54, 55, 56, 57, 58, 59, 60, 61, 62, 63, 64, 65, 66, 67, 68, 69, 70, 71] (by decide +kernel) (by decide +kernel)
set_option maxRecDepth 20000 in
theorem gX8_forget_X8_tick : GoodIn wsX8_forget (wsV RX8 132 RX8 yX8_tick wsX8_tick) := goodIn_app (goodIn_of _ (by decide +kernel)) ggX8_forget_X8_tick
theorem dX8_forget_0 : decode cX8_forget 0 = .ok (.iload_n 1, 1) := by decide +kernel
theorem dX8_forget_1 : decode cX8_forget 1 = .ok (.invokestatic 119, 3) := by decide +kernel
theorem dX8_forget_4 : decode cX8_forget 4 = .ok (.ifCond .eq 11, 3) := by decide +kernel
theorem dX8_forget_7 : decode cX8_forget 7 = .ok (.aload_n 0, 1) := by decide +kernel
theorem dX8_forget_8 : decode cX8_forget 8 = .ok (.iload_n 3, 1) := by decide +kernel
theorem dX8_forget_9 : decode cX8_forget 9 = .ok (.invokevirtual 136, 3) := by decide +kernel
theorem dX8_forget_12 : decode cX8_forget 12 = .ok (.ifCond .ne 6, 3) := by decide +kernel
theorem dX8_forget_15 : decode cX8_forget 15 = .ok (.ldc 123, 2) := by decide +kernel
theorem dX8_forget_17 : decode cX8_forget 17 = .ok (.ireturn, 1) := by decide +kernel
theorem dX8_forget_18 : decode cX8_forget 18 = .ok (.iload_n 2, 1) := by decide +kernel
theorem dX8_forget_19 : decode cX8_forget 19 = .ok (.i2l, 1) := by decide +kernel
theorem dX8_forget_20 : decode cX8_forget 20 = .ok (.lconst 1, 1) := by decide +kernel
theorem dX8_forget_21 : decode cX8_forget 21 = .ok (.ldc2_w 87, 3) := by decide +kernel
theorem dX8_forget_24 : decode cX8_forget 24 = .ok (.invokestatic 77, 3) := by decide +kernel
theorem dX8_forget_27 : decode cX8_forget 27 = .ok (.ifCond .ne 6, 3) := by decide +kernel
theorem dX8_forget_30 : decode cX8_forget 30 = .ok (.ldc 127, 2) := by decide +kernel
theorem dX8_forget_32 : decode cX8_forget 32 = .ok (.ireturn, 1) := by decide +kernel
theorem dX8_forget_33 : decode cX8_forget 33 = .ok (.aload_n 0, 1) := by decide +kernel
theorem dX8_forget_34 : decode cX8_forget 34 = .ok (.bipush 11, 2) := by decide +kernel
theorem dX8_forget_36 : decode cX8_forget 36 = .ok (.aload_n 0, 1) := by decide +kernel
theorem dX8_forget_37 : decode cX8_forget 37 = .ok (.iload_n 1, 1) := by decide +kernel
theorem dX8_forget_38 : decode cX8_forget 38 = .ok (.aload_n 0, 1) := by decide +kernel
theorem dX8_forget_39 : decode cX8_forget 39 = .ok (.getfield 7, 3) := by decide +kernel
theorem dX8_forget_42 : decode cX8_forget 42 = .ok (.iload_n 1, 1) := by decide +kernel
theorem dX8_forget_43 : decode cX8_forget 43 = .ok (.iaload, 1) := by decide +kernel
theorem dX8_forget_44 : decode cX8_forget 44 = .ok (.aload_n 0, 1) := by decide +kernel
theorem dX8_forget_45 : decode cX8_forget 45 = .ok (.getfield 13, 3) := by decide +kernel
theorem dX8_forget_48 : decode cX8_forget 48 = .ok (.iload_n 1, 1) := by decide +kernel
theorem dX8_forget_49 : decode cX8_forget 49 = .ok (.iaload, 1) := by decide +kernel
theorem dX8_forget_50 : decode cX8_forget 50 = .ok (.iload_n 2, 1) := by decide +kernel
theorem dX8_forget_51 : decode cX8_forget 51 = .ok (.ior, 1) := by decide +kernel
theorem dX8_forget_52 : decode cX8_forget 52 = .ok (.aload_n 0, 1) := by decide +kernel
theorem dX8_forget_53 : decode cX8_forget 53 = .ok (.getfield 16, 3) := by decide +kernel
theorem dX8_forget_56 : decode cX8_forget 56 = .ok (.iload_n 1, 1) := by decide +kernel
theorem dX8_forget_57 : decode cX8_forget 57 = .ok (.iaload, 1) := by decide +kernel
theorem dX8_forget_58 : decode cX8_forget 58 = .ok (.iconst 1, 1) := by decide +kernel
theorem dX8_forget_59 : decode cX8_forget 59 = .ok (.iload_n 3, 1) := by decide +kernel
theorem dX8_forget_60 : decode cX8_forget 60 = .ok (.ishl, 1) := by decide +kernel
theorem dX8_forget_61 : decode cX8_forget 61 = .ok (.ior, 1) := by decide +kernel
theorem dX8_forget_62 : decode cX8_forget 62 = .ok (.invokevirtual 128, 3) := by decide +kernel
theorem dX8_forget_65 : decode cX8_forget 65 = .ok (.invokevirtual 132, 3) := by decide +kernel
theorem dX8_forget_68 : decode cX8_forget 68 = .ok (.ireturn, 1) := by decide +kernel
set_option maxRecDepth 20000 in
theorem ggX8_copy_X8_isRegister : GoodIn wsX8_copy wsX8_isRegister := goodIn_r _ [8, 9, 10, 11, 7, 12] (by decide +kernel) (by decide +kernel)
set_option maxRecDepth 20000 in
theorem gX8_copy_X8_isRegister : GoodIn wsX8_copy (va_wsS RX8 119 yX8_isRegister wsX8_isRegister) := goodIn_app (goodIn_of _ (by decide +kernel)) ggX8_copy_X8_isRegister
set_option maxRecDepth 20000 in
theorem ggX8_copy_X8_become : GoodIn wsX8_copy wsX8_become := goodIn_r _ [16, 2, 3, 4, 17, 18, 19, 7, 20, 21, 22, 23, 24, 25, 37, 38, 39, 40, 41, 42, 43, 44, 45, 46, 47, 48, 49, 50, 51, 52, 53, 54, 55, 56, 57, 58, 59, 60, 61, 62, 63, 64] (by decide +kernel) (by decide +kernel)
set_option maxRecDepth 20000 in
theorem gX8_copy_X8_become : GoodIn wsX8_copy (wsV RX8 128 RX8 yX8_become wsX8_become) := goodIn_app (goodIn_of _ (by decide +kernel)) ggX8_copy_X8_become
set_option maxRecDepth 20000 in
theorem ggX8_copy_X8_tick : GoodIn wsX8_copy wsX8_tick := goodIn_r _ [29, 30, 31, 32, 33, 34, 35, 36, 37, 38, 39, 40, 41, 42, 43, 44, 45, 46, 47, 48, 49, 50, 51, 52, 53, 54, 55, 56, 57, 58, 59, 60, 61, 62, 63, 64] (by decide +kernel) (by decide +kernel)
set_option maxRecDepth 20000 in
theorem gX8_copy_X8_tick : GoodIn wsX8_copy (wsV RX8 132 RX8 yX8_tick wsX8_tick) := goodIn_app (goodIn_of _ (by decide +kernel)) ggX8_copy_X8_tick
theorem dX8_copy_0 : decode cX8_copy 0 = .ok (.iload_n 1, 1) := by decide +kernel
theorem dX8_copy_1 : decode cX8_copy 1 = .ok (.invokestatic 119, 3) := by decide +kernel
theorem dX8_copy_4 : decode cX8_copy 4 = .ok (.ifCond .eq 10, 3) := by decide +kernel
theorem dX8_copy_7 : decode cX8_copy 7 = .ok (.iload_n 2, 1) := by decide +kernel
theorem dX8_copy_8 : decode cX8_copy 8 = .ok (.invokestatic 119, 3) := by decide +kernel
theorem dX8_copy_11 : decode cX8_copy 11 = .ok (.ifCond .ne 6, 3) := by decide +kernel
theorem dX8_copy_14 : decode cX8_copy 14 = .ok (.ldc 123, 2) := by decide +kernel
theorem dX8_copy_16 : decode cX8_copy 16 = .ok (.ireturn, 1) := by decide +kernel
theorem dX8_copy_17 : decode cX8_copy 17 = .ok (.aload_n 0, 1) := by decide +kernel
theorem dX8_copy_18 : decode cX8_copy 18 = .ok (.iconst 1, 1) := by decide +kernel
theorem dX8_copy_19 : decode cX8_copy 19 = .ok (.aload_n 0, 1) := by decide +kernel
theorem dX8_copy_20 : decode cX8_copy 20 = .ok (.iload_n 1, 1) := by decide +kernel
theorem dX8_copy_21 : decode cX8_copy 21 = .ok (.aload_n 0, 1) := by decide +kernel
theorem dX8_copy_22 : decode cX8_copy 22 = .ok (.getfield 7, 3) := by decide +kernel
theorem dX8_copy_25 : decode cX8_copy 25 = .ok (.iload_n 2, 1) := by decide +kernel
theorem dX8_copy_26 : decode cX8_copy 26 = .ok (.iaload, 1) := by decide +kernel
theorem dX8_copy_27 : decode cX8_copy 27 = .ok (.aload_n 0, 1) := by decide +kernel
theorem dX8_copy_28 : decode cX8_copy 28 = .ok (.getfield 13, 3) := by decide +kernel
theorem dX8_copy_31 : decode cX8_copy 31 = .ok (.iload_n 2, 1) := by decide +kernel
theorem dX8_copy_32 : decode cX8_copy 32 = .ok (.iaload, 1) := by decide +kernel
theorem dX8_copy_33 : decode cX8_copy 33 = .ok (.aload_n 0, 1) := by decide +kernel
theorem dX8_copy_34 : decode cX8_copy 34 = .ok (.getfield 16, 3) := by decide +kernel
theorem dX8_copy_37 : decode cX8_copy 37 = .ok (.iload_n 2, 1) := by decide +kernel
theorem dX8_copy_38 : decode cX8_copy 38 = .ok (.iaload, 1) := by decide +kernel
theorem dX8_copy_39 : decode cX8_copy 39 = .ok (.invokevirtual 128, 3) := by decide +kernel
theorem dX8_copy_42 : decode cX8_copy 42 = .ok (.invokevirtual 132, 3) := by decide +kernel
theorem dX8_copy_45 : decode cX8_copy 45 = .ok (.ireturn, 1) := by decide +kernel
set_option maxRecDepth 20000 in
theorem ggX8_read_X8_cries : GoodIn wsX8_read wsX8_cries := goodIn_r _ [7, 8, 9, 10, 11, 12, 13, 14, 15, 16, 17, 18, 19, 20, 21, 22, 23, 24, 25, 26, 27, 28, 29, 30, 31, 32, 33, 34, 35, 36, 37, 38, 39, 40] (by decide +kernel) (by decide +kernel)
set_option maxRecDepth 20000 in
theorem gX8_read_X8_cries : GoodIn wsX8_read (wsV RX8 139 RX8 yX8_cries wsX8_cries) := goodIn_app (goodIn_of _ (by decide +kernel)) ggX8_read_X8_cries
theorem dX8_read_0 : decode cX8_read 0 = .ok (.aload_n 0, 1) := by decide +kernel
theorem dX8_read_1 : decode cX8_read 1 = .ok (.getfield 19, 3) := by decide +kernel
theorem dX8_read_4 : decode cX8_read 4 = .ok (.iload_n 1, 1) := by decide +kernel
theorem dX8_read_5 : decode cX8_read 5 = .ok (.baload, 1) := by decide +kernel
theorem dX8_read_6 : decode cX8_read 6 = .ok (.ifCond .eq 16, 3) := by decide +kernel
theorem dX8_read_9 : decode cX8_read 9 = .ok (.aload_n 0, 1) := by decide +kernel
theorem dX8_read_10 : decode cX8_read 10 = .ok (.iconst 2, 1) := by decide +kernel
theorem dX8_read_11 : decode cX8_read 11 = .ok (.iconst 1, 1) := by decide +kernel
theorem dX8_read_12 : decode cX8_read 12 = .ok (.aload_n 0, 1) := by decide +kernel
theorem dX8_read_13 : decode cX8_read 13 = .ok (.getfield 23, 3) := by decide +kernel
theorem dX8_read_16 : decode cX8_read 16 = .ok (.iload_n 1, 1) := by decide +kernel
theorem dX8_read_17 : decode cX8_read 17 = .ok (.iaload, 1) := by decide +kernel
theorem dX8_read_18 : decode cX8_read 18 = .ok (.ishl, 1) := by decide +kernel
theorem dX8_read_19 : decode cX8_read 19 = .ok (.invokevirtual 139, 3) := by decide +kernel
theorem dX8_read_22 : decode cX8_read 22 = .ok (.return_, 1) := by decide +kernel
set_option maxRecDepth 20000 in
theorem ggX8_loadNow_X8_read : GoodIn wsX8_loadNow wsX8_read := goodIn_r _ [8, 9, 10, 11, 12, 13, 7, 14, 15, 16, 17, 18, 19, 33, 34, 35, 36, 37, 38, 39, 40, 41, 42, 43, 44, 45, 46, 47, 48, 49, 50, 51, 52, 53, 54, 55, 56, 57, 58, 59, 60] (by decide +kernel) (by decide +kernel)
set_option maxRecDepth 20000 in
theorem gX8_loadNow_X8_read : GoodIn wsX8_loadNow (wsV RX8 143 RX8 yX8_read wsX8_read) := goodIn_app (goodIn_of _ (by decide +kernel)) ggX8_loadNow_X8_read
set_option maxRecDepth 20000 in
theorem ggX8_loadNow_X8_become : GoodIn wsX8_loadNow wsX8_become := goodIn_r _ [23, 1, 2, 3, 24, 25, 26, 7, 27, 28, 29, 30, 31, 32, 33, 34, 35, 36, 37, 38, 39, 40, 41, 42, 43, 44, 45, 46, 47, 48, 49, 50, 51, 52, 53, 54, 55, 56, 57, 58, 59, 60] (by decide +kernel) (by decide +kernel)
set_option maxRecDepth 20000 in
theorem gX8_loadNow_X8_become : GoodIn wsX8_loadNow (wsV RX8 128 RX8 yX8_become wsX8_become) := goodIn_app (goodIn_of _ (by decide +kernel)) ggX8_loadNow_X8_become
theorem dX8_loadNow_0 : decode cX8_loadNow 0 = .ok (.aload_n 0, 1) := by decide +kernel
theorem dX8_loadNow_1 : decode cX8_loadNow 1 = .ok (.iload_n 2, 1) := by decide +kernel
theorem dX8_loadNow_2 : decode cX8_loadNow 2 = .ok (.invokevirtual 143, 3) := by decide +kernel
theorem dX8_loadNow_5 : decode cX8_loadNow 5 = .ok (.bipush 8, 2) := by decide +kernel
theorem dX8_loadNow_7 : decode cX8_loadNow 7 = .ok (.iload_n 2, 1) := by decide +kernel
theorem dX8_loadNow_8 : decode cX8_loadNow 8 = .ok (.iadd, 1) := by decide +kernel
theorem dX8_loadNow_9 : decode cX8_loadNow 9 = .ok (.istore_n 3, 1) := by decide +kernel
theorem dX8_loadNow_10 : decode cX8_loadNow 10 = .ok (.aload_n 0, 1) := by decide +kernel
theorem dX8_loadNow_11 : decode cX8_loadNow 11 = .ok (.iload_n 1, 1) := by decide +kernel
theorem dX8_loadNow_12 : decode cX8_loadNow 12 = .ok (.aload_n 0, 1) := by decide +kernel
theorem dX8_loadNow_13 : decode cX8_loadNow 13 = .ok (.getfield 7, 3) := by decide +kernel
theorem dX8_loadNow_16 : decode cX8_loadNow 16 = .ok (.iload_n 3, 1) := by decide +kernel
theorem dX8_loadNow_17 : decode cX8_loadNow 17 = .ok (.iaload, 1) := by decide +kernel
theorem dX8_loadNow_18 : decode cX8_loadNow 18 = .ok (.aload_n 0, 1) := by decide +kernel
theorem dX8_loadNow_19 : decode cX8_loadNow 19 = .ok (.getfield 13, 3) := by decide +kernel
theorem dX8_loadNow_22 : decode cX8_loadNow 22 = .ok (.iload_n 3, 1) := by decide +kernel
theorem dX8_loadNow_23 : decode cX8_loadNow 23 = .ok (.iaload, 1) := by decide +kernel
theorem dX8_loadNow_24 : decode cX8_loadNow 24 = .ok (.aload_n 0, 1) := by decide +kernel
theorem dX8_loadNow_25 : decode cX8_loadNow 25 = .ok (.getfield 16, 3) := by decide +kernel
theorem dX8_loadNow_28 : decode cX8_loadNow 28 = .ok (.iload_n 3, 1) := by decide +kernel
theorem dX8_loadNow_29 : decode cX8_loadNow 29 = .ok (.iaload, 1) := by decide +kernel
theorem dX8_loadNow_30 : decode cX8_loadNow 30 = .ok (.invokevirtual 128, 3) := by decide +kernel
theorem dX8_loadNow_33 : decode cX8_loadNow 33 = .ok (.ireturn, 1) := by decide +kernel
set_option maxRecDepth 20000 in
theorem ggX8_load_X8_isRegister : GoodIn wsX8_load wsX8_isRegister := goodIn_r _ [5, 6, 7, 8, 4, 9] (by decide +kernel) (by decide +kernel)
set_option maxRecDepth 20000 in
theorem gX8_load_X8_isRegister : GoodIn wsX8_load (va_wsS RX8 119 yX8_isRegister wsX8_isRegister) := goodIn_app (goodIn_of _ (by decide +kernel)) ggX8_load_X8_isRegister
set_option maxRecDepth 20000 in
theorem ggX8_load_X8_isOctet : GoodIn wsX8_load wsX8_isOctet := goodIn_r _ [12, 13, 7, 8, 4, 9] (by decide +kernel) (by decide +kernel)
set_option maxRecDepth 20000 in
theorem gX8_load_X8_isOctet : GoodIn wsX8_load (va_wsS RX8 146 yX8_isOctet wsX8_isOctet) := goodIn_app (goodIn_of _ (by decide +kernel)) ggX8_load_X8_isOctet
set_option maxRecDepth 20000 in
theorem ggX8_load_X8_loadNow : GoodIn wsX8_load wsX8_loadNow := goodIn_r _ [17, 18, 19, 20, 21, 22, 23, 4, 24, 25, 26, 27, 28, 29, 30, 31, 32, 33, 34, 35, 36, 37, 38, 39, 40, 41, 42, 43, 44, 45, 46, 47, 48, 58, 59, 60, 61, 62, 63, 64, 65, 66, 67, 68, 69, 70, 71, 72, 73, 74, 75, 76, 77, 78, 79, 80, 81, 82, 83, 84, 85] (by decide +kernel) (by decide +kernel)
set_option maxRecDepth 20000 in
theorem gX8_load_X8_loadNow : GoodIn wsX8_load (wsV RX8 149 RX8 yX8_loadNow wsX8_loadNow) := goodIn_app (goodIn_of _ (by decide +kernel)) ggX8_load_X8_loadNow
set_option maxRecDepth 20000 in
theorem ggX8_load_X8_tick : GoodIn wsX8_load wsX8_tick := goodIn_r _ [52, 53, 54, 55, 34, 56, 13, 57, 58, 59, 60, 61, 62, 63, 64, 65, 66, 67, 68, 69, 70, 71, 72, 73, 74, 75, 76, 77, 78, 79, 80, 81, 82, 83, 84, 85] (by decide +kernel) (by decide +kernel)
set_option maxRecDepth 20000 in
theorem gX8_load_X8_tick : GoodIn wsX8_load (wsV RX8 132 RX8 yX8_tick wsX8_tick) := goodIn_app (goodIn_of _ (by decide +kernel)) ggX8_load_X8_tick
theorem dX8_load_0 : decode cX8_load 0 = .ok (.iload_n 1, 1) := by decide +kernel
theorem dX8_load_1 : decode cX8_load 1 = .ok (.invokestatic 119, 3) := by decide +kernel
theorem dX8_load_4 : decode cX8_load 4 = .ok (.ifCond .eq 10, 3) := by decide +kernel
theorem dX8_load_7 : decode cX8_load 7 = .ok (.iload_n 2, 1) := by decide +kernel
theorem dX8_load_8 : decode cX8_load 8 = .ok (.invokestatic 146, 3) := by decide +kernel
theorem dX8_load_11 : decode cX8_load 11 = .ok (.ifCond .ne 6, 3) := by decide +kernel
theorem dX8_load_14 : decode cX8_load 14 = .ok (.ldc 123, 2) := by decide +kernel
theorem dX8_load_16 : decode cX8_load 16 = .ok (.ireturn, 1) := by decide +kernel
theorem dX8_load_17 : decode cX8_load 17 = .ok (.aload_n 0, 1) := by decide +kernel
theorem dX8_load_18 : decode cX8_load 18 = .ok (.iconst 2, 1) := by decide +kernel
theorem dX8_load_19 : decode cX8_load 19 = .ok (.aload_n 0, 1) := by decide +kernel
theorem dX8_load_20 : decode cX8_load 20 = .ok (.iload_n 1, 1) := by decide +kernel
theorem dX8_load_21 : decode cX8_load 21 = .ok (.iload_n 2, 1) := by decide +kernel
theorem dX8_load_22 : decode cX8_load 22 = .ok (.invokevirtual 149, 3) := by decide +kernel
theorem dX8_load_25 : decode cX8_load 25 = .ok (.invokevirtual 132, 3) := by decide +kernel
theorem dX8_load_28 : decode cX8_load 28 = .ok (.ireturn, 1) := by decide +kernel
set_option maxRecDepth 20000 in
theorem ggX8_part_X8_isRegister : GoodIn wsX8_part wsX8_isRegister := goodIn_r _ [10, 11, 12, 13, 9, 14] (by decide +kernel) (by decide +kernel)
set_option maxRecDepth 20000 in
theorem gX8_part_X8_isRegister : GoodIn wsX8_part (va_wsS RX8 119 yX8_isRegister wsX8_isRegister) := goodIn_app (goodIn_of _ (by decide +kernel)) ggX8_part_X8_isRegister
set_option maxRecDepth 20000 in
theorem ggX8_part_X8_isOctet : GoodIn wsX8_part wsX8_isOctet := goodIn_r _ [17, 18, 12, 13, 9, 14] (by decide +kernel) (by decide +kernel)
set_option maxRecDepth 20000 in
theorem gX8_part_X8_isOctet : GoodIn wsX8_part (va_wsS RX8 146 yX8_isOctet wsX8_isOctet) := goodIn_app (goodIn_of _ (by decide +kernel)) ggX8_part_X8_isOctet
set_option maxRecDepth 20000 in
theorem ggX8_part_X8_in : GoodIn wsX8_part wsX8_in := goodIn_r _ [14] (by decide +kernel) (by decide +kernel)
set_option maxRecDepth 20000 in
theorem gX8_part_X8_in : GoodIn wsX8_part (va_wsS RX8 77 yX8_in wsX8_in) := goodIn_app (goodIn_of _ (by decide +kernel)) ggX8_part_X8_in
set_option maxRecDepth 20000 in
theorem ggX8_part_X8_read : GoodIn wsX8_part wsX8_read := goodIn_r _ [22, 23, 24, 25, 26, 27, 9, 28, 29, 30, 31, 32, 33, 56, 57, 58, 59, 60, 61, 62, 63, 64, 65, 66, 67, 68, 69, 70, 71, 72, 73, 74, 75, 76, 77, 78, 79, 80, 81, 82, 83] (by decide +kernel) (by decide +kernel)
set_option maxRecDepth 20000 in
theorem gX8_part_X8_read : GoodIn wsX8_part (wsV RX8 143 RX8 yX8_read wsX8_read) := goodIn_app (goodIn_of _ (by decide +kernel)) ggX8_part_X8_read
set_option maxRecDepth 20000 in
theorem ggX8_part_X8_become : GoodIn wsX8_part wsX8_become := goodIn_r _ [37, 4, 5, 6, 38, 39, 40, 9, 41, 42, 43, 44, 45, 46, 56, 57, 58, 59, 60, 61, 62, 63, 64, 65, 66, 67, 68, 69, 70, 71, 72, 73, 74, 75, 76, 77, 78, 79, 80, 81, 82, 83] (by decide +kernel) (by decide +kernel)
set_option maxRecDepth 20000 in
theorem gX8_part_X8_become : GoodIn wsX8_part (wsV RX8 128 RX8 yX8_become wsX8_become) := goodIn_app (goodIn_of _ (by decide +kernel)) ggX8_part_X8_become
set_option maxRecDepth 20000 in
theorem ggX8_part_X8_tick : GoodIn wsX8_part wsX8_tick := goodIn_r _ [50, 51, 52, 53, 32, 54, 18, 55, 56, 57, 58, 59, 60, 61, 62, 63, 64, 65, 66, 67, 68, 69, 70, 71, 72, 73, 74, 75, 76, 77, 78, 79, 80, 81, 82, 83] (by decide +kernel) (by decide +kernel)
set_option maxRecDepth 20000 in
theorem gX8_part_X8_tick : GoodIn wsX8_part (wsV RX8 132 RX8 yX8_tick wsX8_tick) := goodIn_app (goodIn_of _ (by decide +kernel)) ggX8_part_X8_tick
theorem dX8_part_0 : decode cX8_part 0 = .ok (.iload_n 1, 1) := by decide +kernel
theorem dX8_part_1 : decode cX8_part 1 = .ok (.invokestatic 119, 3) := by decide +kernel
theorem dX8_part_4 : decode cX8_part 4 = .ok (.ifCond .eq 10, 3) := by decide +kernel
theorem dX8_part_7 : decode cX8_part 7 = .ok (.iload_n 2, 1) := by decide +kernel
theorem dX8_part_8 : decode cX8_part 8 = .ok (.invokestatic 146, 3) := by decide +kernel
theorem dX8_part_11 : decode cX8_part 11 = .ok (.ifCond .ne 6, 3) := by decide +kernel
theorem dX8_part_14 : decode cX8_part 14 = .ok (.ldc 123, 2) := by decide +kernel
theorem dX8_part_16 : decode cX8_part 16 = .ok (.ireturn, 1) := by decide +kernel
theorem dX8_part_17 : decode cX8_part 17 = .ok (.iload 4, 2) := by decide +kernel
theorem dX8_part_19 : decode cX8_part 19 = .ok (.i2l, 1) := by decide +kernel
theorem dX8_part_20 : decode cX8_part 20 = .ok (.lconst 1, 1) := by decide +kernel
theorem dX8_part_21 : decode cX8_part 21 = .ok (.ldc2_w 152, 3) := by decide +kernel
theorem dX8_part_24 : decode cX8_part 24 = .ok (.invokestatic 77, 3) := by decide +kernel
theorem dX8_part_27 : decode cX8_part 27 = .ok (.ifCond .eq 18, 3) := by decide +kernel
theorem dX8_part_30 : decode cX8_part 30 = .ok (.iload_n 3, 1) := by decide +kernel
theorem dX8_part_31 : decode cX8_part 31 = .ok (.i2l, 1) := by decide +kernel
theorem dX8_part_32 : decode cX8_part 32 = .ok (.lconst 0, 1) := by decide +kernel
theorem dX8_part_33 : decode cX8_part 33 = .ok (.bipush 8, 2) := by decide +kernel
theorem dX8_part_35 : decode cX8_part 35 = .ok (.iload 4, 2) := by decide +kernel
theorem dX8_part_37 : decode cX8_part 37 = .ok (.isub, 1) := by decide +kernel
theorem dX8_part_38 : decode cX8_part 38 = .ok (.i2l, 1) := by decide +kernel
theorem dX8_part_39 : decode cX8_part 39 = .ok (.invokestatic 77, 3) := by decide +kernel
theorem dX8_part_42 : decode cX8_part 42 = .ok (.ifCond .ne 6, 3) := by decide +kernel
theorem dX8_part_45 : decode cX8_part 45 = .ok (.ldc 127, 2) := by decide +kernel
theorem dX8_part_47 : decode cX8_part 47 = .ok (.ireturn, 1) := by decide +kernel
theorem dX8_part_48 : decode cX8_part 48 = .ok (.aload_n 0, 1) := by decide +kernel
theorem dX8_part_49 : decode cX8_part 49 = .ok (.iload_n 2, 1) := by decide +kernel
theorem dX8_part_50 : decode cX8_part 50 = .ok (.invokevirtual 143, 3) := by decide +kernel
theorem dX8_part_53 : decode cX8_part 53 = .ok (.bipush 8, 2) := by decide +kernel
theorem dX8_part_55 : decode cX8_part 55 = .ok (.iload_n 2, 1) := by decide +kernel
theorem dX8_part_56 : decode cX8_part 56 = .ok (.iadd, 1) := by decide +kernel
theorem dX8_part_57 : decode cX8_part 57 = .ok (.istore 5, 2) := by decide +kernel
theorem dX8_part_59 : decode cX8_part 59 = .ok (.iconst 1, 1) := by decide +kernel
theorem dX8_part_60 : decode cX8_part 60 = .ok (.iload 4, 2) := by decide +kernel
theorem dX8_part_62 : decode cX8_part 62 = .ok (.ishl, 1) := by decide +kernel
theorem dX8_part_63 : decode cX8_part 63 = .ok (.iconst 1, 1) := by decide +kernel
theorem dX8_part_64 : decode cX8_part 64 = .ok (.isub, 1) := by decide +kernel
theorem dX8_part_65 : decode cX8_part 65 = .ok (.istore 6, 2) := by decide +kernel
theorem dX8_part_67 : decode cX8_part 67 = .ok (.aload_n 0, 1) := by decide +kernel
theorem dX8_part_68 : decode cX8_part 68 = .ok (.bipush 8, 2) := by decide +kernel
theorem dX8_part_70 : decode cX8_part 70 = .ok (.aload_n 0, 1) := by decide +kernel
theorem dX8_part_71 : decode cX8_part 71 = .ok (.iload_n 1, 1) := by decide +kernel
theorem dX8_part_72 : decode cX8_part 72 = .ok (.aload_n 0, 1) := by decide +kernel
theorem dX8_part_73 : decode cX8_part 73 = .ok (.getfield 7, 3) := by decide +kernel
theorem dX8_part_76 : decode cX8_part 76 = .ok (.iload 5, 2) := by decide +kernel
theorem dX8_part_78 : decode cX8_part 78 = .ok (.iaload, 1) := by decide +kernel
theorem dX8_part_79 : decode cX8_part 79 = .ok (.iload_n 3, 1) := by decide +kernel
theorem dX8_part_80 : decode cX8_part 80 = .ok (.ishr, 1) := by decide +kernel
theorem dX8_part_81 : decode cX8_part 81 = .ok (.iload 6, 2) := by decide +kernel
theorem dX8_part_83 : decode cX8_part 83 = .ok (.iand, 1) := by decide +kernel
theorem dX8_part_84 : decode cX8_part 84 = .ok (.aload_n 0, 1) := by decide +kernel
theorem dX8_part_85 : decode cX8_part 85 = .ok (.getfield 13, 3) := by decide +kernel
theorem dX8_part_88 : decode cX8_part 88 = .ok (.iload 5, 2) := by decide +kernel
theorem dX8_part_90 : decode cX8_part 90 = .ok (.iaload, 1) := by decide +kernel
theorem dX8_part_91 : decode cX8_part 91 = .ok (.iload_n 3, 1) := by decide +kernel
theorem dX8_part_92 : decode cX8_part 92 = .ok (.ishr, 1) := by decide +kernel
theorem dX8_part_93 : decode cX8_part 93 = .ok (.iload 6, 2) := by decide +kernel
theorem dX8_part_95 : decode cX8_part 95 = .ok (.iand, 1) := by decide +kernel
theorem dX8_part_96 : decode cX8_part 96 = .ok (.aload_n 0, 1) := by decide +kernel
theorem dX8_part_97 : decode cX8_part 97 = .ok (.getfield 16, 3) := by decide +kernel
theorem dX8_part_100 : decode cX8_part 100 = .ok (.iload 5, 2) := by decide +kernel
theorem dX8_part_102 : decode cX8_part 102 = .ok (.iaload, 1) := by decide +kernel
theorem dX8_part_103 : decode cX8_part 103 = .ok (.invokevirtual 128, 3) := by decide +kernel
theorem dX8_part_106 : decode cX8_part 106 = .ok (.invokevirtual 132, 3) := by decide +kernel
theorem dX8_part_109 : decode cX8_part 109 = .ok (.ireturn, 1) := by decide +kernel
set_option maxRecDepth 20000 in
theorem ggX8_storeNow_X8_become : GoodIn wsX8_storeNow wsX8_become := goodIn_r _ [9, 2, 3, 4, 10, 11, 12, 8, 13, 14, 15, 16, 17, 18, 19, 20, 21, 22, 23, 24, 25, 26, 27, 28, 29, 30, 31, 32, 33, 34, 35, 36, 37, 38, 39, 40, 41, 42, 43, 44, 45, 46] (by decide +kernel) (by decide +kernel)
set_option maxRecDepth 20000 in
theorem gX8_storeNow_X8_become : GoodIn wsX8_storeNow (wsV RX8 128 RX8 yX8_become wsX8_become) := goodIn_app (goodIn_of _ (by decide +kernel)) ggX8_storeNow_X8_become
theorem dX8_storeNow_0 : decode cX8_storeNow 0 = .ok (.aload_n 0, 1) := by decide +kernel
theorem dX8_storeNow_1 : decode cX8_storeNow 1 = .ok (.getfield 19, 3) := by decide +kernel
theorem dX8_storeNow_4 : decode cX8_storeNow 4 = .ok (.iload_n 2, 1) := by decide +kernel
theorem dX8_storeNow_5 : decode cX8_storeNow 5 = .ok (.iconst 0, 1) := by decide +kernel
theorem dX8_storeNow_6 : decode cX8_storeNow 6 = .ok (.bastore, 1) := by decide +kernel
theorem dX8_storeNow_7 : decode cX8_storeNow 7 = .ok (.aload_n 0, 1) := by decide +kernel
theorem dX8_storeNow_8 : decode cX8_storeNow 8 = .ok (.bipush 8, 2) := by decide +kernel
theorem dX8_storeNow_10 : decode cX8_storeNow 10 = .ok (.iload_n 2, 1) := by decide +kernel
theorem dX8_storeNow_11 : decode cX8_storeNow 11 = .ok (.iadd, 1) := by decide +kernel
theorem dX8_storeNow_12 : decode cX8_storeNow 12 = .ok (.aload_n 0, 1) := by decide +kernel
theorem dX8_storeNow_13 : decode cX8_storeNow 13 = .ok (.getfield 7, 3) := by decide +kernel
theorem dX8_storeNow_16 : decode cX8_storeNow 16 = .ok (.iload_n 1, 1) := by decide +kernel
theorem dX8_storeNow_17 : decode cX8_storeNow 17 = .ok (.iaload, 1) := by decide +kernel
theorem dX8_storeNow_18 : decode cX8_storeNow 18 = .ok (.aload_n 0, 1) := by decide +kernel
theorem dX8_storeNow_19 : decode cX8_storeNow 19 = .ok (.getfield 13, 3) := by decide +kernel
theorem dX8_storeNow_22 : decode cX8_storeNow 22 = .ok (.iload_n 1, 1) := by decide +kernel
theorem dX8_storeNow_23 : decode cX8_storeNow 23 = .ok (.iaload, 1) := by decide +kernel
theorem dX8_storeNow_24 : decode cX8_storeNow 24 = .ok (.aload_n 0, 1) := by decide +kernel
theorem dX8_storeNow_25 : decode cX8_storeNow 25 = .ok (.getfield 16, 3) := by decide +kernel
theorem dX8_storeNow_28 : decode cX8_storeNow 28 = .ok (.iload_n 1, 1) := by decide +kernel
theorem dX8_storeNow_29 : decode cX8_storeNow 29 = .ok (.iaload, 1) := by decide +kernel
theorem dX8_storeNow_30 : decode cX8_storeNow 30 = .ok (.invokevirtual 128, 3) := by decide +kernel
theorem dX8_storeNow_33 : decode cX8_storeNow 33 = .ok (.ireturn, 1) := by decide +kernel
set_option maxRecDepth 20000 in
theorem ggX8_store_X8_isRegister : GoodIn wsX8_store wsX8_isRegister := goodIn_r _ [5, 6, 7, 8, 4, 9] (by decide +kernel) (by decide +kernel)
set_option maxRecDepth 20000 in
theorem gX8_store_X8_isRegister : GoodIn wsX8_store (va_wsS RX8 119 yX8_isRegister wsX8_isRegister) := goodIn_app (goodIn_of _ (by decide +kernel)) ggX8_store_X8_isRegister
set_option maxRecDepth 20000 in
theorem ggX8_store_X8_isOctet : GoodIn wsX8_store wsX8_isOctet := goodIn_r _ [12, 13, 7, 8, 4, 9] (by decide +kernel) (by decide +kernel)
set_option maxRecDepth 20000 in
theorem gX8_store_X8_isOctet : GoodIn wsX8_store (va_wsS RX8 146 yX8_isOctet wsX8_isOctet) := goodIn_app (goodIn_of _ (by decide +kernel)) ggX8_store_X8_isOctet
set_option maxRecDepth 20000 in
theorem ggX8_store_X8_storeNow : GoodIn wsX8_store wsX8_storeNow := goodIn_r _ [17, 18, 19, 20, 21, 22, 23, 24, 4, 25, 26, 27, 28, 29, 30, 31, 32, 33, 34, 45, 46, 47, 48, 49, 50, 51, 52, 53, 54, 55, 56, 57, 58, 59, 60, 61, 62, 63, 64, 65, 66, 67, 68, 69, 70, 71, 72] (by decide +kernel) (by decide +kernel)
set_option maxRecDepth 20000 in
theorem gX8_store_X8_storeNow : GoodIn wsX8_store (wsV RX8 154 RX8 yX8_storeNow wsX8_storeNow) := goodIn_app (goodIn_of _ (by decide +kernel)) ggX8_store_X8_storeNow
set_option maxRecDepth 20000 in
theorem ggX8_store_X8_tick : GoodIn wsX8_store wsX8_tick := goodIn_r _ [38, 39, 40, 41, 42, 43, 13, 44, 45, 46, 47, 48, 49, 50, 51, 52, 53, 54, 55, 56, 57, 58, 59, 60, 61, 62, 63, 64, 65, 66, 67, 68, 69, 70, 71, 72] (by decide +kernel) (by decide +kernel)
set_option maxRecDepth 20000 in
theorem gX8_store_X8_tick : GoodIn wsX8_store (wsV RX8 132 RX8 yX8_tick wsX8_tick) := goodIn_app (goodIn_of _ (by decide +kernel)) ggX8_store_X8_tick
theorem dX8_store_0 : decode cX8_store 0 = .ok (.iload_n 1, 1) := by decide +kernel
theorem dX8_store_1 : decode cX8_store 1 = .ok (.invokestatic 119, 3) := by decide +kernel
theorem dX8_store_4 : decode cX8_store 4 = .ok (.ifCond .eq 10, 3) := by decide +kernel
theorem dX8_store_7 : decode cX8_store 7 = .ok (.iload_n 2, 1) := by decide +kernel
theorem dX8_store_8 : decode cX8_store 8 = .ok (.invokestatic 146, 3) := by decide +kernel
theorem dX8_store_11 : decode cX8_store 11 = .ok (.ifCond .ne 6, 3) := by decide +kernel
theorem dX8_store_14 : decode cX8_store 14 = .ok (.ldc 123, 2) := by decide +kernel
theorem dX8_store_16 : decode cX8_store 16 = .ok (.ireturn, 1) := by decide +kernel
theorem dX8_store_17 : decode cX8_store 17 = .ok (.aload_n 0, 1) := by decide +kernel
theorem dX8_store_18 : decode cX8_store 18 = .ok (.iconst 3, 1) := by decide +kernel
theorem dX8_store_19 : decode cX8_store 19 = .ok (.aload_n 0, 1) := by decide +kernel
theorem dX8_store_20 : decode cX8_store 20 = .ok (.iload_n 1, 1) := by decide +kernel
theorem dX8_store_21 : decode cX8_store 21 = .ok (.iload_n 2, 1) := by decide +kernel
theorem dX8_store_22 : decode cX8_store 22 = .ok (.invokevirtual 154, 3) := by decide +kernel
theorem dX8_store_25 : decode cX8_store 25 = .ok (.invokevirtual 132, 3) := by decide +kernel
theorem dX8_store_28 : decode cX8_store 28 = .ok (.ireturn, 1) := by decide +kernel
set_option maxRecDepth 20000 in
theorem ggX8_placeBy_X8_cries : GoodIn wsX8_placeBy wsX8_cries := goodIn_r _ [8, 9, 10, 11, 12, 13, 14, 15, 16, 17, 18, 19, 20, 21, 22, 23, 24, 25, 26, 27, 28, 29, 30, 31, 32, 33, 34, 35, 36, 37, 38, 39, 40, 41] (by decide +kernel) (by decide +kernel)
set_option maxRecDepth 20000 in
theorem gX8_placeBy_X8_cries : GoodIn wsX8_placeBy (wsV RX8 139 RX8 yX8_cries wsX8_cries) := goodIn_app (goodIn_of _ (by decide +kernel)) ggX8_placeBy_X8_cries
theorem dX8_placeBy_0 : decode cX8_placeBy 0 = .ok (.aload_n 0, 1) := by decide +kernel
theorem dX8_placeBy_1 : decode cX8_placeBy 1 = .ok (.getfield 13, 3) := by decide +kernel
theorem dX8_placeBy_4 : decode cX8_placeBy 4 = .ok (.iload_n 1, 1) := by decide +kernel
theorem dX8_placeBy_5 : decode cX8_placeBy 5 = .ok (.iaload, 1) := by decide +kernel
theorem dX8_placeBy_6 : decode cX8_placeBy 6 = .ok (.bipush 31, 2) := by decide +kernel
theorem dX8_placeBy_8 : decode cX8_placeBy 8 = .ok (.iand, 1) := by decide +kernel
theorem dX8_placeBy_9 : decode cX8_placeBy 9 = .ok (.ifCond .eq 14, 3) := by decide +kernel
theorem dX8_placeBy_12 : decode cX8_placeBy 12 = .ok (.aload_n 0, 1) := by decide +kernel
theorem dX8_placeBy_13 : decode cX8_placeBy 13 = .ok (.iconst 1, 1) := by decide +kernel
theorem dX8_placeBy_14 : decode cX8_placeBy 14 = .ok (.aload_n 0, 1) := by decide +kernel
theorem dX8_placeBy_15 : decode cX8_placeBy 15 = .ok (.getfield 16, 3) := by decide +kernel
theorem dX8_placeBy_18 : decode cX8_placeBy 18 = .ok (.iload_n 1, 1) := by decide +kernel
theorem dX8_placeBy_19 : decode cX8_placeBy 19 = .ok (.iaload, 1) := by decide +kernel
theorem dX8_placeBy_20 : decode cX8_placeBy 20 = .ok (.invokevirtual 139, 3) := by decide +kernel
theorem dX8_placeBy_23 : decode cX8_placeBy 23 = .ok (.aload_n 0, 1) := by decide +kernel
theorem dX8_placeBy_24 : decode cX8_placeBy 24 = .ok (.getfield 7, 3) := by decide +kernel
theorem dX8_placeBy_27 : decode cX8_placeBy 27 = .ok (.iload_n 1, 1) := by decide +kernel
theorem dX8_placeBy_28 : decode cX8_placeBy 28 = .ok (.iaload, 1) := by decide +kernel
theorem dX8_placeBy_29 : decode cX8_placeBy 29 = .ok (.bipush 31, 2) := by decide +kernel
theorem dX8_placeBy_31 : decode cX8_placeBy 31 = .ok (.iand, 1) := by decide +kernel
theorem dX8_placeBy_32 : decode cX8_placeBy 32 = .ok (.ireturn, 1) := by decide +kernel
set_option maxRecDepth 20000 in
theorem ggX8_loadAt_X8_isRegister : GoodIn wsX8_loadAt wsX8_isRegister := goodIn_r _ [5, 6, 7, 8, 4, 9] (by decide +kernel) (by decide +kernel)
set_option maxRecDepth 20000 in
theorem gX8_loadAt_X8_isRegister : GoodIn wsX8_loadAt (va_wsS RX8 119 yX8_isRegister wsX8_isRegister) := goodIn_app (goodIn_of _ (by decide +kernel)) ggX8_loadAt_X8_isRegister
set_option maxRecDepth 20000 in
theorem ggX8_loadAt_X8_placeBy : GoodIn wsX8_loadAt wsX8_placeBy := goodIn_r _ [13, 14, 15, 16, 17, 18, 19, 4, 20, 21, 22, 23, 24, 25, 59, 60, 61, 62, 63, 64, 65, 66, 67, 68, 69, 70, 71, 72, 73, 74, 75, 76, 77, 78, 79, 80, 81, 82, 83, 84, 85, 86] (by decide +kernel) (by decide +kernel)
set_option maxRecDepth 20000 in
theorem gX8_loadAt_X8_placeBy : GoodIn wsX8_loadAt (wsV RX8 157 RX8 yX8_placeBy wsX8_placeBy) := goodIn_app (goodIn_of _ (by decide +kernel)) ggX8_loadAt_X8_placeBy
set_option maxRecDepth 20000 in
theorem ggX8_loadAt_X8_loadNow : GoodIn wsX8_loadAt wsX8_loadNow := goodIn_r _ [29, 16, 14, 15, 30, 31, 32, 4, 33, 34, 35, 17, 18, 19, 20, 21, 22, 23, 24, 25, 36, 37, 38, 39, 40, 41, 42, 43, 44, 45, 46, 47, 48, 59, 60, 61, 62, 63, 64, 65, 66, 67, 68, 69, 70, 71, 72, 73, 74, 75, 76, 77, 78, 79, 80, 81, 82, 83, 84, 85, 86] (by decide +kernel) (by decide +kernel)
set_option maxRecDepth 20000 in
theorem gX8_loadAt_X8_loadNow : GoodIn wsX8_loadAt (wsV RX8 149 RX8 yX8_loadNow wsX8_loadNow) := goodIn_app (goodIn_of _ (by decide +kernel)) ggX8_loadAt_X8_loadNow
set_option maxRecDepth 20000 in
theorem ggX8_loadAt_X8_tick : GoodIn wsX8_loadAt wsX8_tick := goodIn_r _ [52, 53, 54, 55, 24, 56, 57, 58, 59, 60, 61, 62, 63, 64, 65, 66, 67, 68, 69, 70, 71, 72, 73, 74, 75, 76, 77, 78, 79, 80, 81, 82, 83, 84, 85, 86] (by decide +kernel) (by decide +kernel)
set_option maxRecDepth 20000 in
theorem gX8_loadAt_X8_tick : GoodIn wsX8_loadAt (wsV RX8 132 RX8 yX8_tick wsX8_tick) := goodIn_app (goodIn_of _ (by decide +kernel)) ggX8_loadAt_X8_tick
theorem dX8_loadAt_0 : decode cX8_loadAt 0 = .ok (.iload_n 1, 1) := by decide +kernel
theorem dX8_loadAt_1 : decode cX8_loadAt 1 = .ok (.invokestatic 119, 3) := by decide +kernel
theorem dX8_loadAt_4 : decode cX8_loadAt 4 = .ok (.ifCond .eq 10, 3) := by decide +kernel
theorem dX8_loadAt_7 : decode cX8_loadAt 7 = .ok (.iload_n 2, 1) := by decide +kernel
theorem dX8_loadAt_8 : decode cX8_loadAt 8 = .ok (.invokestatic 119, 3) := by decide +kernel
theorem dX8_loadAt_11 : decode cX8_loadAt 11 = .ok (.ifCond .ne 6, 3) := by decide +kernel
theorem dX8_loadAt_14 : decode cX8_loadAt 14 = .ok (.ldc 123, 2) := by decide +kernel
theorem dX8_loadAt_16 : decode cX8_loadAt 16 = .ok (.ireturn, 1) := by decide +kernel
theorem dX8_loadAt_17 : decode cX8_loadAt 17 = .ok (.aload_n 0, 1) := by decide +kernel
theorem dX8_loadAt_18 : decode cX8_loadAt 18 = .ok (.bipush 9, 2) := by decide +kernel
theorem dX8_loadAt_20 : decode cX8_loadAt 20 = .ok (.aload_n 0, 1) := by decide +kernel
theorem dX8_loadAt_21 : decode cX8_loadAt 21 = .ok (.iload_n 1, 1) := by decide +kernel
theorem dX8_loadAt_22 : decode cX8_loadAt 22 = .ok (.aload_n 0, 1) := by decide +kernel
theorem dX8_loadAt_23 : decode cX8_loadAt 23 = .ok (.iload_n 2, 1) := by decide +kernel
theorem dX8_loadAt_24 : decode cX8_loadAt 24 = .ok (.invokevirtual 157, 3) := by decide +kernel
theorem dX8_loadAt_27 : decode cX8_loadAt 27 = .ok (.invokevirtual 149, 3) := by decide +kernel
theorem dX8_loadAt_30 : decode cX8_loadAt 30 = .ok (.invokevirtual 132, 3) := by decide +kernel
theorem dX8_loadAt_33 : decode cX8_loadAt 33 = .ok (.ireturn, 1) := by decide +kernel
set_option maxRecDepth 20000 in
theorem ggX8_storeAt_X8_isRegister : GoodIn wsX8_storeAt wsX8_isRegister := goodIn_r _ [5, 6, 7, 8, 4, 9] (by decide +kernel) (by decide +kernel)
set_option maxRecDepth 20000 in
theorem gX8_storeAt_X8_isRegister : GoodIn wsX8_storeAt (va_wsS RX8 119 yX8_isRegister wsX8_isRegister) := goodIn_app (goodIn_of _ (by decide +kernel)) ggX8_storeAt_X8_isRegister
set_option maxRecDepth 20000 in
theorem ggX8_storeAt_X8_placeBy : GoodIn wsX8_storeAt wsX8_placeBy := goodIn_r _ [13, 14, 15, 16, 17, 18, 19, 4, 20, 21, 22, 23, 24, 25, 54, 55, 56, 57, 58, 59, 60, 61, 62, 63, 64, 65, 66, 67, 68, 69, 70, 71, 72, 73, 74, 75, 76, 77, 78, 79, 80, 81] (by decide +kernel) (by decide +kernel)
set_option maxRecDepth 20000 in
theorem gX8_storeAt_X8_placeBy : GoodIn wsX8_storeAt (wsV RX8 157 RX8 yX8_placeBy wsX8_placeBy) := goodIn_app (goodIn_of _ (by decide +kernel)) ggX8_storeAt_X8_placeBy
set_option maxRecDepth 20000 in
theorem ggX8_storeAt_X8_storeNow : GoodIn wsX8_storeAt wsX8_storeNow := goodIn_r _ [29, 30, 16, 14, 15, 31, 32, 33, 4, 34, 35, 36, 37, 38, 39, 40, 41, 42, 43, 54, 55, 56, 57, 58, 59, 60, 61, 62, 63, 64, 65, 66, 67, 68, 69, 70, 71, 72, 73, 74, 75, 76, 77, 78, 79, 80, 81] (by decide +kernel) (by decide +kernel)
set_option maxRecDepth 20000 in
theorem gX8_storeAt_X8_storeNow : GoodIn wsX8_storeAt (wsV RX8 154 RX8 yX8_storeNow wsX8_storeNow) := goodIn_app (goodIn_of _ (by decide +kernel)) ggX8_storeAt_X8_storeNow
set_option maxRecDepth 20000 in
theorem ggX8_storeAt_X8_tick : GoodIn wsX8_storeAt wsX8_tick := goodIn_r _ [47, 48, 49, 50, 24, 51, 52, 53, 54, 55, 56, 57, 58, 59, 60, 61, 62, 63, 64, 65, 66, 67, 68, 69, 70, 71, 72, 73, 74, 75, 76, 77, 78, 79, 80, 81] (by decide +kernel) (by decide +kernel)
set_option maxRecDepth 20000 in
theorem gX8_storeAt_X8_tick : GoodIn wsX8_storeAt (wsV RX8 132 RX8 yX8_tick wsX8_tick) := goodIn_app (goodIn_of _ (by decide +kernel)) ggX8_storeAt_X8_tick
theorem dX8_storeAt_0 : decode cX8_storeAt 0 = .ok (.iload_n 1, 1) := by decide +kernel
theorem dX8_storeAt_1 : decode cX8_storeAt 1 = .ok (.invokestatic 119, 3) := by decide +kernel
theorem dX8_storeAt_4 : decode cX8_storeAt 4 = .ok (.ifCond .eq 10, 3) := by decide +kernel
theorem dX8_storeAt_7 : decode cX8_storeAt 7 = .ok (.iload_n 2, 1) := by decide +kernel
theorem dX8_storeAt_8 : decode cX8_storeAt 8 = .ok (.invokestatic 119, 3) := by decide +kernel
theorem dX8_storeAt_11 : decode cX8_storeAt 11 = .ok (.ifCond .ne 6, 3) := by decide +kernel
theorem dX8_storeAt_14 : decode cX8_storeAt 14 = .ok (.ldc 123, 2) := by decide +kernel
theorem dX8_storeAt_16 : decode cX8_storeAt 16 = .ok (.ireturn, 1) := by decide +kernel
theorem dX8_storeAt_17 : decode cX8_storeAt 17 = .ok (.aload_n 0, 1) := by decide +kernel
theorem dX8_storeAt_18 : decode cX8_storeAt 18 = .ok (.bipush 10, 2) := by decide +kernel
theorem dX8_storeAt_20 : decode cX8_storeAt 20 = .ok (.aload_n 0, 1) := by decide +kernel
theorem dX8_storeAt_21 : decode cX8_storeAt 21 = .ok (.iload_n 1, 1) := by decide +kernel
theorem dX8_storeAt_22 : decode cX8_storeAt 22 = .ok (.aload_n 0, 1) := by decide +kernel
theorem dX8_storeAt_23 : decode cX8_storeAt 23 = .ok (.iload_n 2, 1) := by decide +kernel
theorem dX8_storeAt_24 : decode cX8_storeAt 24 = .ok (.invokevirtual 157, 3) := by decide +kernel
theorem dX8_storeAt_27 : decode cX8_storeAt 27 = .ok (.invokevirtual 154, 3) := by decide +kernel
theorem dX8_storeAt_30 : decode cX8_storeAt 30 = .ok (.invokevirtual 132, 3) := by decide +kernel
theorem dX8_storeAt_33 : decode cX8_storeAt 33 = .ok (.ireturn, 1) := by decide +kernel
theorem dX8_valueBy_0 : decode cX8_valueBy 0 = .ok (.iload_n 0, 1) := by decide +kernel
theorem dX8_valueBy_1 : decode cX8_valueBy 1 = .ok (.tableswitch 78 0 5 #[39, 43, 47, 51, 59, 67], 39) := by decide +kernel
theorem dX8_valueBy_40 : decode cX8_valueBy 40 = .ok (.iload_n 1, 1) := by decide +kernel
theorem dX8_valueBy_41 : decode cX8_valueBy 41 = .ok (.iload_n 2, 1) := by decide +kernel
theorem dX8_valueBy_42 : decode cX8_valueBy 42 = .ok (.iand, 1) := by decide +kernel
theorem dX8_valueBy_43 : decode cX8_valueBy 43 = .ok (.ireturn, 1) := by decide +kernel
theorem dX8_valueBy_44 : decode cX8_valueBy 44 = .ok (.iload_n 1, 1) := by decide +kernel
theorem dX8_valueBy_45 : decode cX8_valueBy 45 = .ok (.iload_n 2, 1) := by decide +kernel
theorem dX8_valueBy_46 : decode cX8_valueBy 46 = .ok (.ior, 1) := by decide +kernel
theorem dX8_valueBy_47 : decode cX8_valueBy 47 = .ok (.ireturn, 1) := by decide +kernel
theorem dX8_valueBy_48 : decode cX8_valueBy 48 = .ok (.iload_n 1, 1) := by decide +kernel
theorem dX8_valueBy_49 : decode cX8_valueBy 49 = .ok (.iload_n 2, 1) := by decide +kernel
theorem dX8_valueBy_50 : decode cX8_valueBy 50 = .ok (.ixor, 1) := by decide +kernel
theorem dX8_valueBy_51 : decode cX8_valueBy 51 = .ok (.ireturn, 1) := by decide +kernel
theorem dX8_valueBy_52 : decode cX8_valueBy 52 = .ok (.iload_n 1, 1) := by decide +kernel
theorem dX8_valueBy_53 : decode cX8_valueBy 53 = .ok (.iload_n 2, 1) := by decide +kernel
theorem dX8_valueBy_54 : decode cX8_valueBy 54 = .ok (.iadd, 1) := by decide +kernel
theorem dX8_valueBy_55 : decode cX8_valueBy 55 = .ok (.sipush 255, 3) := by decide +kernel
theorem dX8_valueBy_58 : decode cX8_valueBy 58 = .ok (.iand, 1) := by decide +kernel
theorem dX8_valueBy_59 : decode cX8_valueBy 59 = .ok (.ireturn, 1) := by decide +kernel
theorem dX8_valueBy_60 : decode cX8_valueBy 60 = .ok (.iload_n 1, 1) := by decide +kernel
theorem dX8_valueBy_61 : decode cX8_valueBy 61 = .ok (.iload_n 2, 1) := by decide +kernel
theorem dX8_valueBy_62 : decode cX8_valueBy 62 = .ok (.isub, 1) := by decide +kernel
theorem dX8_valueBy_63 : decode cX8_valueBy 63 = .ok (.sipush 255, 3) := by decide +kernel
theorem dX8_valueBy_66 : decode cX8_valueBy 66 = .ok (.iand, 1) := by decide +kernel
theorem dX8_valueBy_67 : decode cX8_valueBy 67 = .ok (.ireturn, 1) := by decide +kernel
theorem dX8_valueBy_68 : decode cX8_valueBy 68 = .ok (.iload_n 1, 1) := by decide +kernel
theorem dX8_valueBy_69 : decode cX8_valueBy 69 = .ok (.iload_n 2, 1) := by decide +kernel
theorem dX8_valueBy_70 : decode cX8_valueBy 70 = .ok (.bipush 7, 2) := by decide +kernel
theorem dX8_valueBy_72 : decode cX8_valueBy 72 = .ok (.iand, 1) := by decide +kernel
theorem dX8_valueBy_73 : decode cX8_valueBy 73 = .ok (.ishl, 1) := by decide +kernel
theorem dX8_valueBy_74 : decode cX8_valueBy 74 = .ok (.sipush 255, 3) := by decide +kernel
theorem dX8_valueBy_77 : decode cX8_valueBy 77 = .ok (.iand, 1) := by decide +kernel
theorem dX8_valueBy_78 : decode cX8_valueBy 78 = .ok (.ireturn, 1) := by decide +kernel
theorem dX8_valueBy_79 : decode cX8_valueBy 79 = .ok (.iload_n 1, 1) := by decide +kernel
theorem dX8_valueBy_80 : decode cX8_valueBy 80 = .ok (.iload_n 2, 1) := by decide +kernel
theorem dX8_valueBy_81 : decode cX8_valueBy 81 = .ok (.bipush 7, 2) := by decide +kernel
theorem dX8_valueBy_83 : decode cX8_valueBy 83 = .ok (.iand, 1) := by decide +kernel
theorem dX8_valueBy_84 : decode cX8_valueBy 84 = .ok (.ishr, 1) := by decide +kernel
theorem dX8_valueBy_85 : decode cX8_valueBy 85 = .ok (.ireturn, 1) := by decide +kernel
theorem dX8_shadowBy_0 : decode cX8_shadowBy 0 = .ok (.iload_n 2, 1) := by decide +kernel
theorem dX8_shadowBy_1 : decode cX8_shadowBy 1 = .ok (.iload 4, 2) := by decide +kernel
theorem dX8_shadowBy_3 : decode cX8_shadowBy 3 = .ok (.ior, 1) := by decide +kernel
theorem dX8_shadowBy_4 : decode cX8_shadowBy 4 = .ok (.istore 5, 2) := by decide +kernel
theorem dX8_shadowBy_6 : decode cX8_shadowBy 6 = .ok (.iload_n 1, 1) := by decide +kernel
theorem dX8_shadowBy_7 : decode cX8_shadowBy 7 = .ok (.iload_n 2, 1) := by decide +kernel
theorem dX8_shadowBy_8 : decode cX8_shadowBy 8 = .ok (.iconst (-1), 1) := by decide +kernel
theorem dX8_shadowBy_9 : decode cX8_shadowBy 9 = .ok (.ixor, 1) := by decide +kernel
theorem dX8_shadowBy_10 : decode cX8_shadowBy 10 = .ok (.iand, 1) := by decide +kernel
theorem dX8_shadowBy_11 : decode cX8_shadowBy 11 = .ok (.istore 6, 2) := by decide +kernel
theorem dX8_shadowBy_13 : decode cX8_shadowBy 13 = .ok (.iload_n 1, 1) := by decide +kernel
theorem dX8_shadowBy_14 : decode cX8_shadowBy 14 = .ok (.iload_n 2, 1) := by decide +kernel
theorem dX8_shadowBy_15 : decode cX8_shadowBy 15 = .ok (.ior, 1) := by decide +kernel
theorem dX8_shadowBy_16 : decode cX8_shadowBy 16 = .ok (.istore 7, 2) := by decide +kernel
theorem dX8_shadowBy_18 : decode cX8_shadowBy 18 = .ok (.iload_n 3, 1) := by decide +kernel
theorem dX8_shadowBy_19 : decode cX8_shadowBy 19 = .ok (.iload 4, 2) := by decide +kernel
theorem dX8_shadowBy_21 : decode cX8_shadowBy 21 = .ok (.iconst (-1), 1) := by decide +kernel
theorem dX8_shadowBy_22 : decode cX8_shadowBy 22 = .ok (.ixor, 1) := by decide +kernel
theorem dX8_shadowBy_23 : decode cX8_shadowBy 23 = .ok (.iand, 1) := by decide +kernel
theorem dX8_shadowBy_24 : decode cX8_shadowBy 24 = .ok (.istore 8, 2) := by decide +kernel
theorem dX8_shadowBy_26 : decode cX8_shadowBy 26 = .ok (.iload_n 3, 1) := by decide +kernel
theorem dX8_shadowBy_27 : decode cX8_shadowBy 27 = .ok (.iload 4, 2) := by decide +kernel
theorem dX8_shadowBy_29 : decode cX8_shadowBy 29 = .ok (.ior, 1) := by decide +kernel
theorem dX8_shadowBy_30 : decode cX8_shadowBy 30 = .ok (.istore 9, 2) := by decide +kernel
theorem dX8_shadowBy_32 : decode cX8_shadowBy 32 = .ok (.iload_n 0, 1) := by decide +kernel
theorem dX8_shadowBy_33 : decode cX8_shadowBy 33 = .ok (.tableswitch 125 0 5 #[39, 48, 59, 62, 81, 100], 39) := by decide +kernel
theorem dX8_shadowBy_72 : decode cX8_shadowBy 72 = .ok (.iload 5, 2) := by decide +kernel
theorem dX8_shadowBy_74 : decode cX8_shadowBy 74 = .ok (.iload 7, 2) := by decide +kernel
theorem dX8_shadowBy_76 : decode cX8_shadowBy 76 = .ok (.iand, 1) := by decide +kernel
theorem dX8_shadowBy_77 : decode cX8_shadowBy 77 = .ok (.iload 9, 2) := by decide +kernel
theorem dX8_shadowBy_79 : decode cX8_shadowBy 79 = .ok (.iand, 1) := by decide +kernel
theorem dX8_shadowBy_80 : decode cX8_shadowBy 80 = .ok (.ireturn, 1) := by decide +kernel
theorem dX8_shadowBy_81 : decode cX8_shadowBy 81 = .ok (.iload 5, 2) := by decide +kernel
theorem dX8_shadowBy_83 : decode cX8_shadowBy 83 = .ok (.iload 6, 2) := by decide +kernel
theorem dX8_shadowBy_85 : decode cX8_shadowBy 85 = .ok (.iload 8, 2) := by decide +kernel
theorem dX8_shadowBy_87 : decode cX8_shadowBy 87 = .ok (.ior, 1) := by decide +kernel
theorem dX8_shadowBy_88 : decode cX8_shadowBy 88 = .ok (.iconst (-1), 1) := by decide +kernel
theorem dX8_shadowBy_89 : decode cX8_shadowBy 89 = .ok (.ixor, 1) := by decide +kernel
theorem dX8_shadowBy_90 : decode cX8_shadowBy 90 = .ok (.iand, 1) := by decide +kernel
theorem dX8_shadowBy_91 : decode cX8_shadowBy 91 = .ok (.ireturn, 1) := by decide +kernel
theorem dX8_shadowBy_92 : decode cX8_shadowBy 92 = .ok (.iload 5, 2) := by decide +kernel
theorem dX8_shadowBy_94 : decode cX8_shadowBy 94 = .ok (.ireturn, 1) := by decide +kernel
theorem dX8_shadowBy_95 : decode cX8_shadowBy 95 = .ok (.iload 6, 2) := by decide +kernel
theorem dX8_shadowBy_97 : decode cX8_shadowBy 97 = .ok (.iload 8, 2) := by decide +kernel
theorem dX8_shadowBy_99 : decode cX8_shadowBy 99 = .ok (.iadd, 1) := by decide +kernel
theorem dX8_shadowBy_100 : decode cX8_shadowBy 100 = .ok (.iload 7, 2) := by decide +kernel
theorem dX8_shadowBy_102 : decode cX8_shadowBy 102 = .ok (.iload 9, 2) := by decide +kernel
theorem dX8_shadowBy_104 : decode cX8_shadowBy 104 = .ok (.iadd, 1) := by decide +kernel
theorem dX8_shadowBy_105 : decode cX8_shadowBy 105 = .ok (.ixor, 1) := by decide +kernel
theorem dX8_shadowBy_106 : decode cX8_shadowBy 106 = .ok (.iload 5, 2) := by decide +kernel
theorem dX8_shadowBy_108 : decode cX8_shadowBy 108 = .ok (.ior, 1) := by decide +kernel
theorem dX8_shadowBy_109 : decode cX8_shadowBy 109 = .ok (.sipush 255, 3) := by decide +kernel
theorem dX8_shadowBy_112 : decode cX8_shadowBy 112 = .ok (.iand, 1) := by decide +kernel
theorem dX8_shadowBy_113 : decode cX8_shadowBy 113 = .ok (.ireturn, 1) := by decide +kernel
theorem dX8_shadowBy_114 : decode cX8_shadowBy 114 = .ok (.iload 6, 2) := by decide +kernel
theorem dX8_shadowBy_116 : decode cX8_shadowBy 116 = .ok (.iload 9, 2) := by decide +kernel
theorem dX8_shadowBy_118 : decode cX8_shadowBy 118 = .ok (.isub, 1) := by decide +kernel
theorem dX8_shadowBy_119 : decode cX8_shadowBy 119 = .ok (.iload 7, 2) := by decide +kernel
theorem dX8_shadowBy_121 : decode cX8_shadowBy 121 = .ok (.iload 8, 2) := by decide +kernel
theorem dX8_shadowBy_123 : decode cX8_shadowBy 123 = .ok (.isub, 1) := by decide +kernel
theorem dX8_shadowBy_124 : decode cX8_shadowBy 124 = .ok (.ixor, 1) := by decide +kernel
theorem dX8_shadowBy_125 : decode cX8_shadowBy 125 = .ok (.iload 5, 2) := by decide +kernel
theorem dX8_shadowBy_127 : decode cX8_shadowBy 127 = .ok (.ior, 1) := by decide +kernel
theorem dX8_shadowBy_128 : decode cX8_shadowBy 128 = .ok (.sipush 255, 3) := by decide +kernel
theorem dX8_shadowBy_131 : decode cX8_shadowBy 131 = .ok (.iand, 1) := by decide +kernel
theorem dX8_shadowBy_132 : decode cX8_shadowBy 132 = .ok (.ireturn, 1) := by decide +kernel
theorem dX8_shadowBy_133 : decode cX8_shadowBy 133 = .ok (.iload 4, 2) := by decide +kernel
theorem dX8_shadowBy_135 : decode cX8_shadowBy 135 = .ok (.bipush 7, 2) := by decide +kernel
theorem dX8_shadowBy_137 : decode cX8_shadowBy 137 = .ok (.iand, 1) := by decide +kernel
theorem dX8_shadowBy_138 : decode cX8_shadowBy 138 = .ok (.ifCond .eq 9, 3) := by decide +kernel
theorem dX8_shadowBy_141 : decode cX8_shadowBy 141 = .ok (.sipush 255, 3) := by decide +kernel
theorem dX8_shadowBy_144 : decode cX8_shadowBy 144 = .ok (.goto 13, 3) := by decide +kernel
theorem dX8_shadowBy_147 : decode cX8_shadowBy 147 = .ok (.iload_n 2, 1) := by decide +kernel
theorem dX8_shadowBy_148 : decode cX8_shadowBy 148 = .ok (.iload_n 3, 1) := by decide +kernel
theorem dX8_shadowBy_149 : decode cX8_shadowBy 149 = .ok (.bipush 7, 2) := by decide +kernel
theorem dX8_shadowBy_151 : decode cX8_shadowBy 151 = .ok (.iand, 1) := by decide +kernel
theorem dX8_shadowBy_152 : decode cX8_shadowBy 152 = .ok (.ishl, 1) := by decide +kernel
theorem dX8_shadowBy_153 : decode cX8_shadowBy 153 = .ok (.sipush 255, 3) := by decide +kernel
theorem dX8_shadowBy_156 : decode cX8_shadowBy 156 = .ok (.iand, 1) := by decide +kernel
theorem dX8_shadowBy_157 : decode cX8_shadowBy 157 = .ok (.ireturn, 1) := by decide +kernel
theorem dX8_shadowBy_158 : decode cX8_shadowBy 158 = .ok (.iload 4, 2) := by decide +kernel
theorem dX8_shadowBy_160 : decode cX8_shadowBy 160 = .ok (.bipush 7, 2) := by decide +kernel
theorem dX8_shadowBy_162 : decode cX8_shadowBy 162 = .ok (.iand, 1) := by decide +kernel
theorem dX8_shadowBy_163 : decode cX8_shadowBy 163 = .ok (.ifCond .eq 9, 3) := by decide +kernel
theorem dX8_shadowBy_166 : decode cX8_shadowBy 166 = .ok (.sipush 255, 3) := by decide +kernel
theorem dX8_shadowBy_169 : decode cX8_shadowBy 169 = .ok (.goto 9, 3) := by decide +kernel
theorem dX8_shadowBy_172 : decode cX8_shadowBy 172 = .ok (.iload_n 2, 1) := by decide +kernel
theorem dX8_shadowBy_173 : decode cX8_shadowBy 173 = .ok (.iload_n 3, 1) := by decide +kernel
theorem dX8_shadowBy_174 : decode cX8_shadowBy 174 = .ok (.bipush 7, 2) := by decide +kernel
theorem dX8_shadowBy_176 : decode cX8_shadowBy 176 = .ok (.iand, 1) := by decide +kernel
theorem dX8_shadowBy_177 : decode cX8_shadowBy 177 = .ok (.ishr, 1) := by decide +kernel
theorem dX8_shadowBy_178 : decode cX8_shadowBy 178 = .ok (.ireturn, 1) := by decide +kernel
set_option maxRecDepth 20000 in
theorem ggX8_exactBy_X8_valueBy : GoodIn wsX8_exactBy wsX8_valueBy := goodIn_r _ [4] (by decide +kernel) (by decide +kernel)
set_option maxRecDepth 20000 in
theorem gX8_exactBy_X8_valueBy : GoodIn wsX8_exactBy (va_wsS RX8 161 yX8_valueBy wsX8_valueBy) := goodIn_app (goodIn_of _ (by decide +kernel)) ggX8_exactBy_X8_valueBy
theorem dX8_exactBy_0 : decode cX8_exactBy 0 = .ok (.iload_n 0, 1) := by decide +kernel
theorem dX8_exactBy_1 : decode cX8_exactBy 1 = .ok (.iload_n 1, 1) := by decide +kernel
theorem dX8_exactBy_2 : decode cX8_exactBy 2 = .ok (.iload_n 3, 1) := by decide +kernel
theorem dX8_exactBy_3 : decode cX8_exactBy 3 = .ok (.invokestatic 161, 3) := by decide +kernel
theorem dX8_exactBy_6 : decode cX8_exactBy 6 = .ok (.istore 5, 2) := by decide +kernel
theorem dX8_exactBy_8 : decode cX8_exactBy 8 = .ok (.iconst 0, 1) := by decide +kernel
theorem dX8_exactBy_9 : decode cX8_exactBy 9 = .ok (.istore 6, 2) := by decide +kernel
theorem dX8_exactBy_11 : decode cX8_exactBy 11 = .ok (.iconst 0, 1) := by decide +kernel
theorem dX8_exactBy_12 : decode cX8_exactBy 12 = .ok (.istore 7, 2) := by decide +kernel
theorem dX8_exactBy_14 : decode cX8_exactBy 14 = .ok (.iload 7, 2) := by decide +kernel
theorem dX8_exactBy_16 : decode cX8_exactBy 16 = .ok (.sipush 256, 3) := by decide +kernel
theorem dX8_exactBy_19 : decode cX8_exactBy 19 = .ok (.if_icmp .ge 90, 3) := by decide +kernel
theorem dX8_exactBy_22 : decode cX8_exactBy 22 = .ok (.iconst 0, 1) := by decide +kernel
theorem dX8_exactBy_23 : decode cX8_exactBy 23 = .ok (.istore 8, 2) := by decide +kernel
theorem dX8_exactBy_25 : decode cX8_exactBy 25 = .ok (.iload 8, 2) := by decide +kernel
theorem dX8_exactBy_27 : decode cX8_exactBy 27 = .ok (.sipush 256, 3) := by decide +kernel
theorem dX8_exactBy_30 : decode cX8_exactBy 30 = .ok (.if_icmp .ge 73, 3) := by decide +kernel
theorem dX8_exactBy_33 : decode cX8_exactBy 33 = .ok (.iload 7, 2) := by decide +kernel
theorem dX8_exactBy_35 : decode cX8_exactBy 35 = .ok (.iload_n 2, 1) := by decide +kernel
theorem dX8_exactBy_36 : decode cX8_exactBy 36 = .ok (.iconst (-1), 1) := by decide +kernel
theorem dX8_exactBy_37 : decode cX8_exactBy 37 = .ok (.ixor, 1) := by decide +kernel
theorem dX8_exactBy_38 : decode cX8_exactBy 38 = .ok (.iand, 1) := by decide +kernel
theorem dX8_exactBy_39 : decode cX8_exactBy 39 = .ok (.ifCond .ne 64, 3) := by decide +kernel
theorem dX8_exactBy_42 : decode cX8_exactBy 42 = .ok (.iload 8, 2) := by decide +kernel
theorem dX8_exactBy_44 : decode cX8_exactBy 44 = .ok (.iload 4, 2) := by decide +kernel
theorem dX8_exactBy_46 : decode cX8_exactBy 46 = .ok (.iconst (-1), 1) := by decide +kernel
theorem dX8_exactBy_47 : decode cX8_exactBy 47 = .ok (.ixor, 1) := by decide +kernel
theorem dX8_exactBy_48 : decode cX8_exactBy 48 = .ok (.iand, 1) := by decide +kernel
theorem dX8_exactBy_49 : decode cX8_exactBy 49 = .ok (.ifCond .ne 7, 3) := by decide +kernel
theorem dX8_exactBy_52 : decode cX8_exactBy 52 = .ok (.iconst 1, 1) := by decide +kernel
theorem dX8_exactBy_53 : decode cX8_exactBy 53 = .ok (.goto 4, 3) := by decide +kernel
theorem dX8_exactBy_56 : decode cX8_exactBy 56 = .ok (.iconst 0, 1) := by decide +kernel
theorem dX8_exactBy_57 : decode cX8_exactBy 57 = .ok (.istore 9, 2) := by decide +kernel
theorem dX8_exactBy_59 : decode cX8_exactBy 59 = .ok (.iload 6, 2) := by decide +kernel
theorem dX8_exactBy_61 : decode cX8_exactBy 61 = .ok (.iload 9, 2) := by decide +kernel
theorem dX8_exactBy_63 : decode cX8_exactBy 63 = .ok (.ifCond .eq 30, 3) := by decide +kernel
theorem dX8_exactBy_66 : decode cX8_exactBy 66 = .ok (.iload_n 0, 1) := by decide +kernel
theorem dX8_exactBy_67 : decode cX8_exactBy 67 = .ok (.iload_n 1, 1) := by decide +kernel
theorem dX8_exactBy_68 : decode cX8_exactBy 68 = .ok (.iload_n 2, 1) := by decide +kernel
theorem dX8_exactBy_69 : decode cX8_exactBy 69 = .ok (.iconst (-1), 1) := by decide +kernel
theorem dX8_exactBy_70 : decode cX8_exactBy 70 = .ok (.ixor, 1) := by decide +kernel
theorem dX8_exactBy_71 : decode cX8_exactBy 71 = .ok (.iand, 1) := by decide +kernel
theorem dX8_exactBy_72 : decode cX8_exactBy 72 = .ok (.iload 7, 2) := by decide +kernel
theorem dX8_exactBy_74 : decode cX8_exactBy 74 = .ok (.ior, 1) := by decide +kernel
theorem dX8_exactBy_75 : decode cX8_exactBy 75 = .ok (.iload_n 3, 1) := by decide +kernel
theorem dX8_exactBy_76 : decode cX8_exactBy 76 = .ok (.iload 4, 2) := by decide +kernel
theorem dX8_exactBy_78 : decode cX8_exactBy 78 = .ok (.iconst (-1), 1) := by decide +kernel
theorem dX8_exactBy_79 : decode cX8_exactBy 79 = .ok (.ixor, 1) := by decide +kernel
theorem dX8_exactBy_80 : decode cX8_exactBy 80 = .ok (.iand, 1) := by decide +kernel
theorem dX8_exactBy_81 : decode cX8_exactBy 81 = .ok (.iload 8, 2) := by decide +kernel
theorem dX8_exactBy_83 : decode cX8_exactBy 83 = .ok (.ior, 1) := by decide +kernel
theorem dX8_exactBy_84 : decode cX8_exactBy 84 = .ok (.invokestatic 161, 3) := by decide +kernel
theorem dX8_exactBy_87 : decode cX8_exactBy 87 = .ok (.iload 5, 2) := by decide +kernel
theorem dX8_exactBy_89 : decode cX8_exactBy 89 = .ok (.ixor, 1) := by decide +kernel
theorem dX8_exactBy_90 : decode cX8_exactBy 90 = .ok (.goto 4, 3) := by decide +kernel
theorem dX8_exactBy_93 : decode cX8_exactBy 93 = .ok (.iconst 0, 1) := by decide +kernel
theorem dX8_exactBy_94 : decode cX8_exactBy 94 = .ok (.ior, 1) := by decide +kernel
theorem dX8_exactBy_95 : decode cX8_exactBy 95 = .ok (.istore 6, 2) := by decide +kernel
theorem dX8_exactBy_97 : decode cX8_exactBy 97 = .ok (.iinc 8 1, 3) := by decide +kernel
theorem dX8_exactBy_100 : decode cX8_exactBy 100 = .ok (.goto (-75), 3) := by decide +kernel
theorem dX8_exactBy_103 : decode cX8_exactBy 103 = .ok (.iinc 7 1, 3) := by decide +kernel
theorem dX8_exactBy_106 : decode cX8_exactBy 106 = .ok (.goto (-92), 3) := by decide +kernel
theorem dX8_exactBy_109 : decode cX8_exactBy 109 = .ok (.iload 6, 2) := by decide +kernel
theorem dX8_exactBy_111 : decode cX8_exactBy 111 = .ok (.ireturn, 1) := by decide +kernel
set_option maxRecDepth 20000 in
theorem ggX8_ruleNow_X8_shadowBy : GoodIn wsX8_ruleNow wsX8_shadowBy := goodIn_r _ [8] (by decide +kernel) (by decide +kernel)
set_option maxRecDepth 20000 in
theorem gX8_ruleNow_X8_shadowBy : GoodIn wsX8_ruleNow (va_wsS RX8 165 yX8_shadowBy wsX8_shadowBy) := goodIn_app (goodIn_of _ (by decide +kernel)) ggX8_ruleNow_X8_shadowBy
set_option maxRecDepth 20000 in
theorem ggX8_ruleNow_X8_valueBy : GoodIn wsX8_ruleNow wsX8_valueBy := goodIn_r _ [11] (by decide +kernel) (by decide +kernel)
set_option maxRecDepth 20000 in
theorem gX8_ruleNow_X8_valueBy : GoodIn wsX8_ruleNow (va_wsS RX8 161 yX8_valueBy wsX8_valueBy) := goodIn_app (goodIn_of _ (by decide +kernel)) ggX8_ruleNow_X8_valueBy
set_option maxRecDepth 20000 in
theorem ggX8_ruleNow_X8_exactBy : GoodIn wsX8_ruleNow wsX8_exactBy := goodIn_r _ [14, 9, 10, 7, 11] (by decide +kernel) (by decide +kernel)
set_option maxRecDepth 20000 in
theorem gX8_ruleNow_X8_exactBy : GoodIn wsX8_ruleNow (va_wsS RX8 169 yX8_exactBy wsX8_exactBy) := goodIn_app (goodIn_of _ (by decide +kernel)) ggX8_ruleNow_X8_exactBy
set_option maxRecDepth 20000 in
theorem ggX8_ruleNow_X8_bits : GoodIn wsX8_ruleNow wsX8_bits := goodIn_r _ [17] (by decide +kernel) (by decide +kernel)
set_option maxRecDepth 20000 in
theorem gX8_ruleNow_X8_bits : GoodIn wsX8_ruleNow (va_wsS RX8 172 yX8_bits wsX8_bits) := goodIn_app (goodIn_of _ (by decide +kernel)) ggX8_ruleNow_X8_bits
set_option maxRecDepth 20000 in
theorem ggX8_ruleNow_X8_become : GoodIn wsX8_ruleNow wsX8_become := goodIn_r _ [21, 1, 2, 4, 22, 23, 24, 7, 25, 26, 27, 28, 29, 30, 31, 32, 33, 34, 35, 36, 37, 38, 39, 40, 41, 42, 43, 44, 45, 46, 47, 48, 49, 50, 51, 52, 53, 54, 55, 56, 57, 58] (by decide +kernel) (by decide +kernel)
set_option maxRecDepth 20000 in
theorem gX8_ruleNow_X8_become : GoodIn wsX8_ruleNow (wsV RX8 128 RX8 yX8_become wsX8_become) := goodIn_app (goodIn_of _ (by decide +kernel)) ggX8_ruleNow_X8_become
theorem dX8_ruleNow_0 : decode cX8_ruleNow 0 = .ok (.iload_n 1, 1) := by decide +kernel
theorem dX8_ruleNow_1 : decode cX8_ruleNow 1 = .ok (.aload_n 0, 1) := by decide +kernel
theorem dX8_ruleNow_2 : decode cX8_ruleNow 2 = .ok (.getfield 7, 3) := by decide +kernel
theorem dX8_ruleNow_5 : decode cX8_ruleNow 5 = .ok (.iload_n 3, 1) := by decide +kernel
theorem dX8_ruleNow_6 : decode cX8_ruleNow 6 = .ok (.iaload, 1) := by decide +kernel
theorem dX8_ruleNow_7 : decode cX8_ruleNow 7 = .ok (.aload_n 0, 1) := by decide +kernel
theorem dX8_ruleNow_8 : decode cX8_ruleNow 8 = .ok (.getfield 13, 3) := by decide +kernel
theorem dX8_ruleNow_11 : decode cX8_ruleNow 11 = .ok (.iload_n 3, 1) := by decide +kernel
theorem dX8_ruleNow_12 : decode cX8_ruleNow 12 = .ok (.iaload, 1) := by decide +kernel
theorem dX8_ruleNow_13 : decode cX8_ruleNow 13 = .ok (.aload_n 0, 1) := by decide +kernel
theorem dX8_ruleNow_14 : decode cX8_ruleNow 14 = .ok (.getfield 7, 3) := by decide +kernel
theorem dX8_ruleNow_17 : decode cX8_ruleNow 17 = .ok (.iload 4, 2) := by decide +kernel
theorem dX8_ruleNow_19 : decode cX8_ruleNow 19 = .ok (.iaload, 1) := by decide +kernel
theorem dX8_ruleNow_20 : decode cX8_ruleNow 20 = .ok (.aload_n 0, 1) := by decide +kernel
theorem dX8_ruleNow_21 : decode cX8_ruleNow 21 = .ok (.getfield 13, 3) := by decide +kernel
theorem dX8_ruleNow_24 : decode cX8_ruleNow 24 = .ok (.iload 4, 2) := by decide +kernel
theorem dX8_ruleNow_26 : decode cX8_ruleNow 26 = .ok (.iaload, 1) := by decide +kernel
theorem dX8_ruleNow_27 : decode cX8_ruleNow 27 = .ok (.invokestatic 165, 3) := by decide +kernel
theorem dX8_ruleNow_30 : decode cX8_ruleNow 30 = .ok (.istore 6, 2) := by decide +kernel
theorem dX8_ruleNow_32 : decode cX8_ruleNow 32 = .ok (.iload_n 1, 1) := by decide +kernel
theorem dX8_ruleNow_33 : decode cX8_ruleNow 33 = .ok (.aload_n 0, 1) := by decide +kernel
theorem dX8_ruleNow_34 : decode cX8_ruleNow 34 = .ok (.getfield 7, 3) := by decide +kernel
theorem dX8_ruleNow_37 : decode cX8_ruleNow 37 = .ok (.iload_n 3, 1) := by decide +kernel
theorem dX8_ruleNow_38 : decode cX8_ruleNow 38 = .ok (.iaload, 1) := by decide +kernel
theorem dX8_ruleNow_39 : decode cX8_ruleNow 39 = .ok (.aload_n 0, 1) := by decide +kernel
theorem dX8_ruleNow_40 : decode cX8_ruleNow 40 = .ok (.getfield 7, 3) := by decide +kernel
theorem dX8_ruleNow_43 : decode cX8_ruleNow 43 = .ok (.iload 4, 2) := by decide +kernel
theorem dX8_ruleNow_45 : decode cX8_ruleNow 45 = .ok (.iaload, 1) := by decide +kernel
theorem dX8_ruleNow_46 : decode cX8_ruleNow 46 = .ok (.invokestatic 161, 3) := by decide +kernel
theorem dX8_ruleNow_49 : decode cX8_ruleNow 49 = .ok (.istore 7, 2) := by decide +kernel
theorem dX8_ruleNow_51 : decode cX8_ruleNow 51 = .ok (.aload_n 0, 1) := by decide +kernel
theorem dX8_ruleNow_52 : decode cX8_ruleNow 52 = .ok (.dup, 1) := by decide +kernel
theorem dX8_ruleNow_53 : decode cX8_ruleNow 53 = .ok (.getfield 98, 3) := by decide +kernel
theorem dX8_ruleNow_56 : decode cX8_ruleNow 56 = .ok (.iload 5, 2) := by decide +kernel
theorem dX8_ruleNow_58 : decode cX8_ruleNow 58 = .ok (.ifCond .eq 44, 3) := by decide +kernel
theorem dX8_ruleNow_61 : decode cX8_ruleNow 61 = .ok (.iload 6, 2) := by decide +kernel
theorem dX8_ruleNow_63 : decode cX8_ruleNow 63 = .ok (.iload_n 1, 1) := by decide +kernel
theorem dX8_ruleNow_64 : decode cX8_ruleNow 64 = .ok (.aload_n 0, 1) := by decide +kernel
theorem dX8_ruleNow_65 : decode cX8_ruleNow 65 = .ok (.getfield 7, 3) := by decide +kernel
theorem dX8_ruleNow_68 : decode cX8_ruleNow 68 = .ok (.iload_n 3, 1) := by decide +kernel
theorem dX8_ruleNow_69 : decode cX8_ruleNow 69 = .ok (.iaload, 1) := by decide +kernel
theorem dX8_ruleNow_70 : decode cX8_ruleNow 70 = .ok (.aload_n 0, 1) := by decide +kernel
theorem dX8_ruleNow_71 : decode cX8_ruleNow 71 = .ok (.getfield 13, 3) := by decide +kernel
theorem dX8_ruleNow_74 : decode cX8_ruleNow 74 = .ok (.iload_n 3, 1) := by decide +kernel
theorem dX8_ruleNow_75 : decode cX8_ruleNow 75 = .ok (.iaload, 1) := by decide +kernel
theorem dX8_ruleNow_76 : decode cX8_ruleNow 76 = .ok (.aload_n 0, 1) := by decide +kernel
theorem dX8_ruleNow_77 : decode cX8_ruleNow 77 = .ok (.getfield 7, 3) := by decide +kernel
theorem dX8_ruleNow_80 : decode cX8_ruleNow 80 = .ok (.iload 4, 2) := by decide +kernel
theorem dX8_ruleNow_82 : decode cX8_ruleNow 82 = .ok (.iaload, 1) := by decide +kernel
theorem dX8_ruleNow_83 : decode cX8_ruleNow 83 = .ok (.aload_n 0, 1) := by decide +kernel
theorem dX8_ruleNow_84 : decode cX8_ruleNow 84 = .ok (.getfield 13, 3) := by decide +kernel
theorem dX8_ruleNow_87 : decode cX8_ruleNow 87 = .ok (.iload 4, 2) := by decide +kernel
theorem dX8_ruleNow_89 : decode cX8_ruleNow 89 = .ok (.iaload, 1) := by decide +kernel
theorem dX8_ruleNow_90 : decode cX8_ruleNow 90 = .ok (.invokestatic 169, 3) := by decide +kernel
theorem dX8_ruleNow_93 : decode cX8_ruleNow 93 = .ok (.iconst (-1), 1) := by decide +kernel
theorem dX8_ruleNow_94 : decode cX8_ruleNow 94 = .ok (.ixor, 1) := by decide +kernel
theorem dX8_ruleNow_95 : decode cX8_ruleNow 95 = .ok (.iand, 1) := by decide +kernel
theorem dX8_ruleNow_96 : decode cX8_ruleNow 96 = .ok (.invokestatic 172, 3) := by decide +kernel
theorem dX8_ruleNow_99 : decode cX8_ruleNow 99 = .ok (.goto 4, 3) := by decide +kernel
theorem dX8_ruleNow_102 : decode cX8_ruleNow 102 = .ok (.iconst 0, 1) := by decide +kernel
theorem dX8_ruleNow_103 : decode cX8_ruleNow 103 = .ok (.iadd, 1) := by decide +kernel
theorem dX8_ruleNow_104 : decode cX8_ruleNow 104 = .ok (.putfield 98, 3) := by decide +kernel
theorem dX8_ruleNow_107 : decode cX8_ruleNow 107 = .ok (.aload_n 0, 1) := by decide +kernel
theorem dX8_ruleNow_108 : decode cX8_ruleNow 108 = .ok (.iload_n 2, 1) := by decide +kernel
theorem dX8_ruleNow_109 : decode cX8_ruleNow 109 = .ok (.iload 7, 2) := by decide +kernel
theorem dX8_ruleNow_111 : decode cX8_ruleNow 111 = .ok (.iload 6, 2) := by decide +kernel
theorem dX8_ruleNow_113 : decode cX8_ruleNow 113 = .ok (.aload_n 0, 1) := by decide +kernel
theorem dX8_ruleNow_114 : decode cX8_ruleNow 114 = .ok (.getfield 16, 3) := by decide +kernel
theorem dX8_ruleNow_117 : decode cX8_ruleNow 117 = .ok (.iload_n 3, 1) := by decide +kernel
theorem dX8_ruleNow_118 : decode cX8_ruleNow 118 = .ok (.iaload, 1) := by decide +kernel
theorem dX8_ruleNow_119 : decode cX8_ruleNow 119 = .ok (.aload_n 0, 1) := by decide +kernel
theorem dX8_ruleNow_120 : decode cX8_ruleNow 120 = .ok (.getfield 16, 3) := by decide +kernel
theorem dX8_ruleNow_123 : decode cX8_ruleNow 123 = .ok (.iload 4, 2) := by decide +kernel
theorem dX8_ruleNow_125 : decode cX8_ruleNow 125 = .ok (.iaload, 1) := by decide +kernel
theorem dX8_ruleNow_126 : decode cX8_ruleNow 126 = .ok (.ior, 1) := by decide +kernel
theorem dX8_ruleNow_127 : decode cX8_ruleNow 127 = .ok (.invokevirtual 128, 3) := by decide +kernel
theorem dX8_ruleNow_130 : decode cX8_ruleNow 130 = .ok (.ireturn, 1) := by decide +kernel
set_option maxRecDepth 20000 in
theorem ggX8_rule_X8_isRegister : GoodIn wsX8_rule wsX8_isRegister := goodIn_r _ [7, 8, 9, 10, 6, 11] (by decide +kernel) (by decide +kernel)
set_option maxRecDepth 20000 in
theorem gX8_rule_X8_isRegister : GoodIn wsX8_rule (va_wsS RX8 119 yX8_isRegister wsX8_isRegister) := goodIn_app (goodIn_of _ (by decide +kernel)) ggX8_rule_X8_isRegister
set_option maxRecDepth 20000 in
theorem ggX8_rule_X8_in : GoodIn wsX8_rule wsX8_in := goodIn_r _ [11] (by decide +kernel) (by decide +kernel)
set_option maxRecDepth 20000 in
theorem gX8_rule_X8_in : GoodIn wsX8_rule (va_wsS RX8 77 yX8_in wsX8_in) := goodIn_app (goodIn_of _ (by decide +kernel)) ggX8_rule_X8_in
set_option maxRecDepth 20000 in
theorem ggX8_rule_X8_ruleNow : GoodIn wsX8_rule wsX8_ruleNow := goodIn_r _ [15, 16, 17, 18, 19, 20, 21, 6, 22, 23, 24, 25, 26, 27, 28, 29, 30, 31, 32, 33, 34, 35, 36, 37, 38, 39, 40, 41, 42, 43, 44, 56, 57, 58, 59, 60, 61, 62, 63, 64, 65, 66, 67, 68, 69, 70, 71, 72, 73, 74, 75, 76, 77, 78, 79, 80, 81, 82, 83] (by decide +kernel) (by decide +kernel)
set_option maxRecDepth 20000 in
theorem gX8_rule_X8_ruleNow : GoodIn wsX8_rule (wsV RX8 177 RX8 yX8_ruleNow wsX8_ruleNow) := goodIn_app (goodIn_of _ (by decide +kernel)) ggX8_rule_X8_ruleNow
set_option maxRecDepth 20000 in
theorem ggX8_rule_X8_tick : GoodIn wsX8_rule wsX8_tick := goodIn_r _ [48, 49, 50, 51, 52, 53, 54, 55, 56, 57, 58, 59, 60, 61, 62, 63, 64, 65, 66, 67, 68, 69, 70, 71, 72, 73, 74, 75, 76, 77, 78, 79, 80, 81, 82, 83] (by decide +kernel) (by decide +kernel)
set_option maxRecDepth 20000 in
theorem gX8_rule_X8_tick : GoodIn wsX8_rule (wsV RX8 132 RX8 yX8_tick wsX8_tick) := goodIn_app (goodIn_of _ (by decide +kernel)) ggX8_rule_X8_tick
theorem dX8_rule_0 : decode cX8_rule 0 = .ok (.iload_n 2, 1) := by decide +kernel
theorem dX8_rule_1 : decode cX8_rule 1 = .ok (.invokestatic 119, 3) := by decide +kernel
theorem dX8_rule_4 : decode cX8_rule 4 = .ok (.ifCond .eq 18, 3) := by decide +kernel
theorem dX8_rule_7 : decode cX8_rule 7 = .ok (.iload_n 3, 1) := by decide +kernel
theorem dX8_rule_8 : decode cX8_rule 8 = .ok (.invokestatic 119, 3) := by decide +kernel
theorem dX8_rule_11 : decode cX8_rule 11 = .ok (.ifCond .eq 11, 3) := by decide +kernel
theorem dX8_rule_14 : decode cX8_rule 14 = .ok (.iload 4, 2) := by decide +kernel
theorem dX8_rule_16 : decode cX8_rule 16 = .ok (.invokestatic 119, 3) := by decide +kernel
theorem dX8_rule_19 : decode cX8_rule 19 = .ok (.ifCond .ne 6, 3) := by decide +kernel
theorem dX8_rule_22 : decode cX8_rule 22 = .ok (.ldc 123, 2) := by decide +kernel
theorem dX8_rule_24 : decode cX8_rule 24 = .ok (.ireturn, 1) := by decide +kernel
theorem dX8_rule_25 : decode cX8_rule 25 = .ok (.iload_n 1, 1) := by decide +kernel
theorem dX8_rule_26 : decode cX8_rule 26 = .ok (.i2l, 1) := by decide +kernel
theorem dX8_rule_27 : decode cX8_rule 27 = .ok (.lconst 0, 1) := by decide +kernel
theorem dX8_rule_28 : decode cX8_rule 28 = .ok (.ldc2_w 175, 3) := by decide +kernel
theorem dX8_rule_31 : decode cX8_rule 31 = .ok (.invokestatic 77, 3) := by decide +kernel
theorem dX8_rule_34 : decode cX8_rule 34 = .ok (.ifCond .ne 6, 3) := by decide +kernel
theorem dX8_rule_37 : decode cX8_rule 37 = .ok (.ldc 127, 2) := by decide +kernel
theorem dX8_rule_39 : decode cX8_rule 39 = .ok (.ireturn, 1) := by decide +kernel
theorem dX8_rule_40 : decode cX8_rule 40 = .ok (.aload_n 0, 1) := by decide +kernel
theorem dX8_rule_41 : decode cX8_rule 41 = .ok (.iconst 4, 1) := by decide +kernel
theorem dX8_rule_42 : decode cX8_rule 42 = .ok (.aload_n 0, 1) := by decide +kernel
theorem dX8_rule_43 : decode cX8_rule 43 = .ok (.iload_n 1, 1) := by decide +kernel
theorem dX8_rule_44 : decode cX8_rule 44 = .ok (.iload_n 2, 1) := by decide +kernel
theorem dX8_rule_45 : decode cX8_rule 45 = .ok (.iload_n 3, 1) := by decide +kernel
theorem dX8_rule_46 : decode cX8_rule 46 = .ok (.iload 4, 2) := by decide +kernel
theorem dX8_rule_48 : decode cX8_rule 48 = .ok (.iconst 1, 1) := by decide +kernel
theorem dX8_rule_49 : decode cX8_rule 49 = .ok (.invokevirtual 177, 3) := by decide +kernel
theorem dX8_rule_52 : decode cX8_rule 52 = .ok (.invokevirtual 132, 3) := by decide +kernel
theorem dX8_rule_55 : decode cX8_rule 55 = .ok (.ireturn, 1) := by decide +kernel
theorem dX8_isDecided_0 : decode cX8_isDecided 0 = .ok (.aload_n 0, 1) := by decide +kernel
theorem dX8_isDecided_1 : decode cX8_isDecided 1 = .ok (.getfield 13, 3) := by decide +kernel
theorem dX8_isDecided_4 : decode cX8_isDecided 4 = .ok (.iload_n 1, 1) := by decide +kernel
theorem dX8_isDecided_5 : decode cX8_isDecided 5 = .ok (.iaload, 1) := by decide +kernel
theorem dX8_isDecided_6 : decode cX8_isDecided 6 = .ok (.ifCond .eq 21, 3) := by decide +kernel
theorem dX8_isDecided_9 : decode cX8_isDecided 9 = .ok (.aload_n 0, 1) := by decide +kernel
theorem dX8_isDecided_10 : decode cX8_isDecided 10 = .ok (.getfield 7, 3) := by decide +kernel
theorem dX8_isDecided_13 : decode cX8_isDecided 13 = .ok (.iload_n 1, 1) := by decide +kernel
theorem dX8_isDecided_14 : decode cX8_isDecided 14 = .ok (.iaload, 1) := by decide +kernel
theorem dX8_isDecided_15 : decode cX8_isDecided 15 = .ok (.aload_n 0, 1) := by decide +kernel
theorem dX8_isDecided_16 : decode cX8_isDecided 16 = .ok (.getfield 13, 3) := by decide +kernel
theorem dX8_isDecided_19 : decode cX8_isDecided 19 = .ok (.iload_n 1, 1) := by decide +kernel
theorem dX8_isDecided_20 : decode cX8_isDecided 20 = .ok (.iaload, 1) := by decide +kernel
theorem dX8_isDecided_21 : decode cX8_isDecided 21 = .ok (.iconst (-1), 1) := by decide +kernel
theorem dX8_isDecided_22 : decode cX8_isDecided 22 = .ok (.ixor, 1) := by decide +kernel
theorem dX8_isDecided_23 : decode cX8_isDecided 23 = .ok (.iand, 1) := by decide +kernel
theorem dX8_isDecided_24 : decode cX8_isDecided 24 = .ok (.ifCond .eq 7, 3) := by decide +kernel
theorem dX8_isDecided_27 : decode cX8_isDecided 27 = .ok (.iconst 1, 1) := by decide +kernel
theorem dX8_isDecided_28 : decode cX8_isDecided 28 = .ok (.goto 4, 3) := by decide +kernel
theorem dX8_isDecided_31 : decode cX8_isDecided 31 = .ok (.iconst 0, 1) := by decide +kernel
theorem dX8_isDecided_32 : decode cX8_isDecided 32 = .ok (.ireturn, 1) := by decide +kernel
set_option maxRecDepth 20000 in
theorem ggX8_decideNow_X8_isDecided : GoodIn wsX8_decideNow wsX8_isDecided := goodIn_r _ [7, 8, 2, 18, 19, 20, 21, 22, 23, 24, 25, 26, 27, 28, 29, 30, 31, 32, 33, 34, 35, 36, 37, 38, 39, 40, 41, 42, 43, 44, 45] (by decide +kernel) (by decide +kernel)
set_option maxRecDepth 20000 in
theorem gX8_decideNow_X8_isDecided : GoodIn wsX8_decideNow (wsV RX8 181 RX8 yX8_isDecided wsX8_isDecided) := goodIn_app (goodIn_of _ (by decide +kernel)) ggX8_decideNow_X8_isDecided
set_option maxRecDepth 20000 in
theorem ggX8_decideNow_X8_cries : GoodIn wsX8_decideNow wsX8_cries := goodIn_r _ [12, 13, 14, 15, 16, 17, 18, 19, 20, 21, 22, 23, 24, 25, 26, 27, 28, 29, 30, 31, 32, 33, 34, 35, 36, 37, 38, 39, 40, 41, 42, 43, 44, 45] (by decide +kernel) (by decide +kernel)
set_option maxRecDepth 20000 in
theorem gX8_decideNow_X8_cries : GoodIn wsX8_decideNow (wsV RX8 139 RX8 yX8_cries wsX8_cries) := goodIn_app (goodIn_of _ (by decide +kernel)) ggX8_decideNow_X8_cries
theorem dX8_decideNow_0 : decode cX8_decideNow 0 = .ok (.aload_n 0, 1) := by decide +kernel
theorem dX8_decideNow_1 : decode cX8_decideNow 1 = .ok (.iload_n 1, 1) := by decide +kernel
theorem dX8_decideNow_2 : decode cX8_decideNow 2 = .ok (.invokevirtual 181, 3) := by decide +kernel
theorem dX8_decideNow_5 : decode cX8_decideNow 5 = .ok (.ifCond .ne 14, 3) := by decide +kernel
theorem dX8_decideNow_8 : decode cX8_decideNow 8 = .ok (.aload_n 0, 1) := by decide +kernel
theorem dX8_decideNow_9 : decode cX8_decideNow 9 = .ok (.iconst 0, 1) := by decide +kernel
theorem dX8_decideNow_10 : decode cX8_decideNow 10 = .ok (.aload_n 0, 1) := by decide +kernel
theorem dX8_decideNow_11 : decode cX8_decideNow 11 = .ok (.getfield 16, 3) := by decide +kernel
theorem dX8_decideNow_14 : decode cX8_decideNow 14 = .ok (.iload_n 1, 1) := by decide +kernel
theorem dX8_decideNow_15 : decode cX8_decideNow 15 = .ok (.iaload, 1) := by decide +kernel
theorem dX8_decideNow_16 : decode cX8_decideNow 16 = .ok (.invokevirtual 139, 3) := by decide +kernel
theorem dX8_decideNow_19 : decode cX8_decideNow 19 = .ok (.aload_n 0, 1) := by decide +kernel
theorem dX8_decideNow_20 : decode cX8_decideNow 20 = .ok (.getfield 7, 3) := by decide +kernel
theorem dX8_decideNow_23 : decode cX8_decideNow 23 = .ok (.iload_n 1, 1) := by decide +kernel
theorem dX8_decideNow_24 : decode cX8_decideNow 24 = .ok (.iaload, 1) := by decide +kernel
theorem dX8_decideNow_25 : decode cX8_decideNow 25 = .ok (.ifCond .ne 7, 3) := by decide +kernel
theorem dX8_decideNow_28 : decode cX8_decideNow 28 = .ok (.iconst 0, 1) := by decide +kernel
theorem dX8_decideNow_29 : decode cX8_decideNow 29 = .ok (.goto 4, 3) := by decide +kernel
theorem dX8_decideNow_32 : decode cX8_decideNow 32 = .ok (.iconst 1, 1) := by decide +kernel
theorem dX8_decideNow_33 : decode cX8_decideNow 33 = .ok (.ireturn, 1) := by decide +kernel
set_option maxRecDepth 20000 in
theorem ggX8_decide_X8_isRegister : GoodIn wsX8_decide wsX8_isRegister := goodIn_r _ [5, 6, 7, 8, 4, 9] (by decide +kernel) (by decide +kernel)
set_option maxRecDepth 20000 in
theorem gX8_decide_X8_isRegister : GoodIn wsX8_decide (va_wsS RX8 119 yX8_isRegister wsX8_isRegister) := goodIn_app (goodIn_of _ (by decide +kernel)) ggX8_decide_X8_isRegister
set_option maxRecDepth 20000 in
theorem ggX8_decide_X8_decideNow : GoodIn wsX8_decide wsX8_decideNow := goodIn_r _ [13, 14, 15, 16, 17, 18, 4, 19, 20, 21, 22, 23, 24, 25, 26, 27, 28, 29, 40, 41, 42, 43, 44, 45, 46, 47, 48, 49, 50, 51, 52, 53, 54, 55, 56, 57, 58, 59, 60, 61, 62, 63, 64, 65, 66, 67] (by decide +kernel) (by decide +kernel)
set_option maxRecDepth 20000 in
theorem gX8_decide_X8_decideNow : GoodIn wsX8_decide (wsV RX8 184 RX8 yX8_decideNow wsX8_decideNow) := goodIn_app (goodIn_of _ (by decide +kernel)) ggX8_decide_X8_decideNow
set_option maxRecDepth 20000 in
theorem ggX8_decide_X8_tick : GoodIn wsX8_decide wsX8_tick := goodIn_r _ [33, 34, 35, 36, 28, 37, 38, 39, 40, 41, 42, 43, 44, 45, 46, 47, 48, 49, 50, 51, 52, 53, 54, 55, 56, 57, 58, 59, 60, 61, 62, 63, 64, 65, 66, 67] (by decide +kernel) (by decide +kernel)
set_option maxRecDepth 20000 in
theorem gX8_decide_X8_tick : GoodIn wsX8_decide (wsV RX8 132 RX8 yX8_tick wsX8_tick) := goodIn_app (goodIn_of _ (by decide +kernel)) ggX8_decide_X8_tick
theorem dX8_decide_0 : decode cX8_decide 0 = .ok (.iload_n 1, 1) := by decide +kernel
theorem dX8_decide_1 : decode cX8_decide 1 = .ok (.invokestatic 119, 3) := by decide +kernel
theorem dX8_decide_4 : decode cX8_decide 4 = .ok (.ifCond .eq 16, 3) := by decide +kernel
theorem dX8_decide_7 : decode cX8_decide 7 = .ok (.aload_n 0, 1) := by decide +kernel
theorem dX8_decide_8 : decode cX8_decide 8 = .ok (.iconst 5, 1) := by decide +kernel
theorem dX8_decide_9 : decode cX8_decide 9 = .ok (.aload_n 0, 1) := by decide +kernel
theorem dX8_decide_10 : decode cX8_decide 10 = .ok (.iload_n 1, 1) := by decide +kernel
theorem dX8_decide_11 : decode cX8_decide 11 = .ok (.invokevirtual 184, 3) := by decide +kernel
theorem dX8_decide_14 : decode cX8_decide 14 = .ok (.invokevirtual 132, 3) := by decide +kernel
theorem dX8_decide_17 : decode cX8_decide 17 = .ok (.goto 5, 3) := by decide +kernel
theorem dX8_decide_20 : decode cX8_decide 20 = .ok (.ldc 123, 2) := by decide +kernel
theorem dX8_decide_22 : decode cX8_decide 22 = .ok (.ireturn, 1) := by decide +kernel
theorem dX8_letOnes_0 : decode cX8_letOnes 0 = .ok (.iconst 0, 1) := by decide +kernel
theorem dX8_letOnes_1 : decode cX8_letOnes 1 = .ok (.istore_n 1, 1) := by decide +kernel
theorem dX8_letOnes_2 : decode cX8_letOnes 2 = .ok (.iconst 0, 1) := by decide +kernel
theorem dX8_letOnes_3 : decode cX8_letOnes 3 = .ok (.istore_n 2, 1) := by decide +kernel
theorem dX8_letOnes_4 : decode cX8_letOnes 4 = .ok (.iload_n 2, 1) := by decide +kernel
theorem dX8_letOnes_5 : decode cX8_letOnes 5 = .ok (.aload_n 0, 1) := by decide +kernel
theorem dX8_letOnes_6 : decode cX8_letOnes 6 = .ok (.getfield 83, 3) := by decide +kernel
theorem dX8_letOnes_9 : decode cX8_letOnes 9 = .ok (.if_icmp .ge 28, 3) := by decide +kernel
theorem dX8_letOnes_12 : decode cX8_letOnes 12 = .ok (.iload_n 1, 1) := by decide +kernel
theorem dX8_letOnes_13 : decode cX8_letOnes 13 = .ok (.aload_n 0, 1) := by decide +kernel
theorem dX8_letOnes_14 : decode cX8_letOnes 14 = .ok (.getfield 32, 3) := by decide +kernel
theorem dX8_letOnes_17 : decode cX8_letOnes 17 = .ok (.iload_n 2, 1) := by decide +kernel
theorem dX8_letOnes_18 : decode cX8_letOnes 18 = .ok (.baload, 1) := by decide +kernel
theorem dX8_letOnes_19 : decode cX8_letOnes 19 = .ok (.ifCond .eq 9, 3) := by decide +kernel
theorem dX8_letOnes_22 : decode cX8_letOnes 22 = .ok (.iconst 1, 1) := by decide +kernel
theorem dX8_letOnes_23 : decode cX8_letOnes 23 = .ok (.iload_n 2, 1) := by decide +kernel
theorem dX8_letOnes_24 : decode cX8_letOnes 24 = .ok (.ishl, 1) := by decide +kernel
theorem dX8_letOnes_25 : decode cX8_letOnes 25 = .ok (.goto 4, 3) := by decide +kernel
theorem dX8_letOnes_28 : decode cX8_letOnes 28 = .ok (.iconst 0, 1) := by decide +kernel
theorem dX8_letOnes_29 : decode cX8_letOnes 29 = .ok (.ior, 1) := by decide +kernel
theorem dX8_letOnes_30 : decode cX8_letOnes 30 = .ok (.istore_n 1, 1) := by decide +kernel
theorem dX8_letOnes_31 : decode cX8_letOnes 31 = .ok (.iinc 2 1, 3) := by decide +kernel
theorem dX8_letOnes_34 : decode cX8_letOnes 34 = .ok (.goto (-30), 3) := by decide +kernel
theorem dX8_letOnes_37 : decode cX8_letOnes 37 = .ok (.iload_n 1, 1) := by decide +kernel
theorem dX8_letOnes_38 : decode cX8_letOnes 38 = .ok (.ireturn, 1) := by decide +kernel
set_option maxRecDepth 20000 in
theorem ggX8_let_X8_in : GoodIn wsX8_let wsX8_in := goodIn_r _ [17] (by decide +kernel) (by decide +kernel)
set_option maxRecDepth 20000 in
theorem gX8_let_X8_in : GoodIn wsX8_let (va_wsS RX8 77 yX8_in wsX8_in) := goodIn_app (goodIn_of _ (by decide +kernel)) ggX8_let_X8_in
set_option maxRecDepth 20000 in
theorem ggX8_let_X8_lotBy : GoodIn wsX8_let wsX8_lotBy := goodIn_r _ [21, 22, 23, 24, 36, 37, 38, 39, 40, 41, 42, 43, 44, 45, 46, 47, 48, 49, 50, 51, 52, 53, 54, 55, 56, 57, 58, 59, 60, 61, 62, 63] (by decide +kernel) (by decide +kernel)
set_option maxRecDepth 20000 in
theorem gX8_let_X8_lotBy : GoodIn wsX8_let (wsV RX8 189 RX8 yX8_lotBy wsX8_lotBy) := goodIn_app (goodIn_of _ (by decide +kernel)) ggX8_let_X8_lotBy
set_option maxRecDepth 20000 in
theorem ggX8_let_X8_tick : GoodIn wsX8_let wsX8_tick := goodIn_r _ [28, 29, 30, 31, 32, 33, 34, 35, 36, 37, 38, 39, 40, 41, 42, 43, 44, 45, 46, 47, 48, 49, 50, 51, 52, 53, 54, 55, 56, 57, 58, 59, 60, 61, 62, 63] (by decide +kernel) (by decide +kernel)
set_option maxRecDepth 20000 in
theorem gX8_let_X8_tick : GoodIn wsX8_let (wsV RX8 132 RX8 yX8_tick wsX8_tick) := goodIn_app (goodIn_of _ (by decide +kernel)) ggX8_let_X8_tick
theorem dX8_let_0 : decode cX8_let 0 = .ok (.iload_n 2, 1) := by decide +kernel
theorem dX8_let_1 : decode cX8_let 1 = .ok (.i2l, 1) := by decide +kernel
theorem dX8_let_2 : decode cX8_let 2 = .ok (.lconst 1, 1) := by decide +kernel
theorem dX8_let_3 : decode cX8_let 3 = .ok (.ldc2_w 152, 3) := by decide +kernel
theorem dX8_let_6 : decode cX8_let 6 = .ok (.invokestatic 77, 3) := by decide +kernel
theorem dX8_let_9 : decode cX8_let 9 = .ok (.ifCond .eq 17, 3) := by decide +kernel
theorem dX8_let_12 : decode cX8_let 12 = .ok (.iload_n 1, 1) := by decide +kernel
theorem dX8_let_13 : decode cX8_let 13 = .ok (.i2l, 1) := by decide +kernel
theorem dX8_let_14 : decode cX8_let 14 = .ok (.lconst 0, 1) := by decide +kernel
theorem dX8_let_15 : decode cX8_let 15 = .ok (.bipush 32, 2) := by decide +kernel
theorem dX8_let_17 : decode cX8_let 17 = .ok (.iload_n 2, 1) := by decide +kernel
theorem dX8_let_18 : decode cX8_let 18 = .ok (.isub, 1) := by decide +kernel
theorem dX8_let_19 : decode cX8_let 19 = .ok (.i2l, 1) := by decide +kernel
theorem dX8_let_20 : decode cX8_let 20 = .ok (.invokestatic 77, 3) := by decide +kernel
theorem dX8_let_23 : decode cX8_let 23 = .ok (.ifCond .ne 6, 3) := by decide +kernel
theorem dX8_let_26 : decode cX8_let 26 = .ok (.ldc 127, 2) := by decide +kernel
theorem dX8_let_28 : decode cX8_let 28 = .ok (.ireturn, 1) := by decide +kernel
theorem dX8_let_29 : decode cX8_let 29 = .ok (.iload_n 1, 1) := by decide +kernel
end
section
theorem dX8_let_30 : decode cX8_let 30 = .ok (.istore_n 3, 1) := by decide +kernel
theorem dX8_let_31 : decode cX8_let 31 = .ok (.iload_n 3, 1) := by decide +kernel
theorem dX8_let_32 : decode cX8_let 32 = .ok (.iload_n 1, 1) := by decide +kernel
theorem dX8_let_33 : decode cX8_let 33 = .ok (.iload_n 2, 1) := by decide +kernel
theorem dX8_let_34 : decode cX8_let 34 = .ok (.iadd, 1) := by decide +kernel
theorem dX8_let_35 : decode cX8_let 35 = .ok (.if_icmp .ge 35, 3) := by decide +kernel
theorem dX8_let_38 : decode cX8_let 38 = .ok (.aload_n 0, 1) := by decide +kernel
theorem dX8_let_39 : decode cX8_let 39 = .ok (.getfield 23, 3) := by decide +kernel
theorem dX8_let_42 : decode cX8_let 42 = .ok (.iload_n 3, 1) := by decide +kernel
theorem dX8_let_43 : decode cX8_let 43 = .ok (.iaload, 1) := by decide +kernel
theorem dX8_let_44 : decode cX8_let 44 = .ok (.ifCond .lt 20, 3) := by decide +kernel
theorem dX8_let_47 : decode cX8_let 47 = .ok (.aload_n 0, 1) := by decide +kernel
theorem dX8_let_48 : decode cX8_let 48 = .ok (.getfield 32, 3) := by decide +kernel
theorem dX8_let_51 : decode cX8_let 51 = .ok (.aload_n 0, 1) := by decide +kernel
theorem dX8_let_52 : decode cX8_let 52 = .ok (.getfield 23, 3) := by decide +kernel
theorem dX8_let_55 : decode cX8_let 55 = .ok (.iload_n 3, 1) := by decide +kernel
theorem dX8_let_56 : decode cX8_let 56 = .ok (.iaload, 1) := by decide +kernel
theorem dX8_let_57 : decode cX8_let 57 = .ok (.baload, 1) := by decide +kernel
theorem dX8_let_58 : decode cX8_let 58 = .ok (.ifCond .eq 6, 3) := by decide +kernel
theorem dX8_let_61 : decode cX8_let 61 = .ok (.ldc 187, 2) := by decide +kernel
theorem dX8_let_63 : decode cX8_let 63 = .ok (.ireturn, 1) := by decide +kernel
theorem dX8_let_64 : decode cX8_let 64 = .ok (.iinc 3 1, 3) := by decide +kernel
theorem dX8_let_67 : decode cX8_let 67 = .ok (.goto (-36), 3) := by decide +kernel
theorem dX8_let_70 : decode cX8_let 70 = .ok (.aload_n 0, 1) := by decide +kernel
theorem dX8_let_71 : decode cX8_let 71 = .ok (.getfield 83, 3) := by decide +kernel
theorem dX8_let_74 : decode cX8_let 74 = .ok (.bipush 12, 2) := by decide +kernel
theorem dX8_let_76 : decode cX8_let 76 = .ok (.if_icmp .ne 6, 3) := by decide +kernel
theorem dX8_let_79 : decode cX8_let 79 = .ok (.ldc 188, 2) := by decide +kernel
theorem dX8_let_81 : decode cX8_let 81 = .ok (.ireturn, 1) := by decide +kernel
theorem dX8_let_82 : decode cX8_let 82 = .ok (.iload_n 1, 1) := by decide +kernel
theorem dX8_let_83 : decode cX8_let 83 = .ok (.istore_n 3, 1) := by decide +kernel
theorem dX8_let_84 : decode cX8_let 84 = .ok (.iload_n 3, 1) := by decide +kernel
theorem dX8_let_85 : decode cX8_let 85 = .ok (.iload_n 1, 1) := by decide +kernel
theorem dX8_let_86 : decode cX8_let 86 = .ok (.iload_n 2, 1) := by decide +kernel
theorem dX8_let_87 : decode cX8_let 87 = .ok (.iadd, 1) := by decide +kernel
theorem dX8_let_88 : decode cX8_let 88 = .ok (.if_icmp .ge 69, 3) := by decide +kernel
theorem dX8_let_91 : decode cX8_let 91 = .ok (.aload_n 0, 1) := by decide +kernel
theorem dX8_let_92 : decode cX8_let 92 = .ok (.getfield 7, 3) := by decide +kernel
theorem dX8_let_95 : decode cX8_let 95 = .ok (.bipush 8, 2) := by decide +kernel
theorem dX8_let_97 : decode cX8_let 97 = .ok (.iload_n 3, 1) := by decide +kernel
theorem dX8_let_98 : decode cX8_let 98 = .ok (.iadd, 1) := by decide +kernel
theorem dX8_let_99 : decode cX8_let 99 = .ok (.aload_n 0, 1) := by decide +kernel
theorem dX8_let_100 : decode cX8_let 100 = .ok (.sipush 256, 3) := by decide +kernel
theorem dX8_let_103 : decode cX8_let 103 = .ok (.invokevirtual 189, 3) := by decide +kernel
theorem dX8_let_106 : decode cX8_let 106 = .ok (.iastore, 1) := by decide +kernel
theorem dX8_let_107 : decode cX8_let 107 = .ok (.aload_n 0, 1) := by decide +kernel
theorem dX8_let_108 : decode cX8_let 108 = .ok (.getfield 13, 3) := by decide +kernel
theorem dX8_let_111 : decode cX8_let 111 = .ok (.bipush 8, 2) := by decide +kernel
theorem dX8_let_113 : decode cX8_let 113 = .ok (.iload_n 3, 1) := by decide +kernel
theorem dX8_let_114 : decode cX8_let 114 = .ok (.iadd, 1) := by decide +kernel
theorem dX8_let_115 : decode cX8_let 115 = .ok (.sipush 255, 3) := by decide +kernel
theorem dX8_let_118 : decode cX8_let 118 = .ok (.iastore, 1) := by decide +kernel
theorem dX8_let_119 : decode cX8_let 119 = .ok (.aload_n 0, 1) := by decide +kernel
theorem dX8_let_120 : decode cX8_let 120 = .ok (.getfield 16, 3) := by decide +kernel
theorem dX8_let_123 : decode cX8_let 123 = .ok (.bipush 8, 2) := by decide +kernel
theorem dX8_let_125 : decode cX8_let 125 = .ok (.iload_n 3, 1) := by decide +kernel
theorem dX8_let_126 : decode cX8_let 126 = .ok (.iadd, 1) := by decide +kernel
theorem dX8_let_127 : decode cX8_let 127 = .ok (.iconst 1, 1) := by decide +kernel
theorem dX8_let_128 : decode cX8_let 128 = .ok (.aload_n 0, 1) := by decide +kernel
theorem dX8_let_129 : decode cX8_let 129 = .ok (.getfield 83, 3) := by decide +kernel
theorem dX8_let_132 : decode cX8_let 132 = .ok (.ishl, 1) := by decide +kernel
theorem dX8_let_133 : decode cX8_let 133 = .ok (.iastore, 1) := by decide +kernel
theorem dX8_let_134 : decode cX8_let 134 = .ok (.aload_n 0, 1) := by decide +kernel
theorem dX8_let_135 : decode cX8_let 135 = .ok (.getfield 19, 3) := by decide +kernel
theorem dX8_let_138 : decode cX8_let 138 = .ok (.iload_n 3, 1) := by decide +kernel
theorem dX8_let_139 : decode cX8_let 139 = .ok (.iconst 0, 1) := by decide +kernel
theorem dX8_let_140 : decode cX8_let 140 = .ok (.bastore, 1) := by decide +kernel
theorem dX8_let_141 : decode cX8_let 141 = .ok (.aload_n 0, 1) := by decide +kernel
theorem dX8_let_142 : decode cX8_let 142 = .ok (.getfield 23, 3) := by decide +kernel
theorem dX8_let_145 : decode cX8_let 145 = .ok (.iload_n 3, 1) := by decide +kernel
theorem dX8_let_146 : decode cX8_let 146 = .ok (.aload_n 0, 1) := by decide +kernel
theorem dX8_let_147 : decode cX8_let 147 = .ok (.getfield 83, 3) := by decide +kernel
theorem dX8_let_150 : decode cX8_let 150 = .ok (.iastore, 1) := by decide +kernel
theorem dX8_let_151 : decode cX8_let 151 = .ok (.iinc 3 1, 3) := by decide +kernel
theorem dX8_let_154 : decode cX8_let 154 = .ok (.goto (-70), 3) := by decide +kernel
theorem dX8_let_157 : decode cX8_let 157 = .ok (.aload_n 0, 1) := by decide +kernel
theorem dX8_let_158 : decode cX8_let 158 = .ok (.getfield 26, 3) := by decide +kernel
theorem dX8_let_161 : decode cX8_let 161 = .ok (.aload_n 0, 1) := by decide +kernel
theorem dX8_let_162 : decode cX8_let 162 = .ok (.getfield 83, 3) := by decide +kernel
theorem dX8_let_165 : decode cX8_let 165 = .ok (.iload_n 1, 1) := by decide +kernel
theorem dX8_let_166 : decode cX8_let 166 = .ok (.iastore, 1) := by decide +kernel
theorem dX8_let_167 : decode cX8_let 167 = .ok (.aload_n 0, 1) := by decide +kernel
theorem dX8_let_168 : decode cX8_let 168 = .ok (.getfield 29, 3) := by decide +kernel
theorem dX8_let_171 : decode cX8_let 171 = .ok (.aload_n 0, 1) := by decide +kernel
theorem dX8_let_172 : decode cX8_let 172 = .ok (.getfield 83, 3) := by decide +kernel
theorem dX8_let_175 : decode cX8_let 175 = .ok (.iload_n 2, 1) := by decide +kernel
theorem dX8_let_176 : decode cX8_let 176 = .ok (.iastore, 1) := by decide +kernel
theorem dX8_let_177 : decode cX8_let 177 = .ok (.aload_n 0, 1) := by decide +kernel
theorem dX8_let_178 : decode cX8_let 178 = .ok (.getfield 32, 3) := by decide +kernel
theorem dX8_let_181 : decode cX8_let 181 = .ok (.aload_n 0, 1) := by decide +kernel
theorem dX8_let_182 : decode cX8_let 182 = .ok (.getfield 83, 3) := by decide +kernel
theorem dX8_let_185 : decode cX8_let 185 = .ok (.iconst 1, 1) := by decide +kernel
theorem dX8_let_186 : decode cX8_let 186 = .ok (.bastore, 1) := by decide +kernel
theorem dX8_let_187 : decode cX8_let 187 = .ok (.aload_n 0, 1) := by decide +kernel
theorem dX8_let_188 : decode cX8_let 188 = .ok (.dup, 1) := by decide +kernel
theorem dX8_let_189 : decode cX8_let 189 = .ok (.getfield 83, 3) := by decide +kernel
theorem dX8_let_192 : decode cX8_let 192 = .ok (.iconst 1, 1) := by decide +kernel
theorem dX8_let_193 : decode cX8_let 193 = .ok (.iadd, 1) := by decide +kernel
theorem dX8_let_194 : decode cX8_let 194 = .ok (.putfield 83, 3) := by decide +kernel
theorem dX8_let_197 : decode cX8_let 197 = .ok (.aload_n 0, 1) := by decide +kernel
theorem dX8_let_198 : decode cX8_let 198 = .ok (.bipush 6, 2) := by decide +kernel
theorem dX8_let_200 : decode cX8_let 200 = .ok (.aload_n 0, 1) := by decide +kernel
theorem dX8_let_201 : decode cX8_let 201 = .ok (.getfield 83, 3) := by decide +kernel
theorem dX8_let_204 : decode cX8_let 204 = .ok (.iconst 1, 1) := by decide +kernel
theorem dX8_let_205 : decode cX8_let 205 = .ok (.isub, 1) := by decide +kernel
theorem dX8_let_206 : decode cX8_let 206 = .ok (.invokevirtual 132, 3) := by decide +kernel
theorem dX8_let_209 : decode cX8_let 209 = .ok (.ireturn, 1) := by decide +kernel
set_option maxRecDepth 20000 in
theorem ggX8_giveBack_X8_isGround : GoodIn wsX8_giveBack wsX8_isGround := goodIn_r _ [11, 12, 13, 14, 10, 15, 34, 35, 36, 37, 38, 39, 40, 41, 42, 43, 44, 45, 46, 47, 48, 49, 50, 51, 52, 53, 54, 55, 56, 57, 58, 59, 60, 61] (by decide +kernel) (by decide +kernel)
set_option maxRecDepth 20000 in
theorem gX8_giveBack_X8_isGround : GoodIn wsX8_giveBack (wsV RX8 136 RX8 yX8_isGround wsX8_isGround) := goodIn_app (goodIn_of _ (by decide +kernel)) ggX8_giveBack_X8_isGround
set_option maxRecDepth 20000 in
theorem ggX8_giveBack_X8_letOnes : GoodIn wsX8_giveBack wsX8_letOnes := goodIn_r _ [19, 12, 2, 34, 35, 36, 37, 38, 39, 40, 41, 42, 43, 44, 45, 46, 47, 48, 49, 50, 51, 52, 53, 54, 55, 56, 57, 58, 59, 60, 61] (by decide +kernel) (by decide +kernel)
set_option maxRecDepth 20000 in
theorem gX8_giveBack_X8_letOnes : GoodIn wsX8_giveBack (wsV RX8 192 RX8 yX8_letOnes wsX8_letOnes) := goodIn_app (goodIn_of _ (by decide +kernel)) ggX8_giveBack_X8_letOnes
set_option maxRecDepth 20000 in
theorem ggX8_giveBack_X8_bits : GoodIn wsX8_giveBack wsX8_bits := goodIn_r _ [22] (by decide +kernel) (by decide +kernel)
set_option maxRecDepth 20000 in
theorem gX8_giveBack_X8_bits : GoodIn wsX8_giveBack (va_wsS RX8 172 yX8_bits wsX8_bits) := goodIn_app (goodIn_of _ (by decide +kernel)) ggX8_giveBack_X8_bits
set_option maxRecDepth 20000 in
theorem ggX8_giveBack_X8_tick : GoodIn wsX8_giveBack wsX8_tick := goodIn_r _ [26, 27, 28, 29, 30, 31, 32, 33, 34, 35, 36, 37, 38, 39, 40, 41, 42, 43, 44, 45, 46, 47, 48, 49, 50, 51, 52, 53, 54, 55, 56, 57, 58, 59, 60, 61] (by decide +kernel) (by decide +kernel)
set_option maxRecDepth 20000 in
theorem gX8_giveBack_X8_tick : GoodIn wsX8_giveBack (wsV RX8 132 RX8 yX8_tick wsX8_tick) := goodIn_app (goodIn_of _ (by decide +kernel)) ggX8_giveBack_X8_tick
theorem dX8_giveBack_0 : decode cX8_giveBack 0 = .ok (.aload_n 0, 1) := by decide +kernel
theorem dX8_giveBack_1 : decode cX8_giveBack 1 = .ok (.iload_n 1, 1) := by decide +kernel
theorem dX8_giveBack_2 : decode cX8_giveBack 2 = .ok (.invokevirtual 136, 3) := by decide +kernel
theorem dX8_giveBack_5 : decode cX8_giveBack 5 = .ok (.ifCond .ne 6, 3) := by decide +kernel
theorem dX8_giveBack_8 : decode cX8_giveBack 8 = .ok (.ldc 123, 2) := by decide +kernel
theorem dX8_giveBack_10 : decode cX8_giveBack 10 = .ok (.ireturn, 1) := by decide +kernel
theorem dX8_giveBack_11 : decode cX8_giveBack 11 = .ok (.aload_n 0, 1) := by decide +kernel
theorem dX8_giveBack_12 : decode cX8_giveBack 12 = .ok (.getfield 32, 3) := by decide +kernel
theorem dX8_giveBack_15 : decode cX8_giveBack 15 = .ok (.iload_n 1, 1) := by decide +kernel
theorem dX8_giveBack_16 : decode cX8_giveBack 16 = .ok (.baload, 1) := by decide +kernel
theorem dX8_giveBack_17 : decode cX8_giveBack 17 = .ok (.ifCond .ne 6, 3) := by decide +kernel
theorem dX8_giveBack_20 : decode cX8_giveBack 20 = .ok (.ldc 187, 2) := by decide +kernel
theorem dX8_giveBack_22 : decode cX8_giveBack 22 = .ok (.ireturn, 1) := by decide +kernel
theorem dX8_giveBack_23 : decode cX8_giveBack 23 = .ok (.aload_n 0, 1) := by decide +kernel
theorem dX8_giveBack_24 : decode cX8_giveBack 24 = .ok (.getfield 32, 3) := by decide +kernel
theorem dX8_giveBack_27 : decode cX8_giveBack 27 = .ok (.iload_n 1, 1) := by decide +kernel
theorem dX8_giveBack_28 : decode cX8_giveBack 28 = .ok (.iconst 0, 1) := by decide +kernel
theorem dX8_giveBack_29 : decode cX8_giveBack 29 = .ok (.bastore, 1) := by decide +kernel
theorem dX8_giveBack_30 : decode cX8_giveBack 30 = .ok (.aload_n 0, 1) := by decide +kernel
theorem dX8_giveBack_31 : decode cX8_giveBack 31 = .ok (.getfield 26, 3) := by decide +kernel
theorem dX8_giveBack_34 : decode cX8_giveBack 34 = .ok (.iload_n 1, 1) := by decide +kernel
theorem dX8_giveBack_35 : decode cX8_giveBack 35 = .ok (.iaload, 1) := by decide +kernel
theorem dX8_giveBack_36 : decode cX8_giveBack 36 = .ok (.istore_n 2, 1) := by decide +kernel
theorem dX8_giveBack_37 : decode cX8_giveBack 37 = .ok (.iload_n 2, 1) := by decide +kernel
theorem dX8_giveBack_38 : decode cX8_giveBack 38 = .ok (.aload_n 0, 1) := by decide +kernel
theorem dX8_giveBack_39 : decode cX8_giveBack 39 = .ok (.getfield 26, 3) := by decide +kernel
theorem dX8_giveBack_42 : decode cX8_giveBack 42 = .ok (.iload_n 1, 1) := by decide +kernel
theorem dX8_giveBack_43 : decode cX8_giveBack 43 = .ok (.iaload, 1) := by decide +kernel
theorem dX8_giveBack_44 : decode cX8_giveBack 44 = .ok (.aload_n 0, 1) := by decide +kernel
theorem dX8_giveBack_45 : decode cX8_giveBack 45 = .ok (.getfield 29, 3) := by decide +kernel
theorem dX8_giveBack_48 : decode cX8_giveBack 48 = .ok (.iload_n 1, 1) := by decide +kernel
theorem dX8_giveBack_49 : decode cX8_giveBack 49 = .ok (.iaload, 1) := by decide +kernel
theorem dX8_giveBack_50 : decode cX8_giveBack 50 = .ok (.iadd, 1) := by decide +kernel
theorem dX8_giveBack_51 : decode cX8_giveBack 51 = .ok (.if_icmp .ge 16, 3) := by decide +kernel
theorem dX8_giveBack_54 : decode cX8_giveBack 54 = .ok (.aload_n 0, 1) := by decide +kernel
theorem dX8_giveBack_55 : decode cX8_giveBack 55 = .ok (.getfield 19, 3) := by decide +kernel
theorem dX8_giveBack_58 : decode cX8_giveBack 58 = .ok (.iload_n 2, 1) := by decide +kernel
theorem dX8_giveBack_59 : decode cX8_giveBack 59 = .ok (.iconst 1, 1) := by decide +kernel
theorem dX8_giveBack_60 : decode cX8_giveBack 60 = .ok (.bastore, 1) := by decide +kernel
theorem dX8_giveBack_61 : decode cX8_giveBack 61 = .ok (.iinc 2 1, 3) := by decide +kernel
theorem dX8_giveBack_64 : decode cX8_giveBack 64 = .ok (.goto (-27), 3) := by decide +kernel
theorem dX8_giveBack_67 : decode cX8_giveBack 67 = .ok (.aload_n 0, 1) := by decide +kernel
theorem dX8_giveBack_68 : decode cX8_giveBack 68 = .ok (.bipush 7, 2) := by decide +kernel
theorem dX8_giveBack_70 : decode cX8_giveBack 70 = .ok (.aload_n 0, 1) := by decide +kernel
theorem dX8_giveBack_71 : decode cX8_giveBack 71 = .ok (.invokevirtual 192, 3) := by decide +kernel
theorem dX8_giveBack_74 : decode cX8_giveBack 74 = .ok (.invokestatic 172, 3) := by decide +kernel
theorem dX8_giveBack_77 : decode cX8_giveBack 77 = .ok (.invokevirtual 132, 3) := by decide +kernel
theorem dX8_giveBack_80 : decode cX8_giveBack 80 = .ok (.ireturn, 1) := by decide +kernel
set_option maxRecDepth 20000 in
theorem ggX8_doByLots_X8_lotBy : GoodIn wsX8_doByLots wsX8_lotBy := goodIn_r _ [5, 6, 7, 8, 106, 107, 108, 109, 110, 111, 112, 113, 114, 115, 116, 117, 118, 119, 120, 121, 122, 123, 124, 125, 126, 127, 128, 129, 130, 131, 132, 133] (by decide +kernel) (by decide +kernel)
set_option maxRecDepth 20000 in
theorem gX8_doByLots_X8_lotBy : GoodIn wsX8_doByLots (wsV RX8 189 RX8 yX8_lotBy wsX8_lotBy) := goodIn_app (goodIn_of _ (by decide +kernel)) ggX8_doByLots_X8_lotBy
set_option maxRecDepth 20000 in
theorem ggX8_doByLots_X8_ruleNow : GoodIn wsX8_doByLots wsX8_ruleNow := goodIn_r _ [12, 13, 14, 15, 16, 17, 18, 4, 19, 20, 21, 22, 23, 24, 25, 26, 27, 28, 29, 30, 31, 32, 33, 34, 35, 36, 37, 38, 39, 40, 41, 106, 107, 108, 109, 110, 111, 112, 113, 114, 115, 116, 117, 118, 119, 120, 121, 122, 123, 124, 125, 126, 127, 128, 129, 130, 131, 132, 133] (by decide +kernel) (by decide +kernel)
set_option maxRecDepth 20000 in
theorem gX8_doByLots_X8_ruleNow : GoodIn wsX8_doByLots (wsV RX8 177 RX8 yX8_ruleNow wsX8_ruleNow) := goodIn_app (goodIn_of _ (by decide +kernel)) ggX8_doByLots_X8_ruleNow
set_option maxRecDepth 20000 in
theorem ggX8_doByLots_X8_tick : GoodIn wsX8_doByLots wsX8_tick := goodIn_r _ [45, 46, 47, 48, 49, 50, 51, 52, 106, 107, 108, 109, 110, 111, 112, 113, 114, 115, 116, 117, 118, 119, 120, 121, 122, 123, 124, 125, 126, 127, 128, 129, 130, 131, 132, 133] (by decide +kernel) (by decide +kernel)
set_option maxRecDepth 20000 in
theorem gX8_doByLots_X8_tick : GoodIn wsX8_doByLots (wsV RX8 132 RX8 yX8_tick wsX8_tick) := goodIn_app (goodIn_of _ (by decide +kernel)) ggX8_doByLots_X8_tick
set_option maxRecDepth 20000 in
theorem ggX8_doByLots_X8_load : GoodIn wsX8_doByLots wsX8_load := goodIn_r _ [56, 57, 58, 59, 4, 60, 61, 62, 63, 64, 65, 66, 67, 51, 68, 69, 70, 71, 13, 14, 16, 72, 73, 74, 75, 76, 77, 78, 79, 80, 81, 82, 83, 84, 49, 85, 29, 30, 31, 32, 33, 34, 35, 36, 37, 38, 39, 40, 41, 42, 43, 44, 45, 46, 47, 48, 50, 52, 106, 107, 108, 109, 110, 111, 112, 113, 114, 115, 116, 117, 118, 119, 120, 121, 122, 123, 124, 125, 126, 127, 128, 129, 130, 131, 132, 133] (by decide +kernel) (by decide +kernel)
set_option maxRecDepth 20000 in
theorem gX8_doByLots_X8_load : GoodIn wsX8_doByLots (wsV RX8 195 RX8 yX8_load wsX8_load) := goodIn_app (goodIn_of _ (by decide +kernel)) ggX8_doByLots_X8_load
set_option maxRecDepth 20000 in
theorem ggX8_doByLots_X8_store : GoodIn wsX8_doByLots wsX8_store := goodIn_r _ [89, 57, 58, 59, 4, 60, 61, 62, 63, 64, 65, 66, 67, 51, 90, 91, 92, 93, 76, 13, 14, 16, 29, 30, 31, 32, 33, 34, 35, 36, 37, 38, 39, 40, 41, 42, 43, 44, 45, 46, 47, 48, 49, 50, 52, 106, 107, 108, 109, 110, 111, 112, 113, 114, 115, 116, 117, 118, 119, 120, 121, 122, 123, 124, 125, 126, 127, 128, 129, 130, 131, 132, 133] (by decide +kernel) (by decide +kernel)
set_option maxRecDepth 20000 in
theorem gX8_doByLots_X8_store : GoodIn wsX8_doByLots (wsV RX8 198 RX8 yX8_store wsX8_store) := goodIn_app (goodIn_of _ (by decide +kernel)) ggX8_doByLots_X8_store
set_option maxRecDepth 20000 in
theorem ggX8_doByLots_X8_decide : GoodIn wsX8_doByLots wsX8_decide := goodIn_r _ [97, 57, 58, 59, 4, 60, 61, 62, 63, 64, 98, 99, 100, 101, 16, 13, 102, 103, 104, 105, 14, 78, 79, 80, 81, 82, 83, 84, 49, 85, 42, 43, 44, 45, 46, 47, 48, 50, 51, 52, 106, 107, 108, 109, 110, 111, 112, 113, 114, 115, 116, 117, 118, 119, 120, 121, 122, 123, 124, 125, 126, 127, 128, 129, 130, 131, 132, 133] (by decide +kernel) (by decide +kernel)
set_option maxRecDepth 20000 in
theorem gX8_doByLots_X8_decide : GoodIn wsX8_doByLots (wsV RX8 201 RX8 yX8_decide wsX8_decide) := goodIn_app (goodIn_of _ (by decide +kernel)) ggX8_doByLots_X8_decide
theorem dX8_doByLots_0 : decode cX8_doByLots 0 = .ok (.aload_n 0, 1) := by decide +kernel
theorem dX8_doByLots_1 : decode cX8_doByLots 1 = .ok (.iconst 4, 1) := by decide +kernel
theorem dX8_doByLots_2 : decode cX8_doByLots 2 = .ok (.invokevirtual 189, 3) := by decide +kernel
theorem dX8_doByLots_5 : decode cX8_doByLots 5 = .ok (.istore_n 1, 1) := by decide +kernel
theorem dX8_doByLots_6 : decode cX8_doByLots 6 = .ok (.iload_n 1, 1) := by decide +kernel
theorem dX8_doByLots_7 : decode cX8_doByLots 7 = .ok (.ifCond .ne 54, 3) := by decide +kernel
theorem dX8_doByLots_10 : decode cX8_doByLots 10 = .ok (.aload_n 0, 1) := by decide +kernel
theorem dX8_doByLots_11 : decode cX8_doByLots 11 = .ok (.bipush 7, 2) := by decide +kernel
theorem dX8_doByLots_13 : decode cX8_doByLots 13 = .ok (.invokevirtual 189, 3) := by decide +kernel
theorem dX8_doByLots_16 : decode cX8_doByLots 16 = .ok (.istore_n 2, 1) := by decide +kernel
theorem dX8_doByLots_17 : decode cX8_doByLots 17 = .ok (.aload_n 0, 1) := by decide +kernel
theorem dX8_doByLots_18 : decode cX8_doByLots 18 = .ok (.bipush 8, 2) := by decide +kernel
theorem dX8_doByLots_20 : decode cX8_doByLots 20 = .ok (.invokevirtual 189, 3) := by decide +kernel
theorem dX8_doByLots_23 : decode cX8_doByLots 23 = .ok (.istore_n 3, 1) := by decide +kernel
theorem dX8_doByLots_24 : decode cX8_doByLots 24 = .ok (.aload_n 0, 1) := by decide +kernel
theorem dX8_doByLots_25 : decode cX8_doByLots 25 = .ok (.bipush 8, 2) := by decide +kernel
theorem dX8_doByLots_27 : decode cX8_doByLots 27 = .ok (.invokevirtual 189, 3) := by decide +kernel
theorem dX8_doByLots_30 : decode cX8_doByLots 30 = .ok (.istore 4, 2) := by decide +kernel
theorem dX8_doByLots_32 : decode cX8_doByLots 32 = .ok (.aload_n 0, 1) := by decide +kernel
theorem dX8_doByLots_33 : decode cX8_doByLots 33 = .ok (.bipush 8, 2) := by decide +kernel
theorem dX8_doByLots_35 : decode cX8_doByLots 35 = .ok (.invokevirtual 189, 3) := by decide +kernel
theorem dX8_doByLots_38 : decode cX8_doByLots 38 = .ok (.istore 5, 2) := by decide +kernel
theorem dX8_doByLots_40 : decode cX8_doByLots 40 = .ok (.aload_n 0, 1) := by decide +kernel
theorem dX8_doByLots_41 : decode cX8_doByLots 41 = .ok (.iconst 4, 1) := by decide +kernel
theorem dX8_doByLots_42 : decode cX8_doByLots 42 = .ok (.aload_n 0, 1) := by decide +kernel
theorem dX8_doByLots_43 : decode cX8_doByLots 43 = .ok (.iload_n 2, 1) := by decide +kernel
theorem dX8_doByLots_44 : decode cX8_doByLots 44 = .ok (.iload_n 3, 1) := by decide +kernel
theorem dX8_doByLots_45 : decode cX8_doByLots 45 = .ok (.iload 4, 2) := by decide +kernel
theorem dX8_doByLots_47 : decode cX8_doByLots 47 = .ok (.iload 5, 2) := by decide +kernel
theorem dX8_doByLots_49 : decode cX8_doByLots 49 = .ok (.iconst 0, 1) := by decide +kernel
theorem dX8_doByLots_50 : decode cX8_doByLots 50 = .ok (.invokevirtual 177, 3) := by decide +kernel
theorem dX8_doByLots_53 : decode cX8_doByLots 53 = .ok (.invokevirtual 132, 3) := by decide +kernel
theorem dX8_doByLots_56 : decode cX8_doByLots 56 = .ok (.istore 6, 2) := by decide +kernel
theorem dX8_doByLots_58 : decode cX8_doByLots 58 = .ok (.goto 58, 3) := by decide +kernel
theorem dX8_doByLots_61 : decode cX8_doByLots 61 = .ok (.iload_n 1, 1) := by decide +kernel
theorem dX8_doByLots_62 : decode cX8_doByLots 62 = .ok (.iconst 3, 1) := by decide +kernel
theorem dX8_doByLots_63 : decode cX8_doByLots 63 = .ok (.if_icmp .ge 42, 3) := by decide +kernel
theorem dX8_doByLots_66 : decode cX8_doByLots 66 = .ok (.aload_n 0, 1) := by decide +kernel
theorem dX8_doByLots_67 : decode cX8_doByLots 67 = .ok (.bipush 8, 2) := by decide +kernel
theorem dX8_doByLots_69 : decode cX8_doByLots 69 = .ok (.invokevirtual 189, 3) := by decide +kernel
theorem dX8_doByLots_72 : decode cX8_doByLots 72 = .ok (.istore_n 2, 1) := by decide +kernel
theorem dX8_doByLots_73 : decode cX8_doByLots 73 = .ok (.aload_n 0, 1) := by decide +kernel
theorem dX8_doByLots_74 : decode cX8_doByLots 74 = .ok (.bipush 32, 2) := by decide +kernel
theorem dX8_doByLots_76 : decode cX8_doByLots 76 = .ok (.invokevirtual 189, 3) := by decide +kernel
theorem dX8_doByLots_79 : decode cX8_doByLots 79 = .ok (.istore_n 3, 1) := by decide +kernel
theorem dX8_doByLots_80 : decode cX8_doByLots 80 = .ok (.iload_n 1, 1) := by decide +kernel
theorem dX8_doByLots_81 : decode cX8_doByLots 81 = .ok (.iconst 1, 1) := by decide +kernel
theorem dX8_doByLots_82 : decode cX8_doByLots 82 = .ok (.if_icmp .ne 12, 3) := by decide +kernel
theorem dX8_doByLots_85 : decode cX8_doByLots 85 = .ok (.aload_n 0, 1) := by decide +kernel
theorem dX8_doByLots_86 : decode cX8_doByLots 86 = .ok (.iload_n 2, 1) := by decide +kernel
theorem dX8_doByLots_87 : decode cX8_doByLots 87 = .ok (.iload_n 3, 1) := by decide +kernel
theorem dX8_doByLots_88 : decode cX8_doByLots 88 = .ok (.invokevirtual 195, 3) := by decide +kernel
theorem dX8_doByLots_91 : decode cX8_doByLots 91 = .ok (.goto 9, 3) := by decide +kernel
theorem dX8_doByLots_94 : decode cX8_doByLots 94 = .ok (.aload_n 0, 1) := by decide +kernel
theorem dX8_doByLots_95 : decode cX8_doByLots 95 = .ok (.iload_n 2, 1) := by decide +kernel
theorem dX8_doByLots_96 : decode cX8_doByLots 96 = .ok (.iload_n 3, 1) := by decide +kernel
theorem dX8_doByLots_97 : decode cX8_doByLots 97 = .ok (.invokevirtual 198, 3) := by decide +kernel
theorem dX8_doByLots_100 : decode cX8_doByLots 100 = .ok (.istore 4, 2) := by decide +kernel
theorem dX8_doByLots_102 : decode cX8_doByLots 102 = .ok (.goto 14, 3) := by decide +kernel
theorem dX8_doByLots_105 : decode cX8_doByLots 105 = .ok (.aload_n 0, 1) := by decide +kernel
theorem dX8_doByLots_106 : decode cX8_doByLots 106 = .ok (.aload_n 0, 1) := by decide +kernel
theorem dX8_doByLots_107 : decode cX8_doByLots 107 = .ok (.bipush 8, 2) := by decide +kernel
theorem dX8_doByLots_109 : decode cX8_doByLots 109 = .ok (.invokevirtual 189, 3) := by decide +kernel
theorem dX8_doByLots_112 : decode cX8_doByLots 112 = .ok (.invokevirtual 201, 3) := by decide +kernel
theorem dX8_doByLots_115 : decode cX8_doByLots 115 = .ok (.istore_n 2, 1) := by decide +kernel
theorem dX8_doByLots_116 : decode cX8_doByLots 116 = .ok (.return_, 1) := by decide +kernel
set_option maxRecDepth 20000 in
theorem ggX8_drift_X8_in : GoodIn wsX8_drift wsX8_in := goodIn_r _ [7] (by decide +kernel) (by decide +kernel)
set_option maxRecDepth 20000 in
theorem gX8_drift_X8_in : GoodIn wsX8_drift (va_wsS RX8 77 yX8_in wsX8_in) := goodIn_app (goodIn_of _ (by decide +kernel)) ggX8_drift_X8_in
set_option maxRecDepth 20000 in
theorem ggX8_drift_X8_doByLots : GoodIn wsX8_drift wsX8_doByLots := goodIn_r _ [11, 12, 13, 14, 6, 15, 16, 17, 18, 19, 20, 21, 22, 23, 24, 25, 26, 27, 28, 29, 30, 31, 32, 33, 34, 35, 36, 37, 38, 39, 40, 41, 42, 43, 44, 45, 46, 47, 48, 49, 50, 51, 52, 53, 54, 55, 56, 57, 58, 59, 60, 61, 62, 63, 64, 65, 66, 67, 68, 69, 70, 71, 4, 5, 7, 72, 73, 74, 75, 76, 77, 78, 79, 80, 81, 82, 83, 84, 85, 86, 87, 88, 3, 89, 90, 91, 92, 93, 94, 95, 96, 97, 98, 99, 100, 101, 102, 103, 104, 105, 106, 107, 108, 109, 110, 111, 112, 113, 114, 115, 116, 117, 118, 119, 120, 121, 122, 123, 124, 125, 126, 127, 128, 129, 130, 131, 132, 133, 134, 135, 136, 137, 138, 139] (by decide +kernel) (by decide +kernel)
set_option maxRecDepth 20000 in
theorem gX8_drift_X8_doByLots : GoodIn wsX8_drift (wsV RX8 206 RX8 yX8_doByLots wsX8_doByLots) := goodIn_app (goodIn_of _ (by decide +kernel)) ggX8_drift_X8_doByLots
theorem dX8_drift_0 : decode cX8_drift 0 = .ok (.iload_n 1, 1) := by decide +kernel
theorem dX8_drift_1 : decode cX8_drift 1 = .ok (.i2l, 1) := by decide +kernel
theorem dX8_drift_2 : decode cX8_drift 2 = .ok (.lconst 1, 1) := by decide +kernel
theorem dX8_drift_3 : decode cX8_drift 3 = .ok (.ldc2_w 204, 3) := by decide +kernel
theorem dX8_drift_6 : decode cX8_drift 6 = .ok (.invokestatic 77, 3) := by decide +kernel
theorem dX8_drift_9 : decode cX8_drift 9 = .ok (.ifCond .ne 6, 3) := by decide +kernel
theorem dX8_drift_12 : decode cX8_drift 12 = .ok (.ldc 127, 2) := by decide +kernel
theorem dX8_drift_14 : decode cX8_drift 14 = .ok (.ireturn, 1) := by decide +kernel
theorem dX8_drift_15 : decode cX8_drift 15 = .ok (.iconst 0, 1) := by decide +kernel
theorem dX8_drift_16 : decode cX8_drift 16 = .ok (.istore_n 2, 1) := by decide +kernel
theorem dX8_drift_17 : decode cX8_drift 17 = .ok (.iload_n 2, 1) := by decide +kernel
theorem dX8_drift_18 : decode cX8_drift 18 = .ok (.iload_n 1, 1) := by decide +kernel
theorem dX8_drift_19 : decode cX8_drift 19 = .ok (.if_icmp .ge 13, 3) := by decide +kernel
theorem dX8_drift_22 : decode cX8_drift 22 = .ok (.aload_n 0, 1) := by decide +kernel
theorem dX8_drift_23 : decode cX8_drift 23 = .ok (.invokevirtual 206, 3) := by decide +kernel
theorem dX8_drift_26 : decode cX8_drift 26 = .ok (.iinc 2 1, 3) := by decide +kernel
theorem dX8_drift_29 : decode cX8_drift 29 = .ok (.goto (-12), 3) := by decide +kernel
theorem dX8_drift_32 : decode cX8_drift 32 = .ok (.aload_n 0, 1) := by decide +kernel
theorem dX8_drift_33 : decode cX8_drift 33 = .ok (.getfield 95, 3) := by decide +kernel
theorem dX8_drift_36 : decode cX8_drift 36 = .ok (.ireturn, 1) := by decide +kernel
set_option maxRecDepth 20000 in
theorem ggX8_lot_X8_in : GoodIn wsX8_lot wsX8_in := goodIn_r _ [7] (by decide +kernel) (by decide +kernel)
set_option maxRecDepth 20000 in
theorem gX8_lot_X8_in : GoodIn wsX8_lot (va_wsS RX8 77 yX8_in wsX8_in) := goodIn_app (goodIn_of _ (by decide +kernel)) ggX8_lot_X8_in
theorem dX8_lot_0 : decode cX8_lot 0 = .ok (.iload_n 1, 1) := by decide +kernel
theorem dX8_lot_1 : decode cX8_lot 1 = .ok (.i2l, 1) := by decide +kernel
theorem dX8_lot_2 : decode cX8_lot 2 = .ok (.lconst 1, 1) := by decide +kernel
theorem dX8_lot_3 : decode cX8_lot 3 = .ok (.ldc2_w 209, 3) := by decide +kernel
theorem dX8_lot_6 : decode cX8_lot 6 = .ok (.invokestatic 77, 3) := by decide +kernel
theorem dX8_lot_9 : decode cX8_lot 9 = .ok (.ifCond .ne 6, 3) := by decide +kernel
theorem dX8_lot_12 : decode cX8_lot 12 = .ok (.ldc 127, 2) := by decide +kernel
theorem dX8_lot_14 : decode cX8_lot 14 = .ok (.ireturn, 1) := by decide +kernel
theorem dX8_lot_15 : decode cX8_lot 15 = .ok (.aload_n 0, 1) := by decide +kernel
theorem dX8_lot_16 : decode cX8_lot 16 = .ok (.getfield 92, 3) := by decide +kernel
theorem dX8_lot_19 : decode cX8_lot 19 = .ok (.istore_n 2, 1) := by decide +kernel
theorem dX8_lot_20 : decode cX8_lot 20 = .ok (.aload_n 0, 1) := by decide +kernel
theorem dX8_lot_21 : decode cX8_lot 21 = .ok (.iload_n 1, 1) := by decide +kernel
theorem dX8_lot_22 : decode cX8_lot 22 = .ok (.putfield 92, 3) := by decide +kernel
theorem dX8_lot_25 : decode cX8_lot 25 = .ok (.iload_n 2, 1) := by decide +kernel
theorem dX8_lot_26 : decode cX8_lot 26 = .ok (.ireturn, 1) := by decide +kernel
theorem dX8_undo_0 : decode cX8_undo 0 = .ok (.aload_n 0, 1) := by decide +kernel
theorem dX8_undo_1 : decode cX8_undo 1 = .ok (.getfield 108, 3) := by decide +kernel
theorem dX8_undo_4 : decode cX8_undo 4 = .ok (.ifCond .ne 6, 3) := by decide +kernel
theorem dX8_undo_7 : decode cX8_undo 7 = .ok (.ldc 187, 2) := by decide +kernel
theorem dX8_undo_9 : decode cX8_undo 9 = .ok (.ireturn, 1) := by decide +kernel
theorem dX8_undo_10 : decode cX8_undo 10 = .ok (.aload_n 0, 1) := by decide +kernel
theorem dX8_undo_11 : decode cX8_undo 11 = .ok (.dup, 1) := by decide +kernel
theorem dX8_undo_12 : decode cX8_undo 12 = .ok (.getfield 108, 3) := by decide +kernel
theorem dX8_undo_15 : decode cX8_undo 15 = .ok (.iconst 1, 1) := by decide +kernel
theorem dX8_undo_16 : decode cX8_undo 16 = .ok (.isub, 1) := by decide +kernel
theorem dX8_undo_17 : decode cX8_undo 17 = .ok (.putfield 108, 3) := by decide +kernel
theorem dX8_undo_20 : decode cX8_undo 20 = .ok (.aload_n 0, 1) := by decide +kernel
theorem dX8_undo_21 : decode cX8_undo 21 = .ok (.getfield 53, 3) := by decide +kernel
theorem dX8_undo_24 : decode cX8_undo 24 = .ok (.aload_n 0, 1) := by decide +kernel
theorem dX8_undo_25 : decode cX8_undo 25 = .ok (.getfield 108, 3) := by decide +kernel
theorem dX8_undo_28 : decode cX8_undo 28 = .ok (.iaload, 1) := by decide +kernel
theorem dX8_undo_29 : decode cX8_undo 29 = .ok (.istore_n 1, 1) := by decide +kernel
theorem dX8_undo_30 : decode cX8_undo 30 = .ok (.aload_n 0, 1) := by decide +kernel
theorem dX8_undo_31 : decode cX8_undo 31 = .ok (.getfield 7, 3) := by decide +kernel
theorem dX8_undo_34 : decode cX8_undo 34 = .ok (.iload_n 1, 1) := by decide +kernel
theorem dX8_undo_35 : decode cX8_undo 35 = .ok (.aload_n 0, 1) := by decide +kernel
theorem dX8_undo_36 : decode cX8_undo 36 = .ok (.getfield 56, 3) := by decide +kernel
theorem dX8_undo_39 : decode cX8_undo 39 = .ok (.aload_n 0, 1) := by decide +kernel
theorem dX8_undo_40 : decode cX8_undo 40 = .ok (.getfield 108, 3) := by decide +kernel
theorem dX8_undo_43 : decode cX8_undo 43 = .ok (.iaload, 1) := by decide +kernel
theorem dX8_undo_44 : decode cX8_undo 44 = .ok (.iastore, 1) := by decide +kernel
theorem dX8_undo_45 : decode cX8_undo 45 = .ok (.aload_n 0, 1) := by decide +kernel
theorem dX8_undo_46 : decode cX8_undo 46 = .ok (.getfield 13, 3) := by decide +kernel
theorem dX8_undo_49 : decode cX8_undo 49 = .ok (.iload_n 1, 1) := by decide +kernel
theorem dX8_undo_50 : decode cX8_undo 50 = .ok (.aload_n 0, 1) := by decide +kernel
theorem dX8_undo_51 : decode cX8_undo 51 = .ok (.getfield 59, 3) := by decide +kernel
theorem dX8_undo_54 : decode cX8_undo 54 = .ok (.aload_n 0, 1) := by decide +kernel
theorem dX8_undo_55 : decode cX8_undo 55 = .ok (.getfield 108, 3) := by decide +kernel
theorem dX8_undo_58 : decode cX8_undo 58 = .ok (.iaload, 1) := by decide +kernel
theorem dX8_undo_59 : decode cX8_undo 59 = .ok (.iastore, 1) := by decide +kernel
theorem dX8_undo_60 : decode cX8_undo 60 = .ok (.aload_n 0, 1) := by decide +kernel
theorem dX8_undo_61 : decode cX8_undo 61 = .ok (.getfield 16, 3) := by decide +kernel
theorem dX8_undo_64 : decode cX8_undo 64 = .ok (.iload_n 1, 1) := by decide +kernel
theorem dX8_undo_65 : decode cX8_undo 65 = .ok (.aload_n 0, 1) := by decide +kernel
theorem dX8_undo_66 : decode cX8_undo 66 = .ok (.getfield 62, 3) := by decide +kernel
theorem dX8_undo_69 : decode cX8_undo 69 = .ok (.aload_n 0, 1) := by decide +kernel
theorem dX8_undo_70 : decode cX8_undo 70 = .ok (.getfield 108, 3) := by decide +kernel
theorem dX8_undo_73 : decode cX8_undo 73 = .ok (.iaload, 1) := by decide +kernel
theorem dX8_undo_74 : decode cX8_undo 74 = .ok (.iastore, 1) := by decide +kernel
theorem dX8_undo_75 : decode cX8_undo 75 = .ok (.aload_n 0, 1) := by decide +kernel
theorem dX8_undo_76 : decode cX8_undo 76 = .ok (.getfield 108, 3) := by decide +kernel
theorem dX8_undo_79 : decode cX8_undo 79 = .ok (.ireturn, 1) := by decide +kernel
set_option maxRecDepth 20000 in
theorem ggX8_unknownBits_X8_bits : GoodIn wsX8_unknownBits wsX8_bits := goodIn_r _ [5] (by decide +kernel) (by decide +kernel)
set_option maxRecDepth 20000 in
theorem gX8_unknownBits_X8_bits : GoodIn wsX8_unknownBits (va_wsS RX8 172 yX8_bits wsX8_bits) := goodIn_app (goodIn_of _ (by decide +kernel)) ggX8_unknownBits_X8_bits
theorem dX8_unknownBits_0 : decode cX8_unknownBits 0 = .ok (.iconst 0, 1) := by decide +kernel
theorem dX8_unknownBits_1 : decode cX8_unknownBits 1 = .ok (.istore_n 3, 1) := by decide +kernel
theorem dX8_unknownBits_2 : decode cX8_unknownBits 2 = .ok (.iload_n 1, 1) := by decide +kernel
theorem dX8_unknownBits_3 : decode cX8_unknownBits 3 = .ok (.istore 4, 2) := by decide +kernel
theorem dX8_unknownBits_5 : decode cX8_unknownBits 5 = .ok (.iload 4, 2) := by decide +kernel
theorem dX8_unknownBits_7 : decode cX8_unknownBits 7 = .ok (.iload_n 1, 1) := by decide +kernel
theorem dX8_unknownBits_8 : decode cX8_unknownBits 8 = .ok (.iload_n 2, 1) := by decide +kernel
theorem dX8_unknownBits_9 : decode cX8_unknownBits 9 = .ok (.iadd, 1) := by decide +kernel
theorem dX8_unknownBits_10 : decode cX8_unknownBits 10 = .ok (.if_icmp .ge 22, 3) := by decide +kernel
theorem dX8_unknownBits_13 : decode cX8_unknownBits 13 = .ok (.iload_n 3, 1) := by decide +kernel
theorem dX8_unknownBits_14 : decode cX8_unknownBits 14 = .ok (.aload_n 0, 1) := by decide +kernel
theorem dX8_unknownBits_15 : decode cX8_unknownBits 15 = .ok (.getfield 13, 3) := by decide +kernel
theorem dX8_unknownBits_18 : decode cX8_unknownBits 18 = .ok (.iload 4, 2) := by decide +kernel
theorem dX8_unknownBits_20 : decode cX8_unknownBits 20 = .ok (.iaload, 1) := by decide +kernel
theorem dX8_unknownBits_21 : decode cX8_unknownBits 21 = .ok (.invokestatic 172, 3) := by decide +kernel
theorem dX8_unknownBits_24 : decode cX8_unknownBits 24 = .ok (.iadd, 1) := by decide +kernel
theorem dX8_unknownBits_25 : decode cX8_unknownBits 25 = .ok (.istore_n 3, 1) := by decide +kernel
theorem dX8_unknownBits_26 : decode cX8_unknownBits 26 = .ok (.iinc 4 1, 3) := by decide +kernel
theorem dX8_unknownBits_29 : decode cX8_unknownBits 29 = .ok (.goto (-24), 3) := by decide +kernel
theorem dX8_unknownBits_32 : decode cX8_unknownBits 32 = .ok (.iload_n 3, 1) := by decide +kernel
theorem dX8_unknownBits_33 : decode cX8_unknownBits 33 = .ok (.ireturn, 1) := by decide +kernel
theorem dX8_deadMany_0 : decode cX8_deadMany 0 = .ok (.iconst 0, 1) := by decide +kernel
theorem dX8_deadMany_1 : decode cX8_deadMany 1 = .ok (.istore_n 1, 1) := by decide +kernel
theorem dX8_deadMany_2 : decode cX8_deadMany 2 = .ok (.iconst 0, 1) := by decide +kernel
theorem dX8_deadMany_3 : decode cX8_deadMany 3 = .ok (.istore_n 2, 1) := by decide +kernel
theorem dX8_deadMany_4 : decode cX8_deadMany 4 = .ok (.iload_n 2, 1) := by decide +kernel
theorem dX8_deadMany_5 : decode cX8_deadMany 5 = .ok (.bipush 32, 2) := by decide +kernel
theorem dX8_deadMany_7 : decode cX8_deadMany 7 = .ok (.if_icmp .ge 26, 3) := by decide +kernel
theorem dX8_deadMany_10 : decode cX8_deadMany 10 = .ok (.iload_n 1, 1) := by decide +kernel
theorem dX8_deadMany_11 : decode cX8_deadMany 11 = .ok (.aload_n 0, 1) := by decide +kernel
theorem dX8_deadMany_12 : decode cX8_deadMany 12 = .ok (.getfield 19, 3) := by decide +kernel
theorem dX8_deadMany_15 : decode cX8_deadMany 15 = .ok (.iload_n 2, 1) := by decide +kernel
theorem dX8_deadMany_16 : decode cX8_deadMany 16 = .ok (.baload, 1) := by decide +kernel
theorem dX8_deadMany_17 : decode cX8_deadMany 17 = .ok (.ifCond .eq 7, 3) := by decide +kernel
theorem dX8_deadMany_20 : decode cX8_deadMany 20 = .ok (.iconst 1, 1) := by decide +kernel
theorem dX8_deadMany_21 : decode cX8_deadMany 21 = .ok (.goto 4, 3) := by decide +kernel
theorem dX8_deadMany_24 : decode cX8_deadMany 24 = .ok (.iconst 0, 1) := by decide +kernel
theorem dX8_deadMany_25 : decode cX8_deadMany 25 = .ok (.iadd, 1) := by decide +kernel
theorem dX8_deadMany_26 : decode cX8_deadMany 26 = .ok (.istore_n 1, 1) := by decide +kernel
theorem dX8_deadMany_27 : decode cX8_deadMany 27 = .ok (.iinc 2 1, 3) := by decide +kernel
theorem dX8_deadMany_30 : decode cX8_deadMany 30 = .ok (.goto (-26), 3) := by decide +kernel
theorem dX8_deadMany_33 : decode cX8_deadMany 33 = .ok (.iload_n 1, 1) := by decide +kernel
theorem dX8_deadMany_34 : decode cX8_deadMany 34 = .ok (.ireturn, 1) := by decide +kernel
theorem dX8_keptCries_0 : decode cX8_keptCries 0 = .ok (.aload_n 0, 1) := by decide +kernel
theorem dX8_keptCries_1 : decode cX8_keptCries 1 = .ok (.getfield 95, 3) := by decide +kernel
theorem dX8_keptCries_4 : decode cX8_keptCries 4 = .ok (.bipush 20, 2) := by decide +kernel
theorem dX8_keptCries_6 : decode cX8_keptCries 6 = .ok (.if_icmp .ge 10, 3) := by decide +kernel
theorem dX8_keptCries_9 : decode cX8_keptCries 9 = .ok (.aload_n 0, 1) := by decide +kernel
theorem dX8_keptCries_10 : decode cX8_keptCries 10 = .ok (.getfield 95, 3) := by decide +kernel
theorem dX8_keptCries_13 : decode cX8_keptCries 13 = .ok (.goto 5, 3) := by decide +kernel
theorem dX8_keptCries_16 : decode cX8_keptCries 16 = .ok (.bipush 20, 2) := by decide +kernel
theorem dX8_keptCries_18 : decode cX8_keptCries 18 = .ok (.ireturn, 1) := by decide +kernel
set_option maxRecDepth 20000 in
theorem ggX8_told_X8_keptCries : GoodIn wsX8_told wsX8_keptCries := goodIn_r _ [13, 2, 32, 33, 34, 35, 36, 37, 38, 39, 40, 41, 42, 43, 44, 45, 46, 47, 48, 49, 50, 51, 52, 53, 54, 55, 56, 57, 58, 59] (by decide +kernel) (by decide +kernel)
set_option maxRecDepth 20000 in
theorem gX8_told_X8_keptCries : GoodIn wsX8_told (wsV RX8 211 RX8 yX8_keptCries wsX8_keptCries) := goodIn_app (goodIn_of _ (by decide +kernel)) ggX8_told_X8_keptCries
set_option maxRecDepth 20000 in
theorem ggX8_told_X8_letOnes : GoodIn wsX8_told wsX8_letOnes := goodIn_r _ [17, 4, 18, 32, 33, 34, 35, 36, 37, 38, 39, 40, 41, 42, 43, 44, 45, 46, 47, 48, 49, 50, 51, 52, 53, 54, 55, 56, 57, 58, 59] (by decide +kernel) (by decide +kernel)
set_option maxRecDepth 20000 in
theorem gX8_told_X8_letOnes : GoodIn wsX8_told (wsV RX8 192 RX8 yX8_letOnes wsX8_letOnes) := goodIn_app (goodIn_of _ (by decide +kernel)) ggX8_told_X8_letOnes
set_option maxRecDepth 20000 in
theorem ggX8_told_X8_deadMany : GoodIn wsX8_told wsX8_deadMany := goodIn_r _ [22, 23, 32, 33, 34, 35, 36, 37, 38, 39, 40, 41, 42, 43, 44, 45, 46, 47, 48, 49, 50, 51, 52, 53, 54, 55, 56, 57, 58, 59] (by decide +kernel) (by decide +kernel)
set_option maxRecDepth 20000 in
theorem gX8_told_X8_deadMany : GoodIn wsX8_told (wsV RX8 214 RX8 yX8_deadMany wsX8_deadMany) := goodIn_app (goodIn_of _ (by decide +kernel)) ggX8_told_X8_deadMany
set_option maxRecDepth 20000 in
theorem ggX8_told_X8_unknownBits : GoodIn wsX8_told wsX8_unknownBits := goodIn_r _ [27, 28, 29, 30, 12, 31, 32, 33, 34, 35, 36, 37, 38, 39, 40, 41, 42, 43, 44, 45, 46, 47, 48, 49, 50, 51, 52, 53, 54, 55, 56, 57, 58, 59] (by decide +kernel) (by decide +kernel)
set_option maxRecDepth 20000 in
theorem gX8_told_X8_unknownBits : GoodIn wsX8_told (wsV RX8 217 RX8 yX8_unknownBits wsX8_unknownBits) := goodIn_app (goodIn_of _ (by decide +kernel)) ggX8_told_X8_unknownBits
theorem dX8_told_0 : decode cX8_told 0 = .ok (.iload_n 1, 1) := by decide +kernel
theorem dX8_told_1 : decode cX8_told 1 = .ok (.tableswitch 130 0 11 #[63, 68, 73, 78, 83, 88, 93, 98, 103, 111, 120, 125], 63) := by decide +kernel
theorem dX8_told_64 : decode cX8_told 64 = .ok (.aload_n 0, 1) := by decide +kernel
theorem dX8_told_65 : decode cX8_told 65 = .ok (.getfield 89, 3) := by decide +kernel
theorem dX8_told_68 : decode cX8_told 68 = .ok (.ireturn, 1) := by decide +kernel
theorem dX8_told_69 : decode cX8_told 69 = .ok (.aload_n 0, 1) := by decide +kernel
theorem dX8_told_70 : decode cX8_told 70 = .ok (.getfield 95, 3) := by decide +kernel
theorem dX8_told_73 : decode cX8_told 73 = .ok (.ireturn, 1) := by decide +kernel
theorem dX8_told_74 : decode cX8_told 74 = .ok (.aload_n 0, 1) := by decide +kernel
theorem dX8_told_75 : decode cX8_told 75 = .ok (.invokevirtual 211, 3) := by decide +kernel
theorem dX8_told_78 : decode cX8_told 78 = .ok (.ireturn, 1) := by decide +kernel
theorem dX8_told_79 : decode cX8_told 79 = .ok (.aload_n 0, 1) := by decide +kernel
theorem dX8_told_80 : decode cX8_told 80 = .ok (.getfield 98, 3) := by decide +kernel
theorem dX8_told_83 : decode cX8_told 83 = .ok (.ireturn, 1) := by decide +kernel
theorem dX8_told_84 : decode cX8_told 84 = .ok (.aload_n 0, 1) := by decide +kernel
theorem dX8_told_85 : decode cX8_told 85 = .ok (.getfield 83, 3) := by decide +kernel
theorem dX8_told_88 : decode cX8_told 88 = .ok (.ireturn, 1) := by decide +kernel
theorem dX8_told_89 : decode cX8_told 89 = .ok (.aload_n 0, 1) := by decide +kernel
theorem dX8_told_90 : decode cX8_told 90 = .ok (.invokevirtual 192, 3) := by decide +kernel
theorem dX8_told_93 : decode cX8_told 93 = .ok (.ireturn, 1) := by decide +kernel
theorem dX8_told_94 : decode cX8_told 94 = .ok (.aload_n 0, 1) := by decide +kernel
theorem dX8_told_95 : decode cX8_told 95 = .ok (.invokevirtual 214, 3) := by decide +kernel
theorem dX8_told_98 : decode cX8_told 98 = .ok (.ireturn, 1) := by decide +kernel
theorem dX8_told_99 : decode cX8_told 99 = .ok (.aload_n 0, 1) := by decide +kernel
theorem dX8_told_100 : decode cX8_told 100 = .ok (.getfield 105, 3) := by decide +kernel
theorem dX8_told_103 : decode cX8_told 103 = .ok (.ireturn, 1) := by decide +kernel
theorem dX8_told_104 : decode cX8_told 104 = .ok (.aload_n 0, 1) := by decide +kernel
theorem dX8_told_105 : decode cX8_told 105 = .ok (.iconst 0, 1) := by decide +kernel
theorem dX8_told_106 : decode cX8_told 106 = .ok (.bipush 8, 2) := by decide +kernel
theorem dX8_told_108 : decode cX8_told 108 = .ok (.invokevirtual 217, 3) := by decide +kernel
theorem dX8_told_111 : decode cX8_told 111 = .ok (.ireturn, 1) := by decide +kernel
theorem dX8_told_112 : decode cX8_told 112 = .ok (.aload_n 0, 1) := by decide +kernel
theorem dX8_told_113 : decode cX8_told 113 = .ok (.bipush 8, 2) := by decide +kernel
theorem dX8_told_115 : decode cX8_told 115 = .ok (.bipush 32, 2) := by decide +kernel
theorem dX8_told_117 : decode cX8_told 117 = .ok (.invokevirtual 217, 3) := by decide +kernel
theorem dX8_told_120 : decode cX8_told 120 = .ok (.ireturn, 1) := by decide +kernel
theorem dX8_told_121 : decode cX8_told 121 = .ok (.aload_n 0, 1) := by decide +kernel
theorem dX8_told_122 : decode cX8_told 122 = .ok (.getfield 92, 3) := by decide +kernel
theorem dX8_told_125 : decode cX8_told 125 = .ok (.ireturn, 1) := by decide +kernel
theorem dX8_told_126 : decode cX8_told 126 = .ok (.aload_n 0, 1) := by decide +kernel
theorem dX8_told_127 : decode cX8_told 127 = .ok (.getfield 108, 3) := by decide +kernel
theorem dX8_told_130 : decode cX8_told 130 = .ok (.ireturn, 1) := by decide +kernel
theorem dX8_told_131 : decode cX8_told 131 = .ok (.ldc 127, 2) := by decide +kernel
theorem dX8_told_133 : decode cX8_told 133 = .ok (.ireturn, 1) := by decide +kernel
theorem dX8_mark_0 : decode cX8_mark 0 = .ok (.aload_n 0, 1) := by decide +kernel
theorem dX8_mark_1 : decode cX8_mark 1 = .ok (.getfield 101, 3) := by decide +kernel
theorem dX8_mark_4 : decode cX8_mark 4 = .ok (.lreturn, 1) := by decide +kernel
set_option maxRecDepth 20000 in
theorem ggX8_register_X8_isRegister : GoodIn wsX8_register wsX8_isRegister := goodIn_r _ [9, 10, 11, 12, 8, 13] (by decide +kernel) (by decide +kernel)
set_option maxRecDepth 20000 in
theorem gX8_register_X8_isRegister : GoodIn wsX8_register (va_wsS RX8 119 yX8_isRegister wsX8_isRegister) := goodIn_app (goodIn_of _ (by decide +kernel)) ggX8_register_X8_isRegister
set_option maxRecDepth 20000 in
theorem ggX8_register_X8_bits : GoodIn wsX8_register wsX8_bits := goodIn_r _ [16] (by decide +kernel) (by decide +kernel)
set_option maxRecDepth 20000 in
theorem gX8_register_X8_bits : GoodIn wsX8_register (va_wsS RX8 172 yX8_bits wsX8_bits) := goodIn_app (goodIn_of _ (by decide +kernel)) ggX8_register_X8_bits
set_option maxRecDepth 20000 in
theorem ggX8_register_X8_isDecided : GoodIn wsX8_register wsX8_isDecided := goodIn_r _ [20, 3, 2, 21, 22, 23, 24, 25, 26, 27, 28, 29, 30, 31, 32, 33, 34, 35, 36, 37, 38, 39, 40, 41, 42, 43, 44, 45, 46, 47, 48] (by decide +kernel) (by decide +kernel)
set_option maxRecDepth 20000 in
theorem gX8_register_X8_isDecided : GoodIn wsX8_register (wsV RX8 181 RX8 yX8_isDecided wsX8_isDecided) := goodIn_app (goodIn_of _ (by decide +kernel)) ggX8_register_X8_isDecided
theorem dX8_register_0 : decode cX8_register 0 = .ok (.iload_n 1, 1) := by decide +kernel
theorem dX8_register_1 : decode cX8_register 1 = .ok (.invokestatic 119, 3) := by decide +kernel
theorem dX8_register_4 : decode cX8_register 4 = .ok (.ifCond .ne 6, 3) := by decide +kernel
theorem dX8_register_7 : decode cX8_register 7 = .ok (.ldc 123, 2) := by decide +kernel
theorem dX8_register_9 : decode cX8_register 9 = .ok (.ireturn, 1) := by decide +kernel
theorem dX8_register_10 : decode cX8_register 10 = .ok (.iload_n 2, 1) := by decide +kernel
theorem dX8_register_11 : decode cX8_register 11 = .ok (.tableswitch 118 0 6 #[41, 48, 55, 62, 78, 92, 104], 41) := by decide +kernel
theorem dX8_register_52 : decode cX8_register 52 = .ok (.aload_n 0, 1) := by decide +kernel
theorem dX8_register_53 : decode cX8_register 53 = .ok (.getfield 7, 3) := by decide +kernel
theorem dX8_register_56 : decode cX8_register 56 = .ok (.iload_n 1, 1) := by decide +kernel
theorem dX8_register_57 : decode cX8_register 57 = .ok (.iaload, 1) := by decide +kernel
theorem dX8_register_58 : decode cX8_register 58 = .ok (.ireturn, 1) := by decide +kernel
theorem dX8_register_59 : decode cX8_register 59 = .ok (.aload_n 0, 1) := by decide +kernel
theorem dX8_register_60 : decode cX8_register 60 = .ok (.getfield 13, 3) := by decide +kernel
theorem dX8_register_63 : decode cX8_register 63 = .ok (.iload_n 1, 1) := by decide +kernel
theorem dX8_register_64 : decode cX8_register 64 = .ok (.iaload, 1) := by decide +kernel
theorem dX8_register_65 : decode cX8_register 65 = .ok (.ireturn, 1) := by decide +kernel
theorem dX8_register_66 : decode cX8_register 66 = .ok (.aload_n 0, 1) := by decide +kernel
theorem dX8_register_67 : decode cX8_register 67 = .ok (.getfield 16, 3) := by decide +kernel
theorem dX8_register_70 : decode cX8_register 70 = .ok (.iload_n 1, 1) := by decide +kernel
theorem dX8_register_71 : decode cX8_register 71 = .ok (.iaload, 1) := by decide +kernel
theorem dX8_register_72 : decode cX8_register 72 = .ok (.ireturn, 1) := by decide +kernel
theorem dX8_register_73 : decode cX8_register 73 = .ok (.aload_n 0, 1) := by decide +kernel
theorem dX8_register_74 : decode cX8_register 74 = .ok (.getfield 7, 3) := by decide +kernel
theorem dX8_register_77 : decode cX8_register 77 = .ok (.iload_n 1, 1) := by decide +kernel
theorem dX8_register_78 : decode cX8_register 78 = .ok (.iaload, 1) := by decide +kernel
theorem dX8_register_79 : decode cX8_register 79 = .ok (.aload_n 0, 1) := by decide +kernel
theorem dX8_register_80 : decode cX8_register 80 = .ok (.getfield 13, 3) := by decide +kernel
theorem dX8_register_83 : decode cX8_register 83 = .ok (.iload_n 1, 1) := by decide +kernel
theorem dX8_register_84 : decode cX8_register 84 = .ok (.iaload, 1) := by decide +kernel
theorem dX8_register_85 : decode cX8_register 85 = .ok (.iconst (-1), 1) := by decide +kernel
theorem dX8_register_86 : decode cX8_register 86 = .ok (.ixor, 1) := by decide +kernel
theorem dX8_register_87 : decode cX8_register 87 = .ok (.iand, 1) := by decide +kernel
theorem dX8_register_88 : decode cX8_register 88 = .ok (.ireturn, 1) := by decide +kernel
theorem dX8_register_89 : decode cX8_register 89 = .ok (.aload_n 0, 1) := by decide +kernel
theorem dX8_register_90 : decode cX8_register 90 = .ok (.getfield 7, 3) := by decide +kernel
theorem dX8_register_93 : decode cX8_register 93 = .ok (.iload_n 1, 1) := by decide +kernel
theorem dX8_register_94 : decode cX8_register 94 = .ok (.iaload, 1) := by decide +kernel
theorem dX8_register_95 : decode cX8_register 95 = .ok (.aload_n 0, 1) := by decide +kernel
theorem dX8_register_96 : decode cX8_register 96 = .ok (.getfield 13, 3) := by decide +kernel
theorem dX8_register_99 : decode cX8_register 99 = .ok (.iload_n 1, 1) := by decide +kernel
theorem dX8_register_100 : decode cX8_register 100 = .ok (.iaload, 1) := by decide +kernel
theorem dX8_register_101 : decode cX8_register 101 = .ok (.ior, 1) := by decide +kernel
theorem dX8_register_102 : decode cX8_register 102 = .ok (.ireturn, 1) := by decide +kernel
theorem dX8_register_103 : decode cX8_register 103 = .ok (.iconst 1, 1) := by decide +kernel
theorem dX8_register_104 : decode cX8_register 104 = .ok (.aload_n 0, 1) := by decide +kernel
theorem dX8_register_105 : decode cX8_register 105 = .ok (.getfield 13, 3) := by decide +kernel
theorem dX8_register_108 : decode cX8_register 108 = .ok (.iload_n 1, 1) := by decide +kernel
theorem dX8_register_109 : decode cX8_register 109 = .ok (.iaload, 1) := by decide +kernel
theorem dX8_register_110 : decode cX8_register 110 = .ok (.invokestatic 172, 3) := by decide +kernel
theorem dX8_register_113 : decode cX8_register 113 = .ok (.ishl, 1) := by decide +kernel
theorem dX8_register_114 : decode cX8_register 114 = .ok (.ireturn, 1) := by decide +kernel
theorem dX8_register_115 : decode cX8_register 115 = .ok (.aload_n 0, 1) := by decide +kernel
theorem dX8_register_116 : decode cX8_register 116 = .ok (.iload_n 1, 1) := by decide +kernel
theorem dX8_register_117 : decode cX8_register 117 = .ok (.invokevirtual 181, 3) := by decide +kernel
theorem dX8_register_120 : decode cX8_register 120 = .ok (.ifCond .eq 7, 3) := by decide +kernel
theorem dX8_register_123 : decode cX8_register 123 = .ok (.iconst 1, 1) := by decide +kernel
theorem dX8_register_124 : decode cX8_register 124 = .ok (.goto 4, 3) := by decide +kernel
theorem dX8_register_127 : decode cX8_register 127 = .ok (.iconst 0, 1) := by decide +kernel
theorem dX8_register_128 : decode cX8_register 128 = .ok (.ireturn, 1) := by decide +kernel
theorem dX8_register_129 : decode cX8_register 129 = .ok (.ldc 127, 2) := by decide +kernel
theorem dX8_register_131 : decode cX8_register 131 = .ok (.ireturn, 1) := by decide +kernel
set_option maxRecDepth 20000 in
theorem ggX8_octet_X8_isOctet : GoodIn wsX8_octet wsX8_isOctet := goodIn_r _ [11, 12, 13, 14, 10, 15] (by decide +kernel) (by decide +kernel)
set_option maxRecDepth 20000 in
theorem gX8_octet_X8_isOctet : GoodIn wsX8_octet (va_wsS RX8 146 yX8_isOctet wsX8_isOctet) := goodIn_app (goodIn_of _ (by decide +kernel)) ggX8_octet_X8_isOctet
theorem dX8_octet_0 : decode cX8_octet 0 = .ok (.iload_n 1, 1) := by decide +kernel
theorem dX8_octet_1 : decode cX8_octet 1 = .ok (.invokestatic 146, 3) := by decide +kernel
theorem dX8_octet_4 : decode cX8_octet 4 = .ok (.ifCond .ne 6, 3) := by decide +kernel
theorem dX8_octet_7 : decode cX8_octet 7 = .ok (.ldc 123, 2) := by decide +kernel
theorem dX8_octet_9 : decode cX8_octet 9 = .ok (.ireturn, 1) := by decide +kernel
theorem dX8_octet_10 : decode cX8_octet 10 = .ok (.iload_n 2, 1) := by decide +kernel
theorem dX8_octet_11 : decode cX8_octet 11 = .ok (.tableswitch 85 0 4 #[33, 43, 53, 63, 78], 33) := by decide +kernel
theorem dX8_octet_44 : decode cX8_octet 44 = .ok (.aload_n 0, 1) := by decide +kernel
theorem dX8_octet_45 : decode cX8_octet 45 = .ok (.getfield 7, 3) := by decide +kernel
theorem dX8_octet_48 : decode cX8_octet 48 = .ok (.bipush 8, 2) := by decide +kernel
theorem dX8_octet_50 : decode cX8_octet 50 = .ok (.iload_n 1, 1) := by decide +kernel
theorem dX8_octet_51 : decode cX8_octet 51 = .ok (.iadd, 1) := by decide +kernel
theorem dX8_octet_52 : decode cX8_octet 52 = .ok (.iaload, 1) := by decide +kernel
theorem dX8_octet_53 : decode cX8_octet 53 = .ok (.ireturn, 1) := by decide +kernel
theorem dX8_octet_54 : decode cX8_octet 54 = .ok (.aload_n 0, 1) := by decide +kernel
theorem dX8_octet_55 : decode cX8_octet 55 = .ok (.getfield 13, 3) := by decide +kernel
theorem dX8_octet_58 : decode cX8_octet 58 = .ok (.bipush 8, 2) := by decide +kernel
theorem dX8_octet_60 : decode cX8_octet 60 = .ok (.iload_n 1, 1) := by decide +kernel
theorem dX8_octet_61 : decode cX8_octet 61 = .ok (.iadd, 1) := by decide +kernel
theorem dX8_octet_62 : decode cX8_octet 62 = .ok (.iaload, 1) := by decide +kernel
theorem dX8_octet_63 : decode cX8_octet 63 = .ok (.ireturn, 1) := by decide +kernel
theorem dX8_octet_64 : decode cX8_octet 64 = .ok (.aload_n 0, 1) := by decide +kernel
theorem dX8_octet_65 : decode cX8_octet 65 = .ok (.getfield 16, 3) := by decide +kernel
theorem dX8_octet_68 : decode cX8_octet 68 = .ok (.bipush 8, 2) := by decide +kernel
theorem dX8_octet_70 : decode cX8_octet 70 = .ok (.iload_n 1, 1) := by decide +kernel
theorem dX8_octet_71 : decode cX8_octet 71 = .ok (.iadd, 1) := by decide +kernel
theorem dX8_octet_72 : decode cX8_octet 72 = .ok (.iaload, 1) := by decide +kernel
theorem dX8_octet_73 : decode cX8_octet 73 = .ok (.ireturn, 1) := by decide +kernel
theorem dX8_octet_74 : decode cX8_octet 74 = .ok (.aload_n 0, 1) := by decide +kernel
theorem dX8_octet_75 : decode cX8_octet 75 = .ok (.getfield 19, 3) := by decide +kernel
theorem dX8_octet_78 : decode cX8_octet 78 = .ok (.iload_n 1, 1) := by decide +kernel
theorem dX8_octet_79 : decode cX8_octet 79 = .ok (.baload, 1) := by decide +kernel
theorem dX8_octet_80 : decode cX8_octet 80 = .ok (.ifCond .eq 7, 3) := by decide +kernel
theorem dX8_octet_83 : decode cX8_octet 83 = .ok (.iconst 1, 1) := by decide +kernel
theorem dX8_octet_84 : decode cX8_octet 84 = .ok (.goto 4, 3) := by decide +kernel
theorem dX8_octet_87 : decode cX8_octet 87 = .ok (.iconst 0, 1) := by decide +kernel
theorem dX8_octet_88 : decode cX8_octet 88 = .ok (.ireturn, 1) := by decide +kernel
theorem dX8_octet_89 : decode cX8_octet 89 = .ok (.aload_n 0, 1) := by decide +kernel
theorem dX8_octet_90 : decode cX8_octet 90 = .ok (.getfield 23, 3) := by decide +kernel
theorem dX8_octet_93 : decode cX8_octet 93 = .ok (.iload_n 1, 1) := by decide +kernel
theorem dX8_octet_94 : decode cX8_octet 94 = .ok (.iaload, 1) := by decide +kernel
theorem dX8_octet_95 : decode cX8_octet 95 = .ok (.ireturn, 1) := by decide +kernel
theorem dX8_octet_96 : decode cX8_octet 96 = .ok (.ldc 127, 2) := by decide +kernel
theorem dX8_octet_98 : decode cX8_octet 98 = .ok (.ireturn, 1) := by decide +kernel
set_option maxRecDepth 20000 in
theorem ggX8_criesOf_X8_keptCries : GoodIn wsX8_criesOf wsX8_keptCries := goodIn_r _ [6, 7, 8, 9, 10, 11, 12, 13, 14, 15, 16, 17, 18, 19, 20, 21, 22, 23, 24, 25, 26, 27, 28, 29, 30, 31, 32, 33, 34, 35] (by decide +kernel) (by decide +kernel)
set_option maxRecDepth 20000 in
theorem gX8_criesOf_X8_keptCries : GoodIn wsX8_criesOf (wsV RX8 211 RX8 yX8_keptCries wsX8_keptCries) := goodIn_app (goodIn_of _ (by decide +kernel)) ggX8_criesOf_X8_keptCries
theorem dX8_criesOf_0 : decode cX8_criesOf 0 = .ok (.iconst 0, 1) := by decide +kernel
theorem dX8_criesOf_1 : decode cX8_criesOf 1 = .ok (.istore_n 2, 1) := by decide +kernel
theorem dX8_criesOf_2 : decode cX8_criesOf 2 = .ok (.iconst 0, 1) := by decide +kernel
theorem dX8_criesOf_3 : decode cX8_criesOf 3 = .ok (.istore_n 3, 1) := by decide +kernel
theorem dX8_criesOf_4 : decode cX8_criesOf 4 = .ok (.iload_n 3, 1) := by decide +kernel
theorem dX8_criesOf_5 : decode cX8_criesOf 5 = .ok (.aload_n 0, 1) := by decide +kernel
theorem dX8_criesOf_6 : decode cX8_criesOf 6 = .ok (.invokevirtual 211, 3) := by decide +kernel
theorem dX8_criesOf_9 : decode cX8_criesOf 9 = .ok (.if_icmp .ge 22, 3) := by decide +kernel
theorem dX8_criesOf_12 : decode cX8_criesOf 12 = .ok (.iload_n 2, 1) := by decide +kernel
theorem dX8_criesOf_13 : decode cX8_criesOf 13 = .ok (.aload_n 0, 1) := by decide +kernel
theorem dX8_criesOf_14 : decode cX8_criesOf 14 = .ok (.getfield 41, 3) := by decide +kernel
theorem dX8_criesOf_17 : decode cX8_criesOf 17 = .ok (.iload_n 3, 1) := by decide +kernel
theorem dX8_criesOf_18 : decode cX8_criesOf 18 = .ok (.iaload, 1) := by decide +kernel
theorem dX8_criesOf_19 : decode cX8_criesOf 19 = .ok (.iload_n 1, 1) := by decide +kernel
theorem dX8_criesOf_20 : decode cX8_criesOf 20 = .ok (.ishr, 1) := by decide +kernel
theorem dX8_criesOf_21 : decode cX8_criesOf 21 = .ok (.iconst 1, 1) := by decide +kernel
theorem dX8_criesOf_22 : decode cX8_criesOf 22 = .ok (.iand, 1) := by decide +kernel
theorem dX8_criesOf_23 : decode cX8_criesOf 23 = .ok (.iadd, 1) := by decide +kernel
theorem dX8_criesOf_24 : decode cX8_criesOf 24 = .ok (.istore_n 2, 1) := by decide +kernel
theorem dX8_criesOf_25 : decode cX8_criesOf 25 = .ok (.iinc 3 1, 3) := by decide +kernel
theorem dX8_criesOf_28 : decode cX8_criesOf 28 = .ok (.goto (-24), 3) := by decide +kernel
theorem dX8_criesOf_31 : decode cX8_criesOf 31 = .ok (.iload_n 2, 1) := by decide +kernel
theorem dX8_criesOf_32 : decode cX8_criesOf 32 = .ok (.ireturn, 1) := by decide +kernel
set_option maxRecDepth 20000 in
theorem ggX8_ground_X8_isGround : GoodIn wsX8_ground wsX8_isGround := goodIn_r _ [10, 11, 12, 13, 9, 14, 25, 26, 27, 28, 29, 30, 31, 32, 33, 34, 35, 36, 37, 38, 39, 40, 41, 42, 43, 44, 45, 46, 47, 48, 49, 50, 51, 52] (by decide +kernel) (by decide +kernel)
set_option maxRecDepth 20000 in
theorem gX8_ground_X8_isGround : GoodIn wsX8_ground (wsV RX8 136 RX8 yX8_isGround wsX8_isGround) := goodIn_app (goodIn_of _ (by decide +kernel)) ggX8_ground_X8_isGround
set_option maxRecDepth 20000 in
theorem ggX8_ground_X8_criesOf : GoodIn wsX8_ground wsX8_criesOf := goodIn_r _ [18, 19, 20, 21, 22, 9, 23, 24, 25, 26, 27, 28, 29, 30, 31, 32, 33, 34, 35, 36, 37, 38, 39, 40, 41, 42, 43, 44, 45, 46, 47, 48, 49, 50, 51, 52] (by decide +kernel) (by decide +kernel)
set_option maxRecDepth 20000 in
theorem gX8_ground_X8_criesOf : GoodIn wsX8_ground (wsV RX8 220 RX8 yX8_criesOf wsX8_criesOf) := goodIn_app (goodIn_of _ (by decide +kernel)) ggX8_ground_X8_criesOf
theorem dX8_ground_0 : decode cX8_ground 0 = .ok (.aload_n 0, 1) := by decide +kernel
theorem dX8_ground_1 : decode cX8_ground 1 = .ok (.iload_n 1, 1) := by decide +kernel
theorem dX8_ground_2 : decode cX8_ground 2 = .ok (.invokevirtual 136, 3) := by decide +kernel
theorem dX8_ground_5 : decode cX8_ground 5 = .ok (.ifCond .ne 6, 3) := by decide +kernel
theorem dX8_ground_8 : decode cX8_ground 8 = .ok (.ldc 123, 2) := by decide +kernel
theorem dX8_ground_10 : decode cX8_ground 10 = .ok (.ireturn, 1) := by decide +kernel
theorem dX8_ground_11 : decode cX8_ground 11 = .ok (.iload_n 2, 1) := by decide +kernel
theorem dX8_ground_12 : decode cX8_ground 12 = .ok (.tableswitch 67 0 3 #[32, 39, 46, 61], 32) := by decide +kernel
theorem dX8_ground_44 : decode cX8_ground 44 = .ok (.aload_n 0, 1) := by decide +kernel
theorem dX8_ground_45 : decode cX8_ground 45 = .ok (.getfield 26, 3) := by decide +kernel
theorem dX8_ground_48 : decode cX8_ground 48 = .ok (.iload_n 1, 1) := by decide +kernel
theorem dX8_ground_49 : decode cX8_ground 49 = .ok (.iaload, 1) := by decide +kernel
theorem dX8_ground_50 : decode cX8_ground 50 = .ok (.ireturn, 1) := by decide +kernel
theorem dX8_ground_51 : decode cX8_ground 51 = .ok (.aload_n 0, 1) := by decide +kernel
theorem dX8_ground_52 : decode cX8_ground 52 = .ok (.getfield 29, 3) := by decide +kernel
theorem dX8_ground_55 : decode cX8_ground 55 = .ok (.iload_n 1, 1) := by decide +kernel
theorem dX8_ground_56 : decode cX8_ground 56 = .ok (.iaload, 1) := by decide +kernel
theorem dX8_ground_57 : decode cX8_ground 57 = .ok (.ireturn, 1) := by decide +kernel
theorem dX8_ground_58 : decode cX8_ground 58 = .ok (.aload_n 0, 1) := by decide +kernel
theorem dX8_ground_59 : decode cX8_ground 59 = .ok (.getfield 32, 3) := by decide +kernel
theorem dX8_ground_62 : decode cX8_ground 62 = .ok (.iload_n 1, 1) := by decide +kernel
theorem dX8_ground_63 : decode cX8_ground 63 = .ok (.baload, 1) := by decide +kernel
theorem dX8_ground_64 : decode cX8_ground 64 = .ok (.ifCond .eq 7, 3) := by decide +kernel
theorem dX8_ground_67 : decode cX8_ground 67 = .ok (.iconst 1, 1) := by decide +kernel
theorem dX8_ground_68 : decode cX8_ground 68 = .ok (.goto 4, 3) := by decide +kernel
theorem dX8_ground_71 : decode cX8_ground 71 = .ok (.iconst 0, 1) := by decide +kernel
theorem dX8_ground_72 : decode cX8_ground 72 = .ok (.ireturn, 1) := by decide +kernel
theorem dX8_ground_73 : decode cX8_ground 73 = .ok (.aload_n 0, 1) := by decide +kernel
theorem dX8_ground_74 : decode cX8_ground 74 = .ok (.iload_n 1, 1) := by decide +kernel
theorem dX8_ground_75 : decode cX8_ground 75 = .ok (.invokevirtual 220, 3) := by decide +kernel
theorem dX8_ground_78 : decode cX8_ground 78 = .ok (.ireturn, 1) := by decide +kernel
theorem dX8_ground_79 : decode cX8_ground 79 = .ok (.ldc 127, 2) := by decide +kernel
theorem dX8_ground_81 : decode cX8_ground 81 = .ok (.ireturn, 1) := by decide +kernel
set_option maxRecDepth 20000 in
theorem ggX8_cry_X8_keptCries : GoodIn wsX8_cry wsX8_keptCries := goodIn_r _ [10, 11, 15, 16, 17, 18, 19, 20, 21, 22, 23, 24, 25, 26, 27, 28, 29, 30, 31, 32, 33, 34, 35, 36, 37, 38, 39, 40, 41, 42] (by decide +kernel) (by decide +kernel)
set_option maxRecDepth 20000 in
theorem gX8_cry_X8_keptCries : GoodIn wsX8_cry (wsV RX8 211 RX8 yX8_keptCries wsX8_keptCries) := goodIn_app (goodIn_of _ (by decide +kernel)) ggX8_cry_X8_keptCries
set_option maxRecDepth 20000 in
theorem ggX8_cry_X8_in : GoodIn wsX8_cry wsX8_in := goodIn_r _ [14] (by decide +kernel) (by decide +kernel)
set_option maxRecDepth 20000 in
theorem gX8_cry_X8_in : GoodIn wsX8_cry (va_wsS RX8 77 yX8_in wsX8_in) := goodIn_app (goodIn_of _ (by decide +kernel)) ggX8_cry_X8_in
theorem dX8_cry_0 : decode cX8_cry 0 = .ok (.iload_n 1, 1) := by decide +kernel
theorem dX8_cry_1 : decode cX8_cry 1 = .ok (.i2l, 1) := by decide +kernel
theorem dX8_cry_2 : decode cX8_cry 2 = .ok (.lconst 0, 1) := by decide +kernel
theorem dX8_cry_3 : decode cX8_cry 3 = .ok (.aload_n 0, 1) := by decide +kernel
theorem dX8_cry_4 : decode cX8_cry 4 = .ok (.invokevirtual 211, 3) := by decide +kernel
theorem dX8_cry_7 : decode cX8_cry 7 = .ok (.iconst 1, 1) := by decide +kernel
theorem dX8_cry_8 : decode cX8_cry 8 = .ok (.isub, 1) := by decide +kernel
theorem dX8_cry_9 : decode cX8_cry 9 = .ok (.i2l, 1) := by decide +kernel
theorem dX8_cry_10 : decode cX8_cry 10 = .ok (.invokestatic 77, 3) := by decide +kernel
theorem dX8_cry_13 : decode cX8_cry 13 = .ok (.ifCond .ne 6, 3) := by decide +kernel
theorem dX8_cry_16 : decode cX8_cry 16 = .ok (.ldc 123, 2) := by decide +kernel
theorem dX8_cry_18 : decode cX8_cry 18 = .ok (.ireturn, 1) := by decide +kernel
theorem dX8_cry_19 : decode cX8_cry 19 = .ok (.iload_n 2, 1) := by decide +kernel
theorem dX8_cry_20 : decode cX8_cry 20 = .ok (.tableswitch 49 0 2 #[28, 35, 42], 28) := by decide +kernel
theorem dX8_cry_48 : decode cX8_cry 48 = .ok (.aload_n 0, 1) := by decide +kernel
theorem dX8_cry_49 : decode cX8_cry 49 = .ok (.getfield 35, 3) := by decide +kernel
theorem dX8_cry_52 : decode cX8_cry 52 = .ok (.iload_n 1, 1) := by decide +kernel
theorem dX8_cry_53 : decode cX8_cry 53 = .ok (.iaload, 1) := by decide +kernel
theorem dX8_cry_54 : decode cX8_cry 54 = .ok (.ireturn, 1) := by decide +kernel
theorem dX8_cry_55 : decode cX8_cry 55 = .ok (.aload_n 0, 1) := by decide +kernel
theorem dX8_cry_56 : decode cX8_cry 56 = .ok (.getfield 38, 3) := by decide +kernel
theorem dX8_cry_59 : decode cX8_cry 59 = .ok (.iload_n 1, 1) := by decide +kernel
theorem dX8_cry_60 : decode cX8_cry 60 = .ok (.iaload, 1) := by decide +kernel
theorem dX8_cry_61 : decode cX8_cry 61 = .ok (.ireturn, 1) := by decide +kernel
theorem dX8_cry_62 : decode cX8_cry 62 = .ok (.aload_n 0, 1) := by decide +kernel
theorem dX8_cry_63 : decode cX8_cry 63 = .ok (.getfield 41, 3) := by decide +kernel
theorem dX8_cry_66 : decode cX8_cry 66 = .ok (.iload_n 1, 1) := by decide +kernel
theorem dX8_cry_67 : decode cX8_cry 67 = .ok (.iaload, 1) := by decide +kernel
theorem dX8_cry_68 : decode cX8_cry 68 = .ok (.ireturn, 1) := by decide +kernel
theorem dX8_cry_69 : decode cX8_cry 69 = .ok (.ldc 127, 2) := by decide +kernel
theorem dX8_cry_71 : decode cX8_cry 71 = .ok (.ireturn, 1) := by decide +kernel
set_option maxRecDepth 20000 in
theorem ggX8_ring_X8_in : GoodIn wsX8_ring wsX8_in := goodIn_r _ [10] (by decide +kernel) (by decide +kernel)
set_option maxRecDepth 20000 in
theorem gX8_ring_X8_in : GoodIn wsX8_ring (va_wsS RX8 77 yX8_in wsX8_in) := goodIn_app (goodIn_of _ (by decide +kernel)) ggX8_ring_X8_in
theorem dX8_ring_0 : decode cX8_ring 0 = .ok (.iload_n 2, 1) := by decide +kernel
theorem dX8_ring_1 : decode cX8_ring 1 = .ok (.i2l, 1) := by decide +kernel
theorem dX8_ring_2 : decode cX8_ring 2 = .ok (.lconst 0, 1) := by decide +kernel
theorem dX8_ring_3 : decode cX8_ring 3 = .ok (.ldc2_w 223, 3) := by decide +kernel
theorem dX8_ring_6 : decode cX8_ring 6 = .ok (.invokestatic 77, 3) := by decide +kernel
theorem dX8_ring_9 : decode cX8_ring 9 = .ok (.ifCond .ne 6, 3) := by decide +kernel
theorem dX8_ring_12 : decode cX8_ring 12 = .ok (.ldc 127, 2) := by decide +kernel
theorem dX8_ring_14 : decode cX8_ring 14 = .ok (.ireturn, 1) := by decide +kernel
theorem dX8_ring_15 : decode cX8_ring 15 = .ok (.iload_n 1, 1) := by decide +kernel
theorem dX8_ring_16 : decode cX8_ring 16 = .ok (.i2l, 1) := by decide +kernel
theorem dX8_ring_17 : decode cX8_ring 17 = .ok (.lconst 0, 1) := by decide +kernel
theorem dX8_ring_18 : decode cX8_ring 18 = .ok (.aload_n 0, 1) := by decide +kernel
theorem dX8_ring_19 : decode cX8_ring 19 = .ok (.getfield 105, 3) := by decide +kernel
theorem dX8_ring_22 : decode cX8_ring 22 = .ok (.iconst 1, 1) := by decide +kernel
theorem dX8_ring_23 : decode cX8_ring 23 = .ok (.isub, 1) := by decide +kernel
theorem dX8_ring_24 : decode cX8_ring 24 = .ok (.i2l, 1) := by decide +kernel
theorem dX8_ring_25 : decode cX8_ring 25 = .ok (.invokestatic 77, 3) := by decide +kernel
theorem dX8_ring_28 : decode cX8_ring 28 = .ok (.ifCond .ne 5, 3) := by decide +kernel
theorem dX8_ring_31 : decode cX8_ring 31 = .ok (.iconst (-1), 1) := by decide +kernel
theorem dX8_ring_32 : decode cX8_ring 32 = .ok (.ireturn, 1) := by decide +kernel
theorem dX8_ring_33 : decode cX8_ring 33 = .ok (.iload_n 2, 1) := by decide +kernel
theorem dX8_ring_34 : decode cX8_ring 34 = .ok (.ifCond .ne 12, 3) := by decide +kernel
theorem dX8_ring_37 : decode cX8_ring 37 = .ok (.aload_n 0, 1) := by decide +kernel
theorem dX8_ring_38 : decode cX8_ring 38 = .ok (.getfield 44, 3) := by decide +kernel
theorem dX8_ring_41 : decode cX8_ring 41 = .ok (.iload_n 1, 1) := by decide +kernel
theorem dX8_ring_42 : decode cX8_ring 42 = .ok (.iaload, 1) := by decide +kernel
theorem dX8_ring_43 : decode cX8_ring 43 = .ok (.goto 23, 3) := by decide +kernel
theorem dX8_ring_46 : decode cX8_ring 46 = .ok (.iload_n 2, 1) := by decide +kernel
theorem dX8_ring_47 : decode cX8_ring 47 = .ok (.iconst 1, 1) := by decide +kernel
theorem dX8_ring_48 : decode cX8_ring 48 = .ok (.if_icmp .ne 12, 3) := by decide +kernel
theorem dX8_ring_51 : decode cX8_ring 51 = .ok (.aload_n 0, 1) := by decide +kernel
theorem dX8_ring_52 : decode cX8_ring 52 = .ok (.getfield 47, 3) := by decide +kernel
theorem dX8_ring_55 : decode cX8_ring 55 = .ok (.iload_n 1, 1) := by decide +kernel
theorem dX8_ring_56 : decode cX8_ring 56 = .ok (.iaload, 1) := by decide +kernel
theorem dX8_ring_57 : decode cX8_ring 57 = .ok (.goto 9, 3) := by decide +kernel
theorem dX8_ring_60 : decode cX8_ring 60 = .ok (.aload_n 0, 1) := by decide +kernel
theorem dX8_ring_61 : decode cX8_ring 61 = .ok (.getfield 50, 3) := by decide +kernel
theorem dX8_ring_64 : decode cX8_ring 64 = .ok (.iload_n 1, 1) := by decide +kernel
theorem dX8_ring_65 : decode cX8_ring 65 = .ok (.iaload, 1) := by decide +kernel
theorem dX8_ring_66 : decode cX8_ring 66 = .ok (.ireturn, 1) := by decide +kernel
set_option maxRecDepth 20000 in
theorem ggX8_areWell_X8_in : GoodIn wsX8_areWell wsX8_in := goodIn_r _ [5] (by decide +kernel) (by decide +kernel)
set_option maxRecDepth 20000 in
theorem gX8_areWell_X8_in : GoodIn wsX8_areWell (va_wsS RX8 77 yX8_in wsX8_in) := goodIn_app (goodIn_of _ (by decide +kernel)) ggX8_areWell_X8_in
set_option maxRecDepth 20000 in
theorem ggX8_areWell_X8_isByte : GoodIn wsX8_areWell wsX8_isByte := goodIn_r _ [8, 9, 2, 3, 4, 5] (by decide +kernel) (by decide +kernel)
set_option maxRecDepth 20000 in
theorem gX8_areWell_X8_isByte : GoodIn wsX8_areWell (va_wsS RX8 124 yX8_isByte wsX8_isByte) := goodIn_app (goodIn_of _ (by decide +kernel)) ggX8_areWell_X8_isByte
theorem dX8_areWell_0 : decode cX8_areWell 0 = .ok (.iload_n 0, 1) := by decide +kernel
theorem dX8_areWell_1 : decode cX8_areWell 1 = .ok (.i2l, 1) := by decide +kernel
theorem dX8_areWell_2 : decode cX8_areWell 2 = .ok (.lconst 0, 1) := by decide +kernel
theorem dX8_areWell_3 : decode cX8_areWell 3 = .ok (.ldc2_w 175, 3) := by decide +kernel
theorem dX8_areWell_6 : decode cX8_areWell 6 = .ok (.invokestatic 77, 3) := by decide +kernel
theorem dX8_areWell_9 : decode cX8_areWell 9 = .ok (.ifCond .eq 36, 3) := by decide +kernel
theorem dX8_areWell_12 : decode cX8_areWell 12 = .ok (.iload_n 1, 1) := by decide +kernel
theorem dX8_areWell_13 : decode cX8_areWell 13 = .ok (.invokestatic 124, 3) := by decide +kernel
theorem dX8_areWell_16 : decode cX8_areWell 16 = .ok (.ifCond .eq 29, 3) := by decide +kernel
theorem dX8_areWell_19 : decode cX8_areWell 19 = .ok (.iload_n 2, 1) := by decide +kernel
theorem dX8_areWell_20 : decode cX8_areWell 20 = .ok (.invokestatic 124, 3) := by decide +kernel
theorem dX8_areWell_23 : decode cX8_areWell 23 = .ok (.ifCond .eq 22, 3) := by decide +kernel
theorem dX8_areWell_26 : decode cX8_areWell 26 = .ok (.iload_n 3, 1) := by decide +kernel
theorem dX8_areWell_27 : decode cX8_areWell 27 = .ok (.invokestatic 124, 3) := by decide +kernel
theorem dX8_areWell_30 : decode cX8_areWell 30 = .ok (.ifCond .eq 15, 3) := by decide +kernel
theorem dX8_areWell_33 : decode cX8_areWell 33 = .ok (.iload 4, 2) := by decide +kernel
theorem dX8_areWell_35 : decode cX8_areWell 35 = .ok (.invokestatic 124, 3) := by decide +kernel
theorem dX8_areWell_38 : decode cX8_areWell 38 = .ok (.ifCond .eq 7, 3) := by decide +kernel
theorem dX8_areWell_41 : decode cX8_areWell 41 = .ok (.iconst 1, 1) := by decide +kernel
theorem dX8_areWell_42 : decode cX8_areWell 42 = .ok (.goto 4, 3) := by decide +kernel
theorem dX8_areWell_45 : decode cX8_areWell 45 = .ok (.iconst 0, 1) := by decide +kernel
theorem dX8_areWell_46 : decode cX8_areWell 46 = .ok (.ireturn, 1) := by decide +kernel
set_option maxRecDepth 20000 in
theorem ggX8_shadow_X8_areWell : GoodIn wsX8_shadow wsX8_areWell := goodIn_r _ [5, 6, 7, 8, 4, 9, 10, 11, 12, 13] (by decide +kernel) (by decide +kernel)
set_option maxRecDepth 20000 in
theorem gX8_shadow_X8_areWell : GoodIn wsX8_shadow (va_wsS RX8 225 yX8_areWell wsX8_areWell) := goodIn_app (goodIn_of _ (by decide +kernel)) ggX8_shadow_X8_areWell
set_option maxRecDepth 20000 in
theorem ggX8_shadow_X8_shadowBy : GoodIn wsX8_shadow wsX8_shadowBy := goodIn_r _ [16] (by decide +kernel) (by decide +kernel)
set_option maxRecDepth 20000 in
theorem gX8_shadow_X8_shadowBy : GoodIn wsX8_shadow (va_wsS RX8 165 yX8_shadowBy wsX8_shadowBy) := goodIn_app (goodIn_of _ (by decide +kernel)) ggX8_shadow_X8_shadowBy
theorem dX8_shadow_0 : decode cX8_shadow 0 = .ok (.iload_n 1, 1) := by decide +kernel
theorem dX8_shadow_1 : decode cX8_shadow 1 = .ok (.iload_n 2, 1) := by decide +kernel
theorem dX8_shadow_2 : decode cX8_shadow 2 = .ok (.iload_n 3, 1) := by decide +kernel
theorem dX8_shadow_3 : decode cX8_shadow 3 = .ok (.iload 4, 2) := by decide +kernel
theorem dX8_shadow_5 : decode cX8_shadow 5 = .ok (.iload 5, 2) := by decide +kernel
theorem dX8_shadow_7 : decode cX8_shadow 7 = .ok (.invokestatic 225, 3) := by decide +kernel
theorem dX8_shadow_10 : decode cX8_shadow 10 = .ok (.ifCond .eq 16, 3) := by decide +kernel
theorem dX8_shadow_13 : decode cX8_shadow 13 = .ok (.iload_n 1, 1) := by decide +kernel
theorem dX8_shadow_14 : decode cX8_shadow 14 = .ok (.iload_n 2, 1) := by decide +kernel
theorem dX8_shadow_15 : decode cX8_shadow 15 = .ok (.iload_n 3, 1) := by decide +kernel
theorem dX8_shadow_16 : decode cX8_shadow 16 = .ok (.iload 4, 2) := by decide +kernel
theorem dX8_shadow_18 : decode cX8_shadow 18 = .ok (.iload 5, 2) := by decide +kernel
theorem dX8_shadow_20 : decode cX8_shadow 20 = .ok (.invokestatic 165, 3) := by decide +kernel
theorem dX8_shadow_23 : decode cX8_shadow 23 = .ok (.goto 5, 3) := by decide +kernel
theorem dX8_shadow_26 : decode cX8_shadow 26 = .ok (.ldc 127, 2) := by decide +kernel
theorem dX8_shadow_28 : decode cX8_shadow 28 = .ok (.ireturn, 1) := by decide +kernel
set_option maxRecDepth 20000 in
theorem ggX8_exact_X8_areWell : GoodIn wsX8_exact wsX8_areWell := goodIn_r _ [5, 6, 7, 8, 4, 9, 10, 11, 12, 13] (by decide +kernel) (by decide +kernel)
set_option maxRecDepth 20000 in
theorem gX8_exact_X8_areWell : GoodIn wsX8_exact (va_wsS RX8 225 yX8_areWell wsX8_areWell) := goodIn_app (goodIn_of _ (by decide +kernel)) ggX8_exact_X8_areWell
set_option maxRecDepth 20000 in
theorem ggX8_exact_X8_exactBy : GoodIn wsX8_exact wsX8_exactBy := goodIn_r _ [16, 17, 18, 4, 19] (by decide +kernel) (by decide +kernel)
set_option maxRecDepth 20000 in
theorem gX8_exact_X8_exactBy : GoodIn wsX8_exact (va_wsS RX8 169 yX8_exactBy wsX8_exactBy) := goodIn_app (goodIn_of _ (by decide +kernel)) ggX8_exact_X8_exactBy
theorem dX8_exact_0 : decode cX8_exact 0 = .ok (.iload_n 1, 1) := by decide +kernel
theorem dX8_exact_1 : decode cX8_exact 1 = .ok (.iload_n 2, 1) := by decide +kernel
theorem dX8_exact_2 : decode cX8_exact 2 = .ok (.iload_n 3, 1) := by decide +kernel
theorem dX8_exact_3 : decode cX8_exact 3 = .ok (.iload 4, 2) := by decide +kernel
theorem dX8_exact_5 : decode cX8_exact 5 = .ok (.iload 5, 2) := by decide +kernel
theorem dX8_exact_7 : decode cX8_exact 7 = .ok (.invokestatic 225, 3) := by decide +kernel
theorem dX8_exact_10 : decode cX8_exact 10 = .ok (.ifCond .eq 16, 3) := by decide +kernel
theorem dX8_exact_13 : decode cX8_exact 13 = .ok (.iload_n 1, 1) := by decide +kernel
theorem dX8_exact_14 : decode cX8_exact 14 = .ok (.iload_n 2, 1) := by decide +kernel
theorem dX8_exact_15 : decode cX8_exact 15 = .ok (.iload_n 3, 1) := by decide +kernel
theorem dX8_exact_16 : decode cX8_exact 16 = .ok (.iload 4, 2) := by decide +kernel
theorem dX8_exact_18 : decode cX8_exact 18 = .ok (.iload 5, 2) := by decide +kernel
theorem dX8_exact_20 : decode cX8_exact 20 = .ok (.invokestatic 169, 3) := by decide +kernel
theorem dX8_exact_23 : decode cX8_exact 23 = .ok (.goto 5, 3) := by decide +kernel
theorem dX8_exact_26 : decode cX8_exact 26 = .ok (.ldc 127, 2) := by decide +kernel
theorem dX8_exact_28 : decode cX8_exact 28 = .ok (.ireturn, 1) := by decide +kernel
set_option maxRecDepth 20000 in
theorem ggX8_keep_X8_in : GoodIn wsX8_keep wsX8_in := goodIn_r _ [12] (by decide +kernel) (by decide +kernel)
set_option maxRecDepth 20000 in
theorem gX8_keep_X8_in : GoodIn wsX8_keep (va_wsS RX8 77 yX8_in wsX8_in) := goodIn_app (goodIn_of _ (by decide +kernel)) ggX8_keep_X8_in
theorem dX8_keep_0 : decode cX8_keep 0 = .ok (.iload_n 1, 1) := by decide +kernel
theorem dX8_keep_1 : decode cX8_keep 1 = .ok (.i2l, 1) := by decide +kernel
theorem dX8_keep_2 : decode cX8_keep 2 = .ok (.lconst 0, 1) := by decide +kernel
theorem dX8_keep_3 : decode cX8_keep 3 = .ok (.lconst 1, 1) := by decide +kernel
theorem dX8_keep_4 : decode cX8_keep 4 = .ok (.invokestatic 77, 3) := by decide +kernel
theorem dX8_keep_7 : decode cX8_keep 7 = .ok (.ifCond .ne 6, 3) := by decide +kernel
theorem dX8_keep_10 : decode cX8_keep 10 = .ok (.ldc 123, 2) := by decide +kernel
theorem dX8_keep_12 : decode cX8_keep 12 = .ok (.ireturn, 1) := by decide +kernel
theorem dX8_keep_13 : decode cX8_keep 13 = .ok (.iconst 0, 1) := by decide +kernel
theorem dX8_keep_14 : decode cX8_keep 14 = .ok (.istore_n 2, 1) := by decide +kernel
theorem dX8_keep_15 : decode cX8_keep 15 = .ok (.iload_n 2, 1) := by decide +kernel
theorem dX8_keep_16 : decode cX8_keep 16 = .ok (.bipush 40, 2) := by decide +kernel
theorem dX8_keep_18 : decode cX8_keep 18 = .ok (.if_icmp .ge 69, 3) := by decide +kernel
theorem dX8_keep_21 : decode cX8_keep 21 = .ok (.aload_n 0, 1) := by decide +kernel
theorem dX8_keep_22 : decode cX8_keep 22 = .ok (.getfield 65, 3) := by decide +kernel
theorem dX8_keep_25 : decode cX8_keep 25 = .ok (.sipush 152, 3) := by decide +kernel
theorem dX8_keep_28 : decode cX8_keep 28 = .ok (.iload_n 1, 1) := by decide +kernel
theorem dX8_keep_29 : decode cX8_keep 29 = .ok (.imul, 1) := by decide +kernel
theorem dX8_keep_30 : decode cX8_keep 30 = .ok (.iload_n 2, 1) := by decide +kernel
theorem dX8_keep_31 : decode cX8_keep 31 = .ok (.iadd, 1) := by decide +kernel
theorem dX8_keep_32 : decode cX8_keep 32 = .ok (.aload_n 0, 1) := by decide +kernel
theorem dX8_keep_33 : decode cX8_keep 33 = .ok (.getfield 7, 3) := by decide +kernel
theorem dX8_keep_36 : decode cX8_keep 36 = .ok (.iload_n 2, 1) := by decide +kernel
theorem dX8_keep_37 : decode cX8_keep 37 = .ok (.iaload, 1) := by decide +kernel
theorem dX8_keep_38 : decode cX8_keep 38 = .ok (.iastore, 1) := by decide +kernel
theorem dX8_keep_39 : decode cX8_keep 39 = .ok (.aload_n 0, 1) := by decide +kernel
theorem dX8_keep_40 : decode cX8_keep 40 = .ok (.getfield 65, 3) := by decide +kernel
theorem dX8_keep_43 : decode cX8_keep 43 = .ok (.sipush 152, 3) := by decide +kernel
theorem dX8_keep_46 : decode cX8_keep 46 = .ok (.iload_n 1, 1) := by decide +kernel
theorem dX8_keep_47 : decode cX8_keep 47 = .ok (.imul, 1) := by decide +kernel
theorem dX8_keep_48 : decode cX8_keep 48 = .ok (.bipush 40, 2) := by decide +kernel
theorem dX8_keep_50 : decode cX8_keep 50 = .ok (.iadd, 1) := by decide +kernel
theorem dX8_keep_51 : decode cX8_keep 51 = .ok (.iload_n 2, 1) := by decide +kernel
theorem dX8_keep_52 : decode cX8_keep 52 = .ok (.iadd, 1) := by decide +kernel
theorem dX8_keep_53 : decode cX8_keep 53 = .ok (.aload_n 0, 1) := by decide +kernel
theorem dX8_keep_54 : decode cX8_keep 54 = .ok (.getfield 13, 3) := by decide +kernel
theorem dX8_keep_57 : decode cX8_keep 57 = .ok (.iload_n 2, 1) := by decide +kernel
theorem dX8_keep_58 : decode cX8_keep 58 = .ok (.iaload, 1) := by decide +kernel
theorem dX8_keep_59 : decode cX8_keep 59 = .ok (.iastore, 1) := by decide +kernel
theorem dX8_keep_60 : decode cX8_keep 60 = .ok (.aload_n 0, 1) := by decide +kernel
theorem dX8_keep_61 : decode cX8_keep 61 = .ok (.getfield 65, 3) := by decide +kernel
theorem dX8_keep_64 : decode cX8_keep 64 = .ok (.sipush 152, 3) := by decide +kernel
theorem dX8_keep_67 : decode cX8_keep 67 = .ok (.iload_n 1, 1) := by decide +kernel
theorem dX8_keep_68 : decode cX8_keep 68 = .ok (.imul, 1) := by decide +kernel
theorem dX8_keep_69 : decode cX8_keep 69 = .ok (.bipush 80, 2) := by decide +kernel
theorem dX8_keep_71 : decode cX8_keep 71 = .ok (.iadd, 1) := by decide +kernel
theorem dX8_keep_72 : decode cX8_keep 72 = .ok (.iload_n 2, 1) := by decide +kernel
theorem dX8_keep_73 : decode cX8_keep 73 = .ok (.iadd, 1) := by decide +kernel
theorem dX8_keep_74 : decode cX8_keep 74 = .ok (.aload_n 0, 1) := by decide +kernel
theorem dX8_keep_75 : decode cX8_keep 75 = .ok (.getfield 16, 3) := by decide +kernel
theorem dX8_keep_78 : decode cX8_keep 78 = .ok (.iload_n 2, 1) := by decide +kernel
theorem dX8_keep_79 : decode cX8_keep 79 = .ok (.iaload, 1) := by decide +kernel
theorem dX8_keep_80 : decode cX8_keep 80 = .ok (.iastore, 1) := by decide +kernel
theorem dX8_keep_81 : decode cX8_keep 81 = .ok (.iinc 2 1, 3) := by decide +kernel
theorem dX8_keep_84 : decode cX8_keep 84 = .ok (.goto (-69), 3) := by decide +kernel
theorem dX8_keep_87 : decode cX8_keep 87 = .ok (.iconst 0, 1) := by decide +kernel
theorem dX8_keep_88 : decode cX8_keep 88 = .ok (.istore_n 2, 1) := by decide +kernel
theorem dX8_keep_89 : decode cX8_keep 89 = .ok (.iload_n 2, 1) := by decide +kernel
theorem dX8_keep_90 : decode cX8_keep 90 = .ok (.bipush 32, 2) := by decide +kernel
theorem dX8_keep_92 : decode cX8_keep 92 = .ok (.if_icmp .ge 38, 3) := by decide +kernel
theorem dX8_keep_95 : decode cX8_keep 95 = .ok (.aload_n 0, 1) := by decide +kernel
theorem dX8_keep_96 : decode cX8_keep 96 = .ok (.getfield 65, 3) := by decide +kernel
theorem dX8_keep_99 : decode cX8_keep 99 = .ok (.sipush 152, 3) := by decide +kernel
theorem dX8_keep_102 : decode cX8_keep 102 = .ok (.iload_n 1, 1) := by decide +kernel
theorem dX8_keep_103 : decode cX8_keep 103 = .ok (.imul, 1) := by decide +kernel
theorem dX8_keep_104 : decode cX8_keep 104 = .ok (.bipush 120, 2) := by decide +kernel
theorem dX8_keep_106 : decode cX8_keep 106 = .ok (.iadd, 1) := by decide +kernel
theorem dX8_keep_107 : decode cX8_keep 107 = .ok (.iload_n 2, 1) := by decide +kernel
theorem dX8_keep_108 : decode cX8_keep 108 = .ok (.iadd, 1) := by decide +kernel
theorem dX8_keep_109 : decode cX8_keep 109 = .ok (.aload_n 0, 1) := by decide +kernel
theorem dX8_keep_110 : decode cX8_keep 110 = .ok (.getfield 19, 3) := by decide +kernel
theorem dX8_keep_113 : decode cX8_keep 113 = .ok (.iload_n 2, 1) := by decide +kernel
theorem dX8_keep_114 : decode cX8_keep 114 = .ok (.baload, 1) := by decide +kernel
theorem dX8_keep_115 : decode cX8_keep 115 = .ok (.ifCond .eq 7, 3) := by decide +kernel
theorem dX8_keep_118 : decode cX8_keep 118 = .ok (.iconst 1, 1) := by decide +kernel
theorem dX8_keep_119 : decode cX8_keep 119 = .ok (.goto 4, 3) := by decide +kernel
theorem dX8_keep_122 : decode cX8_keep 122 = .ok (.iconst 0, 1) := by decide +kernel
theorem dX8_keep_123 : decode cX8_keep 123 = .ok (.iastore, 1) := by decide +kernel
theorem dX8_keep_124 : decode cX8_keep 124 = .ok (.iinc 2 1, 3) := by decide +kernel
theorem dX8_keep_127 : decode cX8_keep 127 = .ok (.goto (-38), 3) := by decide +kernel
theorem dX8_keep_130 : decode cX8_keep 130 = .ok (.aload_n 0, 1) := by decide +kernel
theorem dX8_keep_131 : decode cX8_keep 131 = .ok (.getfield 68, 3) := by decide +kernel
theorem dX8_keep_134 : decode cX8_keep 134 = .ok (.iload_n 1, 1) := by decide +kernel
theorem dX8_keep_135 : decode cX8_keep 135 = .ok (.iconst 1, 1) := by decide +kernel
theorem dX8_keep_136 : decode cX8_keep 136 = .ok (.bastore, 1) := by decide +kernel
theorem dX8_keep_137 : decode cX8_keep 137 = .ok (.aload_n 0, 1) := by decide +kernel
theorem dX8_keep_138 : decode cX8_keep 138 = .ok (.iconst 0, 1) := by decide +kernel
theorem dX8_keep_139 : decode cX8_keep 139 = .ok (.putfield 108, 3) := by decide +kernel
theorem dX8_keep_142 : decode cX8_keep 142 = .ok (.iconst 1, 1) := by decide +kernel
theorem dX8_keep_143 : decode cX8_keep 143 = .ok (.ireturn, 1) := by decide +kernel
set_option maxRecDepth 20000 in
theorem ggX8_goBack_X8_in : GoodIn wsX8_goBack wsX8_in := goodIn_r _ [13] (by decide +kernel) (by decide +kernel)
set_option maxRecDepth 20000 in
theorem gX8_goBack_X8_in : GoodIn wsX8_goBack (va_wsS RX8 77 yX8_in wsX8_in) := goodIn_app (goodIn_of _ (by decide +kernel)) ggX8_goBack_X8_in
theorem dX8_goBack_0 : decode cX8_goBack 0 = .ok (.iload_n 1, 1) := by decide +kernel
theorem dX8_goBack_1 : decode cX8_goBack 1 = .ok (.i2l, 1) := by decide +kernel
theorem dX8_goBack_2 : decode cX8_goBack 2 = .ok (.lconst 0, 1) := by decide +kernel
theorem dX8_goBack_3 : decode cX8_goBack 3 = .ok (.lconst 1, 1) := by decide +kernel
theorem dX8_goBack_4 : decode cX8_goBack 4 = .ok (.invokestatic 77, 3) := by decide +kernel
theorem dX8_goBack_7 : decode cX8_goBack 7 = .ok (.ifCond .ne 6, 3) := by decide +kernel
theorem dX8_goBack_10 : decode cX8_goBack 10 = .ok (.ldc 123, 2) := by decide +kernel
theorem dX8_goBack_12 : decode cX8_goBack 12 = .ok (.ireturn, 1) := by decide +kernel
theorem dX8_goBack_13 : decode cX8_goBack 13 = .ok (.aload_n 0, 1) := by decide +kernel
theorem dX8_goBack_14 : decode cX8_goBack 14 = .ok (.getfield 68, 3) := by decide +kernel
theorem dX8_goBack_17 : decode cX8_goBack 17 = .ok (.iload_n 1, 1) := by decide +kernel
theorem dX8_goBack_18 : decode cX8_goBack 18 = .ok (.baload, 1) := by decide +kernel
theorem dX8_goBack_19 : decode cX8_goBack 19 = .ok (.ifCond .ne 6, 3) := by decide +kernel
theorem dX8_goBack_22 : decode cX8_goBack 22 = .ok (.ldc 187, 2) := by decide +kernel
theorem dX8_goBack_24 : decode cX8_goBack 24 = .ok (.ireturn, 1) := by decide +kernel
theorem dX8_goBack_25 : decode cX8_goBack 25 = .ok (.iconst 0, 1) := by decide +kernel
theorem dX8_goBack_26 : decode cX8_goBack 26 = .ok (.istore_n 2, 1) := by decide +kernel
theorem dX8_goBack_27 : decode cX8_goBack 27 = .ok (.iload_n 2, 1) := by decide +kernel
theorem dX8_goBack_28 : decode cX8_goBack 28 = .ok (.bipush 40, 2) := by decide +kernel
theorem dX8_goBack_30 : decode cX8_goBack 30 = .ok (.if_icmp .ge 69, 3) := by decide +kernel
theorem dX8_goBack_33 : decode cX8_goBack 33 = .ok (.aload_n 0, 1) := by decide +kernel
theorem dX8_goBack_34 : decode cX8_goBack 34 = .ok (.getfield 7, 3) := by decide +kernel
theorem dX8_goBack_37 : decode cX8_goBack 37 = .ok (.iload_n 2, 1) := by decide +kernel
theorem dX8_goBack_38 : decode cX8_goBack 38 = .ok (.aload_n 0, 1) := by decide +kernel
theorem dX8_goBack_39 : decode cX8_goBack 39 = .ok (.getfield 65, 3) := by decide +kernel
theorem dX8_goBack_42 : decode cX8_goBack 42 = .ok (.sipush 152, 3) := by decide +kernel
theorem dX8_goBack_45 : decode cX8_goBack 45 = .ok (.iload_n 1, 1) := by decide +kernel
theorem dX8_goBack_46 : decode cX8_goBack 46 = .ok (.imul, 1) := by decide +kernel
theorem dX8_goBack_47 : decode cX8_goBack 47 = .ok (.iload_n 2, 1) := by decide +kernel
theorem dX8_goBack_48 : decode cX8_goBack 48 = .ok (.iadd, 1) := by decide +kernel
theorem dX8_goBack_49 : decode cX8_goBack 49 = .ok (.iaload, 1) := by decide +kernel
theorem dX8_goBack_50 : decode cX8_goBack 50 = .ok (.iastore, 1) := by decide +kernel
theorem dX8_goBack_51 : decode cX8_goBack 51 = .ok (.aload_n 0, 1) := by decide +kernel
theorem dX8_goBack_52 : decode cX8_goBack 52 = .ok (.getfield 13, 3) := by decide +kernel
theorem dX8_goBack_55 : decode cX8_goBack 55 = .ok (.iload_n 2, 1) := by decide +kernel
theorem dX8_goBack_56 : decode cX8_goBack 56 = .ok (.aload_n 0, 1) := by decide +kernel
theorem dX8_goBack_57 : decode cX8_goBack 57 = .ok (.getfield 65, 3) := by decide +kernel
theorem dX8_goBack_60 : decode cX8_goBack 60 = .ok (.sipush 152, 3) := by decide +kernel
theorem dX8_goBack_63 : decode cX8_goBack 63 = .ok (.iload_n 1, 1) := by decide +kernel
theorem dX8_goBack_64 : decode cX8_goBack 64 = .ok (.imul, 1) := by decide +kernel
theorem dX8_goBack_65 : decode cX8_goBack 65 = .ok (.bipush 40, 2) := by decide +kernel
theorem dX8_goBack_67 : decode cX8_goBack 67 = .ok (.iadd, 1) := by decide +kernel
theorem dX8_goBack_68 : decode cX8_goBack 68 = .ok (.iload_n 2, 1) := by decide +kernel
theorem dX8_goBack_69 : decode cX8_goBack 69 = .ok (.iadd, 1) := by decide +kernel
theorem dX8_goBack_70 : decode cX8_goBack 70 = .ok (.iaload, 1) := by decide +kernel
theorem dX8_goBack_71 : decode cX8_goBack 71 = .ok (.iastore, 1) := by decide +kernel
theorem dX8_goBack_72 : decode cX8_goBack 72 = .ok (.aload_n 0, 1) := by decide +kernel
theorem dX8_goBack_73 : decode cX8_goBack 73 = .ok (.getfield 16, 3) := by decide +kernel
theorem dX8_goBack_76 : decode cX8_goBack 76 = .ok (.iload_n 2, 1) := by decide +kernel
theorem dX8_goBack_77 : decode cX8_goBack 77 = .ok (.aload_n 0, 1) := by decide +kernel
theorem dX8_goBack_78 : decode cX8_goBack 78 = .ok (.getfield 65, 3) := by decide +kernel
theorem dX8_goBack_81 : decode cX8_goBack 81 = .ok (.sipush 152, 3) := by decide +kernel
theorem dX8_goBack_84 : decode cX8_goBack 84 = .ok (.iload_n 1, 1) := by decide +kernel
theorem dX8_goBack_85 : decode cX8_goBack 85 = .ok (.imul, 1) := by decide +kernel
theorem dX8_goBack_86 : decode cX8_goBack 86 = .ok (.bipush 80, 2) := by decide +kernel
theorem dX8_goBack_88 : decode cX8_goBack 88 = .ok (.iadd, 1) := by decide +kernel
theorem dX8_goBack_89 : decode cX8_goBack 89 = .ok (.iload_n 2, 1) := by decide +kernel
theorem dX8_goBack_90 : decode cX8_goBack 90 = .ok (.iadd, 1) := by decide +kernel
theorem dX8_goBack_91 : decode cX8_goBack 91 = .ok (.iaload, 1) := by decide +kernel
theorem dX8_goBack_92 : decode cX8_goBack 92 = .ok (.iastore, 1) := by decide +kernel
theorem dX8_goBack_93 : decode cX8_goBack 93 = .ok (.iinc 2 1, 3) := by decide +kernel
theorem dX8_goBack_96 : decode cX8_goBack 96 = .ok (.goto (-69), 3) := by decide +kernel
theorem dX8_goBack_99 : decode cX8_goBack 99 = .ok (.iconst 0, 1) := by decide +kernel
theorem dX8_goBack_100 : decode cX8_goBack 100 = .ok (.istore_n 2, 1) := by decide +kernel
theorem dX8_goBack_101 : decode cX8_goBack 101 = .ok (.iload_n 2, 1) := by decide +kernel
theorem dX8_goBack_102 : decode cX8_goBack 102 = .ok (.bipush 32, 2) := by decide +kernel
theorem dX8_goBack_104 : decode cX8_goBack 104 = .ok (.if_icmp .ge 39, 3) := by decide +kernel
theorem dX8_goBack_107 : decode cX8_goBack 107 = .ok (.aload_n 0, 1) := by decide +kernel
theorem dX8_goBack_108 : decode cX8_goBack 108 = .ok (.getfield 19, 3) := by decide +kernel
theorem dX8_goBack_111 : decode cX8_goBack 111 = .ok (.iload_n 2, 1) := by decide +kernel
theorem dX8_goBack_112 : decode cX8_goBack 112 = .ok (.aload_n 0, 1) := by decide +kernel
theorem dX8_goBack_113 : decode cX8_goBack 113 = .ok (.getfield 65, 3) := by decide +kernel
theorem dX8_goBack_116 : decode cX8_goBack 116 = .ok (.sipush 152, 3) := by decide +kernel
theorem dX8_goBack_119 : decode cX8_goBack 119 = .ok (.iload_n 1, 1) := by decide +kernel
theorem dX8_goBack_120 : decode cX8_goBack 120 = .ok (.imul, 1) := by decide +kernel
theorem dX8_goBack_121 : decode cX8_goBack 121 = .ok (.bipush 120, 2) := by decide +kernel
theorem dX8_goBack_123 : decode cX8_goBack 123 = .ok (.iadd, 1) := by decide +kernel
theorem dX8_goBack_124 : decode cX8_goBack 124 = .ok (.iload_n 2, 1) := by decide +kernel
theorem dX8_goBack_125 : decode cX8_goBack 125 = .ok (.iadd, 1) := by decide +kernel
theorem dX8_goBack_126 : decode cX8_goBack 126 = .ok (.iaload, 1) := by decide +kernel
theorem dX8_goBack_127 : decode cX8_goBack 127 = .ok (.iconst 1, 1) := by decide +kernel
theorem dX8_goBack_128 : decode cX8_goBack 128 = .ok (.if_icmp .ne 7, 3) := by decide +kernel
theorem dX8_goBack_131 : decode cX8_goBack 131 = .ok (.iconst 1, 1) := by decide +kernel
theorem dX8_goBack_132 : decode cX8_goBack 132 = .ok (.goto 4, 3) := by decide +kernel
theorem dX8_goBack_135 : decode cX8_goBack 135 = .ok (.iconst 0, 1) := by decide +kernel
theorem dX8_goBack_136 : decode cX8_goBack 136 = .ok (.bastore, 1) := by decide +kernel
theorem dX8_goBack_137 : decode cX8_goBack 137 = .ok (.iinc 2 1, 3) := by decide +kernel
theorem dX8_goBack_140 : decode cX8_goBack 140 = .ok (.goto (-39), 3) := by decide +kernel
theorem dX8_goBack_143 : decode cX8_goBack 143 = .ok (.aload_n 0, 1) := by decide +kernel
end
section
theorem dX8_goBack_144 : decode cX8_goBack 144 = .ok (.iconst 0, 1) := by decide +kernel
theorem dX8_goBack_145 : decode cX8_goBack 145 = .ok (.putfield 108, 3) := by decide +kernel
theorem dX8_goBack_148 : decode cX8_goBack 148 = .ok (.iconst 1, 1) := by decide +kernel
theorem dX8_goBack_149 : decode cX8_goBack 149 = .ok (.ireturn, 1) := by decide +kernel
theorem dJ6_bitCount_0f7a4_0 : decode cJ6_bitCount_0f7a4 0 = .ok (.iload_n 0, 1) := by decide +kernel
theorem dJ6_bitCount_0f7a4_1 : decode cJ6_bitCount_0f7a4 1 = .ok (.iload_n 0, 1) := by decide +kernel
theorem dJ6_bitCount_0f7a4_2 : decode cJ6_bitCount_0f7a4 2 = .ok (.iconst 1, 1) := by decide +kernel
theorem dJ6_bitCount_0f7a4_3 : decode cJ6_bitCount_0f7a4 3 = .ok (.iushr, 1) := by decide +kernel
theorem dJ6_bitCount_0f7a4_4 : decode cJ6_bitCount_0f7a4 4 = .ok (.ldc_w 265, 3) := by decide +kernel
theorem dJ6_bitCount_0f7a4_7 : decode cJ6_bitCount_0f7a4 7 = .ok (.iand, 1) := by decide +kernel
theorem dJ6_bitCount_0f7a4_8 : decode cJ6_bitCount_0f7a4 8 = .ok (.isub, 1) := by decide +kernel
theorem dJ6_bitCount_0f7a4_9 : decode cJ6_bitCount_0f7a4 9 = .ok (.istore_n 0, 1) := by decide +kernel
theorem dJ6_bitCount_0f7a4_10 : decode cJ6_bitCount_0f7a4 10 = .ok (.iload_n 0, 1) := by decide +kernel
theorem dJ6_bitCount_0f7a4_11 : decode cJ6_bitCount_0f7a4 11 = .ok (.ldc_w 266, 3) := by decide +kernel
theorem dJ6_bitCount_0f7a4_14 : decode cJ6_bitCount_0f7a4 14 = .ok (.iand, 1) := by decide +kernel
theorem dJ6_bitCount_0f7a4_15 : decode cJ6_bitCount_0f7a4 15 = .ok (.iload_n 0, 1) := by decide +kernel
theorem dJ6_bitCount_0f7a4_16 : decode cJ6_bitCount_0f7a4 16 = .ok (.iconst 2, 1) := by decide +kernel
theorem dJ6_bitCount_0f7a4_17 : decode cJ6_bitCount_0f7a4 17 = .ok (.iushr, 1) := by decide +kernel
theorem dJ6_bitCount_0f7a4_18 : decode cJ6_bitCount_0f7a4 18 = .ok (.ldc_w 266, 3) := by decide +kernel
theorem dJ6_bitCount_0f7a4_21 : decode cJ6_bitCount_0f7a4 21 = .ok (.iand, 1) := by decide +kernel
theorem dJ6_bitCount_0f7a4_22 : decode cJ6_bitCount_0f7a4 22 = .ok (.iadd, 1) := by decide +kernel
theorem dJ6_bitCount_0f7a4_23 : decode cJ6_bitCount_0f7a4 23 = .ok (.istore_n 0, 1) := by decide +kernel
theorem dJ6_bitCount_0f7a4_24 : decode cJ6_bitCount_0f7a4 24 = .ok (.iload_n 0, 1) := by decide +kernel
theorem dJ6_bitCount_0f7a4_25 : decode cJ6_bitCount_0f7a4 25 = .ok (.iload_n 0, 1) := by decide +kernel
theorem dJ6_bitCount_0f7a4_26 : decode cJ6_bitCount_0f7a4 26 = .ok (.iconst 4, 1) := by decide +kernel
theorem dJ6_bitCount_0f7a4_27 : decode cJ6_bitCount_0f7a4 27 = .ok (.iushr, 1) := by decide +kernel
theorem dJ6_bitCount_0f7a4_28 : decode cJ6_bitCount_0f7a4 28 = .ok (.iadd, 1) := by decide +kernel
theorem dJ6_bitCount_0f7a4_29 : decode cJ6_bitCount_0f7a4 29 = .ok (.ldc_w 267, 3) := by decide +kernel
theorem dJ6_bitCount_0f7a4_32 : decode cJ6_bitCount_0f7a4 32 = .ok (.iand, 1) := by decide +kernel
theorem dJ6_bitCount_0f7a4_33 : decode cJ6_bitCount_0f7a4 33 = .ok (.istore_n 0, 1) := by decide +kernel
theorem dJ6_bitCount_0f7a4_34 : decode cJ6_bitCount_0f7a4 34 = .ok (.iload_n 0, 1) := by decide +kernel
theorem dJ6_bitCount_0f7a4_35 : decode cJ6_bitCount_0f7a4 35 = .ok (.iload_n 0, 1) := by decide +kernel
theorem dJ6_bitCount_0f7a4_36 : decode cJ6_bitCount_0f7a4 36 = .ok (.bipush 8, 2) := by decide +kernel
theorem dJ6_bitCount_0f7a4_38 : decode cJ6_bitCount_0f7a4 38 = .ok (.iushr, 1) := by decide +kernel
theorem dJ6_bitCount_0f7a4_39 : decode cJ6_bitCount_0f7a4 39 = .ok (.iadd, 1) := by decide +kernel
theorem dJ6_bitCount_0f7a4_40 : decode cJ6_bitCount_0f7a4 40 = .ok (.istore_n 0, 1) := by decide +kernel
theorem dJ6_bitCount_0f7a4_41 : decode cJ6_bitCount_0f7a4 41 = .ok (.iload_n 0, 1) := by decide +kernel
theorem dJ6_bitCount_0f7a4_42 : decode cJ6_bitCount_0f7a4 42 = .ok (.iload_n 0, 1) := by decide +kernel
theorem dJ6_bitCount_0f7a4_43 : decode cJ6_bitCount_0f7a4 43 = .ok (.bipush 16, 2) := by decide +kernel
theorem dJ6_bitCount_0f7a4_45 : decode cJ6_bitCount_0f7a4 45 = .ok (.iushr, 1) := by decide +kernel
theorem dJ6_bitCount_0f7a4_46 : decode cJ6_bitCount_0f7a4 46 = .ok (.iadd, 1) := by decide +kernel
theorem dJ6_bitCount_0f7a4_47 : decode cJ6_bitCount_0f7a4 47 = .ok (.istore_n 0, 1) := by decide +kernel
theorem dJ6_bitCount_0f7a4_48 : decode cJ6_bitCount_0f7a4 48 = .ok (.iload_n 0, 1) := by decide +kernel
theorem dJ6_bitCount_0f7a4_49 : decode cJ6_bitCount_0f7a4 49 = .ok (.bipush 63, 2) := by decide +kernel
theorem dJ6_bitCount_0f7a4_51 : decode cJ6_bitCount_0f7a4 51 = .ok (.iand, 1) := by decide +kernel
theorem dJ6_bitCount_0f7a4_52 : decode cJ6_bitCount_0f7a4 52 = .ok (.ireturn, 1) := by decide +kernel
theorem dJ9_min_7cf53_0 : decode cJ9_min_7cf53 0 = .ok (.iload_n 0, 1) := by decide +kernel
theorem dJ9_min_7cf53_1 : decode cJ9_min_7cf53 1 = .ok (.iload_n 1, 1) := by decide +kernel
theorem dJ9_min_7cf53_2 : decode cJ9_min_7cf53 2 = .ok (.if_icmp .gt 7, 3) := by decide +kernel
theorem dJ9_min_7cf53_5 : decode cJ9_min_7cf53 5 = .ok (.iload_n 0, 1) := by decide +kernel
theorem dJ9_min_7cf53_6 : decode cJ9_min_7cf53 6 = .ok (.goto 4, 3) := by decide +kernel
theorem dJ9_min_7cf53_9 : decode cJ9_min_7cf53 9 = .ok (.iload_n 1, 1) := by decide +kernel
theorem dJ9_min_7cf53_10 : decode cJ9_min_7cf53 10 = .ok (.ireturn, 1) := by decide +kernel
set_option maxRecDepth 20000 in
theorem ggL_law_X7_init : GoodIn wsL_law wsX7_init := goodIn_r _ [8, 9, 10, 11, 12, 13, 14, 15, 16, 17, 18, 19, 20, 21, 22, 23, 24, 25, 26, 27, 28, 29, 30, 31, 32, 33, 34, 35, 36, 37, 38, 39, 40, 41, 42, 43, 44, 45, 46, 47, 48, 49, 50, 51, 52, 53, 54, 55, 56, 57, 58, 59, 60, 61, 62, 63, 64, 2, 65, 66, 67, 68, 69, 70, 71, 72, 73, 74, 75, 76, 77, 78, 79, 80, 81, 82, 83, 84, 85, 86, 87, 88, 89, 90, 91, 92, 93, 94, 95, 96, 97, 98, 99, 727, 728, 687, 688, 689, 690, 691, 692, 693, 694, 695, 696, 697, 698, 729, 730, 731, 732, 733, 734, 735, 736, 737, 738, 739, 740, 741, 742, 743, 744, 745, 746, 747] (by decide +kernel) (by decide +kernel)
set_option maxRecDepth 20000 in
theorem gL_law_X7_init : GoodIn wsL_law (wsX7_init) := ggL_law_X7_init
set_option maxRecDepth 20000 in
theorem ggL_law_X8_init : GoodIn wsL_law wsX8_init := goodIn_r _ [102, 103, 10, 11, 37, 104, 105, 106, 107, 108, 109, 110, 111, 112, 113, 114, 115, 116, 117, 118, 119, 120, 121, 122, 123, 124, 125, 126, 127, 5, 128, 129, 130, 131, 132, 133, 134, 135, 136, 699, 700, 701, 702, 703, 704, 705, 706, 707, 708, 709, 710, 711, 712, 713, 714, 715, 716, 717, 718, 719, 720, 721, 722, 723, 724, 725, 726] (by decide +kernel) (by decide +kernel)
set_option maxRecDepth 20000 in
theorem gL_law_X8_init : GoodIn wsL_law (wsX8_init) := ggL_law_X8_init
set_option maxRecDepth 20000 in
theorem ggL_law_X7_start : GoodIn wsL_law wsX7_start := goodIn_r _ [140, 68, 62, 63, 64, 2, 65, 15, 21, 25, 29, 33, 66, 67, 69, 70, 71, 72, 73, 14, 74, 38, 75, 76, 77, 78, 20, 79, 44, 80, 81, 82, 83, 84, 24, 85, 86, 87, 88, 89, 90, 28, 91, 92, 93, 94, 95, 96, 32, 97, 98, 99, 687, 688, 689, 690, 691, 692, 693, 694, 695, 696, 697, 698, 727, 728, 729, 730, 731, 732, 733, 734, 735, 736, 737, 738, 739, 740, 741, 742, 743, 744, 745, 746, 747] (by decide +kernel) (by decide +kernel)
set_option maxRecDepth 20000 in
theorem gL_law_X7_start : GoodIn wsL_law (wsV RL 13 RX7 yX7_start wsX7_start) := goodIn_app (goodIn_of _ (by decide +kernel)) ggL_law_X7_start
set_option maxRecDepth 20000 in
theorem ggL_law_X8_start : GoodIn wsL_law wsX8_start := goodIn_r _ [128, 129, 104, 105, 106, 108, 109, 130, 131, 132, 133, 134, 135, 136, 124, 699, 700, 701, 702, 703, 704, 705, 706, 707, 708, 709, 710, 711, 712, 713, 714, 715, 716, 717, 718, 719, 720, 721, 722, 723, 724, 725, 726] (by decide +kernel) (by decide +kernel)
set_option maxRecDepth 20000 in
theorem gL_law_X8_start : GoodIn wsL_law (wsV RL 17 RX8 yX8_start wsX8_start) := goodIn_app (goodIn_of _ (by decide +kernel)) ggL_law_X8_start
set_option maxRecDepth 20000 in
theorem ggL_law_X7_set : GoodIn wsL_law wsX7_set := goodIn_r _ [145, 146, 147, 15, 148, 149, 150, 2, 151, 152, 153, 154, 155, 156, 157, 158, 159, 160, 161, 162, 163, 164, 165, 33, 166, 167, 168, 32, 169, 60, 99, 61, 98, 170, 171, 172, 173, 174, 175, 176, 177, 29, 68, 178, 70, 179, 180, 181, 28, 182, 54, 93, 55, 56, 92, 183, 687, 688, 689, 690, 691, 692, 693, 694, 695, 696, 697, 698, 727, 728, 744, 745, 746, 747, 739, 740, 741, 742, 743] (by decide +kernel) (by decide +kernel)
set_option maxRecDepth 20000 in
theorem gL_law_X7_set : GoodIn wsL_law (wsV RL 18 RX7 yX7_set wsX7_set) := goodIn_app (goodIn_of _ (by decide +kernel)) ggL_law_X7_set
set_option maxRecDepth 20000 in
theorem ggL_law_X8_set : GoodIn wsL_law wsX8_set := goodIn_r _ [187, 188, 189, 104, 190, 191, 5, 192, 193, 194, 195, 196, 197, 198, 199, 200, 201, 202, 203, 204, 105, 106, 205, 206, 207, 208, 136, 119, 120, 121, 122, 209, 210, 211, 212, 116, 117, 118, 129, 135, 213, 134, 699, 700, 701, 702, 703, 704, 705, 706, 707, 708, 709, 710, 711, 712, 713, 714, 715, 716, 717, 718, 719, 720, 721, 722, 723, 724, 725, 726] (by decide +kernel) (by decide +kernel)
set_option maxRecDepth 20000 in
theorem gL_law_X8_set : GoodIn wsL_law (wsV RL 22 RX8 yX8_set wsX8_set) := goodIn_app (goodIn_of _ (by decide +kernel)) ggL_law_X8_set
set_option maxRecDepth 20000 in
theorem ggL_law_X7_forget : GoodIn wsL_law wsX7_forget := goodIn_r _ [217, 21, 146, 147, 15, 148, 149, 150, 2, 151, 218, 219, 220, 20, 221, 80, 222, 223, 157, 224, 155, 156, 158, 225, 226, 227, 159, 160, 161, 162, 163, 164, 165, 33, 166, 167, 168, 32, 169, 60, 99, 61, 98, 170, 171, 172, 173, 174, 175, 176, 177, 29, 68, 178, 70, 179, 180, 181, 28, 182, 54, 93, 55, 56, 92, 183, 687, 688, 689, 690, 691, 692, 693, 694, 695, 696, 697, 698, 727, 728, 729, 730, 731, 732, 733, 744, 745, 746, 747, 739, 740, 741, 742, 743] (by decide +kernel) (by decide +kernel)
set_option maxRecDepth 20000 in
theorem gL_law_X7_forget : GoodIn wsL_law (wsV RL 23 RX7 yX7_forget wsX7_forget) := goodIn_app (goodIn_of _ (by decide +kernel)) ggL_law_X7_forget
set_option maxRecDepth 20000 in
theorem ggL_law_X8_forget : GoodIn wsL_law wsX8_forget := goodIn_r _ [231, 188, 200, 189, 104, 105, 106, 190, 191, 5, 192, 193, 194, 195, 196, 232, 233, 234, 235, 130, 201, 202, 203, 204, 205, 206, 207, 208, 136, 119, 120, 121, 122, 209, 210, 211, 212, 116, 117, 118, 129, 135, 213, 134, 699, 700, 701, 702, 703, 704, 705, 706, 707, 708, 709, 710, 711, 712, 713, 714, 715, 716, 717, 718, 719, 720, 721, 722, 723, 724, 725, 726] (by decide +kernel) (by decide +kernel)
set_option maxRecDepth 20000 in
theorem gL_law_X8_forget : GoodIn wsL_law (wsV RL 27 RX8 yX8_forget wsX8_forget) := goodIn_app (goodIn_of _ (by decide +kernel)) ggL_law_X8_forget
set_option maxRecDepth 20000 in
theorem ggL_law_X7_copy : GoodIn wsL_law wsX7_copy := goodIn_r _ [239, 146, 15, 148, 149, 150, 2, 151, 162, 163, 164, 165, 33, 166, 167, 168, 32, 169, 60, 99, 61, 98, 170, 171, 172, 173, 240, 241, 242, 243, 222, 223, 157, 224, 174, 175, 176, 177, 29, 68, 178, 70, 179, 180, 181, 28, 182, 54, 93, 55, 56, 92, 183, 687, 688, 689, 690, 691, 692, 693, 694, 695, 696, 697, 698, 727, 728, 744, 745, 746, 747, 739, 740, 741, 742, 743] (by decide +kernel) (by decide +kernel)
set_option maxRecDepth 20000 in
theorem gL_law_X7_copy : GoodIn wsL_law (wsV RL 28 RX7 yX7_copy wsX7_copy) := goodIn_app (goodIn_of _ (by decide +kernel)) ggL_law_X7_copy
set_option maxRecDepth 20000 in
theorem ggL_law_X8_copy : GoodIn wsL_law wsX8_copy := goodIn_r _ [247, 188, 104, 105, 106, 190, 191, 5, 192, 193, 194, 195, 196, 201, 202, 203, 204, 205, 206, 207, 208, 136, 119, 120, 121, 122, 209, 210, 211, 212, 116, 117, 118, 129, 135, 213, 134, 699, 700, 701, 702, 703, 704, 705, 706, 707, 708, 709, 710, 711, 712, 713, 714, 715, 716, 717, 718, 719, 720, 721, 722, 723, 724, 725, 726] (by decide +kernel) (by decide +kernel)
set_option maxRecDepth 20000 in
theorem gL_law_X8_copy : GoodIn wsL_law (wsV RL 31 RX8 yX8_copy wsX8_copy) := goodIn_app (goodIn_of _ (by decide +kernel)) ggL_law_X8_copy
set_option maxRecDepth 20000 in
theorem ggL_law_X7_load : GoodIn wsL_law wsX7_load := goodIn_r _ [251, 146, 149, 150, 2, 151, 252, 253, 254, 255, 256, 257, 258, 21, 259, 15, 25, 68, 148, 260, 261, 262, 14, 263, 75, 264, 265, 266, 24, 267, 86, 87, 48, 49, 50, 162, 163, 164, 165, 33, 166, 167, 168, 32, 169, 60, 99, 61, 98, 170, 171, 172, 173, 240, 241, 242, 243, 222, 223, 157, 224, 174, 175, 176, 177, 29, 178, 70, 179, 180, 181, 28, 182, 54, 93, 55, 56, 92, 183, 687, 688, 689, 690, 691, 692, 693, 694, 695, 696, 697, 698, 729, 730, 731, 732, 733, 727, 728, 734, 735, 736, 737, 738, 744, 745, 746, 747, 739, 740, 741, 742, 743] (by decide +kernel) (by decide +kernel)
set_option maxRecDepth 20000 in
theorem gL_law_X7_load : GoodIn wsL_law (wsV RL 32 RX7 yX7_load wsX7_load) := goodIn_app (goodIn_of _ (by decide +kernel)) ggL_law_X7_load
set_option maxRecDepth 20000 in
theorem ggL_law_X8_load : GoodIn wsL_law wsX8_load := goodIn_r _ [271, 188, 190, 191, 5, 192, 193, 194, 195, 196, 272, 273, 274, 213, 275, 276, 277, 278, 104, 105, 106, 279, 280, 281, 282, 108, 109, 283, 284, 285, 286, 132, 113, 114, 129, 115, 201, 202, 203, 204, 205, 206, 207, 208, 136, 119, 120, 121, 122, 209, 210, 211, 212, 116, 117, 118, 135, 134, 699, 700, 701, 702, 703, 704, 705, 706, 707, 708, 709, 710, 711, 712, 713, 714, 715, 716, 717, 718, 719, 720, 721, 722, 723, 724, 725, 726] (by decide +kernel) (by decide +kernel)
set_option maxRecDepth 20000 in
theorem gL_law_X8_load : GoodIn wsL_law (wsV RL 35 RX8 yX8_load wsX8_load) := goodIn_app (goodIn_of _ (by decide +kernel)) ggL_law_X8_load
set_option maxRecDepth 20000 in
theorem ggL_law_X7_part : GoodIn wsL_law wsX7_part := goodIn_r _ [290, 146, 147, 149, 150, 2, 151, 252, 253, 254, 255, 256, 257, 258, 21, 259, 15, 25, 68, 148, 260, 261, 262, 14, 263, 75, 264, 265, 266, 24, 267, 86, 87, 48, 49, 50, 291, 292, 157, 293, 294, 156, 158, 295, 223, 224, 296, 226, 227, 297, 160, 161, 162, 163, 164, 165, 33, 166, 167, 168, 32, 169, 60, 99, 61, 98, 170, 171, 172, 173, 240, 241, 242, 243, 222, 174, 175, 176, 177, 29, 178, 70, 179, 180, 181, 28, 182, 54, 93, 55, 56, 92, 183, 687, 688, 689, 690, 691, 692, 693, 694, 695, 696, 697, 698, 729, 730, 731, 732, 733, 727, 728, 734, 735, 736, 737, 738, 744, 745, 746, 747, 739, 740, 741, 742, 743] (by decide +kernel) (by decide +kernel)
set_option maxRecDepth 20000 in
theorem gL_law_X7_part : GoodIn wsL_law (wsV RL 36 RX7 yX7_part wsX7_part) := goodIn_app (goodIn_of _ (by decide +kernel)) ggL_law_X7_part
set_option maxRecDepth 20000 in
theorem ggL_law_X8_part : GoodIn wsL_law wsX8_part := goodIn_r _ [301, 188, 302, 189, 104, 105, 106, 190, 191, 5, 192, 193, 194, 195, 196, 272, 273, 274, 213, 279, 280, 281, 282, 108, 109, 283, 284, 285, 286, 132, 113, 114, 129, 115, 201, 202, 203, 204, 205, 206, 207, 208, 136, 119, 120, 121, 122, 209, 210, 211, 212, 116, 117, 118, 135, 134, 699, 700, 701, 702, 703, 704, 705, 706, 707, 708, 709, 710, 711, 712, 713, 714, 715, 716, 717, 718, 719, 720, 721, 722, 723, 724, 725, 726] (by decide +kernel) (by decide +kernel)
set_option maxRecDepth 20000 in
theorem gL_law_X8_part : GoodIn wsL_law (wsV RL 40 RX8 yX8_part wsX8_part) := goodIn_app (goodIn_of _ (by decide +kernel)) ggL_law_X8_part
set_option maxRecDepth 20000 in
theorem ggL_law_X7_store : GoodIn wsL_law wsX7_store := goodIn_r _ [306, 146, 15, 148, 149, 150, 2, 151, 252, 253, 254, 307, 308, 309, 310, 33, 311, 166, 167, 168, 32, 169, 60, 99, 61, 98, 170, 171, 172, 173, 312, 313, 314, 240, 241, 242, 243, 222, 223, 157, 224, 174, 175, 176, 177, 29, 68, 178, 70, 179, 180, 181, 28, 182, 54, 93, 55, 56, 92, 183, 687, 688, 689, 690, 691, 692, 693, 694, 695, 696, 697, 698, 727, 728, 744, 745, 746, 747, 739, 740, 741, 742, 743] (by decide +kernel) (by decide +kernel)
set_option maxRecDepth 20000 in
theorem gL_law_X7_store : GoodIn wsL_law (wsV RL 41 RX7 yX7_store wsX7_store) := goodIn_app (goodIn_of _ (by decide +kernel)) ggL_law_X7_store
set_option maxRecDepth 20000 in
theorem ggL_law_X8_store : GoodIn wsL_law wsX8_store := goodIn_r _ [318, 188, 190, 191, 5, 192, 193, 194, 195, 196, 272, 273, 274, 213, 319, 320, 321, 322, 108, 104, 105, 106, 201, 202, 203, 204, 205, 206, 207, 208, 136, 119, 120, 121, 122, 209, 210, 211, 212, 116, 117, 118, 129, 135, 134, 699, 700, 701, 702, 703, 704, 705, 706, 707, 708, 709, 710, 711, 712, 713, 714, 715, 716, 717, 718, 719, 720, 721, 722, 723, 724, 725, 726] (by decide +kernel) (by decide +kernel)
set_option maxRecDepth 20000 in
theorem gL_law_X8_store : GoodIn wsL_law (wsV RL 44 RX8 yX8_store wsX8_store) := goodIn_app (goodIn_of _ (by decide +kernel)) ggL_law_X8_store
set_option maxRecDepth 20000 in
theorem ggL_law_X7_loadAt : GoodIn wsL_law wsX7_loadAt := goodIn_r _ [326, 146, 149, 150, 2, 151, 327, 328, 329, 330, 15, 148, 25, 68, 222, 223, 157, 224, 225, 226, 227, 264, 265, 266, 24, 267, 86, 87, 48, 49, 50, 155, 156, 158, 255, 256, 257, 258, 21, 259, 260, 261, 262, 14, 263, 75, 162, 163, 164, 165, 33, 166, 167, 168, 32, 169, 60, 99, 61, 98, 170, 171, 172, 173, 240, 241, 242, 243, 174, 175, 176, 177, 29, 178, 70, 179, 180, 181, 28, 182, 54, 93, 55, 56, 92, 183, 687, 688, 689, 690, 691, 692, 693, 694, 695, 696, 697, 698, 727, 728, 734, 735, 736, 737, 738, 729, 730, 731, 732, 733, 744, 745, 746, 747, 739, 740, 741, 742, 743] (by decide +kernel) (by decide +kernel)
set_option maxRecDepth 20000 in
theorem gL_law_X7_loadAt : GoodIn wsL_law (wsV RL 45 RX7 yX7_loadAt wsX7_loadAt) := goodIn_app (goodIn_of _ (by decide +kernel)) ggL_law_X7_loadAt
set_option maxRecDepth 20000 in
theorem ggL_law_X8_loadAt : GoodIn wsL_law wsX8_loadAt := goodIn_r _ [334, 188, 190, 191, 5, 192, 193, 194, 195, 196, 335, 336, 337, 338, 105, 106, 104, 283, 284, 285, 286, 132, 113, 114, 129, 115, 275, 276, 277, 278, 279, 280, 281, 282, 108, 109, 201, 202, 203, 204, 205, 206, 207, 208, 136, 119, 120, 121, 122, 209, 210, 211, 212, 116, 117, 118, 135, 213, 134, 699, 700, 701, 702, 703, 704, 705, 706, 707, 708, 709, 710, 711, 712, 713, 714, 715, 716, 717, 718, 719, 720, 721, 722, 723, 724, 725, 726] (by decide +kernel) (by decide +kernel)
set_option maxRecDepth 20000 in
theorem gL_law_X8_loadAt : GoodIn wsL_law (wsV RL 48 RX8 yX8_loadAt wsX8_loadAt) := goodIn_app (goodIn_of _ (by decide +kernel)) ggL_law_X8_loadAt
set_option maxRecDepth 20000 in
theorem ggL_law_X7_storeAt : GoodIn wsL_law wsX7_storeAt := goodIn_r _ [342, 146, 15, 148, 149, 150, 2, 151, 327, 328, 329, 330, 25, 68, 222, 223, 157, 224, 225, 226, 227, 264, 265, 266, 24, 267, 86, 87, 48, 49, 50, 155, 156, 158, 307, 308, 309, 310, 33, 311, 166, 167, 168, 32, 169, 60, 99, 61, 98, 170, 171, 172, 173, 312, 313, 314, 240, 241, 242, 243, 174, 175, 176, 177, 29, 178, 70, 179, 180, 181, 28, 182, 54, 93, 55, 56, 92, 183, 687, 688, 689, 690, 691, 692, 693, 694, 695, 696, 697, 698, 727, 728, 734, 735, 736, 737, 738, 744, 745, 746, 747, 739, 740, 741, 742, 743] (by decide +kernel) (by decide +kernel)
set_option maxRecDepth 20000 in
theorem gL_law_X7_storeAt : GoodIn wsL_law (wsV RL 49 RX7 yX7_storeAt wsX7_storeAt) := goodIn_app (goodIn_of _ (by decide +kernel)) ggL_law_X7_storeAt
set_option maxRecDepth 20000 in
theorem ggL_law_X8_storeAt : GoodIn wsL_law wsX8_storeAt := goodIn_r _ [346, 188, 190, 191, 5, 192, 193, 194, 195, 196, 335, 336, 337, 338, 105, 106, 104, 283, 284, 285, 286, 132, 113, 114, 129, 115, 319, 320, 321, 322, 108, 201, 202, 203, 204, 205, 206, 207, 208, 136, 119, 120, 121, 122, 209, 210, 211, 212, 116, 117, 118, 135, 213, 134, 699, 700, 701, 702, 703, 704, 705, 706, 707, 708, 709, 710, 711, 712, 713, 714, 715, 716, 717, 718, 719, 720, 721, 722, 723, 724, 725, 726] (by decide +kernel) (by decide +kernel)
set_option maxRecDepth 20000 in
theorem gL_law_X8_storeAt : GoodIn wsL_law (wsV RL 52 RX8 yX8_storeAt wsX8_storeAt) := goodIn_app (goodIn_of _ (by decide +kernel)) ggL_law_X8_storeAt
set_option maxRecDepth 20000 in
theorem ggL_law_X7_rule : GoodIn wsL_law wsX7_rule := goodIn_r _ [350, 146, 147, 69, 15, 148, 149, 150, 2, 151, 351, 352, 353, 354, 355, 356, 357, 358, 156, 157, 158, 359, 223, 224, 360, 361, 362, 363, 364, 365, 366, 367, 368, 369, 370, 371, 372, 373, 374, 375, 376, 377, 378, 379, 380, 381, 382, 383, 384, 385, 386, 226, 227, 387, 160, 161, 162, 163, 164, 165, 33, 166, 167, 168, 32, 169, 60, 99, 61, 98, 170, 171, 172, 173, 240, 241, 242, 243, 222, 174, 175, 176, 177, 29, 68, 178, 70, 179, 180, 181, 28, 182, 54, 93, 55, 56, 92, 183, 687, 688, 689, 690, 691, 692, 693, 694, 695, 696, 697, 698, 727, 728, 744, 745, 746, 747, 739, 740, 741, 742, 743] (by decide +kernel) (by decide +kernel)
set_option maxRecDepth 20000 in
theorem gL_law_X7_rule : GoodIn wsL_law (wsV RL 53 RX7 yX7_rule wsX7_rule) := goodIn_app (goodIn_of _ (by decide +kernel)) ggL_law_X7_rule
set_option maxRecDepth 20000 in
theorem ggL_law_X8_rule : GoodIn wsL_law wsX8_rule := goodIn_r _ [391, 188, 392, 189, 190, 191, 5, 192, 193, 194, 195, 196, 393, 394, 395, 396, 104, 105, 133, 106, 397, 398, 399, 400, 401, 402, 403, 404, 405, 406, 407, 408, 201, 202, 203, 204, 205, 206, 207, 208, 136, 119, 120, 121, 122, 209, 210, 211, 212, 116, 117, 118, 129, 135, 213, 134, 699, 700, 701, 702, 703, 704, 705, 706, 707, 708, 709, 710, 711, 712, 713, 714, 715, 716, 717, 718, 719, 720, 721, 722, 723, 724, 725, 726] (by decide +kernel) (by decide +kernel)
set_option maxRecDepth 20000 in
theorem gL_law_X8_rule : GoodIn wsL_law (wsV RL 56 RX8 yX8_rule wsX8_rule) := goodIn_app (goodIn_of _ (by decide +kernel)) ggL_law_X8_rule
set_option maxRecDepth 20000 in
theorem ggL_law_X7_decide : GoodIn wsL_law wsX7_decide := goodIn_r _ [412, 146, 15, 148, 25, 68, 149, 150, 2, 151, 413, 414, 157, 415, 416, 417, 418, 294, 156, 158, 295, 223, 224, 225, 226, 227, 264, 265, 266, 24, 267, 86, 87, 48, 49, 50, 155, 174, 175, 176, 177, 29, 178, 70, 179, 180, 181, 28, 182, 54, 93, 55, 56, 92, 183, 171, 172, 173, 687, 688, 689, 690, 691, 692, 693, 694, 695, 696, 697, 698, 727, 728, 734, 735, 736, 737, 738, 739, 740, 741, 742, 743] (by decide +kernel) (by decide +kernel)
set_option maxRecDepth 20000 in
theorem gL_law_X7_decide : GoodIn wsL_law (wsV RL 57 RX7 yX7_decide wsX7_decide) := goodIn_app (goodIn_of _ (by decide +kernel)) ggL_law_X7_decide
set_option maxRecDepth 20000 in
theorem ggL_law_X8_decide : GoodIn wsL_law wsX8_decide := goodIn_r _ [422, 188, 190, 191, 5, 192, 193, 194, 195, 196, 423, 424, 425, 426, 106, 104, 427, 428, 429, 430, 105, 283, 284, 285, 286, 132, 113, 114, 129, 115, 209, 210, 211, 212, 116, 117, 118, 135, 213, 134, 699, 700, 701, 702, 703, 704, 705, 706, 707, 708, 709, 710, 711, 712, 713, 714, 715, 716, 717, 718, 719, 720, 721, 722, 723, 724, 725, 726] (by decide +kernel) (by decide +kernel)
set_option maxRecDepth 20000 in
theorem gL_law_X8_decide : GoodIn wsL_law (wsV RL 61 RX8 yX8_decide wsX8_decide) := goodIn_app (goodIn_of _ (by decide +kernel)) ggL_law_X8_decide
set_option maxRecDepth 20000 in
theorem ggL_law_X7_let : GoodIn wsL_law wsX7_let := goodIn_r _ [434, 147, 21, 435, 436, 437, 15, 148, 311, 252, 253, 2, 254, 438, 439, 440, 20, 441, 44, 442, 443, 444, 445, 81, 446, 447, 448, 449, 80, 42, 43, 450, 451, 452, 453, 67, 454, 455, 159, 160, 157, 161, 312, 313, 314, 174, 175, 176, 177, 29, 68, 178, 70, 179, 180, 181, 28, 182, 54, 93, 55, 56, 92, 183, 171, 172, 173, 687, 688, 689, 690, 691, 692, 693, 694, 695, 696, 697, 698, 729, 730, 731, 732, 733, 727, 728, 739, 740, 741, 742, 743] (by decide +kernel) (by decide +kernel)
set_option maxRecDepth 20000 in
theorem gL_law_X7_let : GoodIn wsL_law (wsV RL 62 RX7 yX7_let wsX7_let) := goodIn_app (goodIn_of _ (by decide +kernel)) ggL_law_X7_let
set_option maxRecDepth 20000 in
theorem ggL_law_X8_let : GoodIn wsL_law wsX8_let := goodIn_r _ [459, 302, 189, 109, 112, 460, 130, 461, 104, 105, 106, 108, 110, 111, 194, 195, 5, 196, 462, 463, 464, 465, 131, 466, 467, 209, 210, 211, 212, 116, 117, 118, 129, 135, 213, 134, 699, 700, 701, 702, 703, 704, 705, 706, 707, 708, 709, 710, 711, 712, 713, 714, 715, 716, 717, 718, 719, 720, 721, 722, 723, 724, 725, 726] (by decide +kernel) (by decide +kernel)
set_option maxRecDepth 20000 in
theorem gL_law_X8_let : GoodIn wsL_law (wsV RL 65 RX8 yX8_let wsX8_let) := goodIn_app (goodIn_of _ (by decide +kernel)) ggL_law_X8_let
set_option maxRecDepth 20000 in
theorem ggL_law_X7_giveBack : GoodIn wsL_law wsX7_giveBack := goodIn_r _ [471, 21, 146, 435, 15, 311, 472, 473, 474, 218, 219, 220, 20, 221, 80, 475, 443, 444, 445, 81, 476, 477, 478, 479, 312, 313, 2, 314, 480, 373, 374, 375, 376, 377, 378, 174, 175, 176, 177, 29, 68, 178, 70, 179, 180, 181, 28, 182, 54, 93, 55, 56, 92, 183, 171, 172, 173, 687, 688, 689, 690, 691, 692, 693, 694, 695, 696, 697, 698, 727, 728, 729, 730, 731, 732, 733, 739, 740, 741, 742, 743] (by decide +kernel) (by decide +kernel)
set_option maxRecDepth 20000 in
theorem gL_law_X7_giveBack : GoodIn wsL_law (wsV RL 66 RX7 yX7_giveBack wsX7_giveBack) := goodIn_app (goodIn_of _ (by decide +kernel)) ggL_law_X7_giveBack
set_option maxRecDepth 20000 in
theorem ggL_law_X8_giveBack : GoodIn wsL_law wsX8_giveBack := goodIn_r _ [484, 188, 112, 460, 110, 111, 108, 232, 233, 234, 5, 235, 130, 194, 195, 196, 485, 486, 487, 488, 406, 407, 408, 209, 210, 211, 212, 116, 117, 118, 129, 135, 213, 134, 699, 700, 701, 702, 703, 704, 705, 706, 707, 708, 709, 710, 711, 712, 713, 714, 715, 716, 717, 718, 719, 720, 721, 722, 723, 724, 725, 726] (by decide +kernel) (by decide +kernel)
set_option maxRecDepth 20000 in
theorem gL_law_X8_giveBack : GoodIn wsL_law (wsV RL 69 RX8 yX8_giveBack wsX8_giveBack) := goodIn_app (goodIn_of _ (by decide +kernel)) ggL_law_X8_giveBack
set_option maxRecDepth 20000 in
theorem ggL_law_X7_drift : GoodIn wsL_law wsX7_drift := goodIn_r _ [492, 147, 25, 493, 494, 495, 496, 2, 497, 450, 451, 452, 453, 67, 454, 455, 379, 380, 381, 382, 15, 148, 383, 384, 356, 385, 358, 156, 157, 158, 359, 223, 224, 360, 361, 362, 363, 364, 365, 386, 226, 227, 387, 160, 161, 162, 163, 164, 165, 33, 166, 167, 168, 32, 169, 60, 99, 61, 98, 170, 171, 172, 173, 240, 241, 242, 243, 222, 174, 175, 176, 177, 29, 68, 178, 70, 179, 180, 181, 28, 182, 54, 93, 55, 56, 92, 183, 498, 249, 250, 251, 146, 149, 150, 151, 252, 253, 254, 255, 256, 257, 258, 21, 259, 260, 261, 262, 14, 263, 75, 264, 265, 266, 24, 267, 86, 87, 48, 49, 50, 499, 304, 305, 306, 307, 308, 309, 310, 311, 312, 313, 314, 500, 410, 411, 412, 413, 414, 415, 416, 417, 418, 294, 295, 225, 155, 687, 688, 689, 690, 691, 692, 693, 694, 695, 696, 697, 698, 734, 735, 736, 737, 738, 727, 728, 744, 745, 746, 747, 739, 740, 741, 742, 743, 729, 730, 731, 732, 733] (by decide +kernel) (by decide +kernel)
set_option maxRecDepth 20000 in
theorem gL_law_X7_drift : GoodIn wsL_law (wsV RL 70 RX7 yX7_drift wsX7_drift) := goodIn_app (goodIn_of _ (by decide +kernel)) ggL_law_X7_drift
set_option maxRecDepth 20000 in
theorem ggL_law_X8_drift : GoodIn wsL_law wsX8_drift := goodIn_r _ [504, 505, 189, 132, 194, 195, 5, 196, 506, 507, 508, 509, 462, 463, 464, 465, 131, 466, 467, 393, 394, 395, 396, 104, 105, 133, 106, 397, 398, 399, 400, 401, 402, 403, 404, 405, 406, 407, 408, 201, 202, 203, 204, 205, 206, 207, 208, 136, 119, 120, 121, 122, 209, 210, 211, 212, 116, 117, 118, 129, 135, 213, 134, 510, 269, 270, 271, 188, 190, 191, 192, 193, 272, 273, 274, 275, 276, 277, 278, 279, 280, 281, 282, 108, 109, 283, 284, 285, 286, 113, 114, 115, 511, 316, 317, 318, 319, 320, 321, 322, 512, 420, 421, 422, 423, 424, 425, 426, 427, 428, 429, 430, 699, 700, 701, 702, 703, 704, 705, 706, 707, 708, 709, 710, 711, 712, 713, 714, 715, 716, 717, 718, 719, 720, 721, 722, 723, 724, 725, 726] (by decide +kernel) (by decide +kernel)
set_option maxRecDepth 20000 in
theorem gL_law_X8_drift : GoodIn wsL_law (wsV RL 73 RX8 yX8_drift wsX8_drift) := goodIn_app (goodIn_of _ (by decide +kernel)) ggL_law_X8_drift
set_option maxRecDepth 20000 in
theorem ggL_law_X7_lot : GoodIn wsL_law wsX7_lot := goodIn_r _ [516, 517, 147, 67, 687, 688, 689, 690, 691, 692, 693, 694, 695, 696, 697, 698] (by decide +kernel) (by decide +kernel)
set_option maxRecDepth 20000 in
theorem gL_law_X7_lot : GoodIn wsL_law (wsV RL 74 RX7 yX7_lot wsX7_lot) := goodIn_app (goodIn_of _ (by decide +kernel)) ggL_law_X7_lot
set_option maxRecDepth 20000 in
theorem ggL_law_X8_lot : GoodIn wsL_law wsX8_lot := goodIn_r _ [521, 522, 189, 131, 194, 195, 5, 196, 699, 700, 701, 702, 703, 704, 705, 706, 707, 708, 709, 710, 711, 712, 713, 714, 715, 716, 717, 718, 719, 720, 721, 722, 723, 724, 725, 726] (by decide +kernel) (by decide +kernel)
set_option maxRecDepth 20000 in
theorem gL_law_X8_lot : GoodIn wsL_law (wsV RL 77 RX8 yX8_lot wsX8_lot) := goodIn_app (goodIn_of _ (by decide +kernel)) ggL_law_X8_lot
set_option maxRecDepth 20000 in
theorem ggL_law_X7_undo : GoodIn wsL_law wsX7_undo := goodIn_r _ [526, 33, 527, 435, 15, 148, 528, 529, 530, 32, 531, 99, 60, 61, 98, 687, 688, 689, 690, 691, 692, 693, 694, 695, 696, 697, 698, 744, 745, 746, 747, 727, 728] (by decide +kernel) (by decide +kernel)
set_option maxRecDepth 20000 in
theorem gL_law_X7_undo : GoodIn wsL_law (wsV RL 78 RX7 yX7_undo wsX7_undo) := goodIn_app (goodIn_of _ (by decide +kernel)) ggL_law_X7_undo
set_option maxRecDepth 20000 in
theorem ggL_law_X8_undo : GoodIn wsL_law wsX8_undo := goodIn_r _ [535, 136, 460, 119, 104, 120, 105, 121, 106, 122, 699, 700, 701, 702, 703, 704, 705, 706, 707, 708, 709, 710, 711, 712, 713, 714, 715, 716, 717, 718, 719, 720, 721, 722, 723, 724, 725, 726] (by decide +kernel) (by decide +kernel)
set_option maxRecDepth 20000 in
theorem gL_law_X8_undo : GoodIn wsL_law (wsV RL 81 RX8 yX8_undo wsX8_undo) := goodIn_app (goodIn_of _ (by decide +kernel)) ggL_law_X8_undo
set_option maxRecDepth 20000 in
theorem ggL_law_X7_told : GoodIn wsL_law wsX7_told := goodIn_r _ [539, 68, 25, 493, 540, 69, 21, 436, 474, 15, 311, 29, 541, 67, 33, 527, 147, 480, 373, 374, 375, 376, 377, 378, 542, 543, 544, 14, 545, 38, 546, 223, 157, 224, 547, 687, 688, 689, 690, 691, 692, 693, 694, 695, 696, 697, 698, 734, 735, 736, 737, 738, 729, 730, 731, 732, 733, 727, 728, 739, 740, 741, 742, 743, 744, 745, 746, 747] (by decide +kernel) (by decide +kernel)
set_option maxRecDepth 20000 in
theorem gL_law_X7_told : GoodIn wsL_law (wsV RL 82 RX7 yX7_told wsX7_told) := goodIn_app (goodIn_of _ (by decide +kernel)) ggL_law_X7_told
set_option maxRecDepth 20000 in
theorem ggL_law_X8_told : GoodIn wsL_law wsX8_told := goodIn_r _ [551, 129, 132, 133, 130, 135, 131, 136, 189, 552, 553, 554, 5, 555, 485, 486, 487, 488, 112, 556, 557, 558, 559, 108, 560, 561, 562, 563, 105, 406, 407, 408, 699, 700, 701, 702, 703, 704, 705, 706, 707, 708, 709, 710, 711, 712, 713, 714, 715, 716, 717, 718, 719, 720, 721, 722, 723, 724, 725, 726] (by decide +kernel) (by decide +kernel)
set_option maxRecDepth 20000 in
theorem gL_law_X8_told : GoodIn wsL_law (wsV RL 85 RX8 yX8_told wsX8_told) := goodIn_app (goodIn_of _ (by decide +kernel)) ggL_law_X8_told
set_option maxRecDepth 20000 in
theorem ggL_law_X7_mark : GoodIn wsL_law wsX7_mark := goodIn_r _ [567, 70, 687, 688, 689, 690, 691, 692, 693, 694, 695, 696, 697, 698] (by decide +kernel) (by decide +kernel)
set_option maxRecDepth 20000 in
theorem gL_law_X7_mark : GoodIn wsL_law (wsV RL 86 RX7 yX7_mark wsX7_mark) := goodIn_app (goodIn_of _ (by decide +kernel)) ggL_law_X7_mark
set_option maxRecDepth 20000 in
theorem ggL_law_X8_mark : GoodIn wsL_law wsX8_mark := goodIn_r _ [571, 134, 699, 700, 701, 702, 703, 704, 705, 706, 707, 708, 709, 710, 711, 712, 713, 714, 715, 716, 717, 718, 719, 720, 721, 722, 723, 724, 725, 726] (by decide +kernel) (by decide +kernel)
set_option maxRecDepth 20000 in
theorem gL_law_X8_mark : GoodIn wsL_law (wsV RL 90 RX8 yX8_mark wsX8_mark) := goodIn_app (goodIn_of _ (by decide +kernel)) ggL_law_X8_mark
set_option maxRecDepth 20000 in
theorem ggL_law_X7_register : GoodIn wsL_law wsX7_register := goodIn_r _ [575, 146, 15, 148, 147, 149, 150, 2, 151, 155, 156, 157, 158, 222, 223, 224, 225, 226, 227, 576, 417, 418, 294, 295, 577, 578, 579, 480, 373, 374, 375, 376, 377, 378, 413, 414, 415, 416, 687, 688, 689, 690, 691, 692, 693, 694, 695, 696, 697, 698, 727, 728] (by decide +kernel) (by decide +kernel)
set_option maxRecDepth 20000 in
theorem gL_law_X7_register : GoodIn wsL_law (wsV RL 91 RX7 yX7_register wsX7_register) := goodIn_app (goodIn_of _ (by decide +kernel)) ggL_law_X7_register
set_option maxRecDepth 20000 in
theorem ggL_law_X8_register : GoodIn wsL_law wsX8_register := goodIn_r _ [583, 188, 104, 105, 106, 189, 190, 191, 5, 192, 193, 194, 195, 196, 406, 407, 408, 427, 428, 429, 430, 699, 700, 701, 702, 703, 704, 705, 706, 707, 708, 709, 710, 711, 712, 713, 714, 715, 716, 717, 718, 719, 720, 721, 722, 723, 724, 725, 726] (by decide +kernel) (by decide +kernel)
set_option maxRecDepth 20000 in
theorem gL_law_X8_register : GoodIn wsL_law (wsV RL 94 RX8 yX8_register wsX8_register) := goodIn_app (goodIn_of _ (by decide +kernel)) ggL_law_X8_register
set_option maxRecDepth 20000 in
theorem ggL_law_X7_octet : GoodIn wsL_law wsX7_octet := goodIn_r _ [587, 146, 15, 148, 21, 259, 147, 252, 253, 2, 254, 155, 156, 157, 158, 222, 223, 224, 225, 226, 227, 260, 261, 262, 14, 263, 75, 687, 688, 689, 690, 691, 692, 693, 694, 695, 696, 697, 698, 727, 728, 729, 730, 731, 732, 733] (by decide +kernel) (by decide +kernel)
set_option maxRecDepth 20000 in
theorem gL_law_X7_octet : GoodIn wsL_law (wsV RL 95 RX7 yX7_octet wsX7_octet) := goodIn_app (goodIn_of _ (by decide +kernel)) ggL_law_X7_octet
set_option maxRecDepth 20000 in
theorem ggL_law_X8_octet : GoodIn wsL_law wsX8_octet := goodIn_r _ [591, 188, 104, 105, 106, 108, 109, 189, 272, 273, 5, 274, 213, 194, 195, 196, 699, 700, 701, 702, 703, 704, 705, 706, 707, 708, 709, 710, 711, 712, 713, 714, 715, 716, 717, 718, 719, 720, 721, 722, 723, 724, 725, 726] (by decide +kernel) (by decide +kernel)
set_option maxRecDepth 20000 in
theorem gL_law_X8_octet : GoodIn wsL_law (wsV RL 98 RX8 yX8_octet wsX8_octet) := goodIn_app (goodIn_of _ (by decide +kernel)) ggL_law_X8_octet
set_option maxRecDepth 20000 in
theorem ggL_law_X7_ground : GoodIn wsL_law wsX7_ground := goodIn_r _ [595, 21, 146, 472, 473, 25, 147, 218, 219, 220, 20, 221, 80, 475, 443, 444, 445, 81, 596, 597, 598, 24, 599, 87, 50, 687, 688, 689, 690, 691, 692, 693, 694, 695, 696, 697, 698, 729, 730, 731, 732, 733, 734, 735, 736, 737, 738] (by decide +kernel) (by decide +kernel)
set_option maxRecDepth 20000 in
theorem gL_law_X7_ground : GoodIn wsL_law (wsV RL 99 RX7 yX7_ground wsX7_ground) := goodIn_app (goodIn_of _ (by decide +kernel)) ggL_law_X7_ground
set_option maxRecDepth 20000 in
theorem ggL_law_X8_ground : GoodIn wsL_law wsX8_ground := goodIn_r _ [603, 188, 110, 111, 112, 189, 232, 233, 234, 5, 235, 130, 194, 195, 196, 604, 605, 606, 607, 115, 552, 553, 554, 555, 132, 699, 700, 701, 702, 703, 704, 705, 706, 707, 708, 709, 710, 711, 712, 713, 714, 715, 716, 717, 718, 719, 720, 721, 722, 723, 724, 725, 726] (by decide +kernel) (by decide +kernel)
set_option maxRecDepth 20000 in
theorem gL_law_X8_ground : GoodIn wsL_law (wsV RL 102 RX8 yX8_ground wsX8_ground) := goodIn_app (goodIn_of _ (by decide +kernel)) ggL_law_X8_ground
set_option maxRecDepth 20000 in
theorem ggL_law_X7_cry : GoodIn wsL_law wsX7_cry := goodIn_r _ [611, 25, 540, 146, 612, 613, 614, 147, 687, 688, 689, 690, 691, 692, 693, 694, 695, 696, 697, 698, 734, 735, 736, 737, 738] (by decide +kernel) (by decide +kernel)
set_option maxRecDepth 20000 in
theorem gL_law_X7_cry : GoodIn wsL_law (wsV RL 103 RX7 yX7_cry wsX7_cry) := goodIn_app (goodIn_of _ (by decide +kernel)) ggL_law_X7_cry
set_option maxRecDepth 20000 in
theorem ggL_law_X8_cry : GoodIn wsL_law wsX8_cry := goodIn_r _ [618, 188, 113, 114, 115, 189, 552, 553, 554, 5, 555, 132, 194, 195, 196, 699, 700, 701, 702, 703, 704, 705, 706, 707, 708, 709, 710, 711, 712, 713, 714, 715, 716, 717, 718, 719, 720, 721, 722, 723, 724, 725, 726] (by decide +kernel) (by decide +kernel)
set_option maxRecDepth 20000 in
theorem gL_law_X8_cry : GoodIn wsL_law (wsV RL 106 RX8 yX8_cry wsX8_cry) := goodIn_app (goodIn_of _ (by decide +kernel)) ggL_law_X8_cry
set_option maxRecDepth 20000 in
theorem ggL_law_X7_ring : GoodIn wsL_law wsX7_ring := goodIn_r _ [622, 147, 29, 541, 623, 624, 625, 626, 627, 628, 28, 629, 93, 687, 688, 689, 690, 691, 692, 693, 694, 695, 696, 697, 698, 739, 740, 741, 742, 743] (by decide +kernel) (by decide +kernel)
set_option maxRecDepth 20000 in
theorem gL_law_X7_ring : GoodIn wsL_law (wsV RL 107 RX7 yX7_ring wsX7_ring) := goodIn_app (goodIn_of _ (by decide +kernel)) ggL_law_X7_ring
set_option maxRecDepth 20000 in
theorem ggL_law_X8_ring : GoodIn wsL_law wsX8_ring := goodIn_r _ [633, 634, 189, 135, 116, 117, 118, 194, 195, 5, 196, 699, 700, 701, 702, 703, 704, 705, 706, 707, 708, 709, 710, 711, 712, 713, 714, 715, 716, 717, 718, 719, 720, 721, 722, 723, 724, 725, 726] (by decide +kernel) (by decide +kernel)
set_option maxRecDepth 20000 in
theorem gL_law_X8_ring : GoodIn wsL_law (wsV RL 110 RX8 yX8_ring wsX8_ring) := goodIn_app (goodIn_of _ (by decide +kernel)) ggL_law_X8_ring
set_option maxRecDepth 20000 in
theorem ggL_law_X7_shadow : GoodIn wsL_law wsX7_shadow := goodIn_r _ [638, 147, 351, 352, 2, 353, 152, 153, 154, 639, 361, 356, 362, 363, 364, 365] (by decide +kernel) (by decide +kernel)
set_option maxRecDepth 20000 in
theorem gL_law_X7_shadow : GoodIn wsL_law (wsV RL 111 RX7 yX7_shadow wsX7_shadow) := goodIn_app (goodIn_of _ (by decide +kernel)) ggL_law_X7_shadow
set_option maxRecDepth 20000 in
theorem ggL_law_X8_shadow : GoodIn wsL_law wsX8_shadow := goodIn_r _ [643, 189, 644, 645, 5, 646, 392, 194, 195, 196, 197, 198, 199, 200, 397, 398, 399] (by decide +kernel) (by decide +kernel)
set_option maxRecDepth 20000 in
theorem gL_law_X8_shadow : GoodIn wsL_law (wsV RL 115 RX8 yX8_shadow wsX8_shadow) := goodIn_app (goodIn_of _ (by decide +kernel)) ggL_law_X8_shadow
set_option maxRecDepth 20000 in
theorem ggL_law_X7_exact : GoodIn wsL_law wsX7_exact := goodIn_r _ [650, 147, 351, 352, 2, 353, 152, 153, 154, 651, 367, 356, 368, 360, 361, 362, 363, 364, 365, 369, 370, 371] (by decide +kernel) (by decide +kernel)
set_option maxRecDepth 20000 in
theorem gL_law_X7_exact : GoodIn wsL_law (wsV RL 116 RX7 yX7_exact wsX7_exact) := goodIn_app (goodIn_of _ (by decide +kernel)) ggL_law_X7_exact
set_option maxRecDepth 20000 in
theorem ggL_law_X8_exact : GoodIn wsL_law wsX8_exact := goodIn_r _ [655, 189, 644, 645, 5, 646, 392, 194, 195, 196, 197, 198, 199, 200, 403, 404, 405, 400, 401, 402] (by decide +kernel) (by decide +kernel)
set_option maxRecDepth 20000 in
theorem gL_law_X8_exact : GoodIn wsL_law (wsV RL 119 RX8 yX8_exact wsX8_exact) := goodIn_app (goodIn_of _ (by decide +kernel)) ggL_law_X8_exact
set_option maxRecDepth 20000 in
theorem ggL_law_X7_keep : GoodIn wsL_law wsX7_keep := goodIn_r _ [659, 146, 15, 66, 33, 660, 661, 2, 662, 663, 664, 665, 666, 16, 17, 667, 668, 669, 14, 670, 38, 671, 672, 673, 674, 75, 94, 95, 96, 32, 97, 98, 99, 687, 688, 689, 690, 691, 692, 693, 694, 695, 696, 697, 698, 727, 728, 744, 745, 746, 747] (by decide +kernel) (by decide +kernel)
set_option maxRecDepth 20000 in
theorem gL_law_X7_keep : GoodIn wsL_law (wsV RL 120 RX7 yX7_keep wsX7_keep) := goodIn_app (goodIn_of _ (by decide +kernel)) ggL_law_X7_keep
set_option maxRecDepth 20000 in
theorem ggL_law_X8_keep : GoodIn wsL_law wsX8_keep := goodIn_r _ [678, 188, 123, 104, 105, 106, 108, 124, 136, 194, 195, 5, 196, 699, 700, 701, 702, 703, 704, 705, 706, 707, 708, 709, 710, 711, 712, 713, 714, 715, 716, 717, 718, 719, 720, 721, 722, 723, 724, 725, 726] (by decide +kernel) (by decide +kernel)
set_option maxRecDepth 20000 in
theorem gL_law_X8_keep : GoodIn wsL_law (wsV RL 123 RX8 yX8_keep wsX8_keep) := goodIn_app (goodIn_of _ (by decide +kernel)) ggL_law_X8_keep
set_option maxRecDepth 20000 in
theorem ggL_law_X7_goBack : GoodIn wsL_law wsX7_goBack := goodIn_r _ [682, 146, 66, 435, 15, 33, 660, 661, 2, 662, 663, 664, 665, 666, 16, 17, 667, 668, 669, 14, 670, 38, 671, 672, 673, 674, 75, 94, 95, 96, 32, 97, 98, 99, 687, 688, 689, 690, 691, 692, 693, 694, 695, 696, 697, 698, 727, 728, 744, 745, 746, 747] (by decide +kernel) (by decide +kernel)
set_option maxRecDepth 20000 in
theorem gL_law_X7_goBack : GoodIn wsL_law (wsV RL 124 RX7 yX7_goBack wsX7_goBack) := goodIn_app (goodIn_of _ (by decide +kernel)) ggL_law_X7_goBack
set_option maxRecDepth 20000 in
theorem ggL_law_X8_goBack : GoodIn wsL_law wsX8_goBack := goodIn_r _ [686, 188, 124, 460, 104, 123, 105, 106, 108, 136, 194, 195, 5, 196, 699, 700, 701, 702, 703, 704, 705, 706, 707, 708, 709, 710, 711, 712, 713, 714, 715, 716, 717, 718, 719, 720, 721, 722, 723, 724, 725, 726] (by decide +kernel) (by decide +kernel)
set_option maxRecDepth 20000 in
theorem gL_law_X8_goBack : GoodIn wsL_law (wsV RL 127 RX8 yX8_goBack wsX8_goBack) := goodIn_app (goodIn_of _ (by decide +kernel)) ggL_law_X8_goBack
theorem dL_law_0 : decode cL_law 0 = .ok (.new 7, 3) := by decide +kernel
theorem dL_law_3 : decode cL_law 3 = .ok (.dup, 1) := by decide +kernel
theorem dL_law_4 : decode cL_law 4 = .ok (.invokespecial 9, 3) := by decide +kernel
theorem dL_law_7 : decode cL_law 7 = .ok (.astore_n 1, 1) := by decide +kernel
theorem dL_law_8 : decode cL_law 8 = .ok (.new 10, 3) := by decide +kernel
theorem dL_law_11 : decode cL_law 11 = .ok (.dup, 1) := by decide +kernel
theorem dL_law_12 : decode cL_law 12 = .ok (.invokespecial 12, 3) := by decide +kernel
theorem dL_law_15 : decode cL_law 15 = .ok (.astore_n 2, 1) := by decide +kernel
theorem dL_law_16 : decode cL_law 16 = .ok (.iconst 0, 1) := by decide +kernel
theorem dL_law_17 : decode cL_law 17 = .ok (.istore_n 3, 1) := by decide +kernel
theorem dL_law_18 : decode cL_law 18 = .ok (.iload_n 3, 1) := by decide +kernel
theorem dL_law_19 : decode cL_law 19 = .ok (.aload_n 0, 1) := by decide +kernel
theorem dL_law_20 : decode cL_law 20 = .ok (.arraylength, 1) := by decide +kernel
theorem dL_law_21 : decode cL_law 21 = .ok (.bipush 6, 2) := by decide +kernel
theorem dL_law_23 : decode cL_law 23 = .ok (.isub, 1) := by decide +kernel
theorem dL_law_24 : decode cL_law 24 = .ok (.if_icmp .gt 1010, 3) := by decide +kernel
theorem dL_law_27 : decode cL_law 27 = .ok (.aload_n 0, 1) := by decide +kernel
theorem dL_law_28 : decode cL_law 28 = .ok (.iload_n 3, 1) := by decide +kernel
theorem dL_law_29 : decode cL_law 29 = .ok (.iaload, 1) := by decide +kernel
theorem dL_law_30 : decode cL_law 30 = .ok (.bipush 31, 2) := by decide +kernel
theorem dL_law_32 : decode cL_law 32 = .ok (.iand, 1) := by decide +kernel
theorem dL_law_33 : decode cL_law 33 = .ok (.tableswitch 995 0 26 #[123, 136, 169, 212, 245, 278, 331, 364, 397, 430, 483, 506, 539, 562, 585, 608, 621, 644, 658, 691, 724, 757, 790, 823, 886, 949, 972], 123) := by decide +kernel
theorem dL_law_156 : decode cL_law 156 = .ok (.aload_n 1, 1) := by decide +kernel
theorem dL_law_157 : decode cL_law 157 = .ok (.invokevirtual 13, 3) := by decide +kernel
theorem dL_law_160 : decode cL_law 160 = .ok (.aload_n 2, 1) := by decide +kernel
theorem dL_law_161 : decode cL_law 161 = .ok (.invokevirtual 17, 3) := by decide +kernel
theorem dL_law_164 : decode cL_law 164 = .ok (.if_icmp .eq 864, 3) := by decide +kernel
theorem dL_law_167 : decode cL_law 167 = .ok (.iconst 0, 1) := by decide +kernel
theorem dL_law_168 : decode cL_law 168 = .ok (.ireturn, 1) := by decide +kernel
theorem dL_law_169 : decode cL_law 169 = .ok (.aload_n 1, 1) := by decide +kernel
theorem dL_law_170 : decode cL_law 170 = .ok (.aload_n 0, 1) := by decide +kernel
theorem dL_law_171 : decode cL_law 171 = .ok (.iload_n 3, 1) := by decide +kernel
theorem dL_law_172 : decode cL_law 172 = .ok (.iconst 1, 1) := by decide +kernel
theorem dL_law_173 : decode cL_law 173 = .ok (.iadd, 1) := by decide +kernel
theorem dL_law_174 : decode cL_law 174 = .ok (.iaload, 1) := by decide +kernel
theorem dL_law_175 : decode cL_law 175 = .ok (.aload_n 0, 1) := by decide +kernel
theorem dL_law_176 : decode cL_law 176 = .ok (.iload_n 3, 1) := by decide +kernel
theorem dL_law_177 : decode cL_law 177 = .ok (.iconst 2, 1) := by decide +kernel
theorem dL_law_178 : decode cL_law 178 = .ok (.iadd, 1) := by decide +kernel
theorem dL_law_179 : decode cL_law 179 = .ok (.iaload, 1) := by decide +kernel
theorem dL_law_180 : decode cL_law 180 = .ok (.invokevirtual 18, 3) := by decide +kernel
theorem dL_law_183 : decode cL_law 183 = .ok (.aload_n 2, 1) := by decide +kernel
theorem dL_law_184 : decode cL_law 184 = .ok (.aload_n 0, 1) := by decide +kernel
theorem dL_law_185 : decode cL_law 185 = .ok (.iload_n 3, 1) := by decide +kernel
theorem dL_law_186 : decode cL_law 186 = .ok (.iconst 1, 1) := by decide +kernel
theorem dL_law_187 : decode cL_law 187 = .ok (.iadd, 1) := by decide +kernel
theorem dL_law_188 : decode cL_law 188 = .ok (.iaload, 1) := by decide +kernel
theorem dL_law_189 : decode cL_law 189 = .ok (.aload_n 0, 1) := by decide +kernel
theorem dL_law_190 : decode cL_law 190 = .ok (.iload_n 3, 1) := by decide +kernel
theorem dL_law_191 : decode cL_law 191 = .ok (.iconst 2, 1) := by decide +kernel
theorem dL_law_192 : decode cL_law 192 = .ok (.iadd, 1) := by decide +kernel
theorem dL_law_193 : decode cL_law 193 = .ok (.iaload, 1) := by decide +kernel
theorem dL_law_194 : decode cL_law 194 = .ok (.invokevirtual 22, 3) := by decide +kernel
theorem dL_law_197 : decode cL_law 197 = .ok (.if_icmp .eq 831, 3) := by decide +kernel
theorem dL_law_200 : decode cL_law 200 = .ok (.iconst 0, 1) := by decide +kernel
theorem dL_law_201 : decode cL_law 201 = .ok (.ireturn, 1) := by decide +kernel
theorem dL_law_202 : decode cL_law 202 = .ok (.aload_n 1, 1) := by decide +kernel
theorem dL_law_203 : decode cL_law 203 = .ok (.aload_n 0, 1) := by decide +kernel
theorem dL_law_204 : decode cL_law 204 = .ok (.iload_n 3, 1) := by decide +kernel
theorem dL_law_205 : decode cL_law 205 = .ok (.iconst 1, 1) := by decide +kernel
theorem dL_law_206 : decode cL_law 206 = .ok (.iadd, 1) := by decide +kernel
theorem dL_law_207 : decode cL_law 207 = .ok (.iaload, 1) := by decide +kernel
theorem dL_law_208 : decode cL_law 208 = .ok (.aload_n 0, 1) := by decide +kernel
theorem dL_law_209 : decode cL_law 209 = .ok (.iload_n 3, 1) := by decide +kernel
theorem dL_law_210 : decode cL_law 210 = .ok (.iconst 2, 1) := by decide +kernel
theorem dL_law_211 : decode cL_law 211 = .ok (.iadd, 1) := by decide +kernel
theorem dL_law_212 : decode cL_law 212 = .ok (.iaload, 1) := by decide +kernel
theorem dL_law_213 : decode cL_law 213 = .ok (.aload_n 0, 1) := by decide +kernel
theorem dL_law_214 : decode cL_law 214 = .ok (.iload_n 3, 1) := by decide +kernel
theorem dL_law_215 : decode cL_law 215 = .ok (.iconst 3, 1) := by decide +kernel
theorem dL_law_216 : decode cL_law 216 = .ok (.iadd, 1) := by decide +kernel
theorem dL_law_217 : decode cL_law 217 = .ok (.iaload, 1) := by decide +kernel
theorem dL_law_218 : decode cL_law 218 = .ok (.invokevirtual 23, 3) := by decide +kernel
theorem dL_law_221 : decode cL_law 221 = .ok (.aload_n 2, 1) := by decide +kernel
theorem dL_law_222 : decode cL_law 222 = .ok (.aload_n 0, 1) := by decide +kernel
theorem dL_law_223 : decode cL_law 223 = .ok (.iload_n 3, 1) := by decide +kernel
theorem dL_law_224 : decode cL_law 224 = .ok (.iconst 1, 1) := by decide +kernel
theorem dL_law_225 : decode cL_law 225 = .ok (.iadd, 1) := by decide +kernel
theorem dL_law_226 : decode cL_law 226 = .ok (.iaload, 1) := by decide +kernel
theorem dL_law_227 : decode cL_law 227 = .ok (.aload_n 0, 1) := by decide +kernel
theorem dL_law_228 : decode cL_law 228 = .ok (.iload_n 3, 1) := by decide +kernel
theorem dL_law_229 : decode cL_law 229 = .ok (.iconst 2, 1) := by decide +kernel
theorem dL_law_230 : decode cL_law 230 = .ok (.iadd, 1) := by decide +kernel
theorem dL_law_231 : decode cL_law 231 = .ok (.iaload, 1) := by decide +kernel
theorem dL_law_232 : decode cL_law 232 = .ok (.aload_n 0, 1) := by decide +kernel
theorem dL_law_233 : decode cL_law 233 = .ok (.iload_n 3, 1) := by decide +kernel
theorem dL_law_234 : decode cL_law 234 = .ok (.iconst 3, 1) := by decide +kernel
theorem dL_law_235 : decode cL_law 235 = .ok (.iadd, 1) := by decide +kernel
theorem dL_law_236 : decode cL_law 236 = .ok (.iaload, 1) := by decide +kernel
theorem dL_law_237 : decode cL_law 237 = .ok (.invokevirtual 27, 3) := by decide +kernel
theorem dL_law_240 : decode cL_law 240 = .ok (.if_icmp .eq 788, 3) := by decide +kernel
theorem dL_law_243 : decode cL_law 243 = .ok (.iconst 0, 1) := by decide +kernel
theorem dL_law_244 : decode cL_law 244 = .ok (.ireturn, 1) := by decide +kernel
theorem dL_law_245 : decode cL_law 245 = .ok (.aload_n 1, 1) := by decide +kernel
theorem dL_law_246 : decode cL_law 246 = .ok (.aload_n 0, 1) := by decide +kernel
theorem dL_law_247 : decode cL_law 247 = .ok (.iload_n 3, 1) := by decide +kernel
theorem dL_law_248 : decode cL_law 248 = .ok (.iconst 1, 1) := by decide +kernel
theorem dL_law_249 : decode cL_law 249 = .ok (.iadd, 1) := by decide +kernel
theorem dL_law_250 : decode cL_law 250 = .ok (.iaload, 1) := by decide +kernel
theorem dL_law_251 : decode cL_law 251 = .ok (.aload_n 0, 1) := by decide +kernel
theorem dL_law_252 : decode cL_law 252 = .ok (.iload_n 3, 1) := by decide +kernel
theorem dL_law_253 : decode cL_law 253 = .ok (.iconst 2, 1) := by decide +kernel
theorem dL_law_254 : decode cL_law 254 = .ok (.iadd, 1) := by decide +kernel
theorem dL_law_255 : decode cL_law 255 = .ok (.iaload, 1) := by decide +kernel
theorem dL_law_256 : decode cL_law 256 = .ok (.invokevirtual 28, 3) := by decide +kernel
theorem dL_law_259 : decode cL_law 259 = .ok (.aload_n 2, 1) := by decide +kernel
theorem dL_law_260 : decode cL_law 260 = .ok (.aload_n 0, 1) := by decide +kernel
theorem dL_law_261 : decode cL_law 261 = .ok (.iload_n 3, 1) := by decide +kernel
theorem dL_law_262 : decode cL_law 262 = .ok (.iconst 1, 1) := by decide +kernel
theorem dL_law_263 : decode cL_law 263 = .ok (.iadd, 1) := by decide +kernel
theorem dL_law_264 : decode cL_law 264 = .ok (.iaload, 1) := by decide +kernel
theorem dL_law_265 : decode cL_law 265 = .ok (.aload_n 0, 1) := by decide +kernel
theorem dL_law_266 : decode cL_law 266 = .ok (.iload_n 3, 1) := by decide +kernel
theorem dL_law_267 : decode cL_law 267 = .ok (.iconst 2, 1) := by decide +kernel
theorem dL_law_268 : decode cL_law 268 = .ok (.iadd, 1) := by decide +kernel
theorem dL_law_269 : decode cL_law 269 = .ok (.iaload, 1) := by decide +kernel
theorem dL_law_270 : decode cL_law 270 = .ok (.invokevirtual 31, 3) := by decide +kernel
theorem dL_law_273 : decode cL_law 273 = .ok (.if_icmp .eq 755, 3) := by decide +kernel
theorem dL_law_276 : decode cL_law 276 = .ok (.iconst 0, 1) := by decide +kernel
theorem dL_law_277 : decode cL_law 277 = .ok (.ireturn, 1) := by decide +kernel
theorem dL_law_278 : decode cL_law 278 = .ok (.aload_n 1, 1) := by decide +kernel
theorem dL_law_279 : decode cL_law 279 = .ok (.aload_n 0, 1) := by decide +kernel
theorem dL_law_280 : decode cL_law 280 = .ok (.iload_n 3, 1) := by decide +kernel
theorem dL_law_281 : decode cL_law 281 = .ok (.iconst 1, 1) := by decide +kernel
theorem dL_law_282 : decode cL_law 282 = .ok (.iadd, 1) := by decide +kernel
theorem dL_law_283 : decode cL_law 283 = .ok (.iaload, 1) := by decide +kernel
theorem dL_law_284 : decode cL_law 284 = .ok (.aload_n 0, 1) := by decide +kernel
theorem dL_law_285 : decode cL_law 285 = .ok (.iload_n 3, 1) := by decide +kernel
theorem dL_law_286 : decode cL_law 286 = .ok (.iconst 2, 1) := by decide +kernel
theorem dL_law_287 : decode cL_law 287 = .ok (.iadd, 1) := by decide +kernel
theorem dL_law_288 : decode cL_law 288 = .ok (.iaload, 1) := by decide +kernel
theorem dL_law_289 : decode cL_law 289 = .ok (.invokevirtual 32, 3) := by decide +kernel
theorem dL_law_292 : decode cL_law 292 = .ok (.aload_n 2, 1) := by decide +kernel
theorem dL_law_293 : decode cL_law 293 = .ok (.aload_n 0, 1) := by decide +kernel
theorem dL_law_294 : decode cL_law 294 = .ok (.iload_n 3, 1) := by decide +kernel
theorem dL_law_295 : decode cL_law 295 = .ok (.iconst 1, 1) := by decide +kernel
theorem dL_law_296 : decode cL_law 296 = .ok (.iadd, 1) := by decide +kernel
theorem dL_law_297 : decode cL_law 297 = .ok (.iaload, 1) := by decide +kernel
theorem dL_law_298 : decode cL_law 298 = .ok (.aload_n 0, 1) := by decide +kernel
theorem dL_law_299 : decode cL_law 299 = .ok (.iload_n 3, 1) := by decide +kernel
theorem dL_law_300 : decode cL_law 300 = .ok (.iconst 2, 1) := by decide +kernel
theorem dL_law_301 : decode cL_law 301 = .ok (.iadd, 1) := by decide +kernel
theorem dL_law_302 : decode cL_law 302 = .ok (.iaload, 1) := by decide +kernel
theorem dL_law_303 : decode cL_law 303 = .ok (.invokevirtual 35, 3) := by decide +kernel
theorem dL_law_306 : decode cL_law 306 = .ok (.if_icmp .eq 722, 3) := by decide +kernel
theorem dL_law_309 : decode cL_law 309 = .ok (.iconst 0, 1) := by decide +kernel
theorem dL_law_310 : decode cL_law 310 = .ok (.ireturn, 1) := by decide +kernel
theorem dL_law_311 : decode cL_law 311 = .ok (.aload_n 1, 1) := by decide +kernel
theorem dL_law_312 : decode cL_law 312 = .ok (.aload_n 0, 1) := by decide +kernel
theorem dL_law_313 : decode cL_law 313 = .ok (.iload_n 3, 1) := by decide +kernel
theorem dL_law_314 : decode cL_law 314 = .ok (.iconst 1, 1) := by decide +kernel
theorem dL_law_315 : decode cL_law 315 = .ok (.iadd, 1) := by decide +kernel
theorem dL_law_316 : decode cL_law 316 = .ok (.iaload, 1) := by decide +kernel
theorem dL_law_317 : decode cL_law 317 = .ok (.aload_n 0, 1) := by decide +kernel
theorem dL_law_318 : decode cL_law 318 = .ok (.iload_n 3, 1) := by decide +kernel
theorem dL_law_319 : decode cL_law 319 = .ok (.iconst 2, 1) := by decide +kernel
theorem dL_law_320 : decode cL_law 320 = .ok (.iadd, 1) := by decide +kernel
theorem dL_law_321 : decode cL_law 321 = .ok (.iaload, 1) := by decide +kernel
theorem dL_law_322 : decode cL_law 322 = .ok (.aload_n 0, 1) := by decide +kernel
theorem dL_law_323 : decode cL_law 323 = .ok (.iload_n 3, 1) := by decide +kernel
theorem dL_law_324 : decode cL_law 324 = .ok (.iconst 3, 1) := by decide +kernel
theorem dL_law_325 : decode cL_law 325 = .ok (.iadd, 1) := by decide +kernel
theorem dL_law_326 : decode cL_law 326 = .ok (.iaload, 1) := by decide +kernel
theorem dL_law_327 : decode cL_law 327 = .ok (.aload_n 0, 1) := by decide +kernel
theorem dL_law_328 : decode cL_law 328 = .ok (.iload_n 3, 1) := by decide +kernel
theorem dL_law_329 : decode cL_law 329 = .ok (.iconst 4, 1) := by decide +kernel
theorem dL_law_330 : decode cL_law 330 = .ok (.iadd, 1) := by decide +kernel
theorem dL_law_331 : decode cL_law 331 = .ok (.iaload, 1) := by decide +kernel
theorem dL_law_332 : decode cL_law 332 = .ok (.invokevirtual 36, 3) := by decide +kernel
theorem dL_law_335 : decode cL_law 335 = .ok (.aload_n 2, 1) := by decide +kernel
theorem dL_law_336 : decode cL_law 336 = .ok (.aload_n 0, 1) := by decide +kernel
theorem dL_law_337 : decode cL_law 337 = .ok (.iload_n 3, 1) := by decide +kernel
theorem dL_law_338 : decode cL_law 338 = .ok (.iconst 1, 1) := by decide +kernel
theorem dL_law_339 : decode cL_law 339 = .ok (.iadd, 1) := by decide +kernel
theorem dL_law_340 : decode cL_law 340 = .ok (.iaload, 1) := by decide +kernel
theorem dL_law_341 : decode cL_law 341 = .ok (.aload_n 0, 1) := by decide +kernel
theorem dL_law_342 : decode cL_law 342 = .ok (.iload_n 3, 1) := by decide +kernel
theorem dL_law_343 : decode cL_law 343 = .ok (.iconst 2, 1) := by decide +kernel
theorem dL_law_344 : decode cL_law 344 = .ok (.iadd, 1) := by decide +kernel
theorem dL_law_345 : decode cL_law 345 = .ok (.iaload, 1) := by decide +kernel
theorem dL_law_346 : decode cL_law 346 = .ok (.aload_n 0, 1) := by decide +kernel
theorem dL_law_347 : decode cL_law 347 = .ok (.iload_n 3, 1) := by decide +kernel
theorem dL_law_348 : decode cL_law 348 = .ok (.iconst 3, 1) := by decide +kernel
theorem dL_law_349 : decode cL_law 349 = .ok (.iadd, 1) := by decide +kernel
theorem dL_law_350 : decode cL_law 350 = .ok (.iaload, 1) := by decide +kernel
theorem dL_law_351 : decode cL_law 351 = .ok (.aload_n 0, 1) := by decide +kernel
theorem dL_law_352 : decode cL_law 352 = .ok (.iload_n 3, 1) := by decide +kernel
theorem dL_law_353 : decode cL_law 353 = .ok (.iconst 4, 1) := by decide +kernel
theorem dL_law_354 : decode cL_law 354 = .ok (.iadd, 1) := by decide +kernel
theorem dL_law_355 : decode cL_law 355 = .ok (.iaload, 1) := by decide +kernel
theorem dL_law_356 : decode cL_law 356 = .ok (.invokevirtual 40, 3) := by decide +kernel
theorem dL_law_359 : decode cL_law 359 = .ok (.if_icmp .eq 669, 3) := by decide +kernel
theorem dL_law_362 : decode cL_law 362 = .ok (.iconst 0, 1) := by decide +kernel
theorem dL_law_363 : decode cL_law 363 = .ok (.ireturn, 1) := by decide +kernel
theorem dL_law_364 : decode cL_law 364 = .ok (.aload_n 1, 1) := by decide +kernel
theorem dL_law_365 : decode cL_law 365 = .ok (.aload_n 0, 1) := by decide +kernel
theorem dL_law_366 : decode cL_law 366 = .ok (.iload_n 3, 1) := by decide +kernel
theorem dL_law_367 : decode cL_law 367 = .ok (.iconst 1, 1) := by decide +kernel
theorem dL_law_368 : decode cL_law 368 = .ok (.iadd, 1) := by decide +kernel
theorem dL_law_369 : decode cL_law 369 = .ok (.iaload, 1) := by decide +kernel
theorem dL_law_370 : decode cL_law 370 = .ok (.aload_n 0, 1) := by decide +kernel
theorem dL_law_371 : decode cL_law 371 = .ok (.iload_n 3, 1) := by decide +kernel
theorem dL_law_372 : decode cL_law 372 = .ok (.iconst 2, 1) := by decide +kernel
theorem dL_law_373 : decode cL_law 373 = .ok (.iadd, 1) := by decide +kernel
theorem dL_law_374 : decode cL_law 374 = .ok (.iaload, 1) := by decide +kernel
theorem dL_law_375 : decode cL_law 375 = .ok (.invokevirtual 41, 3) := by decide +kernel
theorem dL_law_378 : decode cL_law 378 = .ok (.aload_n 2, 1) := by decide +kernel
theorem dL_law_379 : decode cL_law 379 = .ok (.aload_n 0, 1) := by decide +kernel
theorem dL_law_380 : decode cL_law 380 = .ok (.iload_n 3, 1) := by decide +kernel
theorem dL_law_381 : decode cL_law 381 = .ok (.iconst 1, 1) := by decide +kernel
theorem dL_law_382 : decode cL_law 382 = .ok (.iadd, 1) := by decide +kernel
theorem dL_law_383 : decode cL_law 383 = .ok (.iaload, 1) := by decide +kernel
theorem dL_law_384 : decode cL_law 384 = .ok (.aload_n 0, 1) := by decide +kernel
theorem dL_law_385 : decode cL_law 385 = .ok (.iload_n 3, 1) := by decide +kernel
theorem dL_law_386 : decode cL_law 386 = .ok (.iconst 2, 1) := by decide +kernel
theorem dL_law_387 : decode cL_law 387 = .ok (.iadd, 1) := by decide +kernel
theorem dL_law_388 : decode cL_law 388 = .ok (.iaload, 1) := by decide +kernel
theorem dL_law_389 : decode cL_law 389 = .ok (.invokevirtual 44, 3) := by decide +kernel
theorem dL_law_392 : decode cL_law 392 = .ok (.if_icmp .eq 636, 3) := by decide +kernel
theorem dL_law_395 : decode cL_law 395 = .ok (.iconst 0, 1) := by decide +kernel
theorem dL_law_396 : decode cL_law 396 = .ok (.ireturn, 1) := by decide +kernel
theorem dL_law_397 : decode cL_law 397 = .ok (.aload_n 1, 1) := by decide +kernel
theorem dL_law_398 : decode cL_law 398 = .ok (.aload_n 0, 1) := by decide +kernel
theorem dL_law_399 : decode cL_law 399 = .ok (.iload_n 3, 1) := by decide +kernel
theorem dL_law_400 : decode cL_law 400 = .ok (.iconst 1, 1) := by decide +kernel
theorem dL_law_401 : decode cL_law 401 = .ok (.iadd, 1) := by decide +kernel
theorem dL_law_402 : decode cL_law 402 = .ok (.iaload, 1) := by decide +kernel
theorem dL_law_403 : decode cL_law 403 = .ok (.aload_n 0, 1) := by decide +kernel
theorem dL_law_404 : decode cL_law 404 = .ok (.iload_n 3, 1) := by decide +kernel
theorem dL_law_405 : decode cL_law 405 = .ok (.iconst 2, 1) := by decide +kernel
theorem dL_law_406 : decode cL_law 406 = .ok (.iadd, 1) := by decide +kernel
theorem dL_law_407 : decode cL_law 407 = .ok (.iaload, 1) := by decide +kernel
theorem dL_law_408 : decode cL_law 408 = .ok (.invokevirtual 45, 3) := by decide +kernel
theorem dL_law_411 : decode cL_law 411 = .ok (.aload_n 2, 1) := by decide +kernel
theorem dL_law_412 : decode cL_law 412 = .ok (.aload_n 0, 1) := by decide +kernel
theorem dL_law_413 : decode cL_law 413 = .ok (.iload_n 3, 1) := by decide +kernel
theorem dL_law_414 : decode cL_law 414 = .ok (.iconst 1, 1) := by decide +kernel
theorem dL_law_415 : decode cL_law 415 = .ok (.iadd, 1) := by decide +kernel
theorem dL_law_416 : decode cL_law 416 = .ok (.iaload, 1) := by decide +kernel
theorem dL_law_417 : decode cL_law 417 = .ok (.aload_n 0, 1) := by decide +kernel
theorem dL_law_418 : decode cL_law 418 = .ok (.iload_n 3, 1) := by decide +kernel
theorem dL_law_419 : decode cL_law 419 = .ok (.iconst 2, 1) := by decide +kernel
theorem dL_law_420 : decode cL_law 420 = .ok (.iadd, 1) := by decide +kernel
theorem dL_law_421 : decode cL_law 421 = .ok (.iaload, 1) := by decide +kernel
theorem dL_law_422 : decode cL_law 422 = .ok (.invokevirtual 48, 3) := by decide +kernel
theorem dL_law_425 : decode cL_law 425 = .ok (.if_icmp .eq 603, 3) := by decide +kernel
theorem dL_law_428 : decode cL_law 428 = .ok (.iconst 0, 1) := by decide +kernel
theorem dL_law_429 : decode cL_law 429 = .ok (.ireturn, 1) := by decide +kernel
theorem dL_law_430 : decode cL_law 430 = .ok (.aload_n 1, 1) := by decide +kernel
theorem dL_law_431 : decode cL_law 431 = .ok (.aload_n 0, 1) := by decide +kernel
theorem dL_law_432 : decode cL_law 432 = .ok (.iload_n 3, 1) := by decide +kernel
theorem dL_law_433 : decode cL_law 433 = .ok (.iconst 1, 1) := by decide +kernel
theorem dL_law_434 : decode cL_law 434 = .ok (.iadd, 1) := by decide +kernel
theorem dL_law_435 : decode cL_law 435 = .ok (.iaload, 1) := by decide +kernel
theorem dL_law_436 : decode cL_law 436 = .ok (.aload_n 0, 1) := by decide +kernel
theorem dL_law_437 : decode cL_law 437 = .ok (.iload_n 3, 1) := by decide +kernel
theorem dL_law_438 : decode cL_law 438 = .ok (.iconst 2, 1) := by decide +kernel
theorem dL_law_439 : decode cL_law 439 = .ok (.iadd, 1) := by decide +kernel
theorem dL_law_440 : decode cL_law 440 = .ok (.iaload, 1) := by decide +kernel
theorem dL_law_441 : decode cL_law 441 = .ok (.invokevirtual 49, 3) := by decide +kernel
theorem dL_law_444 : decode cL_law 444 = .ok (.aload_n 2, 1) := by decide +kernel
theorem dL_law_445 : decode cL_law 445 = .ok (.aload_n 0, 1) := by decide +kernel
theorem dL_law_446 : decode cL_law 446 = .ok (.iload_n 3, 1) := by decide +kernel
theorem dL_law_447 : decode cL_law 447 = .ok (.iconst 1, 1) := by decide +kernel
theorem dL_law_448 : decode cL_law 448 = .ok (.iadd, 1) := by decide +kernel
theorem dL_law_449 : decode cL_law 449 = .ok (.iaload, 1) := by decide +kernel
theorem dL_law_450 : decode cL_law 450 = .ok (.aload_n 0, 1) := by decide +kernel
theorem dL_law_451 : decode cL_law 451 = .ok (.iload_n 3, 1) := by decide +kernel
theorem dL_law_452 : decode cL_law 452 = .ok (.iconst 2, 1) := by decide +kernel
theorem dL_law_453 : decode cL_law 453 = .ok (.iadd, 1) := by decide +kernel
theorem dL_law_454 : decode cL_law 454 = .ok (.iaload, 1) := by decide +kernel
theorem dL_law_455 : decode cL_law 455 = .ok (.invokevirtual 52, 3) := by decide +kernel
theorem dL_law_458 : decode cL_law 458 = .ok (.if_icmp .eq 570, 3) := by decide +kernel
theorem dL_law_461 : decode cL_law 461 = .ok (.iconst 0, 1) := by decide +kernel
theorem dL_law_462 : decode cL_law 462 = .ok (.ireturn, 1) := by decide +kernel
theorem dL_law_463 : decode cL_law 463 = .ok (.aload_n 1, 1) := by decide +kernel
theorem dL_law_464 : decode cL_law 464 = .ok (.aload_n 0, 1) := by decide +kernel
theorem dL_law_465 : decode cL_law 465 = .ok (.iload_n 3, 1) := by decide +kernel
theorem dL_law_466 : decode cL_law 466 = .ok (.iconst 1, 1) := by decide +kernel
theorem dL_law_467 : decode cL_law 467 = .ok (.iadd, 1) := by decide +kernel
theorem dL_law_468 : decode cL_law 468 = .ok (.iaload, 1) := by decide +kernel
theorem dL_law_469 : decode cL_law 469 = .ok (.aload_n 0, 1) := by decide +kernel
theorem dL_law_470 : decode cL_law 470 = .ok (.iload_n 3, 1) := by decide +kernel
theorem dL_law_471 : decode cL_law 471 = .ok (.iconst 2, 1) := by decide +kernel
theorem dL_law_472 : decode cL_law 472 = .ok (.iadd, 1) := by decide +kernel
theorem dL_law_473 : decode cL_law 473 = .ok (.iaload, 1) := by decide +kernel
theorem dL_law_474 : decode cL_law 474 = .ok (.aload_n 0, 1) := by decide +kernel
theorem dL_law_475 : decode cL_law 475 = .ok (.iload_n 3, 1) := by decide +kernel
theorem dL_law_476 : decode cL_law 476 = .ok (.iconst 3, 1) := by decide +kernel
theorem dL_law_477 : decode cL_law 477 = .ok (.iadd, 1) := by decide +kernel
theorem dL_law_478 : decode cL_law 478 = .ok (.iaload, 1) := by decide +kernel
theorem dL_law_479 : decode cL_law 479 = .ok (.aload_n 0, 1) := by decide +kernel
theorem dL_law_480 : decode cL_law 480 = .ok (.iload_n 3, 1) := by decide +kernel
theorem dL_law_481 : decode cL_law 481 = .ok (.iconst 4, 1) := by decide +kernel
theorem dL_law_482 : decode cL_law 482 = .ok (.iadd, 1) := by decide +kernel
theorem dL_law_483 : decode cL_law 483 = .ok (.iaload, 1) := by decide +kernel
theorem dL_law_484 : decode cL_law 484 = .ok (.invokevirtual 53, 3) := by decide +kernel
theorem dL_law_487 : decode cL_law 487 = .ok (.aload_n 2, 1) := by decide +kernel
theorem dL_law_488 : decode cL_law 488 = .ok (.aload_n 0, 1) := by decide +kernel
theorem dL_law_489 : decode cL_law 489 = .ok (.iload_n 3, 1) := by decide +kernel
theorem dL_law_490 : decode cL_law 490 = .ok (.iconst 1, 1) := by decide +kernel
theorem dL_law_491 : decode cL_law 491 = .ok (.iadd, 1) := by decide +kernel
theorem dL_law_492 : decode cL_law 492 = .ok (.iaload, 1) := by decide +kernel
theorem dL_law_493 : decode cL_law 493 = .ok (.aload_n 0, 1) := by decide +kernel
theorem dL_law_494 : decode cL_law 494 = .ok (.iload_n 3, 1) := by decide +kernel
theorem dL_law_495 : decode cL_law 495 = .ok (.iconst 2, 1) := by decide +kernel
theorem dL_law_496 : decode cL_law 496 = .ok (.iadd, 1) := by decide +kernel
theorem dL_law_497 : decode cL_law 497 = .ok (.iaload, 1) := by decide +kernel
theorem dL_law_498 : decode cL_law 498 = .ok (.aload_n 0, 1) := by decide +kernel
theorem dL_law_499 : decode cL_law 499 = .ok (.iload_n 3, 1) := by decide +kernel
theorem dL_law_500 : decode cL_law 500 = .ok (.iconst 3, 1) := by decide +kernel
theorem dL_law_501 : decode cL_law 501 = .ok (.iadd, 1) := by decide +kernel
theorem dL_law_502 : decode cL_law 502 = .ok (.iaload, 1) := by decide +kernel
theorem dL_law_503 : decode cL_law 503 = .ok (.aload_n 0, 1) := by decide +kernel
theorem dL_law_504 : decode cL_law 504 = .ok (.iload_n 3, 1) := by decide +kernel
theorem dL_law_505 : decode cL_law 505 = .ok (.iconst 4, 1) := by decide +kernel
theorem dL_law_506 : decode cL_law 506 = .ok (.iadd, 1) := by decide +kernel
theorem dL_law_507 : decode cL_law 507 = .ok (.iaload, 1) := by decide +kernel
theorem dL_law_508 : decode cL_law 508 = .ok (.invokevirtual 56, 3) := by decide +kernel
theorem dL_law_511 : decode cL_law 511 = .ok (.if_icmp .eq 517, 3) := by decide +kernel
theorem dL_law_514 : decode cL_law 514 = .ok (.iconst 0, 1) := by decide +kernel
theorem dL_law_515 : decode cL_law 515 = .ok (.ireturn, 1) := by decide +kernel
theorem dL_law_516 : decode cL_law 516 = .ok (.aload_n 1, 1) := by decide +kernel
theorem dL_law_517 : decode cL_law 517 = .ok (.aload_n 0, 1) := by decide +kernel
theorem dL_law_518 : decode cL_law 518 = .ok (.iload_n 3, 1) := by decide +kernel
theorem dL_law_519 : decode cL_law 519 = .ok (.iconst 1, 1) := by decide +kernel
theorem dL_law_520 : decode cL_law 520 = .ok (.iadd, 1) := by decide +kernel
theorem dL_law_521 : decode cL_law 521 = .ok (.iaload, 1) := by decide +kernel
theorem dL_law_522 : decode cL_law 522 = .ok (.invokevirtual 57, 3) := by decide +kernel
theorem dL_law_525 : decode cL_law 525 = .ok (.aload_n 2, 1) := by decide +kernel
theorem dL_law_526 : decode cL_law 526 = .ok (.aload_n 0, 1) := by decide +kernel
theorem dL_law_527 : decode cL_law 527 = .ok (.iload_n 3, 1) := by decide +kernel
theorem dL_law_528 : decode cL_law 528 = .ok (.iconst 1, 1) := by decide +kernel
theorem dL_law_529 : decode cL_law 529 = .ok (.iadd, 1) := by decide +kernel
theorem dL_law_530 : decode cL_law 530 = .ok (.iaload, 1) := by decide +kernel
theorem dL_law_531 : decode cL_law 531 = .ok (.invokevirtual 61, 3) := by decide +kernel
theorem dL_law_534 : decode cL_law 534 = .ok (.if_icmp .eq 494, 3) := by decide +kernel
theorem dL_law_537 : decode cL_law 537 = .ok (.iconst 0, 1) := by decide +kernel
theorem dL_law_538 : decode cL_law 538 = .ok (.ireturn, 1) := by decide +kernel
theorem dL_law_539 : decode cL_law 539 = .ok (.aload_n 1, 1) := by decide +kernel
theorem dL_law_540 : decode cL_law 540 = .ok (.aload_n 0, 1) := by decide +kernel
theorem dL_law_541 : decode cL_law 541 = .ok (.iload_n 3, 1) := by decide +kernel
theorem dL_law_542 : decode cL_law 542 = .ok (.iconst 1, 1) := by decide +kernel
theorem dL_law_543 : decode cL_law 543 = .ok (.iadd, 1) := by decide +kernel
theorem dL_law_544 : decode cL_law 544 = .ok (.iaload, 1) := by decide +kernel
theorem dL_law_545 : decode cL_law 545 = .ok (.aload_n 0, 1) := by decide +kernel
theorem dL_law_546 : decode cL_law 546 = .ok (.iload_n 3, 1) := by decide +kernel
theorem dL_law_547 : decode cL_law 547 = .ok (.iconst 2, 1) := by decide +kernel
theorem dL_law_548 : decode cL_law 548 = .ok (.iadd, 1) := by decide +kernel
theorem dL_law_549 : decode cL_law 549 = .ok (.iaload, 1) := by decide +kernel
theorem dL_law_550 : decode cL_law 550 = .ok (.invokevirtual 62, 3) := by decide +kernel
theorem dL_law_553 : decode cL_law 553 = .ok (.aload_n 2, 1) := by decide +kernel
theorem dL_law_554 : decode cL_law 554 = .ok (.aload_n 0, 1) := by decide +kernel
theorem dL_law_555 : decode cL_law 555 = .ok (.iload_n 3, 1) := by decide +kernel
theorem dL_law_556 : decode cL_law 556 = .ok (.iconst 1, 1) := by decide +kernel
theorem dL_law_557 : decode cL_law 557 = .ok (.iadd, 1) := by decide +kernel
theorem dL_law_558 : decode cL_law 558 = .ok (.iaload, 1) := by decide +kernel
theorem dL_law_559 : decode cL_law 559 = .ok (.aload_n 0, 1) := by decide +kernel
theorem dL_law_560 : decode cL_law 560 = .ok (.iload_n 3, 1) := by decide +kernel
theorem dL_law_561 : decode cL_law 561 = .ok (.iconst 2, 1) := by decide +kernel
theorem dL_law_562 : decode cL_law 562 = .ok (.iadd, 1) := by decide +kernel
theorem dL_law_563 : decode cL_law 563 = .ok (.iaload, 1) := by decide +kernel
theorem dL_law_564 : decode cL_law 564 = .ok (.invokevirtual 65, 3) := by decide +kernel
theorem dL_law_567 : decode cL_law 567 = .ok (.if_icmp .eq 461, 3) := by decide +kernel
theorem dL_law_570 : decode cL_law 570 = .ok (.iconst 0, 1) := by decide +kernel
theorem dL_law_571 : decode cL_law 571 = .ok (.ireturn, 1) := by decide +kernel
theorem dL_law_572 : decode cL_law 572 = .ok (.aload_n 1, 1) := by decide +kernel
theorem dL_law_573 : decode cL_law 573 = .ok (.aload_n 0, 1) := by decide +kernel
theorem dL_law_574 : decode cL_law 574 = .ok (.iload_n 3, 1) := by decide +kernel
theorem dL_law_575 : decode cL_law 575 = .ok (.iconst 1, 1) := by decide +kernel
theorem dL_law_576 : decode cL_law 576 = .ok (.iadd, 1) := by decide +kernel
theorem dL_law_577 : decode cL_law 577 = .ok (.iaload, 1) := by decide +kernel
theorem dL_law_578 : decode cL_law 578 = .ok (.invokevirtual 66, 3) := by decide +kernel
theorem dL_law_581 : decode cL_law 581 = .ok (.aload_n 2, 1) := by decide +kernel
theorem dL_law_582 : decode cL_law 582 = .ok (.aload_n 0, 1) := by decide +kernel
theorem dL_law_583 : decode cL_law 583 = .ok (.iload_n 3, 1) := by decide +kernel
theorem dL_law_584 : decode cL_law 584 = .ok (.iconst 1, 1) := by decide +kernel
theorem dL_law_585 : decode cL_law 585 = .ok (.iadd, 1) := by decide +kernel
theorem dL_law_586 : decode cL_law 586 = .ok (.iaload, 1) := by decide +kernel
theorem dL_law_587 : decode cL_law 587 = .ok (.invokevirtual 69, 3) := by decide +kernel
theorem dL_law_590 : decode cL_law 590 = .ok (.if_icmp .eq 438, 3) := by decide +kernel
theorem dL_law_593 : decode cL_law 593 = .ok (.iconst 0, 1) := by decide +kernel
theorem dL_law_594 : decode cL_law 594 = .ok (.ireturn, 1) := by decide +kernel
theorem dL_law_595 : decode cL_law 595 = .ok (.aload_n 1, 1) := by decide +kernel
theorem dL_law_596 : decode cL_law 596 = .ok (.aload_n 0, 1) := by decide +kernel
theorem dL_law_597 : decode cL_law 597 = .ok (.iload_n 3, 1) := by decide +kernel
theorem dL_law_598 : decode cL_law 598 = .ok (.iconst 1, 1) := by decide +kernel
theorem dL_law_599 : decode cL_law 599 = .ok (.iadd, 1) := by decide +kernel
theorem dL_law_600 : decode cL_law 600 = .ok (.iaload, 1) := by decide +kernel
theorem dL_law_601 : decode cL_law 601 = .ok (.invokevirtual 70, 3) := by decide +kernel
theorem dL_law_604 : decode cL_law 604 = .ok (.aload_n 2, 1) := by decide +kernel
theorem dL_law_605 : decode cL_law 605 = .ok (.aload_n 0, 1) := by decide +kernel
theorem dL_law_606 : decode cL_law 606 = .ok (.iload_n 3, 1) := by decide +kernel
theorem dL_law_607 : decode cL_law 607 = .ok (.iconst 1, 1) := by decide +kernel
theorem dL_law_608 : decode cL_law 608 = .ok (.iadd, 1) := by decide +kernel
theorem dL_law_609 : decode cL_law 609 = .ok (.iaload, 1) := by decide +kernel
theorem dL_law_610 : decode cL_law 610 = .ok (.invokevirtual 73, 3) := by decide +kernel
theorem dL_law_613 : decode cL_law 613 = .ok (.if_icmp .eq 415, 3) := by decide +kernel
theorem dL_law_616 : decode cL_law 616 = .ok (.iconst 0, 1) := by decide +kernel
theorem dL_law_617 : decode cL_law 617 = .ok (.ireturn, 1) := by decide +kernel
theorem dL_law_618 : decode cL_law 618 = .ok (.aload_n 1, 1) := by decide +kernel
theorem dL_law_619 : decode cL_law 619 = .ok (.aload_n 0, 1) := by decide +kernel
theorem dL_law_620 : decode cL_law 620 = .ok (.iload_n 3, 1) := by decide +kernel
theorem dL_law_621 : decode cL_law 621 = .ok (.iconst 1, 1) := by decide +kernel
theorem dL_law_622 : decode cL_law 622 = .ok (.iadd, 1) := by decide +kernel
theorem dL_law_623 : decode cL_law 623 = .ok (.iaload, 1) := by decide +kernel
theorem dL_law_624 : decode cL_law 624 = .ok (.invokevirtual 74, 3) := by decide +kernel
theorem dL_law_627 : decode cL_law 627 = .ok (.aload_n 2, 1) := by decide +kernel
theorem dL_law_628 : decode cL_law 628 = .ok (.aload_n 0, 1) := by decide +kernel
theorem dL_law_629 : decode cL_law 629 = .ok (.iload_n 3, 1) := by decide +kernel
theorem dL_law_630 : decode cL_law 630 = .ok (.iconst 1, 1) := by decide +kernel
theorem dL_law_631 : decode cL_law 631 = .ok (.iadd, 1) := by decide +kernel
theorem dL_law_632 : decode cL_law 632 = .ok (.iaload, 1) := by decide +kernel
theorem dL_law_633 : decode cL_law 633 = .ok (.invokevirtual 77, 3) := by decide +kernel
theorem dL_law_636 : decode cL_law 636 = .ok (.if_icmp .eq 392, 3) := by decide +kernel
theorem dL_law_639 : decode cL_law 639 = .ok (.iconst 0, 1) := by decide +kernel
theorem dL_law_640 : decode cL_law 640 = .ok (.ireturn, 1) := by decide +kernel
theorem dL_law_641 : decode cL_law 641 = .ok (.aload_n 1, 1) := by decide +kernel
theorem dL_law_642 : decode cL_law 642 = .ok (.invokevirtual 78, 3) := by decide +kernel
theorem dL_law_645 : decode cL_law 645 = .ok (.aload_n 2, 1) := by decide +kernel
theorem dL_law_646 : decode cL_law 646 = .ok (.invokevirtual 81, 3) := by decide +kernel
theorem dL_law_649 : decode cL_law 649 = .ok (.if_icmp .eq 379, 3) := by decide +kernel
theorem dL_law_652 : decode cL_law 652 = .ok (.iconst 0, 1) := by decide +kernel
theorem dL_law_653 : decode cL_law 653 = .ok (.ireturn, 1) := by decide +kernel
theorem dL_law_654 : decode cL_law 654 = .ok (.aload_n 1, 1) := by decide +kernel
theorem dL_law_655 : decode cL_law 655 = .ok (.aload_n 0, 1) := by decide +kernel
theorem dL_law_656 : decode cL_law 656 = .ok (.iload_n 3, 1) := by decide +kernel
theorem dL_law_657 : decode cL_law 657 = .ok (.iconst 1, 1) := by decide +kernel
theorem dL_law_658 : decode cL_law 658 = .ok (.iadd, 1) := by decide +kernel
theorem dL_law_659 : decode cL_law 659 = .ok (.iaload, 1) := by decide +kernel
theorem dL_law_660 : decode cL_law 660 = .ok (.invokevirtual 82, 3) := by decide +kernel
theorem dL_law_663 : decode cL_law 663 = .ok (.aload_n 2, 1) := by decide +kernel
theorem dL_law_664 : decode cL_law 664 = .ok (.aload_n 0, 1) := by decide +kernel
theorem dL_law_665 : decode cL_law 665 = .ok (.iload_n 3, 1) := by decide +kernel
theorem dL_law_666 : decode cL_law 666 = .ok (.iconst 1, 1) := by decide +kernel
theorem dL_law_667 : decode cL_law 667 = .ok (.iadd, 1) := by decide +kernel
theorem dL_law_668 : decode cL_law 668 = .ok (.iaload, 1) := by decide +kernel
theorem dL_law_669 : decode cL_law 669 = .ok (.invokevirtual 85, 3) := by decide +kernel
theorem dL_law_672 : decode cL_law 672 = .ok (.if_icmp .eq 356, 3) := by decide +kernel
theorem dL_law_675 : decode cL_law 675 = .ok (.iconst 0, 1) := by decide +kernel
theorem dL_law_676 : decode cL_law 676 = .ok (.ireturn, 1) := by decide +kernel
theorem dL_law_677 : decode cL_law 677 = .ok (.aload_n 1, 1) := by decide +kernel
theorem dL_law_678 : decode cL_law 678 = .ok (.invokevirtual 86, 3) := by decide +kernel
theorem dL_law_681 : decode cL_law 681 = .ok (.aload_n 2, 1) := by decide +kernel
theorem dL_law_682 : decode cL_law 682 = .ok (.invokevirtual 90, 3) := by decide +kernel
theorem dL_law_685 : decode cL_law 685 = .ok (.lcmp, 1) := by decide +kernel
theorem dL_law_686 : decode cL_law 686 = .ok (.ifCond .eq 342, 3) := by decide +kernel
theorem dL_law_689 : decode cL_law 689 = .ok (.iconst 0, 1) := by decide +kernel
theorem dL_law_690 : decode cL_law 690 = .ok (.ireturn, 1) := by decide +kernel
theorem dL_law_691 : decode cL_law 691 = .ok (.aload_n 1, 1) := by decide +kernel
theorem dL_law_692 : decode cL_law 692 = .ok (.aload_n 0, 1) := by decide +kernel
theorem dL_law_693 : decode cL_law 693 = .ok (.iload_n 3, 1) := by decide +kernel
theorem dL_law_694 : decode cL_law 694 = .ok (.iconst 1, 1) := by decide +kernel
theorem dL_law_695 : decode cL_law 695 = .ok (.iadd, 1) := by decide +kernel
theorem dL_law_696 : decode cL_law 696 = .ok (.iaload, 1) := by decide +kernel
theorem dL_law_697 : decode cL_law 697 = .ok (.aload_n 0, 1) := by decide +kernel
theorem dL_law_698 : decode cL_law 698 = .ok (.iload_n 3, 1) := by decide +kernel
theorem dL_law_699 : decode cL_law 699 = .ok (.iconst 2, 1) := by decide +kernel
theorem dL_law_700 : decode cL_law 700 = .ok (.iadd, 1) := by decide +kernel
theorem dL_law_701 : decode cL_law 701 = .ok (.iaload, 1) := by decide +kernel
theorem dL_law_702 : decode cL_law 702 = .ok (.invokevirtual 91, 3) := by decide +kernel
theorem dL_law_705 : decode cL_law 705 = .ok (.aload_n 2, 1) := by decide +kernel
theorem dL_law_706 : decode cL_law 706 = .ok (.aload_n 0, 1) := by decide +kernel
theorem dL_law_707 : decode cL_law 707 = .ok (.iload_n 3, 1) := by decide +kernel
theorem dL_law_708 : decode cL_law 708 = .ok (.iconst 1, 1) := by decide +kernel
theorem dL_law_709 : decode cL_law 709 = .ok (.iadd, 1) := by decide +kernel
theorem dL_law_710 : decode cL_law 710 = .ok (.iaload, 1) := by decide +kernel
theorem dL_law_711 : decode cL_law 711 = .ok (.aload_n 0, 1) := by decide +kernel
theorem dL_law_712 : decode cL_law 712 = .ok (.iload_n 3, 1) := by decide +kernel
theorem dL_law_713 : decode cL_law 713 = .ok (.iconst 2, 1) := by decide +kernel
theorem dL_law_714 : decode cL_law 714 = .ok (.iadd, 1) := by decide +kernel
theorem dL_law_715 : decode cL_law 715 = .ok (.iaload, 1) := by decide +kernel
theorem dL_law_716 : decode cL_law 716 = .ok (.invokevirtual 94, 3) := by decide +kernel
theorem dL_law_719 : decode cL_law 719 = .ok (.if_icmp .eq 309, 3) := by decide +kernel
theorem dL_law_722 : decode cL_law 722 = .ok (.iconst 0, 1) := by decide +kernel
theorem dL_law_723 : decode cL_law 723 = .ok (.ireturn, 1) := by decide +kernel
theorem dL_law_724 : decode cL_law 724 = .ok (.aload_n 1, 1) := by decide +kernel
theorem dL_law_725 : decode cL_law 725 = .ok (.aload_n 0, 1) := by decide +kernel
theorem dL_law_726 : decode cL_law 726 = .ok (.iload_n 3, 1) := by decide +kernel
theorem dL_law_727 : decode cL_law 727 = .ok (.iconst 1, 1) := by decide +kernel
theorem dL_law_728 : decode cL_law 728 = .ok (.iadd, 1) := by decide +kernel
theorem dL_law_729 : decode cL_law 729 = .ok (.iaload, 1) := by decide +kernel
theorem dL_law_730 : decode cL_law 730 = .ok (.aload_n 0, 1) := by decide +kernel
theorem dL_law_731 : decode cL_law 731 = .ok (.iload_n 3, 1) := by decide +kernel
theorem dL_law_732 : decode cL_law 732 = .ok (.iconst 2, 1) := by decide +kernel
theorem dL_law_733 : decode cL_law 733 = .ok (.iadd, 1) := by decide +kernel
theorem dL_law_734 : decode cL_law 734 = .ok (.iaload, 1) := by decide +kernel
theorem dL_law_735 : decode cL_law 735 = .ok (.invokevirtual 95, 3) := by decide +kernel
theorem dL_law_738 : decode cL_law 738 = .ok (.aload_n 2, 1) := by decide +kernel
theorem dL_law_739 : decode cL_law 739 = .ok (.aload_n 0, 1) := by decide +kernel
theorem dL_law_740 : decode cL_law 740 = .ok (.iload_n 3, 1) := by decide +kernel
theorem dL_law_741 : decode cL_law 741 = .ok (.iconst 1, 1) := by decide +kernel
theorem dL_law_742 : decode cL_law 742 = .ok (.iadd, 1) := by decide +kernel
theorem dL_law_743 : decode cL_law 743 = .ok (.iaload, 1) := by decide +kernel
theorem dL_law_744 : decode cL_law 744 = .ok (.aload_n 0, 1) := by decide +kernel
theorem dL_law_745 : decode cL_law 745 = .ok (.iload_n 3, 1) := by decide +kernel
theorem dL_law_746 : decode cL_law 746 = .ok (.iconst 2, 1) := by decide +kernel
theorem dL_law_747 : decode cL_law 747 = .ok (.iadd, 1) := by decide +kernel
theorem dL_law_748 : decode cL_law 748 = .ok (.iaload, 1) := by decide +kernel
theorem dL_law_749 : decode cL_law 749 = .ok (.invokevirtual 98, 3) := by decide +kernel
theorem dL_law_752 : decode cL_law 752 = .ok (.if_icmp .eq 276, 3) := by decide +kernel
theorem dL_law_755 : decode cL_law 755 = .ok (.iconst 0, 1) := by decide +kernel
theorem dL_law_756 : decode cL_law 756 = .ok (.ireturn, 1) := by decide +kernel
theorem dL_law_757 : decode cL_law 757 = .ok (.aload_n 1, 1) := by decide +kernel
theorem dL_law_758 : decode cL_law 758 = .ok (.aload_n 0, 1) := by decide +kernel
theorem dL_law_759 : decode cL_law 759 = .ok (.iload_n 3, 1) := by decide +kernel
theorem dL_law_760 : decode cL_law 760 = .ok (.iconst 1, 1) := by decide +kernel
theorem dL_law_761 : decode cL_law 761 = .ok (.iadd, 1) := by decide +kernel
theorem dL_law_762 : decode cL_law 762 = .ok (.iaload, 1) := by decide +kernel
theorem dL_law_763 : decode cL_law 763 = .ok (.aload_n 0, 1) := by decide +kernel
theorem dL_law_764 : decode cL_law 764 = .ok (.iload_n 3, 1) := by decide +kernel
theorem dL_law_765 : decode cL_law 765 = .ok (.iconst 2, 1) := by decide +kernel
theorem dL_law_766 : decode cL_law 766 = .ok (.iadd, 1) := by decide +kernel
theorem dL_law_767 : decode cL_law 767 = .ok (.iaload, 1) := by decide +kernel
theorem dL_law_768 : decode cL_law 768 = .ok (.invokevirtual 99, 3) := by decide +kernel
theorem dL_law_771 : decode cL_law 771 = .ok (.aload_n 2, 1) := by decide +kernel
theorem dL_law_772 : decode cL_law 772 = .ok (.aload_n 0, 1) := by decide +kernel
theorem dL_law_773 : decode cL_law 773 = .ok (.iload_n 3, 1) := by decide +kernel
theorem dL_law_774 : decode cL_law 774 = .ok (.iconst 1, 1) := by decide +kernel
theorem dL_law_775 : decode cL_law 775 = .ok (.iadd, 1) := by decide +kernel
theorem dL_law_776 : decode cL_law 776 = .ok (.iaload, 1) := by decide +kernel
theorem dL_law_777 : decode cL_law 777 = .ok (.aload_n 0, 1) := by decide +kernel
theorem dL_law_778 : decode cL_law 778 = .ok (.iload_n 3, 1) := by decide +kernel
theorem dL_law_779 : decode cL_law 779 = .ok (.iconst 2, 1) := by decide +kernel
theorem dL_law_780 : decode cL_law 780 = .ok (.iadd, 1) := by decide +kernel
theorem dL_law_781 : decode cL_law 781 = .ok (.iaload, 1) := by decide +kernel
theorem dL_law_782 : decode cL_law 782 = .ok (.invokevirtual 102, 3) := by decide +kernel
theorem dL_law_785 : decode cL_law 785 = .ok (.if_icmp .eq 243, 3) := by decide +kernel
theorem dL_law_788 : decode cL_law 788 = .ok (.iconst 0, 1) := by decide +kernel
theorem dL_law_789 : decode cL_law 789 = .ok (.ireturn, 1) := by decide +kernel
theorem dL_law_790 : decode cL_law 790 = .ok (.aload_n 1, 1) := by decide +kernel
theorem dL_law_791 : decode cL_law 791 = .ok (.aload_n 0, 1) := by decide +kernel
theorem dL_law_792 : decode cL_law 792 = .ok (.iload_n 3, 1) := by decide +kernel
theorem dL_law_793 : decode cL_law 793 = .ok (.iconst 1, 1) := by decide +kernel
theorem dL_law_794 : decode cL_law 794 = .ok (.iadd, 1) := by decide +kernel
theorem dL_law_795 : decode cL_law 795 = .ok (.iaload, 1) := by decide +kernel
theorem dL_law_796 : decode cL_law 796 = .ok (.aload_n 0, 1) := by decide +kernel
theorem dL_law_797 : decode cL_law 797 = .ok (.iload_n 3, 1) := by decide +kernel
theorem dL_law_798 : decode cL_law 798 = .ok (.iconst 2, 1) := by decide +kernel
theorem dL_law_799 : decode cL_law 799 = .ok (.iadd, 1) := by decide +kernel
theorem dL_law_800 : decode cL_law 800 = .ok (.iaload, 1) := by decide +kernel
theorem dL_law_801 : decode cL_law 801 = .ok (.invokevirtual 103, 3) := by decide +kernel
theorem dL_law_804 : decode cL_law 804 = .ok (.aload_n 2, 1) := by decide +kernel
theorem dL_law_805 : decode cL_law 805 = .ok (.aload_n 0, 1) := by decide +kernel
theorem dL_law_806 : decode cL_law 806 = .ok (.iload_n 3, 1) := by decide +kernel
theorem dL_law_807 : decode cL_law 807 = .ok (.iconst 1, 1) := by decide +kernel
theorem dL_law_808 : decode cL_law 808 = .ok (.iadd, 1) := by decide +kernel
theorem dL_law_809 : decode cL_law 809 = .ok (.iaload, 1) := by decide +kernel
theorem dL_law_810 : decode cL_law 810 = .ok (.aload_n 0, 1) := by decide +kernel
theorem dL_law_811 : decode cL_law 811 = .ok (.iload_n 3, 1) := by decide +kernel
theorem dL_law_812 : decode cL_law 812 = .ok (.iconst 2, 1) := by decide +kernel
theorem dL_law_813 : decode cL_law 813 = .ok (.iadd, 1) := by decide +kernel
theorem dL_law_814 : decode cL_law 814 = .ok (.iaload, 1) := by decide +kernel
theorem dL_law_815 : decode cL_law 815 = .ok (.invokevirtual 106, 3) := by decide +kernel
theorem dL_law_818 : decode cL_law 818 = .ok (.if_icmp .eq 210, 3) := by decide +kernel
theorem dL_law_821 : decode cL_law 821 = .ok (.iconst 0, 1) := by decide +kernel
theorem dL_law_822 : decode cL_law 822 = .ok (.ireturn, 1) := by decide +kernel
theorem dL_law_823 : decode cL_law 823 = .ok (.aload_n 1, 1) := by decide +kernel
theorem dL_law_824 : decode cL_law 824 = .ok (.aload_n 0, 1) := by decide +kernel
theorem dL_law_825 : decode cL_law 825 = .ok (.iload_n 3, 1) := by decide +kernel
theorem dL_law_826 : decode cL_law 826 = .ok (.iconst 1, 1) := by decide +kernel
theorem dL_law_827 : decode cL_law 827 = .ok (.iadd, 1) := by decide +kernel
theorem dL_law_828 : decode cL_law 828 = .ok (.iaload, 1) := by decide +kernel
theorem dL_law_829 : decode cL_law 829 = .ok (.aload_n 0, 1) := by decide +kernel
theorem dL_law_830 : decode cL_law 830 = .ok (.iload_n 3, 1) := by decide +kernel
theorem dL_law_831 : decode cL_law 831 = .ok (.iconst 2, 1) := by decide +kernel
theorem dL_law_832 : decode cL_law 832 = .ok (.iadd, 1) := by decide +kernel
theorem dL_law_833 : decode cL_law 833 = .ok (.iaload, 1) := by decide +kernel
theorem dL_law_834 : decode cL_law 834 = .ok (.invokevirtual 107, 3) := by decide +kernel
theorem dL_law_837 : decode cL_law 837 = .ok (.aload_n 2, 1) := by decide +kernel
theorem dL_law_838 : decode cL_law 838 = .ok (.aload_n 0, 1) := by decide +kernel
theorem dL_law_839 : decode cL_law 839 = .ok (.iload_n 3, 1) := by decide +kernel
theorem dL_law_840 : decode cL_law 840 = .ok (.iconst 1, 1) := by decide +kernel
theorem dL_law_841 : decode cL_law 841 = .ok (.iadd, 1) := by decide +kernel
theorem dL_law_842 : decode cL_law 842 = .ok (.iaload, 1) := by decide +kernel
theorem dL_law_843 : decode cL_law 843 = .ok (.aload_n 0, 1) := by decide +kernel
theorem dL_law_844 : decode cL_law 844 = .ok (.iload_n 3, 1) := by decide +kernel
theorem dL_law_845 : decode cL_law 845 = .ok (.iconst 2, 1) := by decide +kernel
theorem dL_law_846 : decode cL_law 846 = .ok (.iadd, 1) := by decide +kernel
theorem dL_law_847 : decode cL_law 847 = .ok (.iaload, 1) := by decide +kernel
theorem dL_law_848 : decode cL_law 848 = .ok (.invokevirtual 110, 3) := by decide +kernel
theorem dL_law_851 : decode cL_law 851 = .ok (.if_icmp .eq 177, 3) := by decide +kernel
theorem dL_law_854 : decode cL_law 854 = .ok (.iconst 0, 1) := by decide +kernel
theorem dL_law_855 : decode cL_law 855 = .ok (.ireturn, 1) := by decide +kernel
theorem dL_law_856 : decode cL_law 856 = .ok (.aload_n 1, 1) := by decide +kernel
theorem dL_law_857 : decode cL_law 857 = .ok (.aload_n 0, 1) := by decide +kernel
theorem dL_law_858 : decode cL_law 858 = .ok (.iload_n 3, 1) := by decide +kernel
theorem dL_law_859 : decode cL_law 859 = .ok (.iconst 1, 1) := by decide +kernel
theorem dL_law_860 : decode cL_law 860 = .ok (.iadd, 1) := by decide +kernel
theorem dL_law_861 : decode cL_law 861 = .ok (.iaload, 1) := by decide +kernel
theorem dL_law_862 : decode cL_law 862 = .ok (.aload_n 0, 1) := by decide +kernel
theorem dL_law_863 : decode cL_law 863 = .ok (.iload_n 3, 1) := by decide +kernel
theorem dL_law_864 : decode cL_law 864 = .ok (.iconst 2, 1) := by decide +kernel
theorem dL_law_865 : decode cL_law 865 = .ok (.iadd, 1) := by decide +kernel
theorem dL_law_866 : decode cL_law 866 = .ok (.iaload, 1) := by decide +kernel
theorem dL_law_867 : decode cL_law 867 = .ok (.aload_n 0, 1) := by decide +kernel
theorem dL_law_868 : decode cL_law 868 = .ok (.iload_n 3, 1) := by decide +kernel
theorem dL_law_869 : decode cL_law 869 = .ok (.iconst 3, 1) := by decide +kernel
theorem dL_law_870 : decode cL_law 870 = .ok (.iadd, 1) := by decide +kernel
theorem dL_law_871 : decode cL_law 871 = .ok (.iaload, 1) := by decide +kernel
theorem dL_law_872 : decode cL_law 872 = .ok (.aload_n 0, 1) := by decide +kernel
theorem dL_law_873 : decode cL_law 873 = .ok (.iload_n 3, 1) := by decide +kernel
theorem dL_law_874 : decode cL_law 874 = .ok (.iconst 4, 1) := by decide +kernel
theorem dL_law_875 : decode cL_law 875 = .ok (.iadd, 1) := by decide +kernel
theorem dL_law_876 : decode cL_law 876 = .ok (.iaload, 1) := by decide +kernel
theorem dL_law_877 : decode cL_law 877 = .ok (.aload_n 0, 1) := by decide +kernel
theorem dL_law_878 : decode cL_law 878 = .ok (.iload_n 3, 1) := by decide +kernel
theorem dL_law_879 : decode cL_law 879 = .ok (.iconst 5, 1) := by decide +kernel
theorem dL_law_880 : decode cL_law 880 = .ok (.iadd, 1) := by decide +kernel
theorem dL_law_881 : decode cL_law 881 = .ok (.iaload, 1) := by decide +kernel
theorem dL_law_882 : decode cL_law 882 = .ok (.invokevirtual 111, 3) := by decide +kernel
theorem dL_law_885 : decode cL_law 885 = .ok (.aload_n 2, 1) := by decide +kernel
theorem dL_law_886 : decode cL_law 886 = .ok (.aload_n 0, 1) := by decide +kernel
theorem dL_law_887 : decode cL_law 887 = .ok (.iload_n 3, 1) := by decide +kernel
theorem dL_law_888 : decode cL_law 888 = .ok (.iconst 1, 1) := by decide +kernel
theorem dL_law_889 : decode cL_law 889 = .ok (.iadd, 1) := by decide +kernel
theorem dL_law_890 : decode cL_law 890 = .ok (.iaload, 1) := by decide +kernel
theorem dL_law_891 : decode cL_law 891 = .ok (.aload_n 0, 1) := by decide +kernel
theorem dL_law_892 : decode cL_law 892 = .ok (.iload_n 3, 1) := by decide +kernel
theorem dL_law_893 : decode cL_law 893 = .ok (.iconst 2, 1) := by decide +kernel
theorem dL_law_894 : decode cL_law 894 = .ok (.iadd, 1) := by decide +kernel
theorem dL_law_895 : decode cL_law 895 = .ok (.iaload, 1) := by decide +kernel
theorem dL_law_896 : decode cL_law 896 = .ok (.aload_n 0, 1) := by decide +kernel
theorem dL_law_897 : decode cL_law 897 = .ok (.iload_n 3, 1) := by decide +kernel
theorem dL_law_898 : decode cL_law 898 = .ok (.iconst 3, 1) := by decide +kernel
theorem dL_law_899 : decode cL_law 899 = .ok (.iadd, 1) := by decide +kernel
theorem dL_law_900 : decode cL_law 900 = .ok (.iaload, 1) := by decide +kernel
theorem dL_law_901 : decode cL_law 901 = .ok (.aload_n 0, 1) := by decide +kernel
theorem dL_law_902 : decode cL_law 902 = .ok (.iload_n 3, 1) := by decide +kernel
theorem dL_law_903 : decode cL_law 903 = .ok (.iconst 4, 1) := by decide +kernel
theorem dL_law_904 : decode cL_law 904 = .ok (.iadd, 1) := by decide +kernel
theorem dL_law_905 : decode cL_law 905 = .ok (.iaload, 1) := by decide +kernel
theorem dL_law_906 : decode cL_law 906 = .ok (.aload_n 0, 1) := by decide +kernel
theorem dL_law_907 : decode cL_law 907 = .ok (.iload_n 3, 1) := by decide +kernel
theorem dL_law_908 : decode cL_law 908 = .ok (.iconst 5, 1) := by decide +kernel
theorem dL_law_909 : decode cL_law 909 = .ok (.iadd, 1) := by decide +kernel
theorem dL_law_910 : decode cL_law 910 = .ok (.iaload, 1) := by decide +kernel
theorem dL_law_911 : decode cL_law 911 = .ok (.invokevirtual 115, 3) := by decide +kernel
theorem dL_law_914 : decode cL_law 914 = .ok (.if_icmp .eq 114, 3) := by decide +kernel
theorem dL_law_917 : decode cL_law 917 = .ok (.iconst 0, 1) := by decide +kernel
theorem dL_law_918 : decode cL_law 918 = .ok (.ireturn, 1) := by decide +kernel
theorem dL_law_919 : decode cL_law 919 = .ok (.aload_n 1, 1) := by decide +kernel
theorem dL_law_920 : decode cL_law 920 = .ok (.aload_n 0, 1) := by decide +kernel
theorem dL_law_921 : decode cL_law 921 = .ok (.iload_n 3, 1) := by decide +kernel
theorem dL_law_922 : decode cL_law 922 = .ok (.iconst 1, 1) := by decide +kernel
theorem dL_law_923 : decode cL_law 923 = .ok (.iadd, 1) := by decide +kernel
theorem dL_law_924 : decode cL_law 924 = .ok (.iaload, 1) := by decide +kernel
theorem dL_law_925 : decode cL_law 925 = .ok (.aload_n 0, 1) := by decide +kernel
theorem dL_law_926 : decode cL_law 926 = .ok (.iload_n 3, 1) := by decide +kernel
theorem dL_law_927 : decode cL_law 927 = .ok (.iconst 2, 1) := by decide +kernel
theorem dL_law_928 : decode cL_law 928 = .ok (.iadd, 1) := by decide +kernel
theorem dL_law_929 : decode cL_law 929 = .ok (.iaload, 1) := by decide +kernel
theorem dL_law_930 : decode cL_law 930 = .ok (.aload_n 0, 1) := by decide +kernel
theorem dL_law_931 : decode cL_law 931 = .ok (.iload_n 3, 1) := by decide +kernel
theorem dL_law_932 : decode cL_law 932 = .ok (.iconst 3, 1) := by decide +kernel
theorem dL_law_933 : decode cL_law 933 = .ok (.iadd, 1) := by decide +kernel
theorem dL_law_934 : decode cL_law 934 = .ok (.iaload, 1) := by decide +kernel
theorem dL_law_935 : decode cL_law 935 = .ok (.aload_n 0, 1) := by decide +kernel
theorem dL_law_936 : decode cL_law 936 = .ok (.iload_n 3, 1) := by decide +kernel
theorem dL_law_937 : decode cL_law 937 = .ok (.iconst 4, 1) := by decide +kernel
theorem dL_law_938 : decode cL_law 938 = .ok (.iadd, 1) := by decide +kernel
theorem dL_law_939 : decode cL_law 939 = .ok (.iaload, 1) := by decide +kernel
theorem dL_law_940 : decode cL_law 940 = .ok (.aload_n 0, 1) := by decide +kernel
theorem dL_law_941 : decode cL_law 941 = .ok (.iload_n 3, 1) := by decide +kernel
theorem dL_law_942 : decode cL_law 942 = .ok (.iconst 5, 1) := by decide +kernel
theorem dL_law_943 : decode cL_law 943 = .ok (.iadd, 1) := by decide +kernel
theorem dL_law_944 : decode cL_law 944 = .ok (.iaload, 1) := by decide +kernel
theorem dL_law_945 : decode cL_law 945 = .ok (.invokevirtual 116, 3) := by decide +kernel
theorem dL_law_948 : decode cL_law 948 = .ok (.aload_n 2, 1) := by decide +kernel
theorem dL_law_949 : decode cL_law 949 = .ok (.aload_n 0, 1) := by decide +kernel
theorem dL_law_950 : decode cL_law 950 = .ok (.iload_n 3, 1) := by decide +kernel
theorem dL_law_951 : decode cL_law 951 = .ok (.iconst 1, 1) := by decide +kernel
theorem dL_law_952 : decode cL_law 952 = .ok (.iadd, 1) := by decide +kernel
theorem dL_law_953 : decode cL_law 953 = .ok (.iaload, 1) := by decide +kernel
theorem dL_law_954 : decode cL_law 954 = .ok (.aload_n 0, 1) := by decide +kernel
theorem dL_law_955 : decode cL_law 955 = .ok (.iload_n 3, 1) := by decide +kernel
theorem dL_law_956 : decode cL_law 956 = .ok (.iconst 2, 1) := by decide +kernel
theorem dL_law_957 : decode cL_law 957 = .ok (.iadd, 1) := by decide +kernel
theorem dL_law_958 : decode cL_law 958 = .ok (.iaload, 1) := by decide +kernel
theorem dL_law_959 : decode cL_law 959 = .ok (.aload_n 0, 1) := by decide +kernel
theorem dL_law_960 : decode cL_law 960 = .ok (.iload_n 3, 1) := by decide +kernel
theorem dL_law_961 : decode cL_law 961 = .ok (.iconst 3, 1) := by decide +kernel
theorem dL_law_962 : decode cL_law 962 = .ok (.iadd, 1) := by decide +kernel
theorem dL_law_963 : decode cL_law 963 = .ok (.iaload, 1) := by decide +kernel
theorem dL_law_964 : decode cL_law 964 = .ok (.aload_n 0, 1) := by decide +kernel
theorem dL_law_965 : decode cL_law 965 = .ok (.iload_n 3, 1) := by decide +kernel
theorem dL_law_966 : decode cL_law 966 = .ok (.iconst 4, 1) := by decide +kernel
theorem dL_law_967 : decode cL_law 967 = .ok (.iadd, 1) := by decide +kernel
theorem dL_law_968 : decode cL_law 968 = .ok (.iaload, 1) := by decide +kernel
theorem dL_law_969 : decode cL_law 969 = .ok (.aload_n 0, 1) := by decide +kernel
theorem dL_law_970 : decode cL_law 970 = .ok (.iload_n 3, 1) := by decide +kernel
theorem dL_law_971 : decode cL_law 971 = .ok (.iconst 5, 1) := by decide +kernel
theorem dL_law_972 : decode cL_law 972 = .ok (.iadd, 1) := by decide +kernel
theorem dL_law_973 : decode cL_law 973 = .ok (.iaload, 1) := by decide +kernel
theorem dL_law_974 : decode cL_law 974 = .ok (.invokevirtual 119, 3) := by decide +kernel
theorem dL_law_977 : decode cL_law 977 = .ok (.if_icmp .eq 51, 3) := by decide +kernel
theorem dL_law_980 : decode cL_law 980 = .ok (.iconst 0, 1) := by decide +kernel
theorem dL_law_981 : decode cL_law 981 = .ok (.ireturn, 1) := by decide +kernel
theorem dL_law_982 : decode cL_law 982 = .ok (.aload_n 1, 1) := by decide +kernel
theorem dL_law_983 : decode cL_law 983 = .ok (.aload_n 0, 1) := by decide +kernel
theorem dL_law_984 : decode cL_law 984 = .ok (.iload_n 3, 1) := by decide +kernel
theorem dL_law_985 : decode cL_law 985 = .ok (.iconst 1, 1) := by decide +kernel
theorem dL_law_986 : decode cL_law 986 = .ok (.iadd, 1) := by decide +kernel
theorem dL_law_987 : decode cL_law 987 = .ok (.iaload, 1) := by decide +kernel
theorem dL_law_988 : decode cL_law 988 = .ok (.invokevirtual 120, 3) := by decide +kernel
theorem dL_law_991 : decode cL_law 991 = .ok (.aload_n 2, 1) := by decide +kernel
theorem dL_law_992 : decode cL_law 992 = .ok (.aload_n 0, 1) := by decide +kernel
theorem dL_law_993 : decode cL_law 993 = .ok (.iload_n 3, 1) := by decide +kernel
theorem dL_law_994 : decode cL_law 994 = .ok (.iconst 1, 1) := by decide +kernel
theorem dL_law_995 : decode cL_law 995 = .ok (.iadd, 1) := by decide +kernel
theorem dL_law_996 : decode cL_law 996 = .ok (.iaload, 1) := by decide +kernel
theorem dL_law_997 : decode cL_law 997 = .ok (.invokevirtual 123, 3) := by decide +kernel
theorem dL_law_1000 : decode cL_law 1000 = .ok (.if_icmp .eq 28, 3) := by decide +kernel
theorem dL_law_1003 : decode cL_law 1003 = .ok (.iconst 0, 1) := by decide +kernel
theorem dL_law_1004 : decode cL_law 1004 = .ok (.ireturn, 1) := by decide +kernel
theorem dL_law_1005 : decode cL_law 1005 = .ok (.aload_n 1, 1) := by decide +kernel
theorem dL_law_1006 : decode cL_law 1006 = .ok (.aload_n 0, 1) := by decide +kernel
theorem dL_law_1007 : decode cL_law 1007 = .ok (.iload_n 3, 1) := by decide +kernel
theorem dL_law_1008 : decode cL_law 1008 = .ok (.iconst 1, 1) := by decide +kernel
theorem dL_law_1009 : decode cL_law 1009 = .ok (.iadd, 1) := by decide +kernel
theorem dL_law_1010 : decode cL_law 1010 = .ok (.iaload, 1) := by decide +kernel
theorem dL_law_1011 : decode cL_law 1011 = .ok (.invokevirtual 124, 3) := by decide +kernel
theorem dL_law_1014 : decode cL_law 1014 = .ok (.aload_n 2, 1) := by decide +kernel
theorem dL_law_1015 : decode cL_law 1015 = .ok (.aload_n 0, 1) := by decide +kernel
theorem dL_law_1016 : decode cL_law 1016 = .ok (.iload_n 3, 1) := by decide +kernel
theorem dL_law_1017 : decode cL_law 1017 = .ok (.iconst 1, 1) := by decide +kernel
theorem dL_law_1018 : decode cL_law 1018 = .ok (.iadd, 1) := by decide +kernel
theorem dL_law_1019 : decode cL_law 1019 = .ok (.iaload, 1) := by decide +kernel
theorem dL_law_1020 : decode cL_law 1020 = .ok (.invokevirtual 127, 3) := by decide +kernel
theorem dL_law_1023 : decode cL_law 1023 = .ok (.if_icmp .eq 5, 3) := by decide +kernel
theorem dL_law_1026 : decode cL_law 1026 = .ok (.iconst 0, 1) := by decide +kernel
theorem dL_law_1027 : decode cL_law 1027 = .ok (.ireturn, 1) := by decide +kernel
theorem dL_law_1028 : decode cL_law 1028 = .ok (.iinc 3 6, 3) := by decide +kernel
theorem dL_law_1031 : decode cL_law 1031 = .ok (.goto (-1013), 3) := by decide +kernel
theorem dL_law_1034 : decode cL_law 1034 = .ok (.iconst 1, 1) := by decide +kernel
theorem dL_law_1035 : decode cL_law 1035 = .ok (.ireturn, 1) := by decide +kernel
end
section
theorem zz_dummy : True := trivial
end
