section
-- ===== PART A: goes FIRST, ahead of the names: the tables' words, and 'selects' of the private methods out of them =====
/-- a private method of a class that the tables say can be made, by its rows of tables_1 -/
def lw_okq (q : MethodName × Nat) : Prop := (q.1.cls ≠ "java/lang/invoke/MethodHandle" ∧ q.1.cls ≠ "java/lang/invoke/VarHandle") ∧ Cond.instantiable q.1.cls q.2 ∈ tables_1 ∧ Cond.privateMethod q.1 ∈ tables_1 ∧ Cond.instanceMethod q.1 ∈ tables_1
theorem lw_p0 : lw_okq (⟨"SliceBody$Solid", "reckonGains", "(I)V"⟩, 7) := ⟨⟨by decide +kernel, by decide +kernel⟩, List.mem_of_getElem? (i := 20) (by decide +kernel), List.mem_of_getElem? (i := 306) (by decide +kernel), List.mem_of_getElem? (i := 307) (by decide +kernel)⟩
theorem lw_p1 : lw_okq (⟨"SliceBody$Solid", "greatestGains", "(I)I"⟩, 7) := ⟨⟨by decide +kernel, by decide +kernel⟩, List.mem_of_getElem? (i := 20) (by decide +kernel), List.mem_of_getElem? (i := 311) (by decide +kernel), List.mem_of_getElem? (i := 312) (by decide +kernel)⟩
theorem lw_p2 : lw_okq (⟨"SliceBody$Solid", "worthAlone", "(I)I"⟩, 7) := ⟨⟨by decide +kernel, by decide +kernel⟩, List.mem_of_getElem? (i := 20) (by decide +kernel), List.mem_of_getElem? (i := 315) (by decide +kernel), List.mem_of_getElem? (i := 316) (by decide +kernel)⟩
theorem lw_p3 : lw_okq (⟨"SliceBody$Solid", "sumOfGains", "(I)I"⟩, 7) := ⟨⟨by decide +kernel, by decide +kernel⟩, List.mem_of_getElem? (i := 20) (by decide +kernel), List.mem_of_getElem? (i := 321) (by decide +kernel), List.mem_of_getElem? (i := 322) (by decide +kernel)⟩
theorem lw_p4 : lw_okq (⟨"SliceBody", "allFitInto", "(II)Z"⟩, 2) := ⟨⟨by decide +kernel, by decide +kernel⟩, List.mem_of_getElem? (i := 12) (by decide +kernel), List.mem_of_getElem? (i := 346) (by decide +kernel), List.mem_of_getElem? (i := 347) (by decide +kernel)⟩
theorem lw_p5 : lw_okq (⟨"SliceBody$Boards", "isLess", "(III)Z"⟩, 5) := ⟨⟨by decide +kernel, by decide +kernel⟩, List.mem_of_getElem? (i := 52) (by decide +kernel), List.mem_of_getElem? (i := 362) (by decide +kernel), List.mem_of_getElem? (i := 363) (by decide +kernel)⟩
theorem lw_p6 : lw_okq (⟨"SliceBody$Boards", "note", "(III)V"⟩, 5) := ⟨⟨by decide +kernel, by decide +kernel⟩, List.mem_of_getElem? (i := 52) (by decide +kernel), List.mem_of_getElem? (i := 376) (by decide +kernel), List.mem_of_getElem? (i := 377) (by decide +kernel)⟩
theorem lw_p7 : lw_okq (⟨"SliceBodyModel", "isPlace", "(III)Z"⟩, 17) := ⟨⟨by decide +kernel, by decide +kernel⟩, List.mem_of_getElem? (i := 396) (by decide +kernel), List.mem_of_getElem? (i := 468) (by decide +kernel), List.mem_of_getElem? (i := 469) (by decide +kernel)⟩
theorem lw_p8 : lw_okq (⟨"SliceBodyModel", "has", "(III)Z"⟩, 17) := ⟨⟨by decide +kernel, by decide +kernel⟩, List.mem_of_getElem? (i := 396) (by decide +kernel), List.mem_of_getElem? (i := 472) (by decide +kernel), List.mem_of_getElem? (i := 473) (by decide +kernel)⟩
theorem lw_p9 : lw_okq (⟨"SliceBodyModel", "isRib", "(II)Z"⟩, 17) := ⟨⟨by decide +kernel, by decide +kernel⟩, List.mem_of_getElem? (i := 396) (by decide +kernel), List.mem_of_getElem? (i := 484) (by decide +kernel), List.mem_of_getElem? (i := 485) (by decide +kernel)⟩
theorem lw_p10 : lw_okq (⟨"SliceBodyModel", "places", "(I)I"⟩, 17) := ⟨⟨by decide +kernel, by decide +kernel⟩, List.mem_of_getElem? (i := 396) (by decide +kernel), List.mem_of_getElem? (i := 488) (by decide +kernel), List.mem_of_getElem? (i := 489) (by decide +kernel)⟩
theorem lw_p11 : lw_okq (⟨"SliceBodyModel", "isChosen", "(II)Z"⟩, 17) := ⟨⟨by decide +kernel, by decide +kernel⟩, List.mem_of_getElem? (i := 396) (by decide +kernel), List.mem_of_getElem? (i := 492) (by decide +kernel), List.mem_of_getElem? (i := 493) (by decide +kernel)⟩
theorem lw_p12 : lw_okq (⟨"SliceBodyModel", "isIn", "(IIIIZ)Z"⟩, 17) := ⟨⟨by decide +kernel, by decide +kernel⟩, List.mem_of_getElem? (i := 396) (by decide +kernel), List.mem_of_getElem? (i := 504) (by decide +kernel), List.mem_of_getElem? (i := 505) (by decide +kernel)⟩
theorem lw_p13 : lw_okq (⟨"SliceBodyModel", "hasIn", "(IIII)Z"⟩, 17) := ⟨⟨by decide +kernel, by decide +kernel⟩, List.mem_of_getElem? (i := 396) (by decide +kernel), List.mem_of_getElem? (i := 508) (by decide +kernel), List.mem_of_getElem? (i := 509) (by decide +kernel)⟩
theorem lw_p14 : lw_okq (⟨"SliceBodyModel", "loses", "(IIII)Z"⟩, 17) := ⟨⟨by decide +kernel, by decide +kernel⟩, List.mem_of_getElem? (i := 396) (by decide +kernel), List.mem_of_getElem? (i := 512) (by decide +kernel), List.mem_of_getElem? (i := 513) (by decide +kernel)⟩
theorem lw_p15 : lw_okq (⟨"SliceBodyModel", "findRuns", "(II)I"⟩, 17) := ⟨⟨by decide +kernel, by decide +kernel⟩, List.mem_of_getElem? (i := 396) (by decide +kernel), List.mem_of_getElem? (i := 516) (by decide +kernel), List.mem_of_getElem? (i := 517) (by decide +kernel)⟩
def lw_privs_1 : List (MethodName × Nat) := [(⟨"SliceBody$Solid", "reckonGains", "(I)V"⟩, 7), (⟨"SliceBody$Solid", "greatestGains", "(I)I"⟩, 7), (⟨"SliceBody$Solid", "worthAlone", "(I)I"⟩, 7), (⟨"SliceBody$Solid", "sumOfGains", "(I)I"⟩, 7), (⟨"SliceBody", "allFitInto", "(II)Z"⟩, 2), (⟨"SliceBody$Boards", "isLess", "(III)Z"⟩, 5), (⟨"SliceBody$Boards", "note", "(III)V"⟩, 5), (⟨"SliceBodyModel", "isPlace", "(III)Z"⟩, 17), (⟨"SliceBodyModel", "has", "(III)Z"⟩, 17), (⟨"SliceBodyModel", "isRib", "(II)Z"⟩, 17), (⟨"SliceBodyModel", "places", "(I)I"⟩, 17), (⟨"SliceBodyModel", "isChosen", "(II)Z"⟩, 17), (⟨"SliceBodyModel", "isIn", "(IIIIZ)Z"⟩, 17), (⟨"SliceBodyModel", "hasIn", "(IIII)Z"⟩, 17), (⟨"SliceBodyModel", "loses", "(IIII)Z"⟩, 17), (⟨"SliceBodyModel", "findRuns", "(II)I"⟩, 17)]
theorem lw_r1 : ∀ q ∈ lw_privs_1, lw_okq q := List.forall_mem_cons.mpr ⟨lw_p0, List.forall_mem_cons.mpr ⟨lw_p1, List.forall_mem_cons.mpr ⟨lw_p2, List.forall_mem_cons.mpr ⟨lw_p3, List.forall_mem_cons.mpr ⟨lw_p4, List.forall_mem_cons.mpr ⟨lw_p5, List.forall_mem_cons.mpr ⟨lw_p6, List.forall_mem_cons.mpr ⟨lw_p7, List.forall_mem_cons.mpr ⟨lw_p8, List.forall_mem_cons.mpr ⟨lw_p9, List.forall_mem_cons.mpr ⟨lw_p10, List.forall_mem_cons.mpr ⟨lw_p11, List.forall_mem_cons.mpr ⟨lw_p12, List.forall_mem_cons.mpr ⟨lw_p13, List.forall_mem_cons.mpr ⟨lw_p14, List.forall_mem_cons.mpr ⟨lw_p15, fun _ h => absurd h List.not_mem_nil⟩⟩⟩⟩⟩⟩⟩⟩⟩⟩⟩⟩⟩⟩⟩⟩
theorem lw_p16 : lw_okq (⟨"SliceBodyModel", "findParts", "(IIZ)V"⟩, 17) := ⟨⟨by decide +kernel, by decide +kernel⟩, List.mem_of_getElem? (i := 396) (by decide +kernel), List.mem_of_getElem? (i := 524) (by decide +kernel), List.mem_of_getElem? (i := 525) (by decide +kernel)⟩
theorem lw_p17 : lw_okq (⟨"SliceBodyModel", "meet", "(II)Z"⟩, 17) := ⟨⟨by decide +kernel, by decide +kernel⟩, List.mem_of_getElem? (i := 396) (by decide +kernel), List.mem_of_getElem? (i := 528) (by decide +kernel), List.mem_of_getElem? (i := 529) (by decide +kernel)⟩
theorem lw_p18 : lw_okq (⟨"SliceBodyModel", "looseOf", "(II)I"⟩, 17) := ⟨⟨by decide +kernel, by decide +kernel⟩, List.mem_of_getElem? (i := 396) (by decide +kernel), List.mem_of_getElem? (i := 532) (by decide +kernel), List.mem_of_getElem? (i := 533) (by decide +kernel)⟩
theorem lw_p19 : lw_okq (⟨"SliceBodyModel", "crossings", "(IIZ)I"⟩, 17) := ⟨⟨by decide +kernel, by decide +kernel⟩, List.mem_of_getElem? (i := 396) (by decide +kernel), List.mem_of_getElem? (i := 536) (by decide +kernel), List.mem_of_getElem? (i := 537) (by decide +kernel)⟩
theorem lw_p20 : lw_okq (⟨"SliceBodyModel", "spanOf", "(III)I"⟩, 17) := ⟨⟨by decide +kernel, by decide +kernel⟩, List.mem_of_getElem? (i := 396) (by decide +kernel), List.mem_of_getElem? (i := 540) (by decide +kernel), List.mem_of_getElem? (i := 541) (by decide +kernel)⟩
theorem lw_p21 : lw_okq (⟨"SliceBodyModel", "lookAtColumns", "()V"⟩, 17) := ⟨⟨by decide +kernel, by decide +kernel⟩, List.mem_of_getElem? (i := 396) (by decide +kernel), List.mem_of_getElem? (i := 556) (by decide +kernel), List.mem_of_getElem? (i := 557) (by decide +kernel)⟩
theorem lw_p22 : lw_okq (⟨"SliceBodyModel", "highOf", "(II)I"⟩, 17) := ⟨⟨by decide +kernel, by decide +kernel⟩, List.mem_of_getElem? (i := 396) (by decide +kernel), List.mem_of_getElem? (i := 560) (by decide +kernel), List.mem_of_getElem? (i := 561) (by decide +kernel)⟩
theorem lw_p23 : lw_okq (⟨"SliceBodyModel", "coverOf", "(II)I"⟩, 17) := ⟨⟨by decide +kernel, by decide +kernel⟩, List.mem_of_getElem? (i := 396) (by decide +kernel), List.mem_of_getElem? (i := 564) (by decide +kernel), List.mem_of_getElem? (i := 565) (by decide +kernel)⟩
theorem lw_p24 : lw_okq (⟨"SliceBodyModel", "caughtOf", "(II)I"⟩, 17) := ⟨⟨by decide +kernel, by decide +kernel⟩, List.mem_of_getElem? (i := 396) (by decide +kernel), List.mem_of_getElem? (i := 575) (by decide +kernel), List.mem_of_getElem? (i := 576) (by decide +kernel)⟩
theorem lw_p25 : lw_okq (⟨"SliceBodyModel", "gather", "(I)I"⟩, 17) := ⟨⟨by decide +kernel, by decide +kernel⟩, List.mem_of_getElem? (i := 396) (by decide +kernel), List.mem_of_getElem? (i := 589) (by decide +kernel), List.mem_of_getElem? (i := 590) (by decide +kernel)⟩
theorem lw_p26 : lw_okq (⟨"SliceBodyModel", "isAhead", "(II)Z"⟩, 17) := ⟨⟨by decide +kernel, by decide +kernel⟩, List.mem_of_getElem? (i := 396) (by decide +kernel), List.mem_of_getElem? (i := 593) (by decide +kernel), List.mem_of_getElem? (i := 594) (by decide +kernel)⟩
theorem lw_p27 : lw_okq (⟨"SliceBodyModel", "exchange", "(II)V"⟩, 17) := ⟨⟨by decide +kernel, by decide +kernel⟩, List.mem_of_getElem? (i := 396) (by decide +kernel), List.mem_of_getElem? (i := 597) (by decide +kernel), List.mem_of_getElem? (i := 598) (by decide +kernel)⟩
def lw_privs_2 : List (MethodName × Nat) := [(⟨"SliceBodyModel", "findParts", "(IIZ)V"⟩, 17), (⟨"SliceBodyModel", "meet", "(II)Z"⟩, 17), (⟨"SliceBodyModel", "looseOf", "(II)I"⟩, 17), (⟨"SliceBodyModel", "crossings", "(IIZ)I"⟩, 17), (⟨"SliceBodyModel", "spanOf", "(III)I"⟩, 17), (⟨"SliceBodyModel", "lookAtColumns", "()V"⟩, 17), (⟨"SliceBodyModel", "highOf", "(II)I"⟩, 17), (⟨"SliceBodyModel", "coverOf", "(II)I"⟩, 17), (⟨"SliceBodyModel", "caughtOf", "(II)I"⟩, 17), (⟨"SliceBodyModel", "gather", "(I)I"⟩, 17), (⟨"SliceBodyModel", "isAhead", "(II)Z"⟩, 17), (⟨"SliceBodyModel", "exchange", "(II)V"⟩, 17)]
theorem lw_r2 : ∀ q ∈ lw_privs_2, lw_okq q := List.forall_mem_cons.mpr ⟨lw_p16, List.forall_mem_cons.mpr ⟨lw_p17, List.forall_mem_cons.mpr ⟨lw_p18, List.forall_mem_cons.mpr ⟨lw_p19, List.forall_mem_cons.mpr ⟨lw_p20, List.forall_mem_cons.mpr ⟨lw_p21, List.forall_mem_cons.mpr ⟨lw_p22, List.forall_mem_cons.mpr ⟨lw_p23, List.forall_mem_cons.mpr ⟨lw_p24, List.forall_mem_cons.mpr ⟨lw_p25, List.forall_mem_cons.mpr ⟨lw_p26, List.forall_mem_cons.mpr ⟨lw_p27, fun _ h => absurd h List.not_mem_nil⟩⟩⟩⟩⟩⟩⟩⟩⟩⟩⟩⟩
def lw_privs : List (MethodName × Nat) := lw_privs_1 ++ (lw_privs_2)
def lw_tbl : List Cond := k2_sels lw_privs ++ tables_1
theorem lw_privs_ok : ∀ q ∈ lw_privs, lw_okq q := by
  show ∀ q ∈ lw_privs_1 ++ (lw_privs_2), lw_okq q
  exact List.forall_mem_append.mpr ⟨lw_r1, lw_r2⟩
end
section
/-! ===== BEGIN words of one list among another's, by their places ===== -/
theorem goodIn_r {big : List Cond} (ws : List Cond) (ps : List Nat) (hp : ws = ps.filterMap (fun i => big[i]?)) (h : ws.all goodWord = true) : GoodIn big ws := by
  intro w hw
  have h1 := List.all_eq_true.mp h w hw
  rw [hp] at hw
  obtain ⟨i, -, hi⟩ := List.mem_filterMap.mp hw
  have hm : w ∈ big := by first | exact List.mem_of_getElem? hi | exact List.getElem?_mem hi
  exact ⟨hm, good_of_word h1⟩
theorem goodIn_app {big a b : List Cond} (ha : GoodIn big a) (hb : GoodIn big b) : GoodIn big (a ++ b) := fun w h => (List.mem_append.mp h).elim (ha w) (hb w)
theorem goodIn_ca {big a b : List Cond} {c : Cond} (ha : GoodIn big (c :: a)) (hb : GoodIn big b) : GoodIn big (c :: (a ++ b)) := fun w h => (List.mem_cons.mp h).elim (fun e => ha w (List.mem_cons.mpr (Or.inl e))) (fun h => (List.mem_append.mp h).elim (fun h => ha w (List.mem_cons.mpr (Or.inr h))) (hb w))
theorem goodIn_sub {big ws : List Cond} (hm : ∀ w ∈ ws, w ∈ big) (h : ws.all goodWord = true) : GoodIn big ws := fun w hw => ⟨hm w hw, good_of_word (List.all_eq_true.mp h w hw)⟩
/-! ===== END ===== -/

/-! ===== BEGIN printed: names, fields, word lists, decode rows ===== -/
def RX0 : String := "SliceBody$Boards"
def TX0 : u_T := fun k => match k with
  | 0 => ("SliceBody$Boards", "facts", "[I", true)
  | 1 => ("SliceBody$Boards", "known", "Z", false)
  | 2 => ("SliceBody$Boards", "count", "I", false)
  | 3 => ("SliceBody$Boards", "boardCount", "I", false)
  | _ => ("SliceBody$Boards", "fewest", "I", false)
def tyX0 : Nat → FieldType := fun k => match k with
  | 0 => .array .int
  | 1 => .boolean
  | 2 => .int
  | 3 => .int
  | _ => .int
abbrev wsX00 : List Cond := u_ws RX0 TX0 5
theorem nmX0 : ∀ a, a < 5 → ∀ b, b < 5 → a ≠ b → (TX0 a).2.1 ≠ (TX0 b).2.1 := by decide +kernel
theorem tyX0_ok : ∀ k, k < 5 → parseFieldDescriptor (TX0 k).2.2.1 = some (tyX0 k) := by decide +kernel
abbrev cX0_init : ByteArray := prog_2_method_1_code
def yX0_init : MethodName := ⟨RX0, "<init>", "()V"⟩
abbrev cX0_forget : ByteArray := prog_2_method_2_code
def yX0_forget : MethodName := ⟨RX0, "forget", "()V"⟩
abbrev cX0_clear : ByteArray := prog_2_method_3_code
def yX0_clear : MethodName := ⟨RX0, "clear", "()V"⟩
abbrev cX0_fact : ByteArray := prog_2_method_4_code
def yX0_fact : MethodName := ⟨RX0, "fact", "(II)I"⟩
abbrev cX0_note : ByteArray := prog_2_method_5_code
def yX0_note : MethodName := ⟨RX0, "note", "(III)V"⟩
abbrev cX0_hasFact : ByteArray := prog_2_method_6_code
def yX0_hasFact : MethodName := ⟨RX0, "hasFact", "(II)Z"⟩
abbrev cX0_add : ByteArray := prog_2_method_7_code
def yX0_add : MethodName := ⟨RX0, "add", "(IIII)V"⟩
abbrev cX0_isLess : ByteArray := prog_2_method_8_code
def yX0_isLess : MethodName := ⟨RX0, "isLess", "(III)Z"⟩
abbrev cX0_layInRows : ByteArray := prog_2_method_9_code
def yX0_layInRows : MethodName := ⟨RX0, "layInRows", "(II)V"⟩
abbrev cX0_quotientCutUp : ByteArray := prog_2_method_10_code
def yX0_quotientCutUp : MethodName := ⟨RX0, "quotientCutUp", "(II)I"⟩
def RX1 : String := "SliceBody$Column"
def TX1 : u_T := fun k => match k with
  | _ => ("", "", "", false)
def tyX1 : Nat → FieldType := fun k => match k with
  | _ => .int
abbrev wsX10 : List Cond := u_ws RX1 TX1 0
theorem nmX1 : ∀ a, a < 0 → ∀ b, b < 0 → a ≠ b → (TX1 a).2.1 ≠ (TX1 b).2.1 := by decide +kernel
theorem tyX1_ok : ∀ k, k < 0 → parseFieldDescriptor (TX1 k).2.2.1 = some (tyX1 k) := by decide +kernel
abbrev cX1_hasBit : ByteArray := prog_3_method_2_code
def yX1_hasBit : MethodName := ⟨RX1, "hasBit", "(II)Z"⟩
abbrev cX1_bitsBetween : ByteArray := prog_3_method_3_code
def yX1_bitsBetween : MethodName := ⟨RX1, "bitsBetween", "(II)I"⟩
abbrev cX1_beginsRun : ByteArray := prog_3_method_4_code
def yX1_beginsRun : MethodName := ⟨RX1, "beginsRun", "(II)Z"⟩
abbrev cX1_runCount : ByteArray := prog_3_method_5_code
def yX1_runCount : MethodName := ⟨RX1, "runCount", "(I)I"⟩
abbrev cX1_runLength : ByteArray := prog_3_method_6_code
def yX1_runLength : MethodName := ⟨RX1, "runLength", "(II)I"⟩
abbrev cX1_upperHalves : ByteArray := prog_3_method_7_code
def yX1_upperHalves : MethodName := ⟨RX1, "upperHalves", "(I)I"⟩
abbrev cX1_span : ByteArray := prog_3_method_8_code
def yX1_span : MethodName := ⟨RX1, "span", "(I)I"⟩
def RX2 : String := "SliceBody$Figure"
def TX2 : u_T := fun k => match k with
  | _ => ("", "", "", false)
def tyX2 : Nat → FieldType := fun k => match k with
  | _ => .int
abbrev wsX20 : List Cond := u_ws RX2 TX2 0
theorem nmX2 : ∀ a, a < 0 → ∀ b, b < 0 → a ≠ b → (TX2 a).2.1 ≠ (TX2 b).2.1 := by decide +kernel
theorem tyX2_ok : ∀ k, k < 0 → parseFieldDescriptor (TX2 k).2.2.1 = some (tyX2 k) := by decide +kernel
abbrev cX2_partCount : ByteArray := prog_4_method_2_code
def yX2_partCount : MethodName := ⟨RX2, "partCount", "(J)I"⟩
abbrev cX2_partsClearOf : ByteArray := prog_4_method_3_code
def yX2_partsClearOf : MethodName := ⟨RX2, "partsClearOf", "(JJ)I"⟩
abbrev cX2_partAround : ByteArray := prog_4_method_4_code
def yX2_partAround : MethodName := ⟨RX2, "partAround", "(JJ)J"⟩
abbrev cX2_neighboursOf : ByteArray := prog_4_method_5_code
def yX2_neighboursOf : MethodName := ⟨RX2, "neighboursOf", "(J)J"⟩
abbrev cX2_shifted : ByteArray := prog_4_method_6_code
def yX2_shifted : MethodName := ⟨RX2, "shifted", "(II)J"⟩
abbrev cX2_columnAt : ByteArray := prog_4_method_7_code
def yX2_columnAt : MethodName := ⟨RX2, "columnAt", "(JI)I"⟩
abbrev cX2_spanOfU : ByteArray := prog_4_method_8_code
def yX2_spanOfU : MethodName := ⟨RX2, "spanOfU", "(J)I"⟩
abbrev cX2_spanOfZ : ByteArray := prog_4_method_9_code
def yX2_spanOfZ : MethodName := ⟨RX2, "spanOfZ", "(J)I"⟩
def RX3 : String := "SliceBody$Solid"
def TX3 : u_T := fun k => match k with
  | 0 => ("SliceBody$Solid", "columns", "[I", true)
  | 1 => ("SliceBody$Solid", "gains", "[I", true)
  | 2 => ("SliceBody$Solid", "wide", "I", false)
  | 3 => ("SliceBody$Solid", "deep", "I", false)
  | 4 => ("SliceBody$Solid", "high", "I", false)
  | 5 => ("SliceBody$Solid", "chosenAtX", "I", false)
  | _ => ("SliceBody$Solid", "chosenAtY", "I", false)
def tyX3 : Nat → FieldType := fun k => match k with
  | 0 => .array .int
  | 1 => .array .int
  | 2 => .int
  | 3 => .int
  | 4 => .int
  | 5 => .int
  | _ => .int
abbrev wsX30 : List Cond := u_ws RX3 TX3 7
theorem nmX3 : ∀ a, a < 7 → ∀ b, b < 7 → a ≠ b → (TX3 a).2.1 ≠ (TX3 b).2.1 := by decide +kernel
theorem tyX3_ok : ∀ k, k < 7 → parseFieldDescriptor (TX3 k).2.2.1 = some (tyX3 k) := by decide +kernel
abbrev cX3_init : ByteArray := prog_5_method_1_code
def yX3_init : MethodName := ⟨RX3, "<init>", "()V"⟩
abbrev cX3_beginAnew : ByteArray := prog_5_method_2_code
def yX3_beginAnew : MethodName := ⟨RX3, "beginAnew", "(III)V"⟩
abbrev cX3_hasColumn : ByteArray := prog_5_method_3_code
def yX3_hasColumn : MethodName := ⟨RX3, "hasColumn", "(II)Z"⟩
abbrev cX3_hasLayer : ByteArray := prog_5_method_4_code
def yX3_hasLayer : MethodName := ⟨RX3, "hasLayer", "(I)Z"⟩
abbrev cX3_hasRib : ByteArray := prog_5_method_5_code
def yX3_hasRib : MethodName := ⟨RX3, "hasRib", "(II)Z"⟩
abbrev cX3_ribCount : ByteArray := prog_5_method_6_code
def yX3_ribCount : MethodName := ⟨RX3, "ribCount", "(I)I"⟩
abbrev cX3_columnAt : ByteArray := prog_5_method_7_code
def yX3_columnAt : MethodName := ⟨RX3, "columnAt", "(II)I"⟩
abbrev cX3_changeColumn : ByteArray := prog_5_method_8_code
def yX3_changeColumn : MethodName := ⟨RX3, "changeColumn", "(IIIZ)I"⟩
abbrev cX3_cubeCount : ByteArray := prog_5_method_9_code
def yX3_cubeCount : MethodName := ⟨RX3, "cubeCount", "()I"⟩
abbrev cX3_chosenBits : ByteArray := prog_5_method_10_code
def yX3_chosenBits : MethodName := ⟨RX3, "chosenBits", "(I)I"⟩
abbrev cX3_choose : ByteArray := prog_5_method_11_code
def yX3_choose : MethodName := ⟨RX3, "choose", "(II)V"⟩
abbrev cX3_isChosen : ByteArray := prog_5_method_12_code
def yX3_isChosen : MethodName := ⟨RX3, "isChosen", "(II)Z"⟩
abbrev cX3_crossingsOf : ByteArray := prog_5_method_13_code
def yX3_crossingsOf : MethodName := ⟨RX3, "crossingsOf", "(II)I"⟩
abbrev cX3_wouldCatch : ByteArray := prog_5_method_14_code
def yX3_wouldCatch : MethodName := ⟨RX3, "wouldCatch", "(II)Z"⟩
abbrev cX3_ribColumn : ByteArray := prog_5_method_15_code
def yX3_ribColumn : MethodName := ⟨RX3, "ribColumn", "(III)I"⟩
abbrev cX3_figureOf : ByteArray := prog_5_method_16_code
def yX3_figureOf : MethodName := ⟨RX3, "figureOf", "(II)J"⟩
abbrev cX3_cutOf : ByteArray := prog_5_method_17_code
def yX3_cutOf : MethodName := ⟨RX3, "cutOf", "(II)J"⟩
abbrev cX3_chosenFigure : ByteArray := prog_5_method_18_code
def yX3_chosenFigure : MethodName := ⟨RX3, "chosenFigure", "(II)J"⟩
abbrev cX3_loosePartsOf : ByteArray := prog_5_method_19_code
def yX3_loosePartsOf : MethodName := ⟨RX3, "loosePartsOf", "(II)I"⟩
abbrev cX3_crossingsWithRun : ByteArray := prog_5_method_20_code
def yX3_crossingsWithRun : MethodName := ⟨RX3, "crossingsWithRun", "(II)I"⟩
abbrev cX3_runsInCrossings : ByteArray := prog_5_method_21_code
def yX3_runsInCrossings : MethodName := ⟨RX3, "runsInCrossings", "(II)I"⟩
abbrev cX3_cubesOfCuts : ByteArray := prog_5_method_22_code
def yX3_cubesOfCuts : MethodName := ⟨RX3, "cubesOfCuts", "()I"⟩
abbrev cX3_looseParts : ByteArray := prog_5_method_23_code
def yX3_looseParts : MethodName := ⟨RX3, "looseParts", "()I"⟩
abbrev cX3_coveredCubes : ByteArray := prog_5_method_24_code
def yX3_coveredCubes : MethodName := ⟨RX3, "coveredCubes", "()I"⟩
abbrev cX3_chooseBest : ByteArray := prog_5_method_25_code
def yX3_chooseBest : MethodName := ⟨RX3, "chooseBest", "(II)V"⟩
abbrev cX3_worthAlone : ByteArray := prog_5_method_26_code
def yX3_worthAlone : MethodName := ⟨RX3, "worthAlone", "(I)I"⟩
abbrev cX3_reckonGains : ByteArray := prog_5_method_27_code
def yX3_reckonGains : MethodName := ⟨RX3, "reckonGains", "(I)V"⟩
abbrev cX3_greatestGains : ByteArray := prog_5_method_28_code
def yX3_greatestGains : MethodName := ⟨RX3, "greatestGains", "(I)I"⟩
abbrev cX3_sumOfGains : ByteArray := prog_5_method_29_code
def yX3_sumOfGains : MethodName := ⟨RX3, "sumOfGains", "(I)I"⟩
def RX4 : String := "SliceBody"
def TX4 : u_T := fun k => match k with
  | 0 => ("SliceBody", "solid", "LSliceBody$Solid;", true)
  | _ => ("SliceBody", "boards", "LSliceBody$Boards;", true)
def tyX4 : Nat → FieldType := fun k => match k with
  | 0 => .object "SliceBody$Solid"
  | _ => .object "SliceBody$Boards"
abbrev wsX40 : List Cond := u_ws RX4 TX4 2
theorem nmX4 : ∀ a, a < 2 → ∀ b, b < 2 → a ≠ b → (TX4 a).2.1 ≠ (TX4 b).2.1 := by decide +kernel
theorem tyX4_ok : ∀ k, k < 2 → parseFieldDescriptor (TX4 k).2.2.1 = some (tyX4 k) := by decide +kernel
abbrev cX4_init : ByteArray := prog_1_method_1_code
def yX4_init : MethodName := ⟨RX4, "<init>", "()V"⟩
abbrev cX4_space : ByteArray := prog_1_method_2_code
def yX4_space : MethodName := ⟨RX4, "space", "(III)I"⟩
abbrev cX4_box : ByteArray := prog_1_method_3_code
def yX4_box : MethodName := ⟨RX4, "box", "(IIIIIIZ)I"⟩
abbrev cX4_at : ByteArray := prog_1_method_4_code
def yX4_at : MethodName := ⟨RX4, "at", "(III)I"⟩
abbrev cX4_rib : ByteArray := prog_1_method_5_code
def yX4_rib : MethodName := ⟨RX4, "rib", "(IIZ)I"⟩
abbrev cX4_ribs : ByteArray := prog_1_method_6_code
def yX4_ribs : MethodName := ⟨RX4, "ribs", "(II)I"⟩
abbrev cX4_figure : ByteArray := prog_1_method_7_code
def yX4_figure : MethodName := ⟨RX4, "figure", "(IIIIZ)I"⟩
abbrev cX4_about : ByteArray := prog_1_method_8_code
def yX4_about : MethodName := ⟨RX4, "about", "(III)I"⟩
abbrev cX4_caught : ByteArray := prog_1_method_9_code
def yX4_caught : MethodName := ⟨RX4, "caught", "(I)I"⟩
abbrev cX4_run : ByteArray := prog_1_method_10_code
def yX4_run : MethodName := ⟨RX4, "run", "(III)I"⟩
abbrev cX4_cover : ByteArray := prog_1_method_11_code
def yX4_cover : MethodName := ⟨RX4, "cover", "()I"⟩
abbrev cX4_best : ByteArray := prog_1_method_12_code
def yX4_best : MethodName := ⟨RX4, "best", "(II)I"⟩
abbrev cX4_told : ByteArray := prog_1_method_13_code
def yX4_told : MethodName := ⟨RX4, "told", "(I)I"⟩
abbrev cX4_lay : ByteArray := prog_1_method_14_code
def yX4_lay : MethodName := ⟨RX4, "lay", "(III)I"⟩
abbrev cX4_laid : ByteArray := prog_1_method_15_code
def yX4_laid : MethodName := ⟨RX4, "laid", "(II)I"⟩
abbrev cX4_least : ByteArray := prog_1_method_16_code
def yX4_least : MethodName := ⟨RX4, "least", "()I"⟩
abbrev cX4_isSize : ByteArray := prog_1_method_17_code
def yX4_isSize : MethodName := ⟨RX4, "isSize", "(I)Z"⟩
abbrev cX4_isCorner : ByteArray := prog_1_method_18_code
def yX4_isCorner : MethodName := ⟨RX4, "isCorner", "(I)Z"⟩
abbrev cX4_asNumber : ByteArray := prog_1_method_19_code
def yX4_asNumber : MethodName := ⟨RX4, "asNumber", "(Z)I"⟩
abbrev cX4_allFitInto : ByteArray := prog_1_method_20_code
def yX4_allFitInto : MethodName := ⟨RX4, "allFitInto", "(II)Z"⟩
def RX5 : String := "SliceBodyModel"
def TX5 : u_T := fun k => match k with
  | 0 => ("SliceBodyModel", "wideX", "I", false)
  | 1 => ("SliceBodyModel", "wideY", "I", false)
  | 2 => ("SliceBodyModel", "wideZ", "I", false)
  | 3 => ("SliceBodyModel", "cubes", "[Z", true)
  | 4 => ("SliceBodyModel", "chosen", "[I", true)
  | 5 => ("SliceBodyModel", "isLaid", "Z", false)
  | 6 => ("SliceBodyModel", "begins", "[I", true)
  | 7 => ("SliceBodyModel", "long0", "[I", true)
  | 8 => ("SliceBodyModel", "part", "[I", true)
  | 9 => ("SliceBodyModel", "partMany", "I", false)
  | 10 => ("SliceBodyModel", "cubeMany", "I", false)
  | 11 => ("SliceBodyModel", "column", "[I", true)
  | 12 => ("SliceBodyModel", "runsIn", "[I", true)
  | 13 => ("SliceBodyModel", "rows", "[I", true)
  | 14 => ("SliceBodyModel", "laidMany", "I", false)
  | 15 => ("SliceBodyModel", "leastMany", "I", false)
  | _ => ("SliceBodyModel", "aside", "[I", true)
def tyX5 : Nat → FieldType := fun k => match k with
  | 0 => .int
  | 1 => .int
  | 2 => .int
  | 3 => .array .boolean
  | 4 => .array .int
  | 5 => .boolean
  | 6 => .array .int
  | 7 => .array .int
  | 8 => .array .int
  | 9 => .int
  | 10 => .int
  | 11 => .array .int
  | 12 => .array .int
  | 13 => .array .int
  | 14 => .int
  | 15 => .int
  | _ => .array .int
abbrev wsX50 : List Cond := u_ws RX5 TX5 17
theorem nmX5 : ∀ a, a < 17 → ∀ b, b < 17 → a ≠ b → (TX5 a).2.1 ≠ (TX5 b).2.1 := by decide +kernel
theorem tyX5_ok : ∀ k, k < 17 → parseFieldDescriptor (TX5 k).2.2.1 = some (tyX5 k) := by decide +kernel
abbrev cX5_init : ByteArray := prog_7_method_1_code
def yX5_init : MethodName := ⟨RX5, "<init>", "()V"⟩
abbrev cX5_in : ByteArray := prog_7_method_3_code
def yX5_in : MethodName := ⟨RX5, "in", "(JJJ)Z"⟩
abbrev cX5_has : ByteArray := prog_7_method_4_code
def yX5_has : MethodName := ⟨RX5, "has", "(III)Z"⟩
abbrev cX5_isPlace : ByteArray := prog_7_method_5_code
def yX5_isPlace : MethodName := ⟨RX5, "isPlace", "(III)Z"⟩
abbrev cX5_space : ByteArray := prog_7_method_6_code
def yX5_space : MethodName := ⟨RX5, "space", "(III)I"⟩
abbrev cX5_box : ByteArray := prog_7_method_7_code
def yX5_box : MethodName := ⟨RX5, "box", "(IIIIIIZ)I"⟩
abbrev cX5_at : ByteArray := prog_7_method_8_code
def yX5_at : MethodName := ⟨RX5, "at", "(III)I"⟩
abbrev cX5_places : ByteArray := prog_7_method_9_code
def yX5_places : MethodName := ⟨RX5, "places", "(I)I"⟩
abbrev cX5_isRib : ByteArray := prog_7_method_10_code
def yX5_isRib : MethodName := ⟨RX5, "isRib", "(II)Z"⟩
abbrev cX5_isChosen : ByteArray := prog_7_method_11_code
def yX5_isChosen : MethodName := ⟨RX5, "isChosen", "(II)Z"⟩
abbrev cX5_rib : ByteArray := prog_7_method_12_code
def yX5_rib : MethodName := ⟨RX5, "rib", "(IIZ)I"⟩
abbrev cX5_ribs : ByteArray := prog_7_method_13_code
def yX5_ribs : MethodName := ⟨RX5, "ribs", "(II)I"⟩
abbrev cX5_hasIn : ByteArray := prog_7_method_14_code
def yX5_hasIn : MethodName := ⟨RX5, "hasIn", "(IIII)Z"⟩
abbrev cX5_findRuns : ByteArray := prog_7_method_15_code
def yX5_findRuns : MethodName := ⟨RX5, "findRuns", "(II)I"⟩
abbrev cX5_loses : ByteArray := prog_7_method_16_code
def yX5_loses : MethodName := ⟨RX5, "loses", "(IIII)Z"⟩
abbrev cX5_isIn : ByteArray := prog_7_method_17_code
def yX5_isIn : MethodName := ⟨RX5, "isIn", "(IIIIZ)Z"⟩
abbrev cX5_figure : ByteArray := prog_7_method_18_code
def yX5_figure : MethodName := ⟨RX5, "figure", "(IIIIZ)I"⟩
abbrev cX5_findParts : ByteArray := prog_7_method_19_code
def yX5_findParts : MethodName := ⟨RX5, "findParts", "(IIZ)V"⟩
abbrev cX5_meet : ByteArray := prog_7_method_20_code
def yX5_meet : MethodName := ⟨RX5, "meet", "(II)Z"⟩
abbrev cX5_looseOf : ByteArray := prog_7_method_21_code
def yX5_looseOf : MethodName := ⟨RX5, "looseOf", "(II)I"⟩
abbrev cX5_crossings : ByteArray := prog_7_method_22_code
def yX5_crossings : MethodName := ⟨RX5, "crossings", "(IIZ)I"⟩
abbrev cX5_spanOf : ByteArray := prog_7_method_23_code
def yX5_spanOf : MethodName := ⟨RX5, "spanOf", "(III)I"⟩
abbrev cX5_about : ByteArray := prog_7_method_24_code
def yX5_about : MethodName := ⟨RX5, "about", "(III)I"⟩
abbrev cX5_caught : ByteArray := prog_7_method_25_code
def yX5_caught : MethodName := ⟨RX5, "caught", "(I)I"⟩
abbrev cX5_run : ByteArray := prog_7_method_26_code
def yX5_run : MethodName := ⟨RX5, "run", "(III)I"⟩
abbrev cX5_highOf : ByteArray := prog_7_method_27_code
def yX5_highOf : MethodName := ⟨RX5, "highOf", "(II)I"⟩
abbrev cX5_coverOf : ByteArray := prog_7_method_28_code
def yX5_coverOf : MethodName := ⟨RX5, "coverOf", "(II)I"⟩
abbrev cX5_caughtOf : ByteArray := prog_7_method_29_code
def yX5_caughtOf : MethodName := ⟨RX5, "caughtOf", "(II)I"⟩
abbrev cX5_lookAtColumns : ByteArray := prog_7_method_30_code
def yX5_lookAtColumns : MethodName := ⟨RX5, "lookAtColumns", "()V"⟩
abbrev cX5_cover : ByteArray := prog_7_method_31_code
def yX5_cover : MethodName := ⟨RX5, "cover", "()I"⟩
abbrev cX5_ones : ByteArray := prog_7_method_32_code
def yX5_ones : MethodName := ⟨RX5, "ones", "(I)I"⟩
abbrev cX5_best : ByteArray := prog_7_method_33_code
def yX5_best : MethodName := ⟨RX5, "best", "(II)I"⟩
abbrev cX5_told : ByteArray := prog_7_method_34_code
def yX5_told : MethodName := ⟨RX5, "told", "(I)I"⟩
abbrev cX5_isAhead : ByteArray := prog_7_method_35_code
def yX5_isAhead : MethodName := ⟨RX5, "isAhead", "(II)Z"⟩
abbrev cX5_exchange : ByteArray := prog_7_method_36_code
def yX5_exchange : MethodName := ⟨RX5, "exchange", "(II)V"⟩
abbrev cX5_gather : ByteArray := prog_7_method_37_code
def yX5_gather : MethodName := ⟨RX5, "gather", "(I)I"⟩
abbrev cX5_lay : ByteArray := prog_7_method_38_code
def yX5_lay : MethodName := ⟨RX5, "lay", "(III)I"⟩
abbrev cX5_laid : ByteArray := prog_7_method_39_code
def yX5_laid : MethodName := ⟨RX5, "laid", "(II)I"⟩
abbrev cX5_least : ByteArray := prog_7_method_40_code
def yX5_least : MethodName := ⟨RX5, "least", "()I"⟩
def RJ6 : String := "java/lang/Integer"
def TJ6 : u_T := fun k => match k with
  | _ => ("", "", "", false)
def tyJ6 : Nat → FieldType := fun k => match k with
  | _ => .int
abbrev wsJ60 : List Cond := u_ws RJ6 TJ6 0
theorem nmJ6 : ∀ a, a < 0 → ∀ b, b < 0 → a ≠ b → (TJ6 a).2.1 ≠ (TJ6 b).2.1 := by decide +kernel
theorem tyJ6_ok : ∀ k, k < 0 → parseFieldDescriptor (TJ6 k).2.2.1 = some (tyJ6 k) := by decide +kernel
abbrev cJ6_bitCount_0f7a4 : ByteArray := prog_8_method_49_code
def yJ6_bitCount_0f7a4 : MethodName := ⟨RJ6, "bitCount", "(I)I"⟩
def RJ13 : String := "java/lang/Long"
def TJ13 : u_T := fun k => match k with
  | _ => ("", "", "", false)
def tyJ13 : Nat → FieldType := fun k => match k with
  | _ => .int
abbrev wsJ130 : List Cond := u_ws RJ13 TJ13 0
theorem nmJ13 : ∀ a, a < 0 → ∀ b, b < 0 → a ≠ b → (TJ13 a).2.1 ≠ (TJ13 b).2.1 := by decide +kernel
theorem tyJ13_ok : ∀ k, k < 0 → parseFieldDescriptor (TJ13 k).2.2.1 = some (tyJ13 k) := by decide +kernel
abbrev cJ13_bitCount_95d88 : ByteArray := prog_9_method_50_code
def yJ13_bitCount_95d88 : MethodName := ⟨RJ13, "bitCount", "(J)I"⟩
def RJ9 : String := "java/lang/Math"
def TJ9 : u_T := fun k => match k with
  | _ => ("", "", "", false)
def tyJ9 : Nat → FieldType := fun k => match k with
  | _ => .int
abbrev wsJ90 : List Cond := u_ws RJ9 TJ9 0
theorem nmJ9 : ∀ a, a < 0 → ∀ b, b < 0 → a ≠ b → (TJ9 a).2.1 ≠ (TJ9 b).2.1 := by decide +kernel
theorem tyJ9_ok : ∀ k, k < 0 → parseFieldDescriptor (TJ9 k).2.2.1 = some (tyJ9 k) := by decide +kernel
abbrev cJ9_max_7cf53 : ByteArray := prog_10_method_65_code
def yJ9_max_7cf53 : MethodName := ⟨RJ9, "max", "(II)I"⟩
abbrev cJ9_min_7cf53 : ByteArray := prog_10_method_69_code
def yJ9_min_7cf53 : MethodName := ⟨RJ9, "min", "(II)I"⟩
def RJ10 : String := "java/lang/System"
def TJ10 : u_T := fun k => match k with
  | _ => ("", "", "", false)
def tyJ10 : Nat → FieldType := fun k => match k with
  | _ => .int
abbrev wsJ100 : List Cond := u_ws RJ10 TJ10 0
theorem nmJ10 : ∀ a, a < 0 → ∀ b, b < 0 → a ≠ b → (TJ10 a).2.1 ≠ (TJ10 b).2.1 := by decide +kernel
theorem tyJ10_ok : ∀ k, k < 0 → parseFieldDescriptor (TJ10 k).2.2.1 = some (tyJ10 k) := by decide +kernel
def RL : String := "SliceBodyLaw"
abbrev cL_law : ByteArray := code
def yL_law : MethodName := ⟨RL, "law", "([I)Z"⟩
def wsX0_init : List Cond := .code yX0_init cX0_init 1 none :: ([.methodLink RX0 3 objectInit, .instanceMethod objectInit, .code objectInit ⟨#[0xb1]⟩ 1 none, .arrayClass .int, .fieldLink RX0 11 "SliceBody$Boards" "facts" "[I"] ++ wsX00)
def wsX0_forget : List Cond := .code yX0_forget cX0_forget 1 none :: ([.fieldLink RX0 15 "SliceBody$Boards" "known" "Z"] ++ wsX00)
def wsX0_clear : List Cond := .code yX0_clear cX0_clear 1 none :: ([.fieldLink RX0 19 "SliceBody$Boards" "count" "I"] ++ wsX00)
def wsX0_hasFact : List Cond := .code yX0_hasFact cX0_hasFact 2 (some .boolean) :: ([])
def wsX0_fact : List Cond := .code yX0_fact cX0_fact 3 (some .int) :: ([.fieldLink RX0 11 "SliceBody$Boards" "facts" "[I", .methodLink RX0 23 yX0_hasFact, .static yX0_hasFact, .initialized RX0, .code yX0_hasFact cX0_hasFact 2 (some .boolean)] ++ wsX00)
def wsX0_note : List Cond := .code yX0_note cX0_note 4 none :: ([.fieldLink RX0 11 "SliceBody$Boards" "facts" "[I", .methodLink RX0 23 yX0_hasFact, .static yX0_hasFact, .initialized RX0, .code yX0_hasFact cX0_hasFact 2 (some .boolean)] ++ wsX00)
def wsX0_isLess : List Cond := .code yX0_isLess cX0_isLess 5 (some .boolean) :: ([.methodLink RX0 41 yX0_fact, .instanceMethod yX0_fact, .selects RX0 yX0_fact yX0_fact, .initialized RX0, .code yX0_fact cX0_fact 3 (some .int), .fieldLink RX0 11 "SliceBody$Boards" "facts" "[I", .methodLink RX0 23 yX0_hasFact, .static yX0_hasFact, .code yX0_hasFact cX0_hasFact 2 (some .boolean)] ++ wsX00)
def wsX0_add : List Cond := .code yX0_add cX0_add 6 none :: ([.fieldLink RX0 19 "SliceBody$Boards" "count" "I", .fieldLink RX0 11 "SliceBody$Boards" "facts" "[I", .methodLink RX0 31 arraycopyName, .native arraycopyName, .static arraycopyName, .initialized "java/lang/System", .methodLink RX0 27 yX0_isLess, .instanceMethod yX0_isLess, .selects RX0 yX0_isLess yX0_isLess, .initialized RX0, .code yX0_isLess cX0_isLess 5 (some .boolean), .methodLink RX0 41 yX0_fact, .instanceMethod yX0_fact, .selects RX0 yX0_fact yX0_fact, .code yX0_fact cX0_fact 3 (some .int), .methodLink RX0 23 yX0_hasFact, .static yX0_hasFact, .code yX0_hasFact cX0_hasFact 2 (some .boolean), .methodLink RX0 37 yX0_note, .instanceMethod yX0_note, .selects RX0 yX0_note yX0_note, .code yX0_note cX0_note 4 none] ++ wsX00)
def wsX0_quotientCutUp : List Cond := .code yX0_quotientCutUp cX0_quotientCutUp 2 (some .int) :: ([])
def wsX0_layInRows : List Cond := .code yX0_layInRows cX0_layInRows 11 none :: ([.fieldLink RX0 19 "SliceBody$Boards" "count" "I", .fieldLink RX0 45 "SliceBody$Boards" "boardCount" "I", .fieldLink RX0 51 "SliceBody$Boards" "fewest" "I", .fieldLink RX0 15 "SliceBody$Boards" "known" "Z", .methodLink RX0 41 yX0_fact, .instanceMethod yX0_fact, .selects RX0 yX0_fact yX0_fact, .initialized RX0, .code yX0_fact cX0_fact 3 (some .int), .fieldLink RX0 11 "SliceBody$Boards" "facts" "[I", .methodLink RX0 23 yX0_hasFact, .static yX0_hasFact, .code yX0_hasFact cX0_hasFact 2 (some .boolean), .methodLink RX0 37 yX0_note, .instanceMethod yX0_note, .selects RX0 yX0_note yX0_note, .code yX0_note cX0_note 4 none, .methodLink RX0 48 yX0_quotientCutUp, .static yX0_quotientCutUp, .code yX0_quotientCutUp cX0_quotientCutUp 2 (some .int)] ++ wsX00)
def wsX1_hasBit : List Cond := .code yX1_hasBit cX1_hasBit 2 (some .boolean) :: ([])
def wsX1_bitsBetween : List Cond := .code yX1_bitsBetween cX1_bitsBetween 4 (some .int) :: ([.methodLink RX1 11 Lib.Math.max.name, .static Lib.Math.max.name, .initialized "java/lang/Math", .code Lib.Math.max.name Lib.Math.max.code 2 (some .int), .methodLink RX1 17 Lib.Math.min.name, .static Lib.Math.min.name, .code Lib.Math.min.name Lib.Math.min.code 2 (some .int)])
def wsX1_beginsRun : List Cond := .code yX1_beginsRun cX1_beginsRun 2 (some .boolean) :: ([.methodLink RX1 20 yX1_hasBit, .static yX1_hasBit, .initialized RX1, .code yX1_hasBit cX1_hasBit 2 (some .boolean)])
def wsJ6_bitCount_0f7a4 : List Cond := .code yJ6_bitCount_0f7a4 cJ6_bitCount_0f7a4 1 (some .int) :: ([.constant RJ6 265 (1431655765), .constant RJ6 266 (858993459), .constant RJ6 267 (252645135)])
def wsX1_runCount : List Cond := .code yX1_runCount cX1_runCount 1 (some .int) :: ([.methodLink RX1 24 yJ6_bitCount_0f7a4, .static yJ6_bitCount_0f7a4, .initialized RJ6, .code yJ6_bitCount_0f7a4 cJ6_bitCount_0f7a4 1 (some .int), .constant RJ6 265 (1431655765), .constant RJ6 266 (858993459), .constant RJ6 267 (252645135)])
def wsX1_runLength : List Cond := .code yX1_runLength cX1_runLength 3 (some .int) :: ([.methodLink RX1 20 yX1_hasBit, .static yX1_hasBit, .initialized RX1, .code yX1_hasBit cX1_hasBit 2 (some .boolean)])
def wsX1_upperHalves : List Cond := .code yX1_upperHalves cX1_upperHalves 4 (some .int) :: ([.methodLink RX1 30 yX1_beginsRun, .static yX1_beginsRun, .initialized RX1, .code yX1_beginsRun cX1_beginsRun 2 (some .boolean), .methodLink RX1 20 yX1_hasBit, .static yX1_hasBit, .code yX1_hasBit cX1_hasBit 2 (some .boolean), .methodLink RX1 33 yX1_runLength, .static yX1_runLength, .code yX1_runLength cX1_runLength 3 (some .int), .methodLink RX1 36 yX1_bitsBetween, .static yX1_bitsBetween, .code yX1_bitsBetween cX1_bitsBetween 4 (some .int), .methodLink RX1 11 Lib.Math.max.name, .static Lib.Math.max.name, .initialized "java/lang/Math", .code Lib.Math.max.name Lib.Math.max.code 2 (some .int), .methodLink RX1 17 Lib.Math.min.name, .static Lib.Math.min.name, .code Lib.Math.min.name Lib.Math.min.code 2 (some .int)])
def wsX1_span : List Cond := .code yX1_span cX1_span 4 (some .int) :: ([.methodLink RX1 20 yX1_hasBit, .static yX1_hasBit, .initialized RX1, .code yX1_hasBit cX1_hasBit 2 (some .boolean)])
def wsX2_neighboursOf : List Cond := .code yX2_neighboursOf cX2_neighboursOf 6 (some .long) :: ([.constantLong RX2 23 (9187201950435737471), .constantLong RX2 25 (-72340172838076674)])
def wsX2_partAround : List Cond := .code yX2_partAround cX2_partAround 9 (some .long) :: ([.methodLink RX2 19 yX2_neighboursOf, .static yX2_neighboursOf, .initialized RX2, .code yX2_neighboursOf cX2_neighboursOf 6 (some .long), .constantLong RX2 23 (9187201950435737471), .constantLong RX2 25 (-72340172838076674)])
def wsX2_partsClearOf : List Cond := .code yX2_partsClearOf cX2_partsClearOf 10 (some .int) :: ([.constantLong RX2 17 (-1), .methodLink RX2 13 yX2_partAround, .static yX2_partAround, .initialized RX2, .code yX2_partAround cX2_partAround 9 (some .long), .methodLink RX2 19 yX2_neighboursOf, .static yX2_neighboursOf, .code yX2_neighboursOf cX2_neighboursOf 6 (some .long), .constantLong RX2 23 (9187201950435737471), .constantLong RX2 25 (-72340172838076674)])
def wsX2_partCount : List Cond := .code yX2_partCount cX2_partCount 2 (some .int) :: ([.methodLink RX2 9 yX2_partsClearOf, .static yX2_partsClearOf, .initialized RX2, .code yX2_partsClearOf cX2_partsClearOf 10 (some .int), .constantLong RX2 17 (-1), .methodLink RX2 13 yX2_partAround, .static yX2_partAround, .code yX2_partAround cX2_partAround 9 (some .long), .methodLink RX2 19 yX2_neighboursOf, .static yX2_neighboursOf, .code yX2_neighboursOf cX2_neighboursOf 6 (some .long), .constantLong RX2 23 (9187201950435737471), .constantLong RX2 25 (-72340172838076674)])
def wsX2_shifted : List Cond := .code yX2_shifted cX2_shifted 2 (some .long) :: ([])
def wsX2_columnAt : List Cond := .code yX2_columnAt cX2_columnAt 3 (some .int) :: ([])
def wsX2_spanOfU : List Cond := .code yX2_spanOfU cX2_spanOfU 4 (some .int) :: ([.methodLink RX2 29 yX2_columnAt, .static yX2_columnAt, .initialized RX2, .code yX2_columnAt cX2_columnAt 3 (some .int), .methodLink RX2 33 yX1_span, .static yX1_span, .initialized RX1, .code yX1_span cX1_span 4 (some .int), .methodLink RX1 20 yX1_hasBit, .static yX1_hasBit, .code yX1_hasBit cX1_hasBit 2 (some .boolean)])
def wsX2_spanOfZ : List Cond := .code yX2_spanOfZ cX2_spanOfZ 4 (some .int) :: ([.methodLink RX2 29 yX2_columnAt, .static yX2_columnAt, .initialized RX2, .code yX2_columnAt cX2_columnAt 3 (some .int), .methodLink RX2 33 yX1_span, .static yX1_span, .initialized RX1, .code yX1_span cX1_span 4 (some .int), .methodLink RX1 20 yX1_hasBit, .static yX1_hasBit, .code yX1_hasBit cX1_hasBit 2 (some .boolean)])
def wsX3_init : List Cond := .code yX3_init cX3_init 1 none :: ([.methodLink RX3 3 objectInit, .instanceMethod objectInit, .code objectInit ⟨#[0xb1]⟩ 1 none, .arrayClass .int, .fieldLink RX3 11 "SliceBody$Solid" "columns" "[I", .fieldLink RX3 15 "SliceBody$Solid" "gains" "[I", .fieldLink RX3 18 "SliceBody$Solid" "wide" "I", .fieldLink RX3 22 "SliceBody$Solid" "deep" "I", .fieldLink RX3 25 "SliceBody$Solid" "high" "I"] ++ wsX30)
def wsX3_beginAnew : List Cond := .code yX3_beginAnew cX3_beginAnew 5 none :: ([.fieldLink RX3 11 "SliceBody$Solid" "columns" "[I", .fieldLink RX3 18 "SliceBody$Solid" "wide" "I", .fieldLink RX3 22 "SliceBody$Solid" "deep" "I", .fieldLink RX3 25 "SliceBody$Solid" "high" "I", .fieldLink RX3 28 "SliceBody$Solid" "chosenAtX" "I", .fieldLink RX3 31 "SliceBody$Solid" "chosenAtY" "I"] ++ wsX30)
def wsX3_hasColumn : List Cond := .code yX3_hasColumn cX3_hasColumn 3 (some .boolean) :: ([.fieldLink RX3 18 "SliceBody$Solid" "wide" "I", .fieldLink RX3 22 "SliceBody$Solid" "deep" "I"] ++ wsX30)
def wsX3_hasLayer : List Cond := .code yX3_hasLayer cX3_hasLayer 2 (some .boolean) :: ([.fieldLink RX3 25 "SliceBody$Solid" "high" "I"] ++ wsX30)
def wsX3_ribCount : List Cond := .code yX3_ribCount cX3_ribCount 2 (some .int) :: ([.fieldLink RX3 18 "SliceBody$Solid" "wide" "I", .fieldLink RX3 22 "SliceBody$Solid" "deep" "I"] ++ wsX30)
def wsX3_hasRib : List Cond := .code yX3_hasRib cX3_hasRib 3 (some .boolean) :: ([.methodLink RX3 34 yX3_ribCount, .instanceMethod yX3_ribCount, .selects RX3 yX3_ribCount yX3_ribCount, .initialized RX3, .code yX3_ribCount cX3_ribCount 2 (some .int), .fieldLink RX3 18 "SliceBody$Solid" "wide" "I", .fieldLink RX3 22 "SliceBody$Solid" "deep" "I"] ++ wsX30)
def wsX3_columnAt : List Cond := .code yX3_columnAt cX3_columnAt 3 (some .int) :: ([.fieldLink RX3 11 "SliceBody$Solid" "columns" "[I", .methodLink RX3 38 yX3_hasColumn, .instanceMethod yX3_hasColumn, .selects RX3 yX3_hasColumn yX3_hasColumn, .initialized RX3, .code yX3_hasColumn cX3_hasColumn 3 (some .boolean), .fieldLink RX3 18 "SliceBody$Solid" "wide" "I", .fieldLink RX3 22 "SliceBody$Solid" "deep" "I"] ++ wsX30)
def wsX3_changeColumn : List Cond := .code yX3_changeColumn cX3_changeColumn 7 (some .int) :: ([.fieldLink RX3 11 "SliceBody$Solid" "columns" "[I", .methodLink RX3 38 yX3_hasColumn, .instanceMethod yX3_hasColumn, .selects RX3 yX3_hasColumn yX3_hasColumn, .initialized RX3, .code yX3_hasColumn cX3_hasColumn 3 (some .boolean), .fieldLink RX3 18 "SliceBody$Solid" "wide" "I", .fieldLink RX3 22 "SliceBody$Solid" "deep" "I", .methodLink RX3 42 yX3_columnAt, .instanceMethod yX3_columnAt, .selects RX3 yX3_columnAt yX3_columnAt, .code yX3_columnAt cX3_columnAt 3 (some .int), .methodLink RX3 46 yJ6_bitCount_0f7a4, .static yJ6_bitCount_0f7a4, .initialized RJ6, .code yJ6_bitCount_0f7a4 cJ6_bitCount_0f7a4 1 (some .int), .constant RJ6 265 (1431655765), .constant RJ6 266 (858993459), .constant RJ6 267 (252645135)] ++ wsX30)
def wsX3_cubeCount : List Cond := .code yX3_cubeCount cX3_cubeCount 6 (some .int) :: ([.fieldLink RX3 11 "SliceBody$Solid" "columns" "[I", .methodLink RX3 46 yJ6_bitCount_0f7a4, .static yJ6_bitCount_0f7a4, .initialized RJ6, .code yJ6_bitCount_0f7a4 cJ6_bitCount_0f7a4 1 (some .int), .constant RJ6 265 (1431655765), .constant RJ6 266 (858993459), .constant RJ6 267 (252645135)] ++ wsX30)
def wsX3_chosenBits : List Cond := .code yX3_chosenBits cX3_chosenBits 2 (some .int) :: ([.fieldLink RX3 28 "SliceBody$Solid" "chosenAtX" "I", .fieldLink RX3 31 "SliceBody$Solid" "chosenAtY" "I"] ++ wsX30)
def wsX3_choose : List Cond := .code yX3_choose cX3_choose 3 none :: ([.fieldLink RX3 28 "SliceBody$Solid" "chosenAtX" "I", .fieldLink RX3 31 "SliceBody$Solid" "chosenAtY" "I"] ++ wsX30)
def wsX3_isChosen : List Cond := .code yX3_isChosen cX3_isChosen 3 (some .boolean) :: ([.methodLink RX3 51 yX3_chosenBits, .instanceMethod yX3_chosenBits, .selects RX3 yX3_chosenBits yX3_chosenBits, .initialized RX3, .code yX3_chosenBits cX3_chosenBits 2 (some .int), .fieldLink RX3 28 "SliceBody$Solid" "chosenAtX" "I", .fieldLink RX3 31 "SliceBody$Solid" "chosenAtY" "I", .methodLink RX3 54 yX1_hasBit, .static yX1_hasBit, .initialized RX1, .code yX1_hasBit cX1_hasBit 2 (some .boolean)] ++ wsX30)
def wsX3_crossingsOf : List Cond := .code yX3_crossingsOf cX3_crossingsOf 3 (some .int) :: ([.methodLink RX3 57 yX3_isChosen, .instanceMethod yX3_isChosen, .selects RX3 yX3_isChosen yX3_isChosen, .initialized RX3, .code yX3_isChosen cX3_isChosen 3 (some .boolean), .methodLink RX3 51 yX3_chosenBits, .instanceMethod yX3_chosenBits, .selects RX3 yX3_chosenBits yX3_chosenBits, .code yX3_chosenBits cX3_chosenBits 2 (some .int), .fieldLink RX3 28 "SliceBody$Solid" "chosenAtX" "I", .fieldLink RX3 31 "SliceBody$Solid" "chosenAtY" "I", .methodLink RX3 54 yX1_hasBit, .static yX1_hasBit, .initialized RX1, .code yX1_hasBit cX1_hasBit 2 (some .boolean)] ++ wsX30)
def wsX3_wouldCatch : List Cond := .code yX3_wouldCatch cX3_wouldCatch 3 (some .boolean) :: ([.methodLink RX3 42 yX3_columnAt, .instanceMethod yX3_columnAt, .selects RX3 yX3_columnAt yX3_columnAt, .initialized RX3, .code yX3_columnAt cX3_columnAt 3 (some .int), .fieldLink RX3 11 "SliceBody$Solid" "columns" "[I", .methodLink RX3 38 yX3_hasColumn, .instanceMethod yX3_hasColumn, .selects RX3 yX3_hasColumn yX3_hasColumn, .code yX3_hasColumn cX3_hasColumn 3 (some .boolean), .fieldLink RX3 18 "SliceBody$Solid" "wide" "I", .fieldLink RX3 22 "SliceBody$Solid" "deep" "I", .methodLink RX3 60 yX1_runCount, .static yX1_runCount, .initialized RX1, .code yX1_runCount cX1_runCount 1 (some .int), .methodLink RX1 24 yJ6_bitCount_0f7a4, .static yJ6_bitCount_0f7a4, .initialized RJ6, .code yJ6_bitCount_0f7a4 cJ6_bitCount_0f7a4 1 (some .int), .constant RJ6 265 (1431655765), .constant RJ6 266 (858993459), .constant RJ6 267 (252645135)] ++ wsX30)
def wsX3_ribColumn : List Cond := .code yX3_ribColumn cX3_ribColumn 4 (some .int) :: ([.methodLink RX3 42 yX3_columnAt, .instanceMethod yX3_columnAt, .selects RX3 yX3_columnAt yX3_columnAt, .initialized RX3, .code yX3_columnAt cX3_columnAt 3 (some .int), .fieldLink RX3 11 "SliceBody$Solid" "columns" "[I", .methodLink RX3 38 yX3_hasColumn, .instanceMethod yX3_hasColumn, .selects RX3 yX3_hasColumn yX3_hasColumn, .code yX3_hasColumn cX3_hasColumn 3 (some .boolean), .fieldLink RX3 18 "SliceBody$Solid" "wide" "I", .fieldLink RX3 22 "SliceBody$Solid" "deep" "I"] ++ wsX30)
def wsX3_figureOf : List Cond := .code yX3_figureOf cX3_figureOf 6 (some .long) :: ([.methodLink RX3 34 yX3_ribCount, .instanceMethod yX3_ribCount, .selects RX3 yX3_ribCount yX3_ribCount, .initialized RX3, .code yX3_ribCount cX3_ribCount 2 (some .int), .fieldLink RX3 18 "SliceBody$Solid" "wide" "I", .fieldLink RX3 22 "SliceBody$Solid" "deep" "I", .methodLink RX3 63 yX3_ribColumn, .instanceMethod yX3_ribColumn, .selects RX3 yX3_ribColumn yX3_ribColumn, .code yX3_ribColumn cX3_ribColumn 4 (some .int), .methodLink RX3 42 yX3_columnAt, .instanceMethod yX3_columnAt, .selects RX3 yX3_columnAt yX3_columnAt, .code yX3_columnAt cX3_columnAt 3 (some .int), .fieldLink RX3 11 "SliceBody$Solid" "columns" "[I", .methodLink RX3 38 yX3_hasColumn, .instanceMethod yX3_hasColumn, .selects RX3 yX3_hasColumn yX3_hasColumn, .code yX3_hasColumn cX3_hasColumn 3 (some .boolean), .methodLink RX3 67 yX2_shifted, .static yX2_shifted, .initialized RX2, .code yX2_shifted cX2_shifted 2 (some .long)] ++ wsX30)
def wsX3_cutOf_r1 : List Cond := [Cond.methodLink RX3 73 yX3_crossingsOf, Cond.instanceMethod yX3_crossingsOf, Cond.selects RX3 yX3_crossingsOf yX3_crossingsOf, Cond.initialized RX3, Cond.code yX3_crossingsOf cX3_crossingsOf 3 (some .int), Cond.methodLink RX3 57 yX3_isChosen, Cond.instanceMethod yX3_isChosen, Cond.selects RX3 yX3_isChosen yX3_isChosen, Cond.code yX3_isChosen cX3_isChosen 3 (some .boolean), Cond.methodLink RX3 51 yX3_chosenBits, Cond.instanceMethod yX3_chosenBits, Cond.selects RX3 yX3_chosenBits yX3_chosenBits, Cond.code yX3_chosenBits cX3_chosenBits 2 (some .int), Cond.fieldLink RX3 28 "SliceBody$Solid" "chosenAtX" "I", Cond.fieldLink RX3 31 "SliceBody$Solid" "chosenAtY" "I", Cond.methodLink RX3 54 yX1_hasBit, Cond.static yX1_hasBit, Cond.initialized RX1, Cond.code yX1_hasBit cX1_hasBit 2 (some .boolean), Cond.methodLink RX3 34 yX3_ribCount, Cond.instanceMethod yX3_ribCount, Cond.selects RX3 yX3_ribCount yX3_ribCount, Cond.code yX3_ribCount cX3_ribCount 2 (some .int), Cond.fieldLink RX3 18 "SliceBody$Solid" "wide" "I"]
def wsX3_cutOf_r2 : List Cond := [Cond.fieldLink RX3 22 "SliceBody$Solid" "deep" "I", Cond.methodLink RX3 63 yX3_ribColumn, Cond.instanceMethod yX3_ribColumn, Cond.selects RX3 yX3_ribColumn yX3_ribColumn, Cond.code yX3_ribColumn cX3_ribColumn 4 (some .int), Cond.methodLink RX3 42 yX3_columnAt, Cond.instanceMethod yX3_columnAt, Cond.selects RX3 yX3_columnAt yX3_columnAt, Cond.code yX3_columnAt cX3_columnAt 3 (some .int), Cond.fieldLink RX3 11 "SliceBody$Solid" "columns" "[I", Cond.methodLink RX3 38 yX3_hasColumn, Cond.instanceMethod yX3_hasColumn, Cond.selects RX3 yX3_hasColumn yX3_hasColumn, Cond.code yX3_hasColumn cX3_hasColumn 3 (some .boolean), Cond.methodLink RX3 76 yX1_upperHalves, Cond.static yX1_upperHalves, Cond.code yX1_upperHalves cX1_upperHalves 4 (some .int), Cond.methodLink RX1 30 yX1_beginsRun, Cond.static yX1_beginsRun, Cond.code yX1_beginsRun cX1_beginsRun 2 (some .boolean), Cond.methodLink RX1 20 yX1_hasBit, Cond.methodLink RX1 33 yX1_runLength, Cond.static yX1_runLength, Cond.code yX1_runLength cX1_runLength 3 (some .int)]
def wsX3_cutOf_r3 : List Cond := [Cond.methodLink RX1 36 yX1_bitsBetween, Cond.static yX1_bitsBetween, Cond.code yX1_bitsBetween cX1_bitsBetween 4 (some .int), Cond.methodLink RX1 11 Lib.Math.max.name, Cond.static Lib.Math.max.name, Cond.initialized "java/lang/Math", Cond.code Lib.Math.max.name Lib.Math.max.code 2 (some .int), Cond.methodLink RX1 17 Lib.Math.min.name, Cond.static Lib.Math.min.name, Cond.code Lib.Math.min.name Lib.Math.min.code 2 (some .int), Cond.methodLink RX3 67 yX2_shifted, Cond.static yX2_shifted, Cond.initialized RX2, Cond.code yX2_shifted cX2_shifted 2 (some .long)]
def wsX3_cutOf : List Cond := .code yX3_cutOf cX3_cutOf 9 (some .long) :: ((wsX3_cutOf_r1 ++ (wsX3_cutOf_r2 ++ wsX3_cutOf_r3)) ++ wsX30)
def wsX3_chosenFigure_r1 : List Cond := [Cond.methodLink RX3 57 yX3_isChosen, Cond.instanceMethod yX3_isChosen, Cond.selects RX3 yX3_isChosen yX3_isChosen, Cond.initialized RX3, Cond.code yX3_isChosen cX3_isChosen 3 (some .boolean), Cond.methodLink RX3 51 yX3_chosenBits, Cond.instanceMethod yX3_chosenBits, Cond.selects RX3 yX3_chosenBits yX3_chosenBits, Cond.code yX3_chosenBits cX3_chosenBits 2 (some .int), Cond.fieldLink RX3 28 "SliceBody$Solid" "chosenAtX" "I", Cond.fieldLink RX3 31 "SliceBody$Solid" "chosenAtY" "I", Cond.methodLink RX3 54 yX1_hasBit, Cond.static yX1_hasBit, Cond.initialized RX1, Cond.code yX1_hasBit cX1_hasBit 2 (some .boolean), Cond.methodLink RX3 79 yX3_figureOf, Cond.instanceMethod yX3_figureOf, Cond.selects RX3 yX3_figureOf yX3_figureOf, Cond.code yX3_figureOf cX3_figureOf 6 (some .long), Cond.methodLink RX3 34 yX3_ribCount, Cond.instanceMethod yX3_ribCount, Cond.selects RX3 yX3_ribCount yX3_ribCount, Cond.code yX3_ribCount cX3_ribCount 2 (some .int), Cond.fieldLink RX3 18 "SliceBody$Solid" "wide" "I"]
def wsX3_chosenFigure_r2 : List Cond := [Cond.fieldLink RX3 22 "SliceBody$Solid" "deep" "I", Cond.methodLink RX3 63 yX3_ribColumn, Cond.instanceMethod yX3_ribColumn, Cond.selects RX3 yX3_ribColumn yX3_ribColumn, Cond.code yX3_ribColumn cX3_ribColumn 4 (some .int), Cond.methodLink RX3 42 yX3_columnAt, Cond.instanceMethod yX3_columnAt, Cond.selects RX3 yX3_columnAt yX3_columnAt, Cond.code yX3_columnAt cX3_columnAt 3 (some .int), Cond.fieldLink RX3 11 "SliceBody$Solid" "columns" "[I", Cond.methodLink RX3 38 yX3_hasColumn, Cond.instanceMethod yX3_hasColumn, Cond.selects RX3 yX3_hasColumn yX3_hasColumn, Cond.code yX3_hasColumn cX3_hasColumn 3 (some .boolean), Cond.methodLink RX3 67 yX2_shifted, Cond.static yX2_shifted, Cond.initialized RX2, Cond.code yX2_shifted cX2_shifted 2 (some .long)]
def wsX3_chosenFigure : List Cond := .code yX3_chosenFigure cX3_chosenFigure 3 (some .long) :: ((wsX3_chosenFigure_r1 ++ wsX3_chosenFigure_r2) ++ wsX30)
def wsX3_loosePartsOf_r1 : List Cond := [Cond.methodLink RX3 73 yX3_crossingsOf, Cond.instanceMethod yX3_crossingsOf, Cond.selects RX3 yX3_crossingsOf yX3_crossingsOf, Cond.initialized RX3, Cond.code yX3_crossingsOf cX3_crossingsOf 3 (some .int), Cond.methodLink RX3 57 yX3_isChosen, Cond.instanceMethod yX3_isChosen, Cond.selects RX3 yX3_isChosen yX3_isChosen, Cond.code yX3_isChosen cX3_isChosen 3 (some .boolean), Cond.methodLink RX3 51 yX3_chosenBits, Cond.instanceMethod yX3_chosenBits, Cond.selects RX3 yX3_chosenBits yX3_chosenBits, Cond.code yX3_chosenBits cX3_chosenBits 2 (some .int), Cond.fieldLink RX3 28 "SliceBody$Solid" "chosenAtX" "I", Cond.fieldLink RX3 31 "SliceBody$Solid" "chosenAtY" "I", Cond.methodLink RX3 54 yX1_hasBit, Cond.static yX1_hasBit, Cond.initialized RX1, Cond.code yX1_hasBit cX1_hasBit 2 (some .boolean), Cond.methodLink RX3 34 yX3_ribCount, Cond.instanceMethod yX3_ribCount, Cond.selects RX3 yX3_ribCount yX3_ribCount, Cond.code yX3_ribCount cX3_ribCount 2 (some .int), Cond.fieldLink RX3 18 "SliceBody$Solid" "wide" "I"]
def wsX3_loosePartsOf_r2 : List Cond := [Cond.fieldLink RX3 22 "SliceBody$Solid" "deep" "I", Cond.methodLink RX3 67 yX2_shifted, Cond.static yX2_shifted, Cond.initialized RX2, Cond.code yX2_shifted cX2_shifted 2 (some .long), Cond.methodLink RX3 82 yX3_cutOf, Cond.instanceMethod yX3_cutOf, Cond.selects RX3 yX3_cutOf yX3_cutOf, Cond.code yX3_cutOf cX3_cutOf 9 (some .long), Cond.methodLink RX3 63 yX3_ribColumn, Cond.instanceMethod yX3_ribColumn, Cond.selects RX3 yX3_ribColumn yX3_ribColumn, Cond.code yX3_ribColumn cX3_ribColumn 4 (some .int), Cond.methodLink RX3 42 yX3_columnAt, Cond.instanceMethod yX3_columnAt, Cond.selects RX3 yX3_columnAt yX3_columnAt, Cond.code yX3_columnAt cX3_columnAt 3 (some .int), Cond.fieldLink RX3 11 "SliceBody$Solid" "columns" "[I", Cond.methodLink RX3 38 yX3_hasColumn, Cond.instanceMethod yX3_hasColumn, Cond.selects RX3 yX3_hasColumn yX3_hasColumn, Cond.code yX3_hasColumn cX3_hasColumn 3 (some .boolean), Cond.methodLink RX3 76 yX1_upperHalves, Cond.static yX1_upperHalves]
def wsX3_loosePartsOf_r3 : List Cond := [Cond.code yX1_upperHalves cX1_upperHalves 4 (some .int), Cond.methodLink RX1 30 yX1_beginsRun, Cond.static yX1_beginsRun, Cond.code yX1_beginsRun cX1_beginsRun 2 (some .boolean), Cond.methodLink RX1 20 yX1_hasBit, Cond.methodLink RX1 33 yX1_runLength, Cond.static yX1_runLength, Cond.code yX1_runLength cX1_runLength 3 (some .int), Cond.methodLink RX1 36 yX1_bitsBetween, Cond.static yX1_bitsBetween, Cond.code yX1_bitsBetween cX1_bitsBetween 4 (some .int), Cond.methodLink RX1 11 Lib.Math.max.name, Cond.static Lib.Math.max.name, Cond.initialized "java/lang/Math", Cond.code Lib.Math.max.name Lib.Math.max.code 2 (some .int), Cond.methodLink RX1 17 Lib.Math.min.name, Cond.static Lib.Math.min.name, Cond.code Lib.Math.min.name Lib.Math.min.code 2 (some .int), Cond.methodLink RX3 85 yX2_partsClearOf, Cond.static yX2_partsClearOf, Cond.code yX2_partsClearOf cX2_partsClearOf 10 (some .int), Cond.constantLong RX2 17 (-1), Cond.methodLink RX2 13 yX2_partAround, Cond.static yX2_partAround]
def wsX3_loosePartsOf_r4 : List Cond := [Cond.code yX2_partAround cX2_partAround 9 (some .long), Cond.methodLink RX2 19 yX2_neighboursOf, Cond.static yX2_neighboursOf, Cond.code yX2_neighboursOf cX2_neighboursOf 6 (some .long), Cond.constantLong RX2 23 (9187201950435737471), Cond.constantLong RX2 25 (-72340172838076674)]
def wsX3_loosePartsOf : List Cond := .code yX3_loosePartsOf cX3_loosePartsOf 7 (some .int) :: ((wsX3_loosePartsOf_r1 ++ (wsX3_loosePartsOf_r2 ++ (wsX3_loosePartsOf_r3 ++ wsX3_loosePartsOf_r4))) ++ wsX30)
def wsX3_crossingsWithRun_r1 : List Cond := [Cond.methodLink RX3 73 yX3_crossingsOf, Cond.instanceMethod yX3_crossingsOf, Cond.selects RX3 yX3_crossingsOf yX3_crossingsOf, Cond.initialized RX3, Cond.code yX3_crossingsOf cX3_crossingsOf 3 (some .int), Cond.methodLink RX3 57 yX3_isChosen, Cond.instanceMethod yX3_isChosen, Cond.selects RX3 yX3_isChosen yX3_isChosen, Cond.code yX3_isChosen cX3_isChosen 3 (some .boolean), Cond.methodLink RX3 51 yX3_chosenBits, Cond.instanceMethod yX3_chosenBits, Cond.selects RX3 yX3_chosenBits yX3_chosenBits, Cond.code yX3_chosenBits cX3_chosenBits 2 (some .int), Cond.fieldLink RX3 28 "SliceBody$Solid" "chosenAtX" "I", Cond.fieldLink RX3 31 "SliceBody$Solid" "chosenAtY" "I", Cond.methodLink RX3 54 yX1_hasBit, Cond.static yX1_hasBit, Cond.initialized RX1, Cond.code yX1_hasBit cX1_hasBit 2 (some .boolean), Cond.methodLink RX3 34 yX3_ribCount, Cond.instanceMethod yX3_ribCount, Cond.selects RX3 yX3_ribCount yX3_ribCount, Cond.code yX3_ribCount cX3_ribCount 2 (some .int), Cond.fieldLink RX3 18 "SliceBody$Solid" "wide" "I"]
def wsX3_crossingsWithRun_r2 : List Cond := [Cond.fieldLink RX3 22 "SliceBody$Solid" "deep" "I", Cond.methodLink RX3 63 yX3_ribColumn, Cond.instanceMethod yX3_ribColumn, Cond.selects RX3 yX3_ribColumn yX3_ribColumn, Cond.code yX3_ribColumn cX3_ribColumn 4 (some .int), Cond.methodLink RX3 42 yX3_columnAt, Cond.instanceMethod yX3_columnAt, Cond.selects RX3 yX3_columnAt yX3_columnAt, Cond.code yX3_columnAt cX3_columnAt 3 (some .int), Cond.fieldLink RX3 11 "SliceBody$Solid" "columns" "[I", Cond.methodLink RX3 38 yX3_hasColumn, Cond.instanceMethod yX3_hasColumn, Cond.selects RX3 yX3_hasColumn yX3_hasColumn, Cond.code yX3_hasColumn cX3_hasColumn 3 (some .boolean)]
def wsX3_crossingsWithRun : List Cond := .code yX3_crossingsWithRun cX3_crossingsWithRun 6 (some .int) :: ((wsX3_crossingsWithRun_r1 ++ wsX3_crossingsWithRun_r2) ++ wsX30)
def wsX3_runsInCrossings_r1 : List Cond := [Cond.methodLink RX3 73 yX3_crossingsOf, Cond.instanceMethod yX3_crossingsOf, Cond.selects RX3 yX3_crossingsOf yX3_crossingsOf, Cond.initialized RX3, Cond.code yX3_crossingsOf cX3_crossingsOf 3 (some .int), Cond.methodLink RX3 57 yX3_isChosen, Cond.instanceMethod yX3_isChosen, Cond.selects RX3 yX3_isChosen yX3_isChosen, Cond.code yX3_isChosen cX3_isChosen 3 (some .boolean), Cond.methodLink RX3 51 yX3_chosenBits, Cond.instanceMethod yX3_chosenBits, Cond.selects RX3 yX3_chosenBits yX3_chosenBits, Cond.code yX3_chosenBits cX3_chosenBits 2 (some .int), Cond.fieldLink RX3 28 "SliceBody$Solid" "chosenAtX" "I", Cond.fieldLink RX3 31 "SliceBody$Solid" "chosenAtY" "I", Cond.methodLink RX3 54 yX1_hasBit, Cond.static yX1_hasBit, Cond.initialized RX1, Cond.code yX1_hasBit cX1_hasBit 2 (some .boolean), Cond.methodLink RX3 34 yX3_ribCount, Cond.instanceMethod yX3_ribCount, Cond.selects RX3 yX3_ribCount yX3_ribCount, Cond.code yX3_ribCount cX3_ribCount 2 (some .int), Cond.fieldLink RX3 18 "SliceBody$Solid" "wide" "I"]
def wsX3_runsInCrossings_r2 : List Cond := [Cond.fieldLink RX3 22 "SliceBody$Solid" "deep" "I", Cond.methodLink RX3 63 yX3_ribColumn, Cond.instanceMethod yX3_ribColumn, Cond.selects RX3 yX3_ribColumn yX3_ribColumn, Cond.code yX3_ribColumn cX3_ribColumn 4 (some .int), Cond.methodLink RX3 42 yX3_columnAt, Cond.instanceMethod yX3_columnAt, Cond.selects RX3 yX3_columnAt yX3_columnAt, Cond.code yX3_columnAt cX3_columnAt 3 (some .int), Cond.fieldLink RX3 11 "SliceBody$Solid" "columns" "[I", Cond.methodLink RX3 38 yX3_hasColumn, Cond.instanceMethod yX3_hasColumn, Cond.selects RX3 yX3_hasColumn yX3_hasColumn, Cond.code yX3_hasColumn cX3_hasColumn 3 (some .boolean), Cond.methodLink RX3 60 yX1_runCount, Cond.static yX1_runCount, Cond.code yX1_runCount cX1_runCount 1 (some .int), Cond.methodLink RX1 24 yJ6_bitCount_0f7a4, Cond.static yJ6_bitCount_0f7a4, Cond.initialized RJ6, Cond.code yJ6_bitCount_0f7a4 cJ6_bitCount_0f7a4 1 (some .int), Cond.constant RJ6 265 (1431655765), Cond.constant RJ6 266 (858993459), Cond.constant RJ6 267 (252645135)]
def wsX3_runsInCrossings : List Cond := .code yX3_runsInCrossings cX3_runsInCrossings 6 (some .int) :: ((wsX3_runsInCrossings_r1 ++ wsX3_runsInCrossings_r2) ++ wsX30)
def wsJ13_bitCount_95d88 : List Cond := .code yJ13_bitCount_95d88 cJ13_bitCount_95d88 2 (some .int) :: ([.constantLong RJ13 314 (6148914691236517205), .constantLong RJ13 316 (3689348814741910323), .constantLong RJ13 318 (1085102592571150095)])
def wsX3_cubesOfCuts_r1 : List Cond := [Cond.methodLink RX3 34 yX3_ribCount, Cond.instanceMethod yX3_ribCount, Cond.selects RX3 yX3_ribCount yX3_ribCount, Cond.initialized RX3, Cond.code yX3_ribCount cX3_ribCount 2 (some .int), Cond.fieldLink RX3 18 "SliceBody$Solid" "wide" "I", Cond.fieldLink RX3 22 "SliceBody$Solid" "deep" "I", Cond.methodLink RX3 57 yX3_isChosen, Cond.instanceMethod yX3_isChosen, Cond.selects RX3 yX3_isChosen yX3_isChosen, Cond.code yX3_isChosen cX3_isChosen 3 (some .boolean), Cond.methodLink RX3 51 yX3_chosenBits, Cond.instanceMethod yX3_chosenBits, Cond.selects RX3 yX3_chosenBits yX3_chosenBits, Cond.code yX3_chosenBits cX3_chosenBits 2 (some .int), Cond.fieldLink RX3 28 "SliceBody$Solid" "chosenAtX" "I", Cond.fieldLink RX3 31 "SliceBody$Solid" "chosenAtY" "I", Cond.methodLink RX3 54 yX1_hasBit, Cond.static yX1_hasBit, Cond.initialized RX1, Cond.code yX1_hasBit cX1_hasBit 2 (some .boolean), Cond.methodLink RX3 82 yX3_cutOf, Cond.instanceMethod yX3_cutOf, Cond.selects RX3 yX3_cutOf yX3_cutOf]
def wsX3_cubesOfCuts_r2 : List Cond := [Cond.code yX3_cutOf cX3_cutOf 9 (some .long), Cond.methodLink RX3 73 yX3_crossingsOf, Cond.instanceMethod yX3_crossingsOf, Cond.selects RX3 yX3_crossingsOf yX3_crossingsOf, Cond.code yX3_crossingsOf cX3_crossingsOf 3 (some .int), Cond.methodLink RX3 63 yX3_ribColumn, Cond.instanceMethod yX3_ribColumn, Cond.selects RX3 yX3_ribColumn yX3_ribColumn, Cond.code yX3_ribColumn cX3_ribColumn 4 (some .int), Cond.methodLink RX3 42 yX3_columnAt, Cond.instanceMethod yX3_columnAt, Cond.selects RX3 yX3_columnAt yX3_columnAt, Cond.code yX3_columnAt cX3_columnAt 3 (some .int), Cond.fieldLink RX3 11 "SliceBody$Solid" "columns" "[I", Cond.methodLink RX3 38 yX3_hasColumn, Cond.instanceMethod yX3_hasColumn, Cond.selects RX3 yX3_hasColumn yX3_hasColumn, Cond.code yX3_hasColumn cX3_hasColumn 3 (some .boolean), Cond.methodLink RX3 76 yX1_upperHalves, Cond.static yX1_upperHalves, Cond.code yX1_upperHalves cX1_upperHalves 4 (some .int), Cond.methodLink RX1 30 yX1_beginsRun, Cond.static yX1_beginsRun, Cond.code yX1_beginsRun cX1_beginsRun 2 (some .boolean)]
def wsX3_cubesOfCuts_r3 : List Cond := [Cond.methodLink RX1 20 yX1_hasBit, Cond.methodLink RX1 33 yX1_runLength, Cond.static yX1_runLength, Cond.code yX1_runLength cX1_runLength 3 (some .int), Cond.methodLink RX1 36 yX1_bitsBetween, Cond.static yX1_bitsBetween, Cond.code yX1_bitsBetween cX1_bitsBetween 4 (some .int), Cond.methodLink RX1 11 Lib.Math.max.name, Cond.static Lib.Math.max.name, Cond.initialized "java/lang/Math", Cond.code Lib.Math.max.name Lib.Math.max.code 2 (some .int), Cond.methodLink RX1 17 Lib.Math.min.name, Cond.static Lib.Math.min.name, Cond.code Lib.Math.min.name Lib.Math.min.code 2 (some .int), Cond.methodLink RX3 67 yX2_shifted, Cond.static yX2_shifted, Cond.initialized RX2, Cond.code yX2_shifted cX2_shifted 2 (some .long), Cond.methodLink RX3 89 yJ13_bitCount_95d88, Cond.static yJ13_bitCount_95d88, Cond.initialized RJ13, Cond.code yJ13_bitCount_95d88 cJ13_bitCount_95d88 2 (some .int), Cond.constantLong RJ13 314 (6148914691236517205), Cond.constantLong RJ13 316 (3689348814741910323)]
def wsX3_cubesOfCuts_r4 : List Cond := [Cond.constantLong RJ13 318 (1085102592571150095)]
def wsX3_cubesOfCuts : List Cond := .code yX3_cubesOfCuts cX3_cubesOfCuts 4 (some .int) :: ((wsX3_cubesOfCuts_r1 ++ (wsX3_cubesOfCuts_r2 ++ (wsX3_cubesOfCuts_r3 ++ wsX3_cubesOfCuts_r4))) ++ wsX30)
def wsX3_looseParts_r1 : List Cond := [Cond.methodLink RX3 34 yX3_ribCount, Cond.instanceMethod yX3_ribCount, Cond.selects RX3 yX3_ribCount yX3_ribCount, Cond.initialized RX3, Cond.code yX3_ribCount cX3_ribCount 2 (some .int), Cond.fieldLink RX3 18 "SliceBody$Solid" "wide" "I", Cond.fieldLink RX3 22 "SliceBody$Solid" "deep" "I", Cond.methodLink RX3 57 yX3_isChosen, Cond.instanceMethod yX3_isChosen, Cond.selects RX3 yX3_isChosen yX3_isChosen, Cond.code yX3_isChosen cX3_isChosen 3 (some .boolean), Cond.methodLink RX3 51 yX3_chosenBits, Cond.instanceMethod yX3_chosenBits, Cond.selects RX3 yX3_chosenBits yX3_chosenBits, Cond.code yX3_chosenBits cX3_chosenBits 2 (some .int), Cond.fieldLink RX3 28 "SliceBody$Solid" "chosenAtX" "I", Cond.fieldLink RX3 31 "SliceBody$Solid" "chosenAtY" "I", Cond.methodLink RX3 54 yX1_hasBit, Cond.static yX1_hasBit, Cond.initialized RX1, Cond.code yX1_hasBit cX1_hasBit 2 (some .boolean), Cond.methodLink RX3 94 yX3_loosePartsOf, Cond.instanceMethod yX3_loosePartsOf, Cond.selects RX3 yX3_loosePartsOf yX3_loosePartsOf]
def wsX3_looseParts_r2 : List Cond := [Cond.code yX3_loosePartsOf cX3_loosePartsOf 7 (some .int), Cond.methodLink RX3 73 yX3_crossingsOf, Cond.instanceMethod yX3_crossingsOf, Cond.selects RX3 yX3_crossingsOf yX3_crossingsOf, Cond.code yX3_crossingsOf cX3_crossingsOf 3 (some .int), Cond.methodLink RX3 67 yX2_shifted, Cond.static yX2_shifted, Cond.initialized RX2, Cond.code yX2_shifted cX2_shifted 2 (some .long), Cond.methodLink RX3 82 yX3_cutOf, Cond.instanceMethod yX3_cutOf, Cond.selects RX3 yX3_cutOf yX3_cutOf, Cond.code yX3_cutOf cX3_cutOf 9 (some .long), Cond.methodLink RX3 63 yX3_ribColumn, Cond.instanceMethod yX3_ribColumn, Cond.selects RX3 yX3_ribColumn yX3_ribColumn, Cond.code yX3_ribColumn cX3_ribColumn 4 (some .int), Cond.methodLink RX3 42 yX3_columnAt, Cond.instanceMethod yX3_columnAt, Cond.selects RX3 yX3_columnAt yX3_columnAt, Cond.code yX3_columnAt cX3_columnAt 3 (some .int), Cond.fieldLink RX3 11 "SliceBody$Solid" "columns" "[I", Cond.methodLink RX3 38 yX3_hasColumn, Cond.instanceMethod yX3_hasColumn]
def wsX3_looseParts_r3 : List Cond := [Cond.selects RX3 yX3_hasColumn yX3_hasColumn, Cond.code yX3_hasColumn cX3_hasColumn 3 (some .boolean), Cond.methodLink RX3 76 yX1_upperHalves, Cond.static yX1_upperHalves, Cond.code yX1_upperHalves cX1_upperHalves 4 (some .int), Cond.methodLink RX1 30 yX1_beginsRun, Cond.static yX1_beginsRun, Cond.code yX1_beginsRun cX1_beginsRun 2 (some .boolean), Cond.methodLink RX1 20 yX1_hasBit, Cond.methodLink RX1 33 yX1_runLength, Cond.static yX1_runLength, Cond.code yX1_runLength cX1_runLength 3 (some .int), Cond.methodLink RX1 36 yX1_bitsBetween, Cond.static yX1_bitsBetween, Cond.code yX1_bitsBetween cX1_bitsBetween 4 (some .int), Cond.methodLink RX1 11 Lib.Math.max.name, Cond.static Lib.Math.max.name, Cond.initialized "java/lang/Math", Cond.code Lib.Math.max.name Lib.Math.max.code 2 (some .int), Cond.methodLink RX1 17 Lib.Math.min.name, Cond.static Lib.Math.min.name, Cond.code Lib.Math.min.name Lib.Math.min.code 2 (some .int), Cond.methodLink RX3 85 yX2_partsClearOf, Cond.static yX2_partsClearOf]
def wsX3_looseParts_r4 : List Cond := [Cond.code yX2_partsClearOf cX2_partsClearOf 10 (some .int), Cond.constantLong RX2 17 (-1), Cond.methodLink RX2 13 yX2_partAround, Cond.static yX2_partAround, Cond.code yX2_partAround cX2_partAround 9 (some .long), Cond.methodLink RX2 19 yX2_neighboursOf, Cond.static yX2_neighboursOf, Cond.code yX2_neighboursOf cX2_neighboursOf 6 (some .long), Cond.constantLong RX2 23 (9187201950435737471), Cond.constantLong RX2 25 (-72340172838076674)]
def wsX3_looseParts : List Cond := .code yX3_looseParts cX3_looseParts 4 (some .int) :: ((wsX3_looseParts_r1 ++ (wsX3_looseParts_r2 ++ (wsX3_looseParts_r3 ++ wsX3_looseParts_r4))) ++ wsX30)
def wsX3_coveredCubes_r1 : List Cond := [Cond.fieldLink RX3 18 "SliceBody$Solid" "wide" "I", Cond.fieldLink RX3 22 "SliceBody$Solid" "deep" "I", Cond.methodLink RX3 57 yX3_isChosen, Cond.instanceMethod yX3_isChosen, Cond.selects RX3 yX3_isChosen yX3_isChosen, Cond.initialized RX3, Cond.code yX3_isChosen cX3_isChosen 3 (some .boolean), Cond.methodLink RX3 51 yX3_chosenBits, Cond.instanceMethod yX3_chosenBits, Cond.selects RX3 yX3_chosenBits yX3_chosenBits, Cond.code yX3_chosenBits cX3_chosenBits 2 (some .int), Cond.fieldLink RX3 28 "SliceBody$Solid" "chosenAtX" "I", Cond.fieldLink RX3 31 "SliceBody$Solid" "chosenAtY" "I", Cond.methodLink RX3 54 yX1_hasBit, Cond.static yX1_hasBit, Cond.initialized RX1, Cond.code yX1_hasBit cX1_hasBit 2 (some .boolean), Cond.methodLink RX3 42 yX3_columnAt, Cond.instanceMethod yX3_columnAt, Cond.selects RX3 yX3_columnAt yX3_columnAt, Cond.code yX3_columnAt cX3_columnAt 3 (some .int), Cond.fieldLink RX3 11 "SliceBody$Solid" "columns" "[I", Cond.methodLink RX3 38 yX3_hasColumn, Cond.instanceMethod yX3_hasColumn]
def wsX3_coveredCubes_r2 : List Cond := [Cond.selects RX3 yX3_hasColumn yX3_hasColumn, Cond.code yX3_hasColumn cX3_hasColumn 3 (some .boolean), Cond.methodLink RX3 46 yJ6_bitCount_0f7a4, Cond.static yJ6_bitCount_0f7a4, Cond.initialized RJ6, Cond.code yJ6_bitCount_0f7a4 cJ6_bitCount_0f7a4 1 (some .int), Cond.constant RJ6 265 (1431655765), Cond.constant RJ6 266 (858993459), Cond.constant RJ6 267 (252645135)]
def wsX3_coveredCubes : List Cond := .code yX3_coveredCubes cX3_coveredCubes 4 (some .int) :: ((wsX3_coveredCubes_r1 ++ wsX3_coveredCubes_r2) ++ wsX30)
def wsX3_reckonGains_r1 : List Cond := [Cond.fieldLink RX3 22 "SliceBody$Solid" "deep" "I", Cond.fieldLink RX3 15 "SliceBody$Solid" "gains" "[I", Cond.fieldLink RX3 18 "SliceBody$Solid" "wide" "I", Cond.methodLink RX3 54 yX1_hasBit, Cond.static yX1_hasBit, Cond.initialized RX1, Cond.code yX1_hasBit cX1_hasBit 2 (some .boolean), Cond.methodLink RX3 42 yX3_columnAt, Cond.instanceMethod yX3_columnAt, Cond.selects RX3 yX3_columnAt yX3_columnAt, Cond.initialized RX3, Cond.code yX3_columnAt cX3_columnAt 3 (some .int), Cond.fieldLink RX3 11 "SliceBody$Solid" "columns" "[I", Cond.methodLink RX3 38 yX3_hasColumn, Cond.instanceMethod yX3_hasColumn, Cond.selects RX3 yX3_hasColumn yX3_hasColumn, Cond.code yX3_hasColumn cX3_hasColumn 3 (some .boolean), Cond.methodLink RX3 46 yJ6_bitCount_0f7a4, Cond.static yJ6_bitCount_0f7a4, Cond.initialized RJ6, Cond.code yJ6_bitCount_0f7a4 cJ6_bitCount_0f7a4 1 (some .int), Cond.constant RJ6 265 (1431655765), Cond.constant RJ6 266 (858993459), Cond.constant RJ6 267 (252645135)]
def wsX3_reckonGains_r2 : List Cond := [Cond.methodLink RX3 111 yX3_wouldCatch, Cond.instanceMethod yX3_wouldCatch, Cond.selects RX3 yX3_wouldCatch yX3_wouldCatch, Cond.code yX3_wouldCatch cX3_wouldCatch 3 (some .boolean), Cond.methodLink RX3 60 yX1_runCount, Cond.static yX1_runCount, Cond.code yX1_runCount cX1_runCount 1 (some .int), Cond.methodLink RX1 24 yJ6_bitCount_0f7a4]
def wsX3_reckonGains : List Cond := .code yX3_reckonGains cX3_reckonGains 5 none :: ((wsX3_reckonGains_r1 ++ wsX3_reckonGains_r2) ++ wsX30)
def wsX3_greatestGains : List Cond := .code yX3_greatestGains cX3_greatestGains 6 (some .int) :: ([.fieldLink RX3 22 "SliceBody$Solid" "deep" "I", .fieldLink RX3 15 "SliceBody$Solid" "gains" "[I", .methodLink RX3 54 yX1_hasBit, .static yX1_hasBit, .initialized RX1, .code yX1_hasBit cX1_hasBit 2 (some .boolean)] ++ wsX30)
def wsX3_worthAlone_r1 : List Cond := [Cond.fieldLink RX3 18 "SliceBody$Solid" "wide" "I", Cond.methodLink RX3 54 yX1_hasBit, Cond.static yX1_hasBit, Cond.initialized RX1, Cond.code yX1_hasBit cX1_hasBit 2 (some .boolean), Cond.methodLink RX3 79 yX3_figureOf, Cond.instanceMethod yX3_figureOf, Cond.selects RX3 yX3_figureOf yX3_figureOf, Cond.initialized RX3, Cond.code yX3_figureOf cX3_figureOf 6 (some .long), Cond.methodLink RX3 34 yX3_ribCount, Cond.instanceMethod yX3_ribCount, Cond.selects RX3 yX3_ribCount yX3_ribCount, Cond.code yX3_ribCount cX3_ribCount 2 (some .int), Cond.fieldLink RX3 22 "SliceBody$Solid" "deep" "I", Cond.methodLink RX3 63 yX3_ribColumn, Cond.instanceMethod yX3_ribColumn, Cond.selects RX3 yX3_ribColumn yX3_ribColumn, Cond.code yX3_ribColumn cX3_ribColumn 4 (some .int), Cond.methodLink RX3 42 yX3_columnAt, Cond.instanceMethod yX3_columnAt, Cond.selects RX3 yX3_columnAt yX3_columnAt, Cond.code yX3_columnAt cX3_columnAt 3 (some .int), Cond.fieldLink RX3 11 "SliceBody$Solid" "columns" "[I"]
def wsX3_worthAlone_r2 : List Cond := [Cond.methodLink RX3 38 yX3_hasColumn, Cond.instanceMethod yX3_hasColumn, Cond.selects RX3 yX3_hasColumn yX3_hasColumn, Cond.code yX3_hasColumn cX3_hasColumn 3 (some .boolean), Cond.methodLink RX3 67 yX2_shifted, Cond.static yX2_shifted, Cond.initialized RX2, Cond.code yX2_shifted cX2_shifted 2 (some .long), Cond.methodLink RX3 89 yJ13_bitCount_95d88, Cond.static yJ13_bitCount_95d88, Cond.initialized RJ13, Cond.code yJ13_bitCount_95d88 cJ13_bitCount_95d88 2 (some .int), Cond.constantLong RJ13 314 (6148914691236517205), Cond.constantLong RJ13 316 (3689348814741910323), Cond.constantLong RJ13 318 (1085102592571150095)]
def wsX3_worthAlone : List Cond := .code yX3_worthAlone cX3_worthAlone 4 (some .int) :: ((wsX3_worthAlone_r1 ++ wsX3_worthAlone_r2) ++ wsX30)
def wsX3_sumOfGains : List Cond := .code yX3_sumOfGains cX3_sumOfGains 4 (some .int) :: ([.fieldLink RX3 22 "SliceBody$Solid" "deep" "I", .fieldLink RX3 15 "SliceBody$Solid" "gains" "[I", .methodLink RX3 54 yX1_hasBit, .static yX1_hasBit, .initialized RX1, .code yX1_hasBit cX1_hasBit 2 (some .boolean)] ++ wsX30)
def wsX3_chooseBest_r1 : List Cond := [Cond.constant RX3 97 (-2147483648), Cond.fieldLink RX3 18 "SliceBody$Solid" "wide" "I", Cond.fieldLink RX3 28 "SliceBody$Solid" "chosenAtX" "I", Cond.fieldLink RX3 31 "SliceBody$Solid" "chosenAtY" "I", Cond.methodLink RX3 46 yJ6_bitCount_0f7a4, Cond.static yJ6_bitCount_0f7a4, Cond.initialized RJ6, Cond.code yJ6_bitCount_0f7a4 cJ6_bitCount_0f7a4 1 (some .int), Cond.constant RJ6 265 (1431655765), Cond.constant RJ6 266 (858993459), Cond.constant RJ6 267 (252645135), Cond.methodLink RX3 98 yX3_reckonGains, Cond.instanceMethod yX3_reckonGains, Cond.selects RX3 yX3_reckonGains yX3_reckonGains, Cond.initialized RX3, Cond.code yX3_reckonGains cX3_reckonGains 5 none, Cond.fieldLink RX3 22 "SliceBody$Solid" "deep" "I", Cond.fieldLink RX3 15 "SliceBody$Solid" "gains" "[I", Cond.methodLink RX3 54 yX1_hasBit, Cond.static yX1_hasBit, Cond.initialized RX1, Cond.code yX1_hasBit cX1_hasBit 2 (some .boolean), Cond.methodLink RX3 42 yX3_columnAt, Cond.instanceMethod yX3_columnAt]
def wsX3_chooseBest_r2 : List Cond := [Cond.selects RX3 yX3_columnAt yX3_columnAt, Cond.code yX3_columnAt cX3_columnAt 3 (some .int), Cond.fieldLink RX3 11 "SliceBody$Solid" "columns" "[I", Cond.methodLink RX3 38 yX3_hasColumn, Cond.instanceMethod yX3_hasColumn, Cond.selects RX3 yX3_hasColumn yX3_hasColumn, Cond.code yX3_hasColumn cX3_hasColumn 3 (some .boolean), Cond.methodLink RX3 111 yX3_wouldCatch, Cond.instanceMethod yX3_wouldCatch, Cond.selects RX3 yX3_wouldCatch yX3_wouldCatch, Cond.code yX3_wouldCatch cX3_wouldCatch 3 (some .boolean), Cond.methodLink RX3 60 yX1_runCount, Cond.static yX1_runCount, Cond.code yX1_runCount cX1_runCount 1 (some .int), Cond.methodLink RX1 24 yJ6_bitCount_0f7a4, Cond.methodLink RX3 102 yX3_greatestGains, Cond.instanceMethod yX3_greatestGains, Cond.selects RX3 yX3_greatestGains yX3_greatestGains, Cond.code yX3_greatestGains cX3_greatestGains 6 (some .int), Cond.methodLink RX3 105 yX3_worthAlone, Cond.instanceMethod yX3_worthAlone, Cond.selects RX3 yX3_worthAlone yX3_worthAlone, Cond.code yX3_worthAlone cX3_worthAlone 4 (some .int), Cond.methodLink RX3 79 yX3_figureOf]
def wsX3_chooseBest_r3 : List Cond := [Cond.instanceMethod yX3_figureOf, Cond.selects RX3 yX3_figureOf yX3_figureOf, Cond.code yX3_figureOf cX3_figureOf 6 (some .long), Cond.methodLink RX3 34 yX3_ribCount, Cond.instanceMethod yX3_ribCount, Cond.selects RX3 yX3_ribCount yX3_ribCount, Cond.code yX3_ribCount cX3_ribCount 2 (some .int), Cond.methodLink RX3 63 yX3_ribColumn, Cond.instanceMethod yX3_ribColumn, Cond.selects RX3 yX3_ribColumn yX3_ribColumn, Cond.code yX3_ribColumn cX3_ribColumn 4 (some .int), Cond.methodLink RX3 67 yX2_shifted, Cond.static yX2_shifted, Cond.initialized RX2, Cond.code yX2_shifted cX2_shifted 2 (some .long), Cond.methodLink RX3 89 yJ13_bitCount_95d88, Cond.static yJ13_bitCount_95d88, Cond.initialized RJ13, Cond.code yJ13_bitCount_95d88 cJ13_bitCount_95d88 2 (some .int), Cond.constantLong RJ13 314 (6148914691236517205), Cond.constantLong RJ13 316 (3689348814741910323), Cond.constantLong RJ13 318 (1085102592571150095), Cond.methodLink RX3 108 yX3_sumOfGains, Cond.instanceMethod yX3_sumOfGains]
def wsX3_chooseBest_r4 : List Cond := [Cond.selects RX3 yX3_sumOfGains yX3_sumOfGains, Cond.code yX3_sumOfGains cX3_sumOfGains 4 (some .int)]
def wsX3_chooseBest : List Cond := .code yX3_chooseBest cX3_chooseBest 9 none :: ((wsX3_chooseBest_r1 ++ (wsX3_chooseBest_r2 ++ (wsX3_chooseBest_r3 ++ wsX3_chooseBest_r4))) ++ wsX30)
def wsX4_init_r1 : List Cond := [Cond.methodLink RX4 1 objectInit, Cond.instanceMethod objectInit, Cond.code objectInit ⟨#[0xb1]⟩ 1 none, Cond.classLink RX4 7 RX3, Cond.instantiable RX3 7, Cond.initialized RX3, Cond.fieldLink RX4 10 "SliceBody" "solid" "LSliceBody$Solid;", Cond.classLink RX4 16 RX0, Cond.instantiable RX0 5, Cond.initialized RX0, Cond.fieldLink RX4 19 "SliceBody" "boards" "LSliceBody$Boards;", Cond.methodLink RX4 9 yX3_init, Cond.instanceMethod yX3_init, Cond.code yX3_init cX3_init 1 none, Cond.methodLink RX3 3 objectInit, Cond.arrayClass .int, Cond.fieldLink RX3 11 "SliceBody$Solid" "columns" "[I", Cond.fieldLink RX3 15 "SliceBody$Solid" "gains" "[I", Cond.fieldLink RX3 18 "SliceBody$Solid" "wide" "I", Cond.fieldLink RX3 22 "SliceBody$Solid" "deep" "I", Cond.fieldLink RX3 25 "SliceBody$Solid" "high" "I", Cond.methodLink RX4 18 yX0_init, Cond.instanceMethod yX0_init, Cond.code yX0_init cX0_init 1 none]
def wsX4_init_r2 : List Cond := [Cond.methodLink RX0 3 objectInit, Cond.fieldLink RX0 11 "SliceBody$Boards" "facts" "[I"]
def wsX4_init : List Cond := .code yX4_init cX4_init 1 none :: ((wsX4_init_r1 ++ wsX4_init_r2) ++ wsX30 ++ wsX40 ++ wsX00)
def wsX4_isSize : List Cond := .code yX4_isSize cX4_isSize 1 (some .boolean) :: ([])
def wsX4_space : List Cond := .code yX4_space cX4_space 4 (some .int) :: ([.fieldLink RX4 10 "SliceBody" "solid" "LSliceBody$Solid;", .fieldLink RX4 19 "SliceBody" "boards" "LSliceBody$Boards;", .methodLink RX4 23 yX4_isSize, .static yX4_isSize, .initialized RX4, .code yX4_isSize cX4_isSize 1 (some .boolean), .methodLink RX4 27 yX3_beginAnew, .instanceMethod yX3_beginAnew, .selects RX3 yX3_beginAnew yX3_beginAnew, .initialized RX3, .code yX3_beginAnew cX3_beginAnew 5 none, .fieldLink RX3 11 "SliceBody$Solid" "columns" "[I", .fieldLink RX3 18 "SliceBody$Solid" "wide" "I", .fieldLink RX3 22 "SliceBody$Solid" "deep" "I", .fieldLink RX3 25 "SliceBody$Solid" "high" "I", .fieldLink RX3 28 "SliceBody$Solid" "chosenAtX" "I", .fieldLink RX3 31 "SliceBody$Solid" "chosenAtY" "I", .methodLink RX4 31 yX0_forget, .instanceMethod yX0_forget, .selects RX0 yX0_forget yX0_forget, .initialized RX0, .code yX0_forget cX0_forget 1 none, .fieldLink RX0 15 "SliceBody$Boards" "known" "Z"] ++ wsX40 ++ wsX30 ++ wsX00)
def wsX4_isCorner : List Cond := .code yX4_isCorner cX4_isCorner 1 (some .boolean) :: ([])
def wsX4_box_r1 : List Cond := [Cond.fieldLink RX4 10 "SliceBody" "solid" "LSliceBody$Solid;", Cond.fieldLink RX4 37 "SliceBody$Solid" "high" "I", Cond.methodLink RX4 41 Lib.Math.min.name, Cond.static Lib.Math.min.name, Cond.initialized "java/lang/Math", Cond.code Lib.Math.min.name Lib.Math.min.code 2 (some .int), Cond.fieldLink RX4 52 "SliceBody$Solid" "wide" "I", Cond.fieldLink RX4 55 "SliceBody$Solid" "deep" "I", Cond.methodLink RX4 58 Lib.Math.max.name, Cond.static Lib.Math.max.name, Cond.code Lib.Math.max.name Lib.Math.max.code 2 (some .int), Cond.fieldLink RX4 19 "SliceBody" "boards" "LSliceBody$Boards;", Cond.methodLink RX4 34 yX4_isCorner, Cond.static yX4_isCorner, Cond.initialized RX4, Cond.code yX4_isCorner cX4_isCorner 1 (some .boolean), Cond.methodLink RX4 23 yX4_isSize, Cond.static yX4_isSize, Cond.code yX4_isSize cX4_isSize 1 (some .boolean), Cond.methodLink RX4 47 yX1_bitsBetween, Cond.static yX1_bitsBetween, Cond.initialized RX1, Cond.code yX1_bitsBetween cX1_bitsBetween 4 (some .int), Cond.methodLink RX1 11 Lib.Math.max.name]
def wsX4_box_r2 : List Cond := [Cond.methodLink RX1 17 Lib.Math.min.name, Cond.methodLink RX4 61 yX3_changeColumn, Cond.instanceMethod yX3_changeColumn, Cond.selects RX3 yX3_changeColumn yX3_changeColumn, Cond.initialized RX3, Cond.code yX3_changeColumn cX3_changeColumn 7 (some .int), Cond.fieldLink RX3 11 "SliceBody$Solid" "columns" "[I", Cond.methodLink RX3 38 yX3_hasColumn, Cond.instanceMethod yX3_hasColumn, Cond.selects RX3 yX3_hasColumn yX3_hasColumn, Cond.code yX3_hasColumn cX3_hasColumn 3 (some .boolean), Cond.fieldLink RX3 18 "SliceBody$Solid" "wide" "I", Cond.fieldLink RX3 22 "SliceBody$Solid" "deep" "I", Cond.methodLink RX3 42 yX3_columnAt, Cond.instanceMethod yX3_columnAt, Cond.selects RX3 yX3_columnAt yX3_columnAt, Cond.code yX3_columnAt cX3_columnAt 3 (some .int), Cond.methodLink RX3 46 yJ6_bitCount_0f7a4, Cond.static yJ6_bitCount_0f7a4, Cond.initialized RJ6, Cond.code yJ6_bitCount_0f7a4 cJ6_bitCount_0f7a4 1 (some .int), Cond.constant RJ6 265 (1431655765), Cond.constant RJ6 266 (858993459), Cond.constant RJ6 267 (252645135)]
def wsX4_box_r3 : List Cond := [Cond.methodLink RX4 31 yX0_forget, Cond.instanceMethod yX0_forget, Cond.selects RX0 yX0_forget yX0_forget, Cond.initialized RX0, Cond.code yX0_forget cX0_forget 1 none, Cond.fieldLink RX0 15 "SliceBody$Boards" "known" "Z"]
def wsX4_box : List Cond := .code yX4_box cX4_box 14 (some .int) :: ((wsX4_box_r1 ++ (wsX4_box_r2 ++ wsX4_box_r3)) ++ wsX40 ++ wsX30 ++ wsX00)
def wsX4_asNumber : List Cond := .code yX4_asNumber cX4_asNumber 1 (some .int) :: ([])
def wsX4_at_r1 : List Cond := [Cond.fieldLink RX4 10 "SliceBody" "solid" "LSliceBody$Solid;", Cond.methodLink RX4 65 yX3_hasColumn, Cond.instanceMethod yX3_hasColumn, Cond.selects RX3 yX3_hasColumn yX3_hasColumn, Cond.initialized RX3, Cond.code yX3_hasColumn cX3_hasColumn 3 (some .boolean), Cond.fieldLink RX3 18 "SliceBody$Solid" "wide" "I", Cond.fieldLink RX3 22 "SliceBody$Solid" "deep" "I", Cond.methodLink RX4 69 yX3_hasLayer, Cond.instanceMethod yX3_hasLayer, Cond.selects RX3 yX3_hasLayer yX3_hasLayer, Cond.code yX3_hasLayer cX3_hasLayer 2 (some .boolean), Cond.fieldLink RX3 25 "SliceBody$Solid" "high" "I", Cond.methodLink RX4 72 yX3_columnAt, Cond.instanceMethod yX3_columnAt, Cond.selects RX3 yX3_columnAt yX3_columnAt, Cond.code yX3_columnAt cX3_columnAt 3 (some .int), Cond.fieldLink RX3 11 "SliceBody$Solid" "columns" "[I", Cond.methodLink RX3 38 yX3_hasColumn, Cond.methodLink RX4 75 yX1_hasBit, Cond.static yX1_hasBit, Cond.initialized RX1, Cond.code yX1_hasBit cX1_hasBit 2 (some .boolean), Cond.methodLink RX4 78 yX4_asNumber]
def wsX4_at_r2 : List Cond := [Cond.static yX4_asNumber, Cond.initialized RX4, Cond.code yX4_asNumber cX4_asNumber 1 (some .int)]
def wsX4_at : List Cond := .code yX4_at cX4_at 4 (some .int) :: ((wsX4_at_r1 ++ wsX4_at_r2) ++ wsX40 ++ wsX30)
def wsX4_rib_r1 : List Cond := [Cond.fieldLink RX4 10 "SliceBody" "solid" "LSliceBody$Solid;", Cond.fieldLink RX4 19 "SliceBody" "boards" "LSliceBody$Boards;", Cond.methodLink RX4 82 yX3_hasRib, Cond.instanceMethod yX3_hasRib, Cond.selects RX3 yX3_hasRib yX3_hasRib, Cond.initialized RX3, Cond.code yX3_hasRib cX3_hasRib 3 (some .boolean), Cond.methodLink RX3 34 yX3_ribCount, Cond.instanceMethod yX3_ribCount, Cond.selects RX3 yX3_ribCount yX3_ribCount, Cond.code yX3_ribCount cX3_ribCount 2 (some .int), Cond.fieldLink RX3 18 "SliceBody$Solid" "wide" "I", Cond.fieldLink RX3 22 "SliceBody$Solid" "deep" "I", Cond.methodLink RX4 85 yX3_isChosen, Cond.instanceMethod yX3_isChosen, Cond.selects RX3 yX3_isChosen yX3_isChosen, Cond.code yX3_isChosen cX3_isChosen 3 (some .boolean), Cond.methodLink RX3 51 yX3_chosenBits, Cond.instanceMethod yX3_chosenBits, Cond.selects RX3 yX3_chosenBits yX3_chosenBits, Cond.code yX3_chosenBits cX3_chosenBits 2 (some .int), Cond.fieldLink RX3 28 "SliceBody$Solid" "chosenAtX" "I", Cond.fieldLink RX3 31 "SliceBody$Solid" "chosenAtY" "I", Cond.methodLink RX3 54 yX1_hasBit]
def wsX4_rib_r2 : List Cond := [Cond.static yX1_hasBit, Cond.initialized RX1, Cond.code yX1_hasBit cX1_hasBit 2 (some .boolean), Cond.methodLink RX4 88 yX3_chosenBits, Cond.methodLink RX4 92 yX3_choose, Cond.instanceMethod yX3_choose, Cond.selects RX3 yX3_choose yX3_choose, Cond.code yX3_choose cX3_choose 3 none, Cond.methodLink RX4 31 yX0_forget, Cond.instanceMethod yX0_forget, Cond.selects RX0 yX0_forget yX0_forget, Cond.initialized RX0, Cond.code yX0_forget cX0_forget 1 none, Cond.fieldLink RX0 15 "SliceBody$Boards" "known" "Z", Cond.methodLink RX4 78 yX4_asNumber, Cond.static yX4_asNumber, Cond.initialized RX4, Cond.code yX4_asNumber cX4_asNumber 1 (some .int)]
def wsX4_rib : List Cond := .code yX4_rib cX4_rib 6 (some .int) :: ((wsX4_rib_r1 ++ wsX4_rib_r2) ++ wsX40 ++ wsX30 ++ wsX00)
def wsX4_ribs_r1 : List Cond := [Cond.fieldLink RX4 10 "SliceBody" "solid" "LSliceBody$Solid;", Cond.fieldLink RX4 19 "SliceBody" "boards" "LSliceBody$Boards;", Cond.methodLink RX4 96 yX3_ribCount, Cond.instanceMethod yX3_ribCount, Cond.selects RX3 yX3_ribCount yX3_ribCount, Cond.initialized RX3, Cond.code yX3_ribCount cX3_ribCount 2 (some .int), Cond.fieldLink RX3 18 "SliceBody$Solid" "wide" "I", Cond.fieldLink RX3 22 "SliceBody$Solid" "deep" "I", Cond.methodLink RX4 88 yX3_chosenBits, Cond.instanceMethod yX3_chosenBits, Cond.selects RX3 yX3_chosenBits yX3_chosenBits, Cond.code yX3_chosenBits cX3_chosenBits 2 (some .int), Cond.fieldLink RX3 28 "SliceBody$Solid" "chosenAtX" "I", Cond.fieldLink RX3 31 "SliceBody$Solid" "chosenAtY" "I", Cond.methodLink RX4 92 yX3_choose, Cond.instanceMethod yX3_choose, Cond.selects RX3 yX3_choose yX3_choose, Cond.code yX3_choose cX3_choose 3 none, Cond.methodLink RX4 31 yX0_forget, Cond.instanceMethod yX0_forget, Cond.selects RX0 yX0_forget yX0_forget, Cond.initialized RX0, Cond.code yX0_forget cX0_forget 1 none]
def wsX4_ribs_r2 : List Cond := [Cond.fieldLink RX0 15 "SliceBody$Boards" "known" "Z"]
def wsX4_ribs : List Cond := .code yX4_ribs cX4_ribs 4 (some .int) :: ((wsX4_ribs_r1 ++ wsX4_ribs_r2) ++ wsX40 ++ wsX30 ++ wsX00)
def wsX4_figure_r1 : List Cond := [Cond.fieldLink RX4 10 "SliceBody" "solid" "LSliceBody$Solid;", Cond.methodLink RX4 82 yX3_hasRib, Cond.instanceMethod yX3_hasRib, Cond.selects RX3 yX3_hasRib yX3_hasRib, Cond.initialized RX3, Cond.code yX3_hasRib cX3_hasRib 3 (some .boolean), Cond.methodLink RX3 34 yX3_ribCount, Cond.instanceMethod yX3_ribCount, Cond.selects RX3 yX3_ribCount yX3_ribCount, Cond.code yX3_ribCount cX3_ribCount 2 (some .int), Cond.fieldLink RX3 18 "SliceBody$Solid" "wide" "I", Cond.fieldLink RX3 22 "SliceBody$Solid" "deep" "I", Cond.methodLink RX4 69 yX3_hasLayer, Cond.instanceMethod yX3_hasLayer, Cond.selects RX3 yX3_hasLayer yX3_hasLayer, Cond.code yX3_hasLayer cX3_hasLayer 2 (some .boolean), Cond.fieldLink RX3 25 "SliceBody$Solid" "high" "I", Cond.methodLink RX4 99 yX3_cutOf, Cond.instanceMethod yX3_cutOf, Cond.selects RX3 yX3_cutOf yX3_cutOf, Cond.code yX3_cutOf cX3_cutOf 9 (some .long), Cond.methodLink RX3 73 yX3_crossingsOf, Cond.instanceMethod yX3_crossingsOf, Cond.selects RX3 yX3_crossingsOf yX3_crossingsOf]
def wsX4_figure_r2 : List Cond := [Cond.code yX3_crossingsOf cX3_crossingsOf 3 (some .int), Cond.methodLink RX3 57 yX3_isChosen, Cond.instanceMethod yX3_isChosen, Cond.selects RX3 yX3_isChosen yX3_isChosen, Cond.code yX3_isChosen cX3_isChosen 3 (some .boolean), Cond.methodLink RX3 51 yX3_chosenBits, Cond.instanceMethod yX3_chosenBits, Cond.selects RX3 yX3_chosenBits yX3_chosenBits, Cond.code yX3_chosenBits cX3_chosenBits 2 (some .int), Cond.fieldLink RX3 28 "SliceBody$Solid" "chosenAtX" "I", Cond.fieldLink RX3 31 "SliceBody$Solid" "chosenAtY" "I", Cond.methodLink RX3 54 yX1_hasBit, Cond.static yX1_hasBit, Cond.initialized RX1, Cond.code yX1_hasBit cX1_hasBit 2 (some .boolean), Cond.methodLink RX3 63 yX3_ribColumn, Cond.instanceMethod yX3_ribColumn, Cond.selects RX3 yX3_ribColumn yX3_ribColumn, Cond.code yX3_ribColumn cX3_ribColumn 4 (some .int), Cond.methodLink RX3 42 yX3_columnAt, Cond.instanceMethod yX3_columnAt, Cond.selects RX3 yX3_columnAt yX3_columnAt, Cond.code yX3_columnAt cX3_columnAt 3 (some .int), Cond.fieldLink RX3 11 "SliceBody$Solid" "columns" "[I"]
def wsX4_figure_r3 : List Cond := [Cond.methodLink RX3 38 yX3_hasColumn, Cond.instanceMethod yX3_hasColumn, Cond.selects RX3 yX3_hasColumn yX3_hasColumn, Cond.code yX3_hasColumn cX3_hasColumn 3 (some .boolean), Cond.methodLink RX3 76 yX1_upperHalves, Cond.static yX1_upperHalves, Cond.code yX1_upperHalves cX1_upperHalves 4 (some .int), Cond.methodLink RX1 30 yX1_beginsRun, Cond.static yX1_beginsRun, Cond.code yX1_beginsRun cX1_beginsRun 2 (some .boolean), Cond.methodLink RX1 20 yX1_hasBit, Cond.methodLink RX1 33 yX1_runLength, Cond.static yX1_runLength, Cond.code yX1_runLength cX1_runLength 3 (some .int), Cond.methodLink RX1 36 yX1_bitsBetween, Cond.static yX1_bitsBetween, Cond.code yX1_bitsBetween cX1_bitsBetween 4 (some .int), Cond.methodLink RX1 11 Lib.Math.max.name, Cond.static Lib.Math.max.name, Cond.initialized "java/lang/Math", Cond.code Lib.Math.max.name Lib.Math.max.code 2 (some .int), Cond.methodLink RX1 17 Lib.Math.min.name, Cond.static Lib.Math.min.name, Cond.code Lib.Math.min.name Lib.Math.min.code 2 (some .int)]
def wsX4_figure_r4 : List Cond := [Cond.methodLink RX3 67 yX2_shifted, Cond.static yX2_shifted, Cond.initialized RX2, Cond.code yX2_shifted cX2_shifted 2 (some .long), Cond.methodLink RX4 103 yX3_figureOf, Cond.instanceMethod yX3_figureOf, Cond.selects RX3 yX3_figureOf yX3_figureOf, Cond.code yX3_figureOf cX3_figureOf 6 (some .long), Cond.methodLink RX4 106 yX2_columnAt, Cond.static yX2_columnAt, Cond.code yX2_columnAt cX2_columnAt 3 (some .int), Cond.methodLink RX4 75 yX1_hasBit, Cond.methodLink RX4 78 yX4_asNumber, Cond.static yX4_asNumber, Cond.initialized RX4, Cond.code yX4_asNumber cX4_asNumber 1 (some .int)]
def wsX4_figure : List Cond := .code yX4_figure cX4_figure 8 (some .int) :: ((wsX4_figure_r1 ++ (wsX4_figure_r2 ++ (wsX4_figure_r3 ++ wsX4_figure_r4))) ++ wsX40 ++ wsX30)
def wsX4_about_r1 : List Cond := [Cond.fieldLink RX4 10 "SliceBody" "solid" "LSliceBody$Solid;", Cond.methodLink RX4 82 yX3_hasRib, Cond.instanceMethod yX3_hasRib, Cond.selects RX3 yX3_hasRib yX3_hasRib, Cond.initialized RX3, Cond.code yX3_hasRib cX3_hasRib 3 (some .boolean), Cond.methodLink RX3 34 yX3_ribCount, Cond.instanceMethod yX3_ribCount, Cond.selects RX3 yX3_ribCount yX3_ribCount, Cond.code yX3_ribCount cX3_ribCount 2 (some .int), Cond.fieldLink RX3 18 "SliceBody$Solid" "wide" "I", Cond.fieldLink RX3 22 "SliceBody$Solid" "deep" "I", Cond.methodLink RX4 103 yX3_figureOf, Cond.instanceMethod yX3_figureOf, Cond.selects RX3 yX3_figureOf yX3_figureOf, Cond.code yX3_figureOf cX3_figureOf 6 (some .long), Cond.methodLink RX3 63 yX3_ribColumn, Cond.instanceMethod yX3_ribColumn, Cond.selects RX3 yX3_ribColumn yX3_ribColumn, Cond.code yX3_ribColumn cX3_ribColumn 4 (some .int), Cond.methodLink RX3 42 yX3_columnAt, Cond.instanceMethod yX3_columnAt, Cond.selects RX3 yX3_columnAt yX3_columnAt, Cond.code yX3_columnAt cX3_columnAt 3 (some .int)]
def wsX4_about_r2 : List Cond := [Cond.fieldLink RX3 11 "SliceBody$Solid" "columns" "[I", Cond.methodLink RX3 38 yX3_hasColumn, Cond.instanceMethod yX3_hasColumn, Cond.selects RX3 yX3_hasColumn yX3_hasColumn, Cond.code yX3_hasColumn cX3_hasColumn 3 (some .boolean), Cond.methodLink RX3 67 yX2_shifted, Cond.static yX2_shifted, Cond.initialized RX2, Cond.code yX2_shifted cX2_shifted 2 (some .long), Cond.methodLink RX4 111 yJ13_bitCount_95d88, Cond.static yJ13_bitCount_95d88, Cond.initialized RJ13, Cond.code yJ13_bitCount_95d88 cJ13_bitCount_95d88 2 (some .int), Cond.constantLong RJ13 314 (6148914691236517205), Cond.constantLong RJ13 316 (3689348814741910323), Cond.constantLong RJ13 318 (1085102592571150095), Cond.methodLink RX4 99 yX3_cutOf, Cond.instanceMethod yX3_cutOf, Cond.selects RX3 yX3_cutOf yX3_cutOf, Cond.code yX3_cutOf cX3_cutOf 9 (some .long), Cond.methodLink RX3 73 yX3_crossingsOf, Cond.instanceMethod yX3_crossingsOf, Cond.selects RX3 yX3_crossingsOf yX3_crossingsOf, Cond.code yX3_crossingsOf cX3_crossingsOf 3 (some .int)]
def wsX4_about_r3 : List Cond := [Cond.methodLink RX3 57 yX3_isChosen, Cond.instanceMethod yX3_isChosen, Cond.selects RX3 yX3_isChosen yX3_isChosen, Cond.code yX3_isChosen cX3_isChosen 3 (some .boolean), Cond.methodLink RX3 51 yX3_chosenBits, Cond.instanceMethod yX3_chosenBits, Cond.selects RX3 yX3_chosenBits yX3_chosenBits, Cond.code yX3_chosenBits cX3_chosenBits 2 (some .int), Cond.fieldLink RX3 28 "SliceBody$Solid" "chosenAtX" "I", Cond.fieldLink RX3 31 "SliceBody$Solid" "chosenAtY" "I", Cond.methodLink RX3 54 yX1_hasBit, Cond.static yX1_hasBit, Cond.initialized RX1, Cond.code yX1_hasBit cX1_hasBit 2 (some .boolean), Cond.methodLink RX3 76 yX1_upperHalves, Cond.static yX1_upperHalves, Cond.code yX1_upperHalves cX1_upperHalves 4 (some .int), Cond.methodLink RX1 30 yX1_beginsRun, Cond.static yX1_beginsRun, Cond.code yX1_beginsRun cX1_beginsRun 2 (some .boolean), Cond.methodLink RX1 20 yX1_hasBit, Cond.methodLink RX1 33 yX1_runLength, Cond.static yX1_runLength, Cond.code yX1_runLength cX1_runLength 3 (some .int)]
def wsX4_about_r4 : List Cond := [Cond.methodLink RX1 36 yX1_bitsBetween, Cond.static yX1_bitsBetween, Cond.code yX1_bitsBetween cX1_bitsBetween 4 (some .int), Cond.methodLink RX1 11 Lib.Math.max.name, Cond.static Lib.Math.max.name, Cond.initialized "java/lang/Math", Cond.code Lib.Math.max.name Lib.Math.max.code 2 (some .int), Cond.methodLink RX1 17 Lib.Math.min.name, Cond.static Lib.Math.min.name, Cond.code Lib.Math.min.name Lib.Math.min.code 2 (some .int), Cond.methodLink RX4 117 yX2_partCount, Cond.static yX2_partCount, Cond.code yX2_partCount cX2_partCount 2 (some .int), Cond.methodLink RX2 9 yX2_partsClearOf, Cond.static yX2_partsClearOf, Cond.code yX2_partsClearOf cX2_partsClearOf 10 (some .int), Cond.constantLong RX2 17 (-1), Cond.methodLink RX2 13 yX2_partAround, Cond.static yX2_partAround, Cond.code yX2_partAround cX2_partAround 9 (some .long), Cond.methodLink RX2 19 yX2_neighboursOf, Cond.static yX2_neighboursOf, Cond.code yX2_neighboursOf cX2_neighboursOf 6 (some .long), Cond.constantLong RX2 23 (9187201950435737471)]
def wsX4_about_r5 : List Cond := [Cond.constantLong RX2 25 (-72340172838076674), Cond.methodLink RX4 120 yX3_loosePartsOf, Cond.instanceMethod yX3_loosePartsOf, Cond.selects RX3 yX3_loosePartsOf yX3_loosePartsOf, Cond.code yX3_loosePartsOf cX3_loosePartsOf 7 (some .int), Cond.methodLink RX3 82 yX3_cutOf, Cond.methodLink RX3 85 yX2_partsClearOf, Cond.methodLink RX4 123 yX3_crossingsWithRun, Cond.instanceMethod yX3_crossingsWithRun, Cond.selects RX3 yX3_crossingsWithRun yX3_crossingsWithRun, Cond.code yX3_crossingsWithRun cX3_crossingsWithRun 6 (some .int), Cond.methodLink RX4 126 yX3_runsInCrossings, Cond.instanceMethod yX3_runsInCrossings, Cond.selects RX3 yX3_runsInCrossings yX3_runsInCrossings, Cond.code yX3_runsInCrossings cX3_runsInCrossings 6 (some .int), Cond.methodLink RX3 60 yX1_runCount, Cond.static yX1_runCount, Cond.code yX1_runCount cX1_runCount 1 (some .int), Cond.methodLink RX1 24 yJ6_bitCount_0f7a4, Cond.static yJ6_bitCount_0f7a4, Cond.initialized RJ6, Cond.code yJ6_bitCount_0f7a4 cJ6_bitCount_0f7a4 1 (some .int), Cond.constant RJ6 265 (1431655765), Cond.constant RJ6 266 (858993459)]
def wsX4_about_r6 : List Cond := [Cond.constant RJ6 267 (252645135), Cond.methodLink RX4 129 yX2_spanOfU, Cond.static yX2_spanOfU, Cond.code yX2_spanOfU cX2_spanOfU 4 (some .int), Cond.methodLink RX2 29 yX2_columnAt, Cond.static yX2_columnAt, Cond.code yX2_columnAt cX2_columnAt 3 (some .int), Cond.methodLink RX2 33 yX1_span, Cond.static yX1_span, Cond.code yX1_span cX1_span 4 (some .int), Cond.methodLink RX4 132 yX2_spanOfZ, Cond.static yX2_spanOfZ, Cond.code yX2_spanOfZ cX2_spanOfZ 4 (some .int)]
def wsX4_about : List Cond := .code yX4_about cX4_about 4 (some .int) :: ((wsX4_about_r1 ++ (wsX4_about_r2 ++ (wsX4_about_r3 ++ (wsX4_about_r4 ++ (wsX4_about_r5 ++ wsX4_about_r6))))) ++ wsX40 ++ wsX30)
def wsX4_caught_r1 : List Cond := [Cond.fieldLink RX4 10 "SliceBody" "solid" "LSliceBody$Solid;", Cond.fieldLink RX4 52 "SliceBody$Solid" "wide" "I", Cond.fieldLink RX4 55 "SliceBody$Solid" "deep" "I", Cond.methodLink RX4 135 yX3_crossingsOf, Cond.instanceMethod yX3_crossingsOf, Cond.selects RX3 yX3_crossingsOf yX3_crossingsOf, Cond.initialized RX3, Cond.code yX3_crossingsOf cX3_crossingsOf 3 (some .int), Cond.methodLink RX3 57 yX3_isChosen, Cond.instanceMethod yX3_isChosen, Cond.selects RX3 yX3_isChosen yX3_isChosen, Cond.code yX3_isChosen cX3_isChosen 3 (some .boolean), Cond.methodLink RX3 51 yX3_chosenBits, Cond.instanceMethod yX3_chosenBits, Cond.selects RX3 yX3_chosenBits yX3_chosenBits, Cond.code yX3_chosenBits cX3_chosenBits 2 (some .int), Cond.fieldLink RX3 28 "SliceBody$Solid" "chosenAtX" "I", Cond.fieldLink RX3 31 "SliceBody$Solid" "chosenAtY" "I", Cond.methodLink RX3 54 yX1_hasBit, Cond.static yX1_hasBit, Cond.initialized RX1, Cond.code yX1_hasBit cX1_hasBit 2 (some .boolean), Cond.methodLink RX4 75 yX1_hasBit, Cond.methodLink RX4 138 yX3_wouldCatch]
def wsX4_caught_r2 : List Cond := [Cond.instanceMethod yX3_wouldCatch, Cond.selects RX3 yX3_wouldCatch yX3_wouldCatch, Cond.code yX3_wouldCatch cX3_wouldCatch 3 (some .boolean), Cond.methodLink RX3 42 yX3_columnAt, Cond.instanceMethod yX3_columnAt, Cond.selects RX3 yX3_columnAt yX3_columnAt, Cond.code yX3_columnAt cX3_columnAt 3 (some .int), Cond.fieldLink RX3 11 "SliceBody$Solid" "columns" "[I", Cond.methodLink RX3 38 yX3_hasColumn, Cond.instanceMethod yX3_hasColumn, Cond.selects RX3 yX3_hasColumn yX3_hasColumn, Cond.code yX3_hasColumn cX3_hasColumn 3 (some .boolean), Cond.fieldLink RX3 18 "SliceBody$Solid" "wide" "I", Cond.fieldLink RX3 22 "SliceBody$Solid" "deep" "I", Cond.methodLink RX3 60 yX1_runCount, Cond.static yX1_runCount, Cond.code yX1_runCount cX1_runCount 1 (some .int), Cond.methodLink RX1 24 yJ6_bitCount_0f7a4, Cond.static yJ6_bitCount_0f7a4, Cond.initialized RJ6, Cond.code yJ6_bitCount_0f7a4 cJ6_bitCount_0f7a4 1 (some .int), Cond.constant RJ6 265 (1431655765), Cond.constant RJ6 266 (858993459), Cond.constant RJ6 267 (252645135)]
def wsX4_caught : List Cond := .code yX4_caught cX4_caught 6 (some .int) :: ((wsX4_caught_r1 ++ wsX4_caught_r2) ++ wsX40 ++ wsX30)
def wsX4_run_r1 : List Cond := [Cond.fieldLink RX4 10 "SliceBody" "solid" "LSliceBody$Solid;", Cond.fieldLink RX4 37 "SliceBody$Solid" "high" "I", Cond.methodLink RX4 65 yX3_hasColumn, Cond.instanceMethod yX3_hasColumn, Cond.selects RX3 yX3_hasColumn yX3_hasColumn, Cond.initialized RX3, Cond.code yX3_hasColumn cX3_hasColumn 3 (some .boolean), Cond.fieldLink RX3 18 "SliceBody$Solid" "wide" "I", Cond.fieldLink RX3 22 "SliceBody$Solid" "deep" "I", Cond.methodLink RX4 72 yX3_columnAt, Cond.instanceMethod yX3_columnAt, Cond.selects RX3 yX3_columnAt yX3_columnAt, Cond.code yX3_columnAt cX3_columnAt 3 (some .int), Cond.fieldLink RX3 11 "SliceBody$Solid" "columns" "[I", Cond.methodLink RX3 38 yX3_hasColumn, Cond.methodLink RX4 141 yX1_beginsRun, Cond.static yX1_beginsRun, Cond.initialized RX1, Cond.code yX1_beginsRun cX1_beginsRun 2 (some .boolean), Cond.methodLink RX1 20 yX1_hasBit, Cond.static yX1_hasBit, Cond.code yX1_hasBit cX1_hasBit 2 (some .boolean), Cond.methodLink RX4 144 yX1_runLength, Cond.static yX1_runLength]
def wsX4_run_r2 : List Cond := [Cond.code yX1_runLength cX1_runLength 3 (some .int)]
def wsX4_run : List Cond := .code yX4_run cX4_run 7 (some .int) :: ((wsX4_run_r1 ++ wsX4_run_r2) ++ wsX40 ++ wsX30)
def wsX4_cover_r1 : List Cond := [Cond.fieldLink RX4 10 "SliceBody" "solid" "LSliceBody$Solid;", Cond.methodLink RX4 147 yX3_coveredCubes, Cond.instanceMethod yX3_coveredCubes, Cond.selects RX3 yX3_coveredCubes yX3_coveredCubes, Cond.initialized RX3, Cond.code yX3_coveredCubes cX3_coveredCubes 4 (some .int), Cond.fieldLink RX3 18 "SliceBody$Solid" "wide" "I", Cond.fieldLink RX3 22 "SliceBody$Solid" "deep" "I", Cond.methodLink RX3 57 yX3_isChosen, Cond.instanceMethod yX3_isChosen, Cond.selects RX3 yX3_isChosen yX3_isChosen, Cond.code yX3_isChosen cX3_isChosen 3 (some .boolean), Cond.methodLink RX3 51 yX3_chosenBits, Cond.instanceMethod yX3_chosenBits, Cond.selects RX3 yX3_chosenBits yX3_chosenBits, Cond.code yX3_chosenBits cX3_chosenBits 2 (some .int), Cond.fieldLink RX3 28 "SliceBody$Solid" "chosenAtX" "I", Cond.fieldLink RX3 31 "SliceBody$Solid" "chosenAtY" "I", Cond.methodLink RX3 54 yX1_hasBit, Cond.static yX1_hasBit, Cond.initialized RX1, Cond.code yX1_hasBit cX1_hasBit 2 (some .boolean), Cond.methodLink RX3 42 yX3_columnAt, Cond.instanceMethod yX3_columnAt]
def wsX4_cover_r2 : List Cond := [Cond.selects RX3 yX3_columnAt yX3_columnAt, Cond.code yX3_columnAt cX3_columnAt 3 (some .int), Cond.fieldLink RX3 11 "SliceBody$Solid" "columns" "[I", Cond.methodLink RX3 38 yX3_hasColumn, Cond.instanceMethod yX3_hasColumn, Cond.selects RX3 yX3_hasColumn yX3_hasColumn, Cond.code yX3_hasColumn cX3_hasColumn 3 (some .boolean), Cond.methodLink RX3 46 yJ6_bitCount_0f7a4, Cond.static yJ6_bitCount_0f7a4, Cond.initialized RJ6, Cond.code yJ6_bitCount_0f7a4 cJ6_bitCount_0f7a4 1 (some .int), Cond.constant RJ6 265 (1431655765), Cond.constant RJ6 266 (858993459), Cond.constant RJ6 267 (252645135)]
def wsX4_cover : List Cond := .code yX4_cover cX4_cover 1 (some .int) :: ((wsX4_cover_r1 ++ wsX4_cover_r2) ++ wsX40 ++ wsX30)
def wsX4_best_r1 : List Cond := [Cond.fieldLink RX4 10 "SliceBody" "solid" "LSliceBody$Solid;", Cond.fieldLink RX4 52 "SliceBody$Solid" "wide" "I", Cond.fieldLink RX4 55 "SliceBody$Solid" "deep" "I", Cond.fieldLink RX4 19 "SliceBody" "boards" "LSliceBody$Boards;", Cond.methodLink RX4 151 yX3_chooseBest, Cond.instanceMethod yX3_chooseBest, Cond.selects RX3 yX3_chooseBest yX3_chooseBest, Cond.initialized RX3, Cond.code yX3_chooseBest cX3_chooseBest 9 none, Cond.constant RX3 97 (-2147483648), Cond.fieldLink RX3 18 "SliceBody$Solid" "wide" "I", Cond.fieldLink RX3 28 "SliceBody$Solid" "chosenAtX" "I", Cond.fieldLink RX3 31 "SliceBody$Solid" "chosenAtY" "I", Cond.methodLink RX3 46 yJ6_bitCount_0f7a4, Cond.static yJ6_bitCount_0f7a4, Cond.initialized RJ6, Cond.code yJ6_bitCount_0f7a4 cJ6_bitCount_0f7a4 1 (some .int), Cond.constant RJ6 265 (1431655765), Cond.constant RJ6 266 (858993459), Cond.constant RJ6 267 (252645135), Cond.methodLink RX3 98 yX3_reckonGains, Cond.instanceMethod yX3_reckonGains, Cond.selects RX3 yX3_reckonGains yX3_reckonGains, Cond.code yX3_reckonGains cX3_reckonGains 5 none]
def wsX4_best_r2 : List Cond := [Cond.fieldLink RX3 22 "SliceBody$Solid" "deep" "I", Cond.fieldLink RX3 15 "SliceBody$Solid" "gains" "[I", Cond.methodLink RX3 54 yX1_hasBit, Cond.static yX1_hasBit, Cond.initialized RX1, Cond.code yX1_hasBit cX1_hasBit 2 (some .boolean), Cond.methodLink RX3 42 yX3_columnAt, Cond.instanceMethod yX3_columnAt, Cond.selects RX3 yX3_columnAt yX3_columnAt, Cond.code yX3_columnAt cX3_columnAt 3 (some .int), Cond.fieldLink RX3 11 "SliceBody$Solid" "columns" "[I", Cond.methodLink RX3 38 yX3_hasColumn, Cond.instanceMethod yX3_hasColumn, Cond.selects RX3 yX3_hasColumn yX3_hasColumn, Cond.code yX3_hasColumn cX3_hasColumn 3 (some .boolean), Cond.methodLink RX3 111 yX3_wouldCatch, Cond.instanceMethod yX3_wouldCatch, Cond.selects RX3 yX3_wouldCatch yX3_wouldCatch, Cond.code yX3_wouldCatch cX3_wouldCatch 3 (some .boolean), Cond.methodLink RX3 60 yX1_runCount, Cond.static yX1_runCount, Cond.code yX1_runCount cX1_runCount 1 (some .int), Cond.methodLink RX1 24 yJ6_bitCount_0f7a4, Cond.methodLink RX3 102 yX3_greatestGains]
def wsX4_best_r3 : List Cond := [Cond.instanceMethod yX3_greatestGains, Cond.selects RX3 yX3_greatestGains yX3_greatestGains, Cond.code yX3_greatestGains cX3_greatestGains 6 (some .int), Cond.methodLink RX3 105 yX3_worthAlone, Cond.instanceMethod yX3_worthAlone, Cond.selects RX3 yX3_worthAlone yX3_worthAlone, Cond.code yX3_worthAlone cX3_worthAlone 4 (some .int), Cond.methodLink RX3 79 yX3_figureOf, Cond.instanceMethod yX3_figureOf, Cond.selects RX3 yX3_figureOf yX3_figureOf, Cond.code yX3_figureOf cX3_figureOf 6 (some .long), Cond.methodLink RX3 34 yX3_ribCount, Cond.instanceMethod yX3_ribCount, Cond.selects RX3 yX3_ribCount yX3_ribCount, Cond.code yX3_ribCount cX3_ribCount 2 (some .int), Cond.methodLink RX3 63 yX3_ribColumn, Cond.instanceMethod yX3_ribColumn, Cond.selects RX3 yX3_ribColumn yX3_ribColumn, Cond.code yX3_ribColumn cX3_ribColumn 4 (some .int), Cond.methodLink RX3 67 yX2_shifted, Cond.static yX2_shifted, Cond.initialized RX2, Cond.code yX2_shifted cX2_shifted 2 (some .long), Cond.methodLink RX3 89 yJ13_bitCount_95d88]
def wsX4_best_r4 : List Cond := [Cond.static yJ13_bitCount_95d88, Cond.initialized RJ13, Cond.code yJ13_bitCount_95d88 cJ13_bitCount_95d88 2 (some .int), Cond.constantLong RJ13 314 (6148914691236517205), Cond.constantLong RJ13 316 (3689348814741910323), Cond.constantLong RJ13 318 (1085102592571150095), Cond.methodLink RX3 108 yX3_sumOfGains, Cond.instanceMethod yX3_sumOfGains, Cond.selects RX3 yX3_sumOfGains yX3_sumOfGains, Cond.code yX3_sumOfGains cX3_sumOfGains 4 (some .int), Cond.methodLink RX4 31 yX0_forget, Cond.instanceMethod yX0_forget, Cond.selects RX0 yX0_forget yX0_forget, Cond.initialized RX0, Cond.code yX0_forget cX0_forget 1 none, Cond.fieldLink RX0 15 "SliceBody$Boards" "known" "Z", Cond.methodLink RX4 147 yX3_coveredCubes, Cond.instanceMethod yX3_coveredCubes, Cond.selects RX3 yX3_coveredCubes yX3_coveredCubes, Cond.code yX3_coveredCubes cX3_coveredCubes 4 (some .int), Cond.methodLink RX3 57 yX3_isChosen, Cond.instanceMethod yX3_isChosen, Cond.selects RX3 yX3_isChosen yX3_isChosen, Cond.code yX3_isChosen cX3_isChosen 3 (some .boolean)]
def wsX4_best_r5 : List Cond := [Cond.methodLink RX3 51 yX3_chosenBits, Cond.instanceMethod yX3_chosenBits, Cond.selects RX3 yX3_chosenBits yX3_chosenBits, Cond.code yX3_chosenBits cX3_chosenBits 2 (some .int)]
def wsX4_best : List Cond := .code yX4_best cX4_best 3 (some .int) :: ((wsX4_best_r1 ++ (wsX4_best_r2 ++ (wsX4_best_r3 ++ (wsX4_best_r4 ++ wsX4_best_r5)))) ++ wsX40 ++ wsX30 ++ wsX00)
def wsX4_told_r1 : List Cond := [Cond.fieldLink RX4 10 "SliceBody" "solid" "LSliceBody$Solid;", Cond.fieldLink RX4 52 "SliceBody$Solid" "wide" "I", Cond.fieldLink RX4 55 "SliceBody$Solid" "deep" "I", Cond.fieldLink RX4 37 "SliceBody$Solid" "high" "I", Cond.methodLink RX4 154 yX3_cubeCount, Cond.instanceMethod yX3_cubeCount, Cond.selects RX3 yX3_cubeCount yX3_cubeCount, Cond.initialized RX3, Cond.code yX3_cubeCount cX3_cubeCount 6 (some .int), Cond.fieldLink RX3 11 "SliceBody$Solid" "columns" "[I", Cond.methodLink RX3 46 yJ6_bitCount_0f7a4, Cond.static yJ6_bitCount_0f7a4, Cond.initialized RJ6, Cond.code yJ6_bitCount_0f7a4 cJ6_bitCount_0f7a4 1 (some .int), Cond.constant RJ6 265 (1431655765), Cond.constant RJ6 266 (858993459), Cond.constant RJ6 267 (252645135), Cond.methodLink RX4 88 yX3_chosenBits, Cond.instanceMethod yX3_chosenBits, Cond.selects RX3 yX3_chosenBits yX3_chosenBits, Cond.code yX3_chosenBits cX3_chosenBits 2 (some .int), Cond.fieldLink RX3 28 "SliceBody$Solid" "chosenAtX" "I", Cond.fieldLink RX3 31 "SliceBody$Solid" "chosenAtY" "I", Cond.methodLink RX4 157 yX3_cubesOfCuts]
def wsX4_told_r2 : List Cond := [Cond.instanceMethod yX3_cubesOfCuts, Cond.selects RX3 yX3_cubesOfCuts yX3_cubesOfCuts, Cond.code yX3_cubesOfCuts cX3_cubesOfCuts 4 (some .int), Cond.methodLink RX3 34 yX3_ribCount, Cond.instanceMethod yX3_ribCount, Cond.selects RX3 yX3_ribCount yX3_ribCount, Cond.code yX3_ribCount cX3_ribCount 2 (some .int), Cond.fieldLink RX3 18 "SliceBody$Solid" "wide" "I", Cond.fieldLink RX3 22 "SliceBody$Solid" "deep" "I", Cond.methodLink RX3 57 yX3_isChosen, Cond.instanceMethod yX3_isChosen, Cond.selects RX3 yX3_isChosen yX3_isChosen, Cond.code yX3_isChosen cX3_isChosen 3 (some .boolean), Cond.methodLink RX3 51 yX3_chosenBits, Cond.methodLink RX3 54 yX1_hasBit, Cond.static yX1_hasBit, Cond.initialized RX1, Cond.code yX1_hasBit cX1_hasBit 2 (some .boolean), Cond.methodLink RX3 82 yX3_cutOf, Cond.instanceMethod yX3_cutOf, Cond.selects RX3 yX3_cutOf yX3_cutOf, Cond.code yX3_cutOf cX3_cutOf 9 (some .long), Cond.methodLink RX3 73 yX3_crossingsOf, Cond.instanceMethod yX3_crossingsOf]
def wsX4_told_r3 : List Cond := [Cond.selects RX3 yX3_crossingsOf yX3_crossingsOf, Cond.code yX3_crossingsOf cX3_crossingsOf 3 (some .int), Cond.methodLink RX3 63 yX3_ribColumn, Cond.instanceMethod yX3_ribColumn, Cond.selects RX3 yX3_ribColumn yX3_ribColumn, Cond.code yX3_ribColumn cX3_ribColumn 4 (some .int), Cond.methodLink RX3 42 yX3_columnAt, Cond.instanceMethod yX3_columnAt, Cond.selects RX3 yX3_columnAt yX3_columnAt, Cond.code yX3_columnAt cX3_columnAt 3 (some .int), Cond.methodLink RX3 38 yX3_hasColumn, Cond.instanceMethod yX3_hasColumn, Cond.selects RX3 yX3_hasColumn yX3_hasColumn, Cond.code yX3_hasColumn cX3_hasColumn 3 (some .boolean), Cond.methodLink RX3 76 yX1_upperHalves, Cond.static yX1_upperHalves, Cond.code yX1_upperHalves cX1_upperHalves 4 (some .int), Cond.methodLink RX1 30 yX1_beginsRun, Cond.static yX1_beginsRun, Cond.code yX1_beginsRun cX1_beginsRun 2 (some .boolean), Cond.methodLink RX1 20 yX1_hasBit, Cond.methodLink RX1 33 yX1_runLength, Cond.static yX1_runLength, Cond.code yX1_runLength cX1_runLength 3 (some .int)]
def wsX4_told_r4 : List Cond := [Cond.methodLink RX1 36 yX1_bitsBetween, Cond.static yX1_bitsBetween, Cond.code yX1_bitsBetween cX1_bitsBetween 4 (some .int), Cond.methodLink RX1 11 Lib.Math.max.name, Cond.static Lib.Math.max.name, Cond.initialized "java/lang/Math", Cond.code Lib.Math.max.name Lib.Math.max.code 2 (some .int), Cond.methodLink RX1 17 Lib.Math.min.name, Cond.static Lib.Math.min.name, Cond.code Lib.Math.min.name Lib.Math.min.code 2 (some .int), Cond.methodLink RX3 67 yX2_shifted, Cond.static yX2_shifted, Cond.initialized RX2, Cond.code yX2_shifted cX2_shifted 2 (some .long), Cond.methodLink RX3 89 yJ13_bitCount_95d88, Cond.static yJ13_bitCount_95d88, Cond.initialized RJ13, Cond.code yJ13_bitCount_95d88 cJ13_bitCount_95d88 2 (some .int), Cond.constantLong RJ13 314 (6148914691236517205), Cond.constantLong RJ13 316 (3689348814741910323), Cond.constantLong RJ13 318 (1085102592571150095), Cond.methodLink RX4 160 yX3_looseParts, Cond.instanceMethod yX3_looseParts, Cond.selects RX3 yX3_looseParts yX3_looseParts]
def wsX4_told_r5 : List Cond := [Cond.code yX3_looseParts cX3_looseParts 4 (some .int), Cond.methodLink RX3 94 yX3_loosePartsOf, Cond.instanceMethod yX3_loosePartsOf, Cond.selects RX3 yX3_loosePartsOf yX3_loosePartsOf, Cond.code yX3_loosePartsOf cX3_loosePartsOf 7 (some .int), Cond.methodLink RX3 85 yX2_partsClearOf, Cond.static yX2_partsClearOf, Cond.code yX2_partsClearOf cX2_partsClearOf 10 (some .int), Cond.constantLong RX2 17 (-1), Cond.methodLink RX2 13 yX2_partAround, Cond.static yX2_partAround, Cond.code yX2_partAround cX2_partAround 9 (some .long), Cond.methodLink RX2 19 yX2_neighboursOf, Cond.static yX2_neighboursOf, Cond.code yX2_neighboursOf cX2_neighboursOf 6 (some .long), Cond.constantLong RX2 23 (9187201950435737471), Cond.constantLong RX2 25 (-72340172838076674)]
def wsX4_told : List Cond := .code yX4_told cX4_told 2 (some .int) :: ((wsX4_told_r1 ++ (wsX4_told_r2 ++ (wsX4_told_r3 ++ (wsX4_told_r4 ++ wsX4_told_r5)))) ++ wsX40 ++ wsX30)
def wsX4_allFitInto_r1 : List Cond := [Cond.fieldLink RX4 10 "SliceBody" "solid" "LSliceBody$Solid;", Cond.methodLink RX4 96 yX3_ribCount, Cond.instanceMethod yX3_ribCount, Cond.selects RX3 yX3_ribCount yX3_ribCount, Cond.initialized RX3, Cond.code yX3_ribCount cX3_ribCount 2 (some .int), Cond.fieldLink RX3 18 "SliceBody$Solid" "wide" "I", Cond.fieldLink RX3 22 "SliceBody$Solid" "deep" "I", Cond.methodLink RX4 169 yX3_chosenFigure, Cond.instanceMethod yX3_chosenFigure, Cond.selects RX3 yX3_chosenFigure yX3_chosenFigure, Cond.code yX3_chosenFigure cX3_chosenFigure 3 (some .long), Cond.methodLink RX3 57 yX3_isChosen, Cond.instanceMethod yX3_isChosen, Cond.selects RX3 yX3_isChosen yX3_isChosen, Cond.code yX3_isChosen cX3_isChosen 3 (some .boolean), Cond.methodLink RX3 51 yX3_chosenBits, Cond.instanceMethod yX3_chosenBits, Cond.selects RX3 yX3_chosenBits yX3_chosenBits, Cond.code yX3_chosenBits cX3_chosenBits 2 (some .int), Cond.fieldLink RX3 28 "SliceBody$Solid" "chosenAtX" "I", Cond.fieldLink RX3 31 "SliceBody$Solid" "chosenAtY" "I", Cond.methodLink RX3 54 yX1_hasBit, Cond.static yX1_hasBit]
def wsX4_allFitInto_r2 : List Cond := [Cond.initialized RX1, Cond.code yX1_hasBit cX1_hasBit 2 (some .boolean), Cond.methodLink RX3 79 yX3_figureOf, Cond.instanceMethod yX3_figureOf, Cond.selects RX3 yX3_figureOf yX3_figureOf, Cond.code yX3_figureOf cX3_figureOf 6 (some .long), Cond.methodLink RX3 34 yX3_ribCount, Cond.methodLink RX3 63 yX3_ribColumn, Cond.instanceMethod yX3_ribColumn, Cond.selects RX3 yX3_ribColumn yX3_ribColumn, Cond.code yX3_ribColumn cX3_ribColumn 4 (some .int), Cond.methodLink RX3 42 yX3_columnAt, Cond.instanceMethod yX3_columnAt, Cond.selects RX3 yX3_columnAt yX3_columnAt, Cond.code yX3_columnAt cX3_columnAt 3 (some .int), Cond.fieldLink RX3 11 "SliceBody$Solid" "columns" "[I", Cond.methodLink RX3 38 yX3_hasColumn, Cond.instanceMethod yX3_hasColumn, Cond.selects RX3 yX3_hasColumn yX3_hasColumn, Cond.code yX3_hasColumn cX3_hasColumn 3 (some .boolean), Cond.methodLink RX3 67 yX2_shifted, Cond.static yX2_shifted, Cond.initialized RX2, Cond.code yX2_shifted cX2_shifted 2 (some .long)]
def wsX4_allFitInto_r3 : List Cond := [Cond.methodLink RX4 129 yX2_spanOfU, Cond.static yX2_spanOfU, Cond.code yX2_spanOfU cX2_spanOfU 4 (some .int), Cond.methodLink RX2 29 yX2_columnAt, Cond.static yX2_columnAt, Cond.code yX2_columnAt cX2_columnAt 3 (some .int), Cond.methodLink RX2 33 yX1_span, Cond.static yX1_span, Cond.code yX1_span cX1_span 4 (some .int), Cond.methodLink RX1 20 yX1_hasBit, Cond.methodLink RX4 132 yX2_spanOfZ, Cond.static yX2_spanOfZ, Cond.code yX2_spanOfZ cX2_spanOfZ 4 (some .int)]
def wsX4_allFitInto : List Cond := .code yX4_allFitInto cX4_allFitInto 7 (some .boolean) :: ((wsX4_allFitInto_r1 ++ (wsX4_allFitInto_r2 ++ wsX4_allFitInto_r3)) ++ wsX40 ++ wsX30)
def wsX4_lay_r1 : List Cond := [Cond.fieldLink RX4 19 "SliceBody" "boards" "LSliceBody$Boards;", Cond.fieldLink RX4 10 "SliceBody" "solid" "LSliceBody$Solid;", Cond.fieldLink RX4 179 "SliceBody$Boards" "boardCount" "I", Cond.methodLink RX4 163 yX4_allFitInto, Cond.instanceMethod yX4_allFitInto, Cond.selects RX4 yX4_allFitInto yX4_allFitInto, Cond.initialized RX4, Cond.code yX4_allFitInto cX4_allFitInto 7 (some .boolean), Cond.methodLink RX4 96 yX3_ribCount, Cond.instanceMethod yX3_ribCount, Cond.selects RX3 yX3_ribCount yX3_ribCount, Cond.initialized RX3, Cond.code yX3_ribCount cX3_ribCount 2 (some .int), Cond.fieldLink RX3 18 "SliceBody$Solid" "wide" "I", Cond.fieldLink RX3 22 "SliceBody$Solid" "deep" "I", Cond.methodLink RX4 169 yX3_chosenFigure, Cond.instanceMethod yX3_chosenFigure, Cond.selects RX3 yX3_chosenFigure yX3_chosenFigure, Cond.code yX3_chosenFigure cX3_chosenFigure 3 (some .long), Cond.methodLink RX3 57 yX3_isChosen, Cond.instanceMethod yX3_isChosen, Cond.selects RX3 yX3_isChosen yX3_isChosen, Cond.code yX3_isChosen cX3_isChosen 3 (some .boolean), Cond.methodLink RX3 51 yX3_chosenBits]
def wsX4_lay_r2 : List Cond := [Cond.instanceMethod yX3_chosenBits, Cond.selects RX3 yX3_chosenBits yX3_chosenBits, Cond.code yX3_chosenBits cX3_chosenBits 2 (some .int), Cond.fieldLink RX3 28 "SliceBody$Solid" "chosenAtX" "I", Cond.fieldLink RX3 31 "SliceBody$Solid" "chosenAtY" "I", Cond.methodLink RX3 54 yX1_hasBit, Cond.static yX1_hasBit, Cond.initialized RX1, Cond.code yX1_hasBit cX1_hasBit 2 (some .boolean), Cond.methodLink RX3 79 yX3_figureOf, Cond.instanceMethod yX3_figureOf, Cond.selects RX3 yX3_figureOf yX3_figureOf, Cond.code yX3_figureOf cX3_figureOf 6 (some .long), Cond.methodLink RX3 34 yX3_ribCount, Cond.methodLink RX3 63 yX3_ribColumn, Cond.instanceMethod yX3_ribColumn, Cond.selects RX3 yX3_ribColumn yX3_ribColumn, Cond.code yX3_ribColumn cX3_ribColumn 4 (some .int), Cond.methodLink RX3 42 yX3_columnAt, Cond.instanceMethod yX3_columnAt, Cond.selects RX3 yX3_columnAt yX3_columnAt, Cond.code yX3_columnAt cX3_columnAt 3 (some .int), Cond.fieldLink RX3 11 "SliceBody$Solid" "columns" "[I", Cond.methodLink RX3 38 yX3_hasColumn]
def wsX4_lay_r3 : List Cond := [Cond.instanceMethod yX3_hasColumn, Cond.selects RX3 yX3_hasColumn yX3_hasColumn, Cond.code yX3_hasColumn cX3_hasColumn 3 (some .boolean), Cond.methodLink RX3 67 yX2_shifted, Cond.static yX2_shifted, Cond.initialized RX2, Cond.code yX2_shifted cX2_shifted 2 (some .long), Cond.methodLink RX4 129 yX2_spanOfU, Cond.static yX2_spanOfU, Cond.code yX2_spanOfU cX2_spanOfU 4 (some .int), Cond.methodLink RX2 29 yX2_columnAt, Cond.static yX2_columnAt, Cond.code yX2_columnAt cX2_columnAt 3 (some .int), Cond.methodLink RX2 33 yX1_span, Cond.static yX1_span, Cond.code yX1_span cX1_span 4 (some .int), Cond.methodLink RX1 20 yX1_hasBit, Cond.methodLink RX4 132 yX2_spanOfZ, Cond.static yX2_spanOfZ, Cond.code yX2_spanOfZ cX2_spanOfZ 4 (some .int), Cond.methodLink RX4 166 yX0_clear, Cond.instanceMethod yX0_clear, Cond.selects RX0 yX0_clear yX0_clear, Cond.initialized RX0]
def wsX4_lay_r4 : List Cond := [Cond.code yX0_clear cX0_clear 1 none, Cond.fieldLink RX0 19 "SliceBody$Boards" "count" "I", Cond.methodLink RX4 172 yX0_add, Cond.instanceMethod yX0_add, Cond.selects RX0 yX0_add yX0_add, Cond.code yX0_add cX0_add 6 none, Cond.fieldLink RX0 11 "SliceBody$Boards" "facts" "[I", Cond.methodLink RX0 31 arraycopyName, Cond.native arraycopyName, Cond.static arraycopyName, Cond.initialized "java/lang/System", Cond.methodLink RX0 27 yX0_isLess, Cond.instanceMethod yX0_isLess, Cond.selects RX0 yX0_isLess yX0_isLess, Cond.code yX0_isLess cX0_isLess 5 (some .boolean), Cond.methodLink RX0 41 yX0_fact, Cond.instanceMethod yX0_fact, Cond.selects RX0 yX0_fact yX0_fact, Cond.code yX0_fact cX0_fact 3 (some .int), Cond.methodLink RX0 23 yX0_hasFact, Cond.static yX0_hasFact, Cond.code yX0_hasFact cX0_hasFact 2 (some .boolean), Cond.methodLink RX0 37 yX0_note, Cond.instanceMethod yX0_note]
def wsX4_lay_r5 : List Cond := [Cond.selects RX0 yX0_note yX0_note, Cond.code yX0_note cX0_note 4 none, Cond.methodLink RX4 176 yX0_layInRows, Cond.instanceMethod yX0_layInRows, Cond.selects RX0 yX0_layInRows yX0_layInRows, Cond.code yX0_layInRows cX0_layInRows 11 none, Cond.fieldLink RX0 45 "SliceBody$Boards" "boardCount" "I", Cond.fieldLink RX0 51 "SliceBody$Boards" "fewest" "I", Cond.fieldLink RX0 15 "SliceBody$Boards" "known" "Z", Cond.methodLink RX0 48 yX0_quotientCutUp, Cond.static yX0_quotientCutUp, Cond.code yX0_quotientCutUp cX0_quotientCutUp 2 (some .int)]
def wsX4_lay : List Cond := .code yX4_lay cX4_lay 8 (some .int) :: ((wsX4_lay_r1 ++ (wsX4_lay_r2 ++ (wsX4_lay_r3 ++ (wsX4_lay_r4 ++ wsX4_lay_r5)))) ++ wsX40 ++ wsX00 ++ wsX30)
def wsX4_laid : List Cond := .code yX4_laid cX4_laid 3 (some .int) :: ([.fieldLink RX4 19 "SliceBody" "boards" "LSliceBody$Boards;", .fieldLink RX4 182 "SliceBody$Boards" "known" "Z", .fieldLink RX4 186 "SliceBody$Boards" "count" "I", .methodLink RX4 189 yX0_fact, .instanceMethod yX0_fact, .selects RX0 yX0_fact yX0_fact, .initialized RX0, .code yX0_fact cX0_fact 3 (some .int), .fieldLink RX0 11 "SliceBody$Boards" "facts" "[I", .methodLink RX0 23 yX0_hasFact, .static yX0_hasFact, .code yX0_hasFact cX0_hasFact 2 (some .boolean)] ++ wsX40 ++ wsX00)
def wsX4_least : List Cond := .code yX4_least cX4_least 1 (some .int) :: ([.fieldLink RX4 19 "SliceBody" "boards" "LSliceBody$Boards;", .fieldLink RX4 182 "SliceBody$Boards" "known" "Z", .fieldLink RX4 192 "SliceBody$Boards" "fewest" "I"] ++ wsX40 ++ wsX00)
def wsX5_init : List Cond := .code yX5_init cX5_init 1 none :: ([.methodLink RX5 1 objectInit, .instanceMethod objectInit, .code objectInit ⟨#[0xb1]⟩ 1 none, .fieldLink RX5 7 "SliceBodyModel" "wideX" "I", .fieldLink RX5 13 "SliceBodyModel" "wideY" "I", .fieldLink RX5 16 "SliceBodyModel" "wideZ" "I", .arrayClass .boolean, .fieldLink RX5 19 "SliceBodyModel" "cubes" "[Z", .arrayClass .int, .fieldLink RX5 23 "SliceBodyModel" "chosen" "[I", .fieldLink RX5 27 "SliceBodyModel" "begins" "[I", .fieldLink RX5 30 "SliceBodyModel" "long0" "[I", .fieldLink RX5 33 "SliceBodyModel" "part" "[I", .fieldLink RX5 36 "SliceBodyModel" "column" "[I", .fieldLink RX5 39 "SliceBodyModel" "runsIn" "[I", .fieldLink RX5 42 "SliceBodyModel" "rows" "[I", .fieldLink RX5 45 "SliceBodyModel" "aside" "[I"] ++ wsX50)
def wsX5_in : List Cond := .code yX5_in cX5_in 6 (some .boolean) :: ([])
def wsX5_has : List Cond := .code yX5_has cX5_has 4 (some .boolean) :: ([.fieldLink RX5 19 "SliceBodyModel" "cubes" "[Z"] ++ wsX50)
def wsX5_isPlace : List Cond := .code yX5_isPlace cX5_isPlace 4 (some .boolean) :: ([.fieldLink RX5 7 "SliceBodyModel" "wideX" "I", .fieldLink RX5 13 "SliceBodyModel" "wideY" "I", .fieldLink RX5 16 "SliceBodyModel" "wideZ" "I", .methodLink RX5 48 yX5_in, .static yX5_in, .initialized RX5, .code yX5_in cX5_in 6 (some .boolean)] ++ wsX50)
def wsX5_space : List Cond := .code yX5_space cX5_space 5 (some .int) :: ([.constantLong RX5 52 (8), .fieldLink RX5 7 "SliceBodyModel" "wideX" "I", .fieldLink RX5 13 "SliceBodyModel" "wideY" "I", .fieldLink RX5 16 "SliceBodyModel" "wideZ" "I", .fieldLink RX5 19 "SliceBodyModel" "cubes" "[Z", .fieldLink RX5 23 "SliceBodyModel" "chosen" "[I", .fieldLink RX5 54 "SliceBodyModel" "isLaid" "Z", .methodLink RX5 48 yX5_in, .static yX5_in, .initialized RX5, .code yX5_in cX5_in 6 (some .boolean)] ++ wsX50)
def wsX5_box : List Cond := .code yX5_box cX5_box 13 (some .int) :: ([.constantLong RX5 58 (-8), .constantLong RX5 52 (8), .fieldLink RX5 19 "SliceBodyModel" "cubes" "[Z", .fieldLink RX5 54 "SliceBodyModel" "isLaid" "Z", .methodLink RX5 48 yX5_in, .static yX5_in, .initialized RX5, .code yX5_in cX5_in 6 (some .boolean), .methodLink RX5 60 yX5_isPlace, .instanceMethod yX5_isPlace, .selects RX5 yX5_isPlace yX5_isPlace, .code yX5_isPlace cX5_isPlace 4 (some .boolean), .fieldLink RX5 7 "SliceBodyModel" "wideX" "I", .fieldLink RX5 13 "SliceBodyModel" "wideY" "I", .fieldLink RX5 16 "SliceBodyModel" "wideZ" "I", .methodLink RX5 64 yX5_has, .instanceMethod yX5_has, .selects RX5 yX5_has yX5_has, .code yX5_has cX5_has 4 (some .boolean)] ++ wsX50)
def wsX5_at : List Cond := .code yX5_at cX5_at 4 (some .int) :: ([.methodLink RX5 60 yX5_isPlace, .instanceMethod yX5_isPlace, .selects RX5 yX5_isPlace yX5_isPlace, .initialized RX5, .code yX5_isPlace cX5_isPlace 4 (some .boolean), .fieldLink RX5 7 "SliceBodyModel" "wideX" "I", .fieldLink RX5 13 "SliceBodyModel" "wideY" "I", .fieldLink RX5 16 "SliceBodyModel" "wideZ" "I", .methodLink RX5 48 yX5_in, .static yX5_in, .code yX5_in cX5_in 6 (some .boolean), .methodLink RX5 64 yX5_has, .instanceMethod yX5_has, .selects RX5 yX5_has yX5_has, .code yX5_has cX5_has 4 (some .boolean), .fieldLink RX5 19 "SliceBodyModel" "cubes" "[Z"] ++ wsX50)
def wsX5_places : List Cond := .code yX5_places cX5_places 2 (some .int) :: ([.fieldLink RX5 7 "SliceBodyModel" "wideX" "I", .fieldLink RX5 13 "SliceBodyModel" "wideY" "I"] ++ wsX50)
def wsX5_isRib : List Cond := .code yX5_isRib cX5_isRib 3 (some .boolean) :: ([.methodLink RX5 48 yX5_in, .static yX5_in, .initialized RX5, .code yX5_in cX5_in 6 (some .boolean), .methodLink RX5 67 yX5_places, .instanceMethod yX5_places, .selects RX5 yX5_places yX5_places, .code yX5_places cX5_places 2 (some .int), .fieldLink RX5 7 "SliceBodyModel" "wideX" "I", .fieldLink RX5 13 "SliceBodyModel" "wideY" "I"] ++ wsX50)
def wsX5_isChosen : List Cond := .code yX5_isChosen cX5_isChosen 3 (some .boolean) :: ([.fieldLink RX5 23 "SliceBodyModel" "chosen" "[I"] ++ wsX50)
def wsX5_rib : List Cond := .code yX5_rib cX5_rib 5 (some .int) :: ([.fieldLink RX5 23 "SliceBodyModel" "chosen" "[I", .fieldLink RX5 54 "SliceBodyModel" "isLaid" "Z", .methodLink RX5 71 yX5_isRib, .instanceMethod yX5_isRib, .selects RX5 yX5_isRib yX5_isRib, .initialized RX5, .code yX5_isRib cX5_isRib 3 (some .boolean), .methodLink RX5 48 yX5_in, .static yX5_in, .code yX5_in cX5_in 6 (some .boolean), .methodLink RX5 67 yX5_places, .instanceMethod yX5_places, .selects RX5 yX5_places yX5_places, .code yX5_places cX5_places 2 (some .int), .fieldLink RX5 7 "SliceBodyModel" "wideX" "I", .fieldLink RX5 13 "SliceBodyModel" "wideY" "I", .methodLink RX5 75 yX5_isChosen, .instanceMethod yX5_isChosen, .selects RX5 yX5_isChosen yX5_isChosen, .code yX5_isChosen cX5_isChosen 3 (some .boolean)] ++ wsX50)
def wsX5_ribs : List Cond := .code yX5_ribs cX5_ribs 4 (some .int) :: ([.fieldLink RX5 23 "SliceBodyModel" "chosen" "[I", .fieldLink RX5 54 "SliceBodyModel" "isLaid" "Z", .methodLink RX5 48 yX5_in, .static yX5_in, .initialized RX5, .code yX5_in cX5_in 6 (some .boolean), .methodLink RX5 67 yX5_places, .instanceMethod yX5_places, .selects RX5 yX5_places yX5_places, .code yX5_places cX5_places 2 (some .int), .fieldLink RX5 7 "SliceBodyModel" "wideX" "I", .fieldLink RX5 13 "SliceBodyModel" "wideY" "I"] ++ wsX50)
def wsX5_hasIn : List Cond := .code yX5_hasIn cX5_hasIn 5 (some .boolean) :: ([.methodLink RX5 64 yX5_has, .instanceMethod yX5_has, .selects RX5 yX5_has yX5_has, .initialized RX5, .code yX5_has cX5_has 4 (some .boolean), .fieldLink RX5 19 "SliceBodyModel" "cubes" "[Z"] ++ wsX50)
def wsX5_findRuns : List Cond := .code yX5_findRuns cX5_findRuns 5 (some .int) :: ([.fieldLink RX5 16 "SliceBodyModel" "wideZ" "I", .fieldLink RX5 27 "SliceBodyModel" "begins" "[I", .fieldLink RX5 30 "SliceBodyModel" "long0" "[I", .methodLink RX5 64 yX5_has, .instanceMethod yX5_has, .selects RX5 yX5_has yX5_has, .initialized RX5, .code yX5_has cX5_has 4 (some .boolean), .fieldLink RX5 19 "SliceBodyModel" "cubes" "[Z"] ++ wsX50)
def wsX5_loses : List Cond := .code yX5_loses cX5_loses 8 (some .boolean) :: ([.fieldLink RX5 27 "SliceBodyModel" "begins" "[I", .fieldLink RX5 30 "SliceBodyModel" "long0" "[I", .methodLink RX5 75 yX5_isChosen, .instanceMethod yX5_isChosen, .selects RX5 yX5_isChosen yX5_isChosen, .initialized RX5, .code yX5_isChosen cX5_isChosen 3 (some .boolean), .fieldLink RX5 23 "SliceBodyModel" "chosen" "[I", .methodLink RX5 78 yX5_findRuns, .instanceMethod yX5_findRuns, .selects RX5 yX5_findRuns yX5_findRuns, .code yX5_findRuns cX5_findRuns 5 (some .int), .fieldLink RX5 16 "SliceBodyModel" "wideZ" "I", .methodLink RX5 64 yX5_has, .instanceMethod yX5_has, .selects RX5 yX5_has yX5_has, .code yX5_has cX5_has 4 (some .boolean), .fieldLink RX5 19 "SliceBodyModel" "cubes" "[Z", .methodLink RX5 48 yX5_in, .static yX5_in, .code yX5_in cX5_in 6 (some .boolean)] ++ wsX50)
def wsX5_isIn_r1 : List Cond := [Cond.methodLink RX5 82 yX5_hasIn, Cond.instanceMethod yX5_hasIn, Cond.selects RX5 yX5_hasIn yX5_hasIn, Cond.initialized RX5, Cond.code yX5_hasIn cX5_hasIn 5 (some .boolean), Cond.methodLink RX5 64 yX5_has, Cond.instanceMethod yX5_has, Cond.selects RX5 yX5_has yX5_has, Cond.code yX5_has cX5_has 4 (some .boolean), Cond.fieldLink RX5 19 "SliceBodyModel" "cubes" "[Z", Cond.methodLink RX5 86 yX5_loses, Cond.instanceMethod yX5_loses, Cond.selects RX5 yX5_loses yX5_loses, Cond.code yX5_loses cX5_loses 8 (some .boolean), Cond.fieldLink RX5 27 "SliceBodyModel" "begins" "[I", Cond.fieldLink RX5 30 "SliceBodyModel" "long0" "[I", Cond.methodLink RX5 75 yX5_isChosen, Cond.instanceMethod yX5_isChosen, Cond.selects RX5 yX5_isChosen yX5_isChosen, Cond.code yX5_isChosen cX5_isChosen 3 (some .boolean), Cond.fieldLink RX5 23 "SliceBodyModel" "chosen" "[I", Cond.methodLink RX5 78 yX5_findRuns, Cond.instanceMethod yX5_findRuns, Cond.selects RX5 yX5_findRuns yX5_findRuns]
def wsX5_isIn_r2 : List Cond := [Cond.code yX5_findRuns cX5_findRuns 5 (some .int), Cond.fieldLink RX5 16 "SliceBodyModel" "wideZ" "I", Cond.methodLink RX5 48 yX5_in, Cond.static yX5_in, Cond.code yX5_in cX5_in 6 (some .boolean)]
def wsX5_isIn : List Cond := .code yX5_isIn cX5_isIn 6 (some .boolean) :: ((wsX5_isIn_r1 ++ wsX5_isIn_r2) ++ wsX50)
def wsX5_figure_r1 : List Cond := [Cond.fieldLink RX5 16 "SliceBodyModel" "wideZ" "I", Cond.methodLink RX5 71 yX5_isRib, Cond.instanceMethod yX5_isRib, Cond.selects RX5 yX5_isRib yX5_isRib, Cond.initialized RX5, Cond.code yX5_isRib cX5_isRib 3 (some .boolean), Cond.methodLink RX5 48 yX5_in, Cond.static yX5_in, Cond.code yX5_in cX5_in 6 (some .boolean), Cond.methodLink RX5 67 yX5_places, Cond.instanceMethod yX5_places, Cond.selects RX5 yX5_places yX5_places, Cond.code yX5_places cX5_places 2 (some .int), Cond.fieldLink RX5 7 "SliceBodyModel" "wideX" "I", Cond.fieldLink RX5 13 "SliceBodyModel" "wideY" "I", Cond.methodLink RX5 89 yX5_isIn, Cond.instanceMethod yX5_isIn, Cond.selects RX5 yX5_isIn yX5_isIn, Cond.code yX5_isIn cX5_isIn 6 (some .boolean), Cond.methodLink RX5 82 yX5_hasIn, Cond.instanceMethod yX5_hasIn, Cond.selects RX5 yX5_hasIn yX5_hasIn, Cond.code yX5_hasIn cX5_hasIn 5 (some .boolean), Cond.methodLink RX5 64 yX5_has]
def wsX5_figure_r2 : List Cond := [Cond.instanceMethod yX5_has, Cond.selects RX5 yX5_has yX5_has, Cond.code yX5_has cX5_has 4 (some .boolean), Cond.fieldLink RX5 19 "SliceBodyModel" "cubes" "[Z", Cond.methodLink RX5 86 yX5_loses, Cond.instanceMethod yX5_loses, Cond.selects RX5 yX5_loses yX5_loses, Cond.code yX5_loses cX5_loses 8 (some .boolean), Cond.fieldLink RX5 27 "SliceBodyModel" "begins" "[I", Cond.fieldLink RX5 30 "SliceBodyModel" "long0" "[I", Cond.methodLink RX5 75 yX5_isChosen, Cond.instanceMethod yX5_isChosen, Cond.selects RX5 yX5_isChosen yX5_isChosen, Cond.code yX5_isChosen cX5_isChosen 3 (some .boolean), Cond.fieldLink RX5 23 "SliceBodyModel" "chosen" "[I", Cond.methodLink RX5 78 yX5_findRuns, Cond.instanceMethod yX5_findRuns, Cond.selects RX5 yX5_findRuns yX5_findRuns, Cond.code yX5_findRuns cX5_findRuns 5 (some .int)]
def wsX5_figure : List Cond := .code yX5_figure cX5_figure 6 (some .int) :: ((wsX5_figure_r1 ++ wsX5_figure_r2) ++ wsX50)
def wsX5_meet : List Cond := .code yX5_meet cX5_meet 4 (some .boolean) :: ([.fieldLink RX5 33 "SliceBodyModel" "part" "[I"] ++ wsX50)
def wsX5_findParts_r1 : List Cond := [Cond.fieldLink RX5 93 "SliceBodyModel" "cubeMany" "I", Cond.fieldLink RX5 16 "SliceBodyModel" "wideZ" "I", Cond.fieldLink RX5 33 "SliceBodyModel" "part" "[I", Cond.fieldLink RX5 99 "SliceBodyModel" "partMany" "I", Cond.methodLink RX5 67 yX5_places, Cond.instanceMethod yX5_places, Cond.selects RX5 yX5_places yX5_places, Cond.initialized RX5, Cond.code yX5_places cX5_places 2 (some .int), Cond.fieldLink RX5 7 "SliceBodyModel" "wideX" "I", Cond.fieldLink RX5 13 "SliceBodyModel" "wideY" "I", Cond.methodLink RX5 89 yX5_isIn, Cond.instanceMethod yX5_isIn, Cond.selects RX5 yX5_isIn yX5_isIn, Cond.code yX5_isIn cX5_isIn 6 (some .boolean), Cond.methodLink RX5 82 yX5_hasIn, Cond.instanceMethod yX5_hasIn, Cond.selects RX5 yX5_hasIn yX5_hasIn, Cond.code yX5_hasIn cX5_hasIn 5 (some .boolean), Cond.methodLink RX5 64 yX5_has, Cond.instanceMethod yX5_has, Cond.selects RX5 yX5_has yX5_has, Cond.code yX5_has cX5_has 4 (some .boolean), Cond.fieldLink RX5 19 "SliceBodyModel" "cubes" "[Z"]
def wsX5_findParts_r2 : List Cond := [Cond.methodLink RX5 86 yX5_loses, Cond.instanceMethod yX5_loses, Cond.selects RX5 yX5_loses yX5_loses, Cond.code yX5_loses cX5_loses 8 (some .boolean), Cond.fieldLink RX5 27 "SliceBodyModel" "begins" "[I", Cond.fieldLink RX5 30 "SliceBodyModel" "long0" "[I", Cond.methodLink RX5 75 yX5_isChosen, Cond.instanceMethod yX5_isChosen, Cond.selects RX5 yX5_isChosen yX5_isChosen, Cond.code yX5_isChosen cX5_isChosen 3 (some .boolean), Cond.fieldLink RX5 23 "SliceBodyModel" "chosen" "[I", Cond.methodLink RX5 78 yX5_findRuns, Cond.instanceMethod yX5_findRuns, Cond.selects RX5 yX5_findRuns yX5_findRuns, Cond.code yX5_findRuns cX5_findRuns 5 (some .int), Cond.methodLink RX5 48 yX5_in, Cond.static yX5_in, Cond.code yX5_in cX5_in 6 (some .boolean), Cond.methodLink RX5 96 yX5_meet, Cond.instanceMethod yX5_meet, Cond.selects RX5 yX5_meet yX5_meet, Cond.code yX5_meet cX5_meet 4 (some .boolean)]
def wsX5_findParts : List Cond := .code yX5_findParts cX5_findParts 7 none :: ((wsX5_findParts_r1 ++ wsX5_findParts_r2) ++ wsX50)
def wsX5_looseOf_r1 : List Cond := [Cond.fieldLink RX5 33 "SliceBodyModel" "part" "[I", Cond.methodLink RX5 102 yX5_findParts, Cond.instanceMethod yX5_findParts, Cond.selects RX5 yX5_findParts yX5_findParts, Cond.initialized RX5, Cond.code yX5_findParts cX5_findParts 7 none, Cond.fieldLink RX5 93 "SliceBodyModel" "cubeMany" "I", Cond.fieldLink RX5 16 "SliceBodyModel" "wideZ" "I", Cond.fieldLink RX5 99 "SliceBodyModel" "partMany" "I", Cond.methodLink RX5 67 yX5_places, Cond.instanceMethod yX5_places, Cond.selects RX5 yX5_places yX5_places, Cond.code yX5_places cX5_places 2 (some .int), Cond.fieldLink RX5 7 "SliceBodyModel" "wideX" "I", Cond.fieldLink RX5 13 "SliceBodyModel" "wideY" "I", Cond.methodLink RX5 89 yX5_isIn, Cond.instanceMethod yX5_isIn, Cond.selects RX5 yX5_isIn yX5_isIn, Cond.code yX5_isIn cX5_isIn 6 (some .boolean), Cond.methodLink RX5 82 yX5_hasIn, Cond.instanceMethod yX5_hasIn, Cond.selects RX5 yX5_hasIn yX5_hasIn, Cond.code yX5_hasIn cX5_hasIn 5 (some .boolean), Cond.methodLink RX5 64 yX5_has]
def wsX5_looseOf_r2 : List Cond := [Cond.instanceMethod yX5_has, Cond.selects RX5 yX5_has yX5_has, Cond.code yX5_has cX5_has 4 (some .boolean), Cond.fieldLink RX5 19 "SliceBodyModel" "cubes" "[Z", Cond.methodLink RX5 86 yX5_loses, Cond.instanceMethod yX5_loses, Cond.selects RX5 yX5_loses yX5_loses, Cond.code yX5_loses cX5_loses 8 (some .boolean), Cond.fieldLink RX5 27 "SliceBodyModel" "begins" "[I", Cond.fieldLink RX5 30 "SliceBodyModel" "long0" "[I", Cond.methodLink RX5 75 yX5_isChosen, Cond.instanceMethod yX5_isChosen, Cond.selects RX5 yX5_isChosen yX5_isChosen, Cond.code yX5_isChosen cX5_isChosen 3 (some .boolean), Cond.fieldLink RX5 23 "SliceBodyModel" "chosen" "[I", Cond.methodLink RX5 78 yX5_findRuns, Cond.instanceMethod yX5_findRuns, Cond.selects RX5 yX5_findRuns yX5_findRuns, Cond.code yX5_findRuns cX5_findRuns 5 (some .int), Cond.methodLink RX5 48 yX5_in, Cond.static yX5_in, Cond.code yX5_in cX5_in 6 (some .boolean), Cond.methodLink RX5 96 yX5_meet, Cond.instanceMethod yX5_meet]
def wsX5_looseOf_r3 : List Cond := [Cond.selects RX5 yX5_meet yX5_meet, Cond.code yX5_meet cX5_meet 4 (some .boolean)]
def wsX5_looseOf : List Cond := .code yX5_looseOf cX5_looseOf 7 (some .int) :: ((wsX5_looseOf_r1 ++ (wsX5_looseOf_r2 ++ wsX5_looseOf_r3)) ++ wsX50)
def wsX5_crossings : List Cond := .code yX5_crossings cX5_crossings 7 (some .int) :: ([.methodLink RX5 67 yX5_places, .instanceMethod yX5_places, .selects RX5 yX5_places yX5_places, .initialized RX5, .code yX5_places cX5_places 2 (some .int), .fieldLink RX5 7 "SliceBodyModel" "wideX" "I", .fieldLink RX5 13 "SliceBodyModel" "wideY" "I", .methodLink RX5 75 yX5_isChosen, .instanceMethod yX5_isChosen, .selects RX5 yX5_isChosen yX5_isChosen, .code yX5_isChosen cX5_isChosen 3 (some .boolean), .fieldLink RX5 23 "SliceBodyModel" "chosen" "[I", .methodLink RX5 78 yX5_findRuns, .instanceMethod yX5_findRuns, .selects RX5 yX5_findRuns yX5_findRuns, .code yX5_findRuns cX5_findRuns 5 (some .int), .fieldLink RX5 16 "SliceBodyModel" "wideZ" "I", .fieldLink RX5 27 "SliceBodyModel" "begins" "[I", .fieldLink RX5 30 "SliceBodyModel" "long0" "[I", .methodLink RX5 64 yX5_has, .instanceMethod yX5_has, .selects RX5 yX5_has yX5_has, .code yX5_has cX5_has 4 (some .boolean), .fieldLink RX5 19 "SliceBodyModel" "cubes" "[Z"] ++ wsX50)
def wsX5_spanOf : List Cond := .code yX5_spanOf cX5_spanOf 9 (some .int) :: ([.fieldLink RX5 16 "SliceBodyModel" "wideZ" "I", .methodLink RX5 67 yX5_places, .instanceMethod yX5_places, .selects RX5 yX5_places yX5_places, .initialized RX5, .code yX5_places cX5_places 2 (some .int), .fieldLink RX5 7 "SliceBodyModel" "wideX" "I", .fieldLink RX5 13 "SliceBodyModel" "wideY" "I", .methodLink RX5 82 yX5_hasIn, .instanceMethod yX5_hasIn, .selects RX5 yX5_hasIn yX5_hasIn, .code yX5_hasIn cX5_hasIn 5 (some .boolean), .methodLink RX5 64 yX5_has, .instanceMethod yX5_has, .selects RX5 yX5_has yX5_has, .code yX5_has cX5_has 4 (some .boolean), .fieldLink RX5 19 "SliceBodyModel" "cubes" "[Z"] ++ wsX50)
def wsX5_about_r1 : List Cond := [Cond.fieldLink RX5 93 "SliceBodyModel" "cubeMany" "I", Cond.fieldLink RX5 99 "SliceBodyModel" "partMany" "I", Cond.methodLink RX5 71 yX5_isRib, Cond.instanceMethod yX5_isRib, Cond.selects RX5 yX5_isRib yX5_isRib, Cond.initialized RX5, Cond.code yX5_isRib cX5_isRib 3 (some .boolean), Cond.methodLink RX5 48 yX5_in, Cond.static yX5_in, Cond.code yX5_in cX5_in 6 (some .boolean), Cond.methodLink RX5 67 yX5_places, Cond.instanceMethod yX5_places, Cond.selects RX5 yX5_places yX5_places, Cond.code yX5_places cX5_places 2 (some .int), Cond.fieldLink RX5 7 "SliceBodyModel" "wideX" "I", Cond.fieldLink RX5 13 "SliceBodyModel" "wideY" "I", Cond.methodLink RX5 102 yX5_findParts, Cond.instanceMethod yX5_findParts, Cond.selects RX5 yX5_findParts yX5_findParts, Cond.code yX5_findParts cX5_findParts 7 none, Cond.fieldLink RX5 16 "SliceBodyModel" "wideZ" "I", Cond.fieldLink RX5 33 "SliceBodyModel" "part" "[I", Cond.methodLink RX5 89 yX5_isIn, Cond.instanceMethod yX5_isIn]
def wsX5_about_r2 : List Cond := [Cond.selects RX5 yX5_isIn yX5_isIn, Cond.code yX5_isIn cX5_isIn 6 (some .boolean), Cond.methodLink RX5 82 yX5_hasIn, Cond.instanceMethod yX5_hasIn, Cond.selects RX5 yX5_hasIn yX5_hasIn, Cond.code yX5_hasIn cX5_hasIn 5 (some .boolean), Cond.methodLink RX5 64 yX5_has, Cond.instanceMethod yX5_has, Cond.selects RX5 yX5_has yX5_has, Cond.code yX5_has cX5_has 4 (some .boolean), Cond.fieldLink RX5 19 "SliceBodyModel" "cubes" "[Z", Cond.methodLink RX5 86 yX5_loses, Cond.instanceMethod yX5_loses, Cond.selects RX5 yX5_loses yX5_loses, Cond.code yX5_loses cX5_loses 8 (some .boolean), Cond.fieldLink RX5 27 "SliceBodyModel" "begins" "[I", Cond.fieldLink RX5 30 "SliceBodyModel" "long0" "[I", Cond.methodLink RX5 75 yX5_isChosen, Cond.instanceMethod yX5_isChosen, Cond.selects RX5 yX5_isChosen yX5_isChosen, Cond.code yX5_isChosen cX5_isChosen 3 (some .boolean), Cond.fieldLink RX5 23 "SliceBodyModel" "chosen" "[I", Cond.methodLink RX5 78 yX5_findRuns, Cond.instanceMethod yX5_findRuns]
def wsX5_about_r3 : List Cond := [Cond.selects RX5 yX5_findRuns yX5_findRuns, Cond.code yX5_findRuns cX5_findRuns 5 (some .int), Cond.methodLink RX5 96 yX5_meet, Cond.instanceMethod yX5_meet, Cond.selects RX5 yX5_meet yX5_meet, Cond.code yX5_meet cX5_meet 4 (some .boolean), Cond.methodLink RX5 106 yX5_looseOf, Cond.instanceMethod yX5_looseOf, Cond.selects RX5 yX5_looseOf yX5_looseOf, Cond.code yX5_looseOf cX5_looseOf 7 (some .int), Cond.methodLink RX5 109 yX5_crossings, Cond.instanceMethod yX5_crossings, Cond.selects RX5 yX5_crossings yX5_crossings, Cond.code yX5_crossings cX5_crossings 7 (some .int), Cond.methodLink RX5 113 yX5_spanOf, Cond.instanceMethod yX5_spanOf, Cond.selects RX5 yX5_spanOf yX5_spanOf, Cond.code yX5_spanOf cX5_spanOf 9 (some .int)]
def wsX5_about : List Cond := .code yX5_about cX5_about 4 (some .int) :: ((wsX5_about_r1 ++ (wsX5_about_r2 ++ wsX5_about_r3)) ++ wsX50)
def wsX5_caught : List Cond := .code yX5_caught cX5_caught 5 (some .int) :: ([.fieldLink RX5 7 "SliceBodyModel" "wideX" "I", .fieldLink RX5 13 "SliceBodyModel" "wideY" "I", .methodLink RX5 75 yX5_isChosen, .instanceMethod yX5_isChosen, .selects RX5 yX5_isChosen yX5_isChosen, .initialized RX5, .code yX5_isChosen cX5_isChosen 3 (some .boolean), .fieldLink RX5 23 "SliceBodyModel" "chosen" "[I", .methodLink RX5 78 yX5_findRuns, .instanceMethod yX5_findRuns, .selects RX5 yX5_findRuns yX5_findRuns, .code yX5_findRuns cX5_findRuns 5 (some .int), .fieldLink RX5 16 "SliceBodyModel" "wideZ" "I", .fieldLink RX5 27 "SliceBodyModel" "begins" "[I", .fieldLink RX5 30 "SliceBodyModel" "long0" "[I", .methodLink RX5 64 yX5_has, .instanceMethod yX5_has, .selects RX5 yX5_has yX5_has, .code yX5_has cX5_has 4 (some .boolean), .fieldLink RX5 19 "SliceBodyModel" "cubes" "[Z"] ++ wsX50)
def wsX5_run : List Cond := .code yX5_run cX5_run 5 (some .int) :: ([.fieldLink RX5 7 "SliceBodyModel" "wideX" "I", .fieldLink RX5 13 "SliceBodyModel" "wideY" "I", .fieldLink RX5 27 "SliceBodyModel" "begins" "[I", .fieldLink RX5 30 "SliceBodyModel" "long0" "[I", .methodLink RX5 48 yX5_in, .static yX5_in, .initialized RX5, .code yX5_in cX5_in 6 (some .boolean), .methodLink RX5 78 yX5_findRuns, .instanceMethod yX5_findRuns, .selects RX5 yX5_findRuns yX5_findRuns, .code yX5_findRuns cX5_findRuns 5 (some .int), .fieldLink RX5 16 "SliceBodyModel" "wideZ" "I", .methodLink RX5 64 yX5_has, .instanceMethod yX5_has, .selects RX5 yX5_has yX5_has, .code yX5_has cX5_has 4 (some .boolean), .fieldLink RX5 19 "SliceBodyModel" "cubes" "[Z"] ++ wsX50)
def wsX5_highOf : List Cond := .code yX5_highOf cX5_highOf 5 (some .int) :: ([.fieldLink RX5 16 "SliceBodyModel" "wideZ" "I", .methodLink RX5 64 yX5_has, .instanceMethod yX5_has, .selects RX5 yX5_has yX5_has, .initialized RX5, .code yX5_has cX5_has 4 (some .boolean), .fieldLink RX5 19 "SliceBodyModel" "cubes" "[Z"] ++ wsX50)
def wsX5_coverOf : List Cond := .code yX5_coverOf cX5_coverOf 6 (some .int) :: ([.fieldLink RX5 7 "SliceBodyModel" "wideX" "I", .fieldLink RX5 13 "SliceBodyModel" "wideY" "I", .fieldLink RX5 36 "SliceBodyModel" "column" "[I"] ++ wsX50)
def wsX5_caughtOf : List Cond := .code yX5_caughtOf cX5_caughtOf 6 (some .int) :: ([.fieldLink RX5 7 "SliceBodyModel" "wideX" "I", .fieldLink RX5 13 "SliceBodyModel" "wideY" "I", .fieldLink RX5 39 "SliceBodyModel" "runsIn" "[I"] ++ wsX50)
def wsX5_lookAtColumns : List Cond := .code yX5_lookAtColumns cX5_lookAtColumns 3 none :: ([.fieldLink RX5 7 "SliceBodyModel" "wideX" "I", .fieldLink RX5 13 "SliceBodyModel" "wideY" "I", .fieldLink RX5 36 "SliceBodyModel" "column" "[I", .fieldLink RX5 39 "SliceBodyModel" "runsIn" "[I", .methodLink RX5 117 yX5_highOf, .instanceMethod yX5_highOf, .selects RX5 yX5_highOf yX5_highOf, .initialized RX5, .code yX5_highOf cX5_highOf 5 (some .int), .fieldLink RX5 16 "SliceBodyModel" "wideZ" "I", .methodLink RX5 64 yX5_has, .instanceMethod yX5_has, .selects RX5 yX5_has yX5_has, .code yX5_has cX5_has 4 (some .boolean), .fieldLink RX5 19 "SliceBodyModel" "cubes" "[Z", .methodLink RX5 78 yX5_findRuns, .instanceMethod yX5_findRuns, .selects RX5 yX5_findRuns yX5_findRuns, .code yX5_findRuns cX5_findRuns 5 (some .int), .fieldLink RX5 27 "SliceBodyModel" "begins" "[I", .fieldLink RX5 30 "SliceBodyModel" "long0" "[I"] ++ wsX50)
def wsX5_cover_r1 : List Cond := [Cond.fieldLink RX5 23 "SliceBodyModel" "chosen" "[I", Cond.methodLink RX5 120 yX5_lookAtColumns, Cond.instanceMethod yX5_lookAtColumns, Cond.selects RX5 yX5_lookAtColumns yX5_lookAtColumns, Cond.initialized RX5, Cond.code yX5_lookAtColumns cX5_lookAtColumns 3 none, Cond.fieldLink RX5 7 "SliceBodyModel" "wideX" "I", Cond.fieldLink RX5 13 "SliceBodyModel" "wideY" "I", Cond.fieldLink RX5 36 "SliceBodyModel" "column" "[I", Cond.fieldLink RX5 39 "SliceBodyModel" "runsIn" "[I", Cond.methodLink RX5 117 yX5_highOf, Cond.instanceMethod yX5_highOf, Cond.selects RX5 yX5_highOf yX5_highOf, Cond.code yX5_highOf cX5_highOf 5 (some .int), Cond.fieldLink RX5 16 "SliceBodyModel" "wideZ" "I", Cond.methodLink RX5 64 yX5_has, Cond.instanceMethod yX5_has, Cond.selects RX5 yX5_has yX5_has, Cond.code yX5_has cX5_has 4 (some .boolean), Cond.fieldLink RX5 19 "SliceBodyModel" "cubes" "[Z", Cond.methodLink RX5 78 yX5_findRuns, Cond.instanceMethod yX5_findRuns, Cond.selects RX5 yX5_findRuns yX5_findRuns, Cond.code yX5_findRuns cX5_findRuns 5 (some .int)]
def wsX5_cover_r2 : List Cond := [Cond.fieldLink RX5 27 "SliceBodyModel" "begins" "[I", Cond.fieldLink RX5 30 "SliceBodyModel" "long0" "[I", Cond.methodLink RX5 123 yX5_coverOf, Cond.instanceMethod yX5_coverOf, Cond.selects RX5 yX5_coverOf yX5_coverOf, Cond.code yX5_coverOf cX5_coverOf 6 (some .int)]
def wsX5_cover : List Cond := .code yX5_cover cX5_cover 1 (some .int) :: ((wsX5_cover_r1 ++ wsX5_cover_r2) ++ wsX50)
def wsX5_ones : List Cond := .code yX5_ones cX5_ones 3 (some .int) :: ([])
def wsX5_best_r1 : List Cond := [Cond.fieldLink RX5 7 "SliceBodyModel" "wideX" "I", Cond.fieldLink RX5 13 "SliceBodyModel" "wideY" "I", Cond.fieldLink RX5 23 "SliceBodyModel" "chosen" "[I", Cond.fieldLink RX5 54 "SliceBodyModel" "isLaid" "Z", Cond.methodLink RX5 48 yX5_in, Cond.static yX5_in, Cond.initialized RX5, Cond.code yX5_in cX5_in 6 (some .boolean), Cond.methodLink RX5 120 yX5_lookAtColumns, Cond.instanceMethod yX5_lookAtColumns, Cond.selects RX5 yX5_lookAtColumns yX5_lookAtColumns, Cond.code yX5_lookAtColumns cX5_lookAtColumns 3 none, Cond.fieldLink RX5 36 "SliceBodyModel" "column" "[I", Cond.fieldLink RX5 39 "SliceBodyModel" "runsIn" "[I", Cond.methodLink RX5 117 yX5_highOf, Cond.instanceMethod yX5_highOf, Cond.selects RX5 yX5_highOf yX5_highOf, Cond.code yX5_highOf cX5_highOf 5 (some .int), Cond.fieldLink RX5 16 "SliceBodyModel" "wideZ" "I", Cond.methodLink RX5 64 yX5_has, Cond.instanceMethod yX5_has, Cond.selects RX5 yX5_has yX5_has, Cond.code yX5_has cX5_has 4 (some .boolean), Cond.fieldLink RX5 19 "SliceBodyModel" "cubes" "[Z"]
def wsX5_best_r2 : List Cond := [Cond.methodLink RX5 78 yX5_findRuns, Cond.instanceMethod yX5_findRuns, Cond.selects RX5 yX5_findRuns yX5_findRuns, Cond.code yX5_findRuns cX5_findRuns 5 (some .int), Cond.fieldLink RX5 27 "SliceBodyModel" "begins" "[I", Cond.fieldLink RX5 30 "SliceBodyModel" "long0" "[I", Cond.methodLink RX5 126 yX5_ones, Cond.static yX5_ones, Cond.code yX5_ones cX5_ones 3 (some .int), Cond.methodLink RX5 123 yX5_coverOf, Cond.instanceMethod yX5_coverOf, Cond.selects RX5 yX5_coverOf yX5_coverOf, Cond.code yX5_coverOf cX5_coverOf 6 (some .int), Cond.methodLink RX5 129 yX5_caughtOf, Cond.instanceMethod yX5_caughtOf, Cond.selects RX5 yX5_caughtOf yX5_caughtOf, Cond.code yX5_caughtOf cX5_caughtOf 6 (some .int)]
def wsX5_best : List Cond := .code yX5_best cX5_best 10 (some .int) :: ((wsX5_best_r1 ++ wsX5_best_r2) ++ wsX50)
def wsX5_told_r1 : List Cond := [Cond.fieldLink RX5 7 "SliceBodyModel" "wideX" "I", Cond.fieldLink RX5 13 "SliceBodyModel" "wideY" "I", Cond.fieldLink RX5 16 "SliceBodyModel" "wideZ" "I", Cond.fieldLink RX5 19 "SliceBodyModel" "cubes" "[Z", Cond.fieldLink RX5 23 "SliceBodyModel" "chosen" "[I", Cond.fieldLink RX5 93 "SliceBodyModel" "cubeMany" "I", Cond.methodLink RX5 75 yX5_isChosen, Cond.instanceMethod yX5_isChosen, Cond.selects RX5 yX5_isChosen yX5_isChosen, Cond.initialized RX5, Cond.code yX5_isChosen cX5_isChosen 3 (some .boolean), Cond.methodLink RX5 102 yX5_findParts, Cond.instanceMethod yX5_findParts, Cond.selects RX5 yX5_findParts yX5_findParts, Cond.code yX5_findParts cX5_findParts 7 none, Cond.fieldLink RX5 33 "SliceBodyModel" "part" "[I", Cond.fieldLink RX5 99 "SliceBodyModel" "partMany" "I", Cond.methodLink RX5 67 yX5_places, Cond.instanceMethod yX5_places, Cond.selects RX5 yX5_places yX5_places, Cond.code yX5_places cX5_places 2 (some .int), Cond.methodLink RX5 89 yX5_isIn, Cond.instanceMethod yX5_isIn, Cond.selects RX5 yX5_isIn yX5_isIn]
def wsX5_told_r2 : List Cond := [Cond.code yX5_isIn cX5_isIn 6 (some .boolean), Cond.methodLink RX5 82 yX5_hasIn, Cond.instanceMethod yX5_hasIn, Cond.selects RX5 yX5_hasIn yX5_hasIn, Cond.code yX5_hasIn cX5_hasIn 5 (some .boolean), Cond.methodLink RX5 64 yX5_has, Cond.instanceMethod yX5_has, Cond.selects RX5 yX5_has yX5_has, Cond.code yX5_has cX5_has 4 (some .boolean), Cond.methodLink RX5 86 yX5_loses, Cond.instanceMethod yX5_loses, Cond.selects RX5 yX5_loses yX5_loses, Cond.code yX5_loses cX5_loses 8 (some .boolean), Cond.fieldLink RX5 27 "SliceBodyModel" "begins" "[I", Cond.fieldLink RX5 30 "SliceBodyModel" "long0" "[I", Cond.methodLink RX5 78 yX5_findRuns, Cond.instanceMethod yX5_findRuns, Cond.selects RX5 yX5_findRuns yX5_findRuns, Cond.code yX5_findRuns cX5_findRuns 5 (some .int), Cond.methodLink RX5 48 yX5_in, Cond.static yX5_in, Cond.code yX5_in cX5_in 6 (some .boolean), Cond.methodLink RX5 96 yX5_meet, Cond.instanceMethod yX5_meet]
def wsX5_told_r3 : List Cond := [Cond.selects RX5 yX5_meet yX5_meet, Cond.code yX5_meet cX5_meet 4 (some .boolean), Cond.methodLink RX5 106 yX5_looseOf, Cond.instanceMethod yX5_looseOf, Cond.selects RX5 yX5_looseOf yX5_looseOf, Cond.code yX5_looseOf cX5_looseOf 7 (some .int)]
def wsX5_told : List Cond := .code yX5_told cX5_told 4 (some .int) :: ((wsX5_told_r1 ++ (wsX5_told_r2 ++ wsX5_told_r3)) ++ wsX50)
def wsX5_isAhead : List Cond := .code yX5_isAhead cX5_isAhead 3 (some .boolean) :: ([.fieldLink RX5 45 "SliceBodyModel" "aside" "[I"] ++ wsX50)
def wsX5_exchange : List Cond := .code yX5_exchange cX5_exchange 5 none :: ([.fieldLink RX5 45 "SliceBodyModel" "aside" "[I"] ++ wsX50)
def wsX5_gather_r1 : List Cond := [Cond.fieldLink RX5 45 "SliceBodyModel" "aside" "[I", Cond.methodLink RX5 75 yX5_isChosen, Cond.instanceMethod yX5_isChosen, Cond.selects RX5 yX5_isChosen yX5_isChosen, Cond.initialized RX5, Cond.code yX5_isChosen cX5_isChosen 3 (some .boolean), Cond.fieldLink RX5 23 "SliceBodyModel" "chosen" "[I", Cond.methodLink RX5 113 yX5_spanOf, Cond.instanceMethod yX5_spanOf, Cond.selects RX5 yX5_spanOf yX5_spanOf, Cond.code yX5_spanOf cX5_spanOf 9 (some .int), Cond.fieldLink RX5 16 "SliceBodyModel" "wideZ" "I", Cond.methodLink RX5 67 yX5_places, Cond.instanceMethod yX5_places, Cond.selects RX5 yX5_places yX5_places, Cond.code yX5_places cX5_places 2 (some .int), Cond.fieldLink RX5 7 "SliceBodyModel" "wideX" "I", Cond.fieldLink RX5 13 "SliceBodyModel" "wideY" "I", Cond.methodLink RX5 82 yX5_hasIn, Cond.instanceMethod yX5_hasIn, Cond.selects RX5 yX5_hasIn yX5_hasIn, Cond.code yX5_hasIn cX5_hasIn 5 (some .boolean), Cond.methodLink RX5 64 yX5_has, Cond.instanceMethod yX5_has]
def wsX5_gather_r2 : List Cond := [Cond.selects RX5 yX5_has yX5_has, Cond.code yX5_has cX5_has 4 (some .boolean), Cond.fieldLink RX5 19 "SliceBodyModel" "cubes" "[Z", Cond.methodLink RX5 132 yX5_isAhead, Cond.instanceMethod yX5_isAhead, Cond.selects RX5 yX5_isAhead yX5_isAhead, Cond.code yX5_isAhead cX5_isAhead 3 (some .boolean), Cond.methodLink RX5 135 yX5_exchange, Cond.instanceMethod yX5_exchange, Cond.selects RX5 yX5_exchange yX5_exchange, Cond.code yX5_exchange cX5_exchange 5 none]
def wsX5_gather : List Cond := .code yX5_gather cX5_gather 5 (some .int) :: ((wsX5_gather_r1 ++ wsX5_gather_r2) ++ wsX50)
def wsX5_lay_r1 : List Cond := [Cond.constantLong RX5 139 (60), Cond.constantLong RX5 141 (5), Cond.fieldLink RX5 45 "SliceBodyModel" "aside" "[I", Cond.fieldLink RX5 42 "SliceBodyModel" "rows" "[I", Cond.fieldLink RX5 146 "SliceBodyModel" "laidMany" "I", Cond.fieldLink RX5 149 "SliceBodyModel" "leastMany" "I", Cond.fieldLink RX5 54 "SliceBodyModel" "isLaid" "Z", Cond.methodLink RX5 48 yX5_in, Cond.static yX5_in, Cond.initialized RX5, Cond.code yX5_in cX5_in 6 (some .boolean), Cond.methodLink RX5 143 yX5_gather, Cond.instanceMethod yX5_gather, Cond.selects RX5 yX5_gather yX5_gather, Cond.code yX5_gather cX5_gather 5 (some .int), Cond.methodLink RX5 75 yX5_isChosen, Cond.instanceMethod yX5_isChosen, Cond.selects RX5 yX5_isChosen yX5_isChosen, Cond.code yX5_isChosen cX5_isChosen 3 (some .boolean), Cond.fieldLink RX5 23 "SliceBodyModel" "chosen" "[I", Cond.methodLink RX5 113 yX5_spanOf, Cond.instanceMethod yX5_spanOf, Cond.selects RX5 yX5_spanOf yX5_spanOf, Cond.code yX5_spanOf cX5_spanOf 9 (some .int)]
def wsX5_lay_r2 : List Cond := [Cond.fieldLink RX5 16 "SliceBodyModel" "wideZ" "I", Cond.methodLink RX5 67 yX5_places, Cond.instanceMethod yX5_places, Cond.selects RX5 yX5_places yX5_places, Cond.code yX5_places cX5_places 2 (some .int), Cond.fieldLink RX5 7 "SliceBodyModel" "wideX" "I", Cond.fieldLink RX5 13 "SliceBodyModel" "wideY" "I", Cond.methodLink RX5 82 yX5_hasIn, Cond.instanceMethod yX5_hasIn, Cond.selects RX5 yX5_hasIn yX5_hasIn, Cond.code yX5_hasIn cX5_hasIn 5 (some .boolean), Cond.methodLink RX5 64 yX5_has, Cond.instanceMethod yX5_has, Cond.selects RX5 yX5_has yX5_has, Cond.code yX5_has cX5_has 4 (some .boolean), Cond.fieldLink RX5 19 "SliceBodyModel" "cubes" "[Z", Cond.methodLink RX5 132 yX5_isAhead, Cond.instanceMethod yX5_isAhead, Cond.selects RX5 yX5_isAhead yX5_isAhead, Cond.code yX5_isAhead cX5_isAhead 3 (some .boolean), Cond.methodLink RX5 135 yX5_exchange, Cond.instanceMethod yX5_exchange, Cond.selects RX5 yX5_exchange yX5_exchange, Cond.code yX5_exchange cX5_exchange 5 none]
def wsX5_lay : List Cond := .code yX5_lay cX5_lay 13 (some .int) :: ((wsX5_lay_r1 ++ wsX5_lay_r2) ++ wsX50)
def wsX5_laid : List Cond := .code yX5_laid cX5_laid 3 (some .int) :: ([.fieldLink RX5 54 "SliceBodyModel" "isLaid" "Z", .constantLong RX5 152 (6), .fieldLink RX5 146 "SliceBodyModel" "laidMany" "I", .fieldLink RX5 42 "SliceBodyModel" "rows" "[I", .methodLink RX5 48 yX5_in, .static yX5_in, .initialized RX5, .code yX5_in cX5_in 6 (some .boolean)] ++ wsX50)
def wsX5_least : List Cond := .code yX5_least cX5_least 1 (some .int) :: ([.fieldLink RX5 54 "SliceBodyModel" "isLaid" "Z", .fieldLink RX5 149 "SliceBodyModel" "leastMany" "I"] ++ wsX50)
def wsJ9_max_7cf53 : List Cond := .code yJ9_max_7cf53 cJ9_max_7cf53 2 (some .int) :: ([])
def wsJ9_min_7cf53 : List Cond := .code yJ9_min_7cf53 cJ9_min_7cf53 2 (some .int) :: ([])
def wsL_law_r1 : List Cond := [Cond.classLink RL 7 RX4, Cond.instantiable RX4 2, Cond.initialized RX4, Cond.classLink RL 10 RX5, Cond.instantiable RX5 17, Cond.initialized RX5, Cond.methodLink RL 9 yX4_init, Cond.instanceMethod yX4_init, Cond.code yX4_init cX4_init 1 none, Cond.methodLink RX4 1 objectInit, Cond.instanceMethod objectInit, Cond.code objectInit ⟨#[0xb1]⟩ 1 none, Cond.classLink RX4 7 RX3, Cond.instantiable RX3 7, Cond.initialized RX3, Cond.fieldLink RX4 10 "SliceBody" "solid" "LSliceBody$Solid;", Cond.classLink RX4 16 RX0, Cond.instantiable RX0 5, Cond.initialized RX0, Cond.fieldLink RX4 19 "SliceBody" "boards" "LSliceBody$Boards;", Cond.methodLink RX4 9 yX3_init, Cond.instanceMethod yX3_init, Cond.code yX3_init cX3_init 1 none, Cond.methodLink RX3 3 objectInit]
def wsL_law_r2 : List Cond := [Cond.arrayClass .int, Cond.fieldLink RX3 11 "SliceBody$Solid" "columns" "[I", Cond.fieldLink RX3 15 "SliceBody$Solid" "gains" "[I", Cond.fieldLink RX3 18 "SliceBody$Solid" "wide" "I", Cond.fieldLink RX3 22 "SliceBody$Solid" "deep" "I", Cond.fieldLink RX3 25 "SliceBody$Solid" "high" "I", Cond.methodLink RX4 18 yX0_init, Cond.instanceMethod yX0_init, Cond.code yX0_init cX0_init 1 none, Cond.methodLink RX0 3 objectInit, Cond.fieldLink RX0 11 "SliceBody$Boards" "facts" "[I", Cond.methodLink RL 12 yX5_init, Cond.instanceMethod yX5_init, Cond.code yX5_init cX5_init 1 none, Cond.methodLink RX5 1 objectInit, Cond.fieldLink RX5 7 "SliceBodyModel" "wideX" "I", Cond.fieldLink RX5 13 "SliceBodyModel" "wideY" "I", Cond.fieldLink RX5 16 "SliceBodyModel" "wideZ" "I", Cond.arrayClass .boolean, Cond.fieldLink RX5 19 "SliceBodyModel" "cubes" "[Z", Cond.fieldLink RX5 23 "SliceBodyModel" "chosen" "[I", Cond.fieldLink RX5 27 "SliceBodyModel" "begins" "[I", Cond.fieldLink RX5 30 "SliceBodyModel" "long0" "[I", Cond.fieldLink RX5 33 "SliceBodyModel" "part" "[I"]
def wsL_law_r3 : List Cond := [Cond.fieldLink RX5 36 "SliceBodyModel" "column" "[I", Cond.fieldLink RX5 39 "SliceBodyModel" "runsIn" "[I", Cond.fieldLink RX5 42 "SliceBodyModel" "rows" "[I", Cond.fieldLink RX5 45 "SliceBodyModel" "aside" "[I", Cond.methodLink RL 13 yX4_space, Cond.instanceMethod yX4_space, Cond.selects RX4 yX4_space yX4_space, Cond.code yX4_space cX4_space 4 (some .int), Cond.methodLink RX4 23 yX4_isSize, Cond.static yX4_isSize, Cond.code yX4_isSize cX4_isSize 1 (some .boolean), Cond.methodLink RX4 27 yX3_beginAnew, Cond.instanceMethod yX3_beginAnew, Cond.selects RX3 yX3_beginAnew yX3_beginAnew, Cond.code yX3_beginAnew cX3_beginAnew 5 none, Cond.fieldLink RX3 28 "SliceBody$Solid" "chosenAtX" "I", Cond.fieldLink RX3 31 "SliceBody$Solid" "chosenAtY" "I", Cond.methodLink RX4 31 yX0_forget, Cond.instanceMethod yX0_forget, Cond.selects RX0 yX0_forget yX0_forget, Cond.code yX0_forget cX0_forget 1 none, Cond.fieldLink RX0 15 "SliceBody$Boards" "known" "Z", Cond.methodLink RL 17 yX5_space, Cond.instanceMethod yX5_space]
def wsL_law_r4 : List Cond := [Cond.selects RX5 yX5_space yX5_space, Cond.code yX5_space cX5_space 5 (some .int), Cond.constantLong RX5 52 (8), Cond.fieldLink RX5 54 "SliceBodyModel" "isLaid" "Z", Cond.methodLink RX5 48 yX5_in, Cond.static yX5_in, Cond.code yX5_in cX5_in 6 (some .boolean), Cond.methodLink RL 18 yX4_box, Cond.instanceMethod yX4_box, Cond.selects RX4 yX4_box yX4_box, Cond.code yX4_box cX4_box 14 (some .int), Cond.fieldLink RX4 37 "SliceBody$Solid" "high" "I", Cond.methodLink RX4 41 Lib.Math.min.name, Cond.static Lib.Math.min.name, Cond.initialized "java/lang/Math", Cond.code Lib.Math.min.name Lib.Math.min.code 2 (some .int), Cond.fieldLink RX4 52 "SliceBody$Solid" "wide" "I", Cond.fieldLink RX4 55 "SliceBody$Solid" "deep" "I", Cond.methodLink RX4 58 Lib.Math.max.name, Cond.static Lib.Math.max.name, Cond.code Lib.Math.max.name Lib.Math.max.code 2 (some .int), Cond.methodLink RX4 34 yX4_isCorner, Cond.static yX4_isCorner, Cond.code yX4_isCorner cX4_isCorner 1 (some .boolean)]
def wsL_law_r5 : List Cond := [Cond.methodLink RX4 47 yX1_bitsBetween, Cond.static yX1_bitsBetween, Cond.initialized RX1, Cond.code yX1_bitsBetween cX1_bitsBetween 4 (some .int), Cond.methodLink RX1 11 Lib.Math.max.name, Cond.methodLink RX1 17 Lib.Math.min.name, Cond.methodLink RX4 61 yX3_changeColumn, Cond.instanceMethod yX3_changeColumn, Cond.selects RX3 yX3_changeColumn yX3_changeColumn, Cond.code yX3_changeColumn cX3_changeColumn 7 (some .int), Cond.methodLink RX3 38 yX3_hasColumn, Cond.instanceMethod yX3_hasColumn, Cond.selects RX3 yX3_hasColumn yX3_hasColumn, Cond.code yX3_hasColumn cX3_hasColumn 3 (some .boolean), Cond.methodLink RX3 42 yX3_columnAt, Cond.instanceMethod yX3_columnAt, Cond.selects RX3 yX3_columnAt yX3_columnAt, Cond.code yX3_columnAt cX3_columnAt 3 (some .int), Cond.methodLink RX3 46 yJ6_bitCount_0f7a4, Cond.static yJ6_bitCount_0f7a4, Cond.initialized RJ6, Cond.code yJ6_bitCount_0f7a4 cJ6_bitCount_0f7a4 1 (some .int), Cond.constant RJ6 265 (1431655765), Cond.constant RJ6 266 (858993459)]
def wsL_law_r6 : List Cond := [Cond.constant RJ6 267 (252645135), Cond.methodLink RL 22 yX5_box, Cond.instanceMethod yX5_box, Cond.selects RX5 yX5_box yX5_box, Cond.code yX5_box cX5_box 13 (some .int), Cond.constantLong RX5 58 (-8), Cond.methodLink RX5 60 yX5_isPlace, Cond.instanceMethod yX5_isPlace, Cond.selects RX5 yX5_isPlace yX5_isPlace, Cond.code yX5_isPlace cX5_isPlace 4 (some .boolean), Cond.methodLink RX5 64 yX5_has, Cond.instanceMethod yX5_has, Cond.selects RX5 yX5_has yX5_has, Cond.code yX5_has cX5_has 4 (some .boolean), Cond.methodLink RL 23 yX4_at, Cond.instanceMethod yX4_at, Cond.selects RX4 yX4_at yX4_at, Cond.code yX4_at cX4_at 4 (some .int), Cond.methodLink RX4 65 yX3_hasColumn, Cond.methodLink RX4 69 yX3_hasLayer, Cond.instanceMethod yX3_hasLayer, Cond.selects RX3 yX3_hasLayer yX3_hasLayer, Cond.code yX3_hasLayer cX3_hasLayer 2 (some .boolean), Cond.methodLink RX4 72 yX3_columnAt]
def wsL_law_r7 : List Cond := [Cond.methodLink RX4 75 yX1_hasBit, Cond.static yX1_hasBit, Cond.code yX1_hasBit cX1_hasBit 2 (some .boolean), Cond.methodLink RX4 78 yX4_asNumber, Cond.static yX4_asNumber, Cond.code yX4_asNumber cX4_asNumber 1 (some .int), Cond.methodLink RL 26 yX5_at, Cond.instanceMethod yX5_at, Cond.selects RX5 yX5_at yX5_at, Cond.code yX5_at cX5_at 4 (some .int), Cond.methodLink RL 27 yX4_rib, Cond.instanceMethod yX4_rib, Cond.selects RX4 yX4_rib yX4_rib, Cond.code yX4_rib cX4_rib 6 (some .int), Cond.methodLink RX4 82 yX3_hasRib, Cond.instanceMethod yX3_hasRib, Cond.selects RX3 yX3_hasRib yX3_hasRib, Cond.code yX3_hasRib cX3_hasRib 3 (some .boolean), Cond.methodLink RX3 34 yX3_ribCount, Cond.instanceMethod yX3_ribCount, Cond.selects RX3 yX3_ribCount yX3_ribCount, Cond.code yX3_ribCount cX3_ribCount 2 (some .int), Cond.methodLink RX4 85 yX3_isChosen, Cond.instanceMethod yX3_isChosen]
def wsL_law_r8 : List Cond := [Cond.selects RX3 yX3_isChosen yX3_isChosen, Cond.code yX3_isChosen cX3_isChosen 3 (some .boolean), Cond.methodLink RX3 51 yX3_chosenBits, Cond.instanceMethod yX3_chosenBits, Cond.selects RX3 yX3_chosenBits yX3_chosenBits, Cond.code yX3_chosenBits cX3_chosenBits 2 (some .int), Cond.methodLink RX3 54 yX1_hasBit, Cond.methodLink RX4 88 yX3_chosenBits, Cond.methodLink RX4 92 yX3_choose, Cond.instanceMethod yX3_choose, Cond.selects RX3 yX3_choose yX3_choose, Cond.code yX3_choose cX3_choose 3 none, Cond.methodLink RL 31 yX5_rib, Cond.instanceMethod yX5_rib, Cond.selects RX5 yX5_rib yX5_rib, Cond.code yX5_rib cX5_rib 5 (some .int), Cond.methodLink RX5 71 yX5_isRib, Cond.instanceMethod yX5_isRib, Cond.selects RX5 yX5_isRib yX5_isRib, Cond.code yX5_isRib cX5_isRib 3 (some .boolean), Cond.methodLink RX5 67 yX5_places, Cond.instanceMethod yX5_places, Cond.selects RX5 yX5_places yX5_places, Cond.code yX5_places cX5_places 2 (some .int)]
def wsL_law_r9 : List Cond := [Cond.methodLink RX5 75 yX5_isChosen, Cond.instanceMethod yX5_isChosen, Cond.selects RX5 yX5_isChosen yX5_isChosen, Cond.code yX5_isChosen cX5_isChosen 3 (some .boolean), Cond.methodLink RL 32 yX4_ribs, Cond.instanceMethod yX4_ribs, Cond.selects RX4 yX4_ribs yX4_ribs, Cond.code yX4_ribs cX4_ribs 4 (some .int), Cond.methodLink RX4 96 yX3_ribCount, Cond.methodLink RL 36 yX5_ribs, Cond.instanceMethod yX5_ribs, Cond.selects RX5 yX5_ribs yX5_ribs, Cond.code yX5_ribs cX5_ribs 4 (some .int), Cond.methodLink RL 37 yX4_figure, Cond.instanceMethod yX4_figure, Cond.selects RX4 yX4_figure yX4_figure, Cond.code yX4_figure cX4_figure 8 (some .int), Cond.methodLink RX4 99 yX3_cutOf, Cond.instanceMethod yX3_cutOf, Cond.selects RX3 yX3_cutOf yX3_cutOf, Cond.code yX3_cutOf cX3_cutOf 9 (some .long), Cond.methodLink RX3 73 yX3_crossingsOf, Cond.instanceMethod yX3_crossingsOf, Cond.selects RX3 yX3_crossingsOf yX3_crossingsOf]
def wsL_law_r10 : List Cond := [Cond.code yX3_crossingsOf cX3_crossingsOf 3 (some .int), Cond.methodLink RX3 57 yX3_isChosen, Cond.methodLink RX3 63 yX3_ribColumn, Cond.instanceMethod yX3_ribColumn, Cond.selects RX3 yX3_ribColumn yX3_ribColumn, Cond.code yX3_ribColumn cX3_ribColumn 4 (some .int), Cond.methodLink RX3 76 yX1_upperHalves, Cond.static yX1_upperHalves, Cond.code yX1_upperHalves cX1_upperHalves 4 (some .int), Cond.methodLink RX1 30 yX1_beginsRun, Cond.static yX1_beginsRun, Cond.code yX1_beginsRun cX1_beginsRun 2 (some .boolean), Cond.methodLink RX1 20 yX1_hasBit, Cond.methodLink RX1 33 yX1_runLength, Cond.static yX1_runLength, Cond.code yX1_runLength cX1_runLength 3 (some .int), Cond.methodLink RX1 36 yX1_bitsBetween, Cond.methodLink RX3 67 yX2_shifted, Cond.static yX2_shifted, Cond.initialized RX2, Cond.code yX2_shifted cX2_shifted 2 (some .long), Cond.methodLink RX4 103 yX3_figureOf, Cond.instanceMethod yX3_figureOf, Cond.selects RX3 yX3_figureOf yX3_figureOf]
def wsL_law_r11 : List Cond := [Cond.code yX3_figureOf cX3_figureOf 6 (some .long), Cond.methodLink RX4 106 yX2_columnAt, Cond.static yX2_columnAt, Cond.code yX2_columnAt cX2_columnAt 3 (some .int), Cond.methodLink RL 41 yX5_figure, Cond.instanceMethod yX5_figure, Cond.selects RX5 yX5_figure yX5_figure, Cond.code yX5_figure cX5_figure 6 (some .int), Cond.methodLink RX5 89 yX5_isIn, Cond.instanceMethod yX5_isIn, Cond.selects RX5 yX5_isIn yX5_isIn, Cond.code yX5_isIn cX5_isIn 6 (some .boolean), Cond.methodLink RX5 82 yX5_hasIn, Cond.instanceMethod yX5_hasIn, Cond.selects RX5 yX5_hasIn yX5_hasIn, Cond.code yX5_hasIn cX5_hasIn 5 (some .boolean), Cond.methodLink RX5 86 yX5_loses, Cond.instanceMethod yX5_loses, Cond.selects RX5 yX5_loses yX5_loses, Cond.code yX5_loses cX5_loses 8 (some .boolean), Cond.methodLink RX5 78 yX5_findRuns, Cond.instanceMethod yX5_findRuns, Cond.selects RX5 yX5_findRuns yX5_findRuns, Cond.code yX5_findRuns cX5_findRuns 5 (some .int)]
def wsL_law_r12 : List Cond := [Cond.methodLink RL 42 yX4_about, Cond.instanceMethod yX4_about, Cond.selects RX4 yX4_about yX4_about, Cond.code yX4_about cX4_about 4 (some .int), Cond.methodLink RX4 111 yJ13_bitCount_95d88, Cond.static yJ13_bitCount_95d88, Cond.initialized RJ13, Cond.code yJ13_bitCount_95d88 cJ13_bitCount_95d88 2 (some .int), Cond.constantLong RJ13 314 (6148914691236517205), Cond.constantLong RJ13 316 (3689348814741910323), Cond.constantLong RJ13 318 (1085102592571150095), Cond.methodLink RX4 117 yX2_partCount, Cond.static yX2_partCount, Cond.code yX2_partCount cX2_partCount 2 (some .int), Cond.methodLink RX2 9 yX2_partsClearOf, Cond.static yX2_partsClearOf, Cond.code yX2_partsClearOf cX2_partsClearOf 10 (some .int), Cond.constantLong RX2 17 (-1), Cond.methodLink RX2 13 yX2_partAround, Cond.static yX2_partAround, Cond.code yX2_partAround cX2_partAround 9 (some .long), Cond.methodLink RX2 19 yX2_neighboursOf, Cond.static yX2_neighboursOf, Cond.code yX2_neighboursOf cX2_neighboursOf 6 (some .long)]
def wsL_law_r13 : List Cond := [Cond.constantLong RX2 23 (9187201950435737471), Cond.constantLong RX2 25 (-72340172838076674), Cond.methodLink RX4 120 yX3_loosePartsOf, Cond.instanceMethod yX3_loosePartsOf, Cond.selects RX3 yX3_loosePartsOf yX3_loosePartsOf, Cond.code yX3_loosePartsOf cX3_loosePartsOf 7 (some .int), Cond.methodLink RX3 82 yX3_cutOf, Cond.methodLink RX3 85 yX2_partsClearOf, Cond.methodLink RX4 123 yX3_crossingsWithRun, Cond.instanceMethod yX3_crossingsWithRun, Cond.selects RX3 yX3_crossingsWithRun yX3_crossingsWithRun, Cond.code yX3_crossingsWithRun cX3_crossingsWithRun 6 (some .int), Cond.methodLink RX4 126 yX3_runsInCrossings, Cond.instanceMethod yX3_runsInCrossings, Cond.selects RX3 yX3_runsInCrossings yX3_runsInCrossings, Cond.code yX3_runsInCrossings cX3_runsInCrossings 6 (some .int), Cond.methodLink RX3 60 yX1_runCount, Cond.static yX1_runCount, Cond.code yX1_runCount cX1_runCount 1 (some .int), Cond.methodLink RX1 24 yJ6_bitCount_0f7a4, Cond.methodLink RX4 129 yX2_spanOfU, Cond.static yX2_spanOfU, Cond.code yX2_spanOfU cX2_spanOfU 4 (some .int), Cond.methodLink RX2 29 yX2_columnAt]
def wsL_law_r14 : List Cond := [Cond.methodLink RX2 33 yX1_span, Cond.static yX1_span, Cond.code yX1_span cX1_span 4 (some .int), Cond.methodLink RX4 132 yX2_spanOfZ, Cond.static yX2_spanOfZ, Cond.code yX2_spanOfZ cX2_spanOfZ 4 (some .int), Cond.methodLink RL 45 yX5_about, Cond.instanceMethod yX5_about, Cond.selects RX5 yX5_about yX5_about, Cond.code yX5_about cX5_about 4 (some .int), Cond.fieldLink RX5 93 "SliceBodyModel" "cubeMany" "I", Cond.fieldLink RX5 99 "SliceBodyModel" "partMany" "I", Cond.methodLink RX5 102 yX5_findParts, Cond.instanceMethod yX5_findParts, Cond.selects RX5 yX5_findParts yX5_findParts, Cond.code yX5_findParts cX5_findParts 7 none, Cond.methodLink RX5 96 yX5_meet, Cond.instanceMethod yX5_meet, Cond.selects RX5 yX5_meet yX5_meet, Cond.code yX5_meet cX5_meet 4 (some .boolean), Cond.methodLink RX5 106 yX5_looseOf, Cond.instanceMethod yX5_looseOf, Cond.selects RX5 yX5_looseOf yX5_looseOf, Cond.code yX5_looseOf cX5_looseOf 7 (some .int)]
def wsL_law_r15 : List Cond := [Cond.methodLink RX5 109 yX5_crossings, Cond.instanceMethod yX5_crossings, Cond.selects RX5 yX5_crossings yX5_crossings, Cond.code yX5_crossings cX5_crossings 7 (some .int), Cond.methodLink RX5 113 yX5_spanOf, Cond.instanceMethod yX5_spanOf, Cond.selects RX5 yX5_spanOf yX5_spanOf, Cond.code yX5_spanOf cX5_spanOf 9 (some .int), Cond.methodLink RL 46 yX4_caught, Cond.instanceMethod yX4_caught, Cond.selects RX4 yX4_caught yX4_caught, Cond.code yX4_caught cX4_caught 6 (some .int), Cond.methodLink RX4 135 yX3_crossingsOf, Cond.methodLink RX4 138 yX3_wouldCatch, Cond.instanceMethod yX3_wouldCatch, Cond.selects RX3 yX3_wouldCatch yX3_wouldCatch, Cond.code yX3_wouldCatch cX3_wouldCatch 3 (some .boolean), Cond.methodLink RL 50 yX5_caught, Cond.instanceMethod yX5_caught, Cond.selects RX5 yX5_caught yX5_caught, Cond.code yX5_caught cX5_caught 5 (some .int), Cond.methodLink RL 51 yX4_run, Cond.instanceMethod yX4_run, Cond.selects RX4 yX4_run yX4_run]
def wsL_law_r16 : List Cond := [Cond.code yX4_run cX4_run 7 (some .int), Cond.methodLink RX4 141 yX1_beginsRun, Cond.methodLink RX4 144 yX1_runLength, Cond.methodLink RL 54 yX5_run, Cond.instanceMethod yX5_run, Cond.selects RX5 yX5_run yX5_run, Cond.code yX5_run cX5_run 5 (some .int), Cond.methodLink RL 55 yX4_cover, Cond.instanceMethod yX4_cover, Cond.selects RX4 yX4_cover yX4_cover, Cond.code yX4_cover cX4_cover 1 (some .int), Cond.methodLink RX4 147 yX3_coveredCubes, Cond.instanceMethod yX3_coveredCubes, Cond.selects RX3 yX3_coveredCubes yX3_coveredCubes, Cond.code yX3_coveredCubes cX3_coveredCubes 4 (some .int), Cond.methodLink RL 59 yX5_cover, Cond.instanceMethod yX5_cover, Cond.selects RX5 yX5_cover yX5_cover, Cond.code yX5_cover cX5_cover 1 (some .int), Cond.methodLink RX5 120 yX5_lookAtColumns, Cond.instanceMethod yX5_lookAtColumns, Cond.selects RX5 yX5_lookAtColumns yX5_lookAtColumns, Cond.code yX5_lookAtColumns cX5_lookAtColumns 3 none, Cond.methodLink RX5 117 yX5_highOf]
def wsL_law_r17 : List Cond := [Cond.instanceMethod yX5_highOf, Cond.selects RX5 yX5_highOf yX5_highOf, Cond.code yX5_highOf cX5_highOf 5 (some .int), Cond.methodLink RX5 123 yX5_coverOf, Cond.instanceMethod yX5_coverOf, Cond.selects RX5 yX5_coverOf yX5_coverOf, Cond.code yX5_coverOf cX5_coverOf 6 (some .int), Cond.methodLink RL 60 yX4_best, Cond.instanceMethod yX4_best, Cond.selects RX4 yX4_best yX4_best, Cond.code yX4_best cX4_best 3 (some .int), Cond.methodLink RX4 151 yX3_chooseBest, Cond.instanceMethod yX3_chooseBest, Cond.selects RX3 yX3_chooseBest yX3_chooseBest, Cond.code yX3_chooseBest cX3_chooseBest 9 none, Cond.constant RX3 97 (-2147483648), Cond.methodLink RX3 98 yX3_reckonGains, Cond.instanceMethod yX3_reckonGains, Cond.selects RX3 yX3_reckonGains yX3_reckonGains, Cond.code yX3_reckonGains cX3_reckonGains 5 none, Cond.methodLink RX3 111 yX3_wouldCatch, Cond.methodLink RX3 102 yX3_greatestGains, Cond.instanceMethod yX3_greatestGains, Cond.selects RX3 yX3_greatestGains yX3_greatestGains]
def wsL_law_r18 : List Cond := [Cond.code yX3_greatestGains cX3_greatestGains 6 (some .int), Cond.methodLink RX3 105 yX3_worthAlone, Cond.instanceMethod yX3_worthAlone, Cond.selects RX3 yX3_worthAlone yX3_worthAlone, Cond.code yX3_worthAlone cX3_worthAlone 4 (some .int), Cond.methodLink RX3 79 yX3_figureOf, Cond.methodLink RX3 89 yJ13_bitCount_95d88, Cond.methodLink RX3 108 yX3_sumOfGains, Cond.instanceMethod yX3_sumOfGains, Cond.selects RX3 yX3_sumOfGains yX3_sumOfGains, Cond.code yX3_sumOfGains cX3_sumOfGains 4 (some .int), Cond.methodLink RL 63 yX5_best, Cond.instanceMethod yX5_best, Cond.selects RX5 yX5_best yX5_best, Cond.code yX5_best cX5_best 10 (some .int), Cond.methodLink RX5 126 yX5_ones, Cond.static yX5_ones, Cond.code yX5_ones cX5_ones 3 (some .int), Cond.methodLink RX5 129 yX5_caughtOf, Cond.instanceMethod yX5_caughtOf, Cond.selects RX5 yX5_caughtOf yX5_caughtOf, Cond.code yX5_caughtOf cX5_caughtOf 6 (some .int), Cond.methodLink RL 64 yX4_told, Cond.instanceMethod yX4_told]
def wsL_law_r19 : List Cond := [Cond.selects RX4 yX4_told yX4_told, Cond.code yX4_told cX4_told 2 (some .int), Cond.methodLink RX4 154 yX3_cubeCount, Cond.instanceMethod yX3_cubeCount, Cond.selects RX3 yX3_cubeCount yX3_cubeCount, Cond.code yX3_cubeCount cX3_cubeCount 6 (some .int), Cond.methodLink RX4 157 yX3_cubesOfCuts, Cond.instanceMethod yX3_cubesOfCuts, Cond.selects RX3 yX3_cubesOfCuts yX3_cubesOfCuts, Cond.code yX3_cubesOfCuts cX3_cubesOfCuts 4 (some .int), Cond.methodLink RX4 160 yX3_looseParts, Cond.instanceMethod yX3_looseParts, Cond.selects RX3 yX3_looseParts yX3_looseParts, Cond.code yX3_looseParts cX3_looseParts 4 (some .int), Cond.methodLink RX3 94 yX3_loosePartsOf, Cond.methodLink RL 67 yX5_told, Cond.instanceMethod yX5_told, Cond.selects RX5 yX5_told yX5_told, Cond.code yX5_told cX5_told 4 (some .int), Cond.methodLink RL 68 yX4_lay, Cond.instanceMethod yX4_lay, Cond.selects RX4 yX4_lay yX4_lay, Cond.code yX4_lay cX4_lay 8 (some .int), Cond.fieldLink RX4 179 "SliceBody$Boards" "boardCount" "I"]
def wsL_law_r20 : List Cond := [Cond.methodLink RX4 163 yX4_allFitInto, Cond.instanceMethod yX4_allFitInto, Cond.selects RX4 yX4_allFitInto yX4_allFitInto, Cond.code yX4_allFitInto cX4_allFitInto 7 (some .boolean), Cond.methodLink RX4 169 yX3_chosenFigure, Cond.instanceMethod yX3_chosenFigure, Cond.selects RX3 yX3_chosenFigure yX3_chosenFigure, Cond.code yX3_chosenFigure cX3_chosenFigure 3 (some .long), Cond.methodLink RX4 166 yX0_clear, Cond.instanceMethod yX0_clear, Cond.selects RX0 yX0_clear yX0_clear, Cond.code yX0_clear cX0_clear 1 none, Cond.fieldLink RX0 19 "SliceBody$Boards" "count" "I", Cond.methodLink RX4 172 yX0_add, Cond.instanceMethod yX0_add, Cond.selects RX0 yX0_add yX0_add, Cond.code yX0_add cX0_add 6 none, Cond.methodLink RX0 31 arraycopyName, Cond.native arraycopyName, Cond.static arraycopyName, Cond.initialized "java/lang/System", Cond.methodLink RX0 27 yX0_isLess, Cond.instanceMethod yX0_isLess, Cond.selects RX0 yX0_isLess yX0_isLess]
def wsL_law_r21 : List Cond := [Cond.code yX0_isLess cX0_isLess 5 (some .boolean), Cond.methodLink RX0 41 yX0_fact, Cond.instanceMethod yX0_fact, Cond.selects RX0 yX0_fact yX0_fact, Cond.code yX0_fact cX0_fact 3 (some .int), Cond.methodLink RX0 23 yX0_hasFact, Cond.static yX0_hasFact, Cond.code yX0_hasFact cX0_hasFact 2 (some .boolean), Cond.methodLink RX0 37 yX0_note, Cond.instanceMethod yX0_note, Cond.selects RX0 yX0_note yX0_note, Cond.code yX0_note cX0_note 4 none, Cond.methodLink RX4 176 yX0_layInRows, Cond.instanceMethod yX0_layInRows, Cond.selects RX0 yX0_layInRows yX0_layInRows, Cond.code yX0_layInRows cX0_layInRows 11 none, Cond.fieldLink RX0 45 "SliceBody$Boards" "boardCount" "I", Cond.fieldLink RX0 51 "SliceBody$Boards" "fewest" "I", Cond.methodLink RX0 48 yX0_quotientCutUp, Cond.static yX0_quotientCutUp, Cond.code yX0_quotientCutUp cX0_quotientCutUp 2 (some .int), Cond.methodLink RL 71 yX5_lay, Cond.instanceMethod yX5_lay, Cond.selects RX5 yX5_lay yX5_lay]
def wsL_law_r22 : List Cond := [Cond.code yX5_lay cX5_lay 13 (some .int), Cond.constantLong RX5 139 (60), Cond.constantLong RX5 141 (5), Cond.fieldLink RX5 146 "SliceBodyModel" "laidMany" "I", Cond.fieldLink RX5 149 "SliceBodyModel" "leastMany" "I", Cond.methodLink RX5 143 yX5_gather, Cond.instanceMethod yX5_gather, Cond.selects RX5 yX5_gather yX5_gather, Cond.code yX5_gather cX5_gather 5 (some .int), Cond.methodLink RX5 132 yX5_isAhead, Cond.instanceMethod yX5_isAhead, Cond.selects RX5 yX5_isAhead yX5_isAhead, Cond.code yX5_isAhead cX5_isAhead 3 (some .boolean), Cond.methodLink RX5 135 yX5_exchange, Cond.instanceMethod yX5_exchange, Cond.selects RX5 yX5_exchange yX5_exchange, Cond.code yX5_exchange cX5_exchange 5 none, Cond.methodLink RL 72 yX4_laid, Cond.instanceMethod yX4_laid, Cond.selects RX4 yX4_laid yX4_laid, Cond.code yX4_laid cX4_laid 3 (some .int), Cond.fieldLink RX4 182 "SliceBody$Boards" "known" "Z", Cond.fieldLink RX4 186 "SliceBody$Boards" "count" "I", Cond.methodLink RX4 189 yX0_fact]
def wsL_law_r23 : List Cond := [Cond.methodLink RL 75 yX5_laid, Cond.instanceMethod yX5_laid, Cond.selects RX5 yX5_laid yX5_laid, Cond.code yX5_laid cX5_laid 3 (some .int), Cond.constantLong RX5 152 (6), Cond.methodLink RL 76 yX4_least, Cond.instanceMethod yX4_least, Cond.selects RX4 yX4_least yX4_least, Cond.code yX4_least cX4_least 1 (some .int), Cond.fieldLink RX4 192 "SliceBody$Boards" "fewest" "I", Cond.methodLink RL 79 yX5_least, Cond.instanceMethod yX5_least, Cond.selects RX5 yX5_least yX5_least, Cond.code yX5_least cX5_least 1 (some .int)]
def wsL_law : List Cond := (wsL_law_r1 ++ (wsL_law_r2 ++ (wsL_law_r3 ++ (wsL_law_r4 ++ (wsL_law_r5 ++ (wsL_law_r6 ++ (wsL_law_r7 ++ (wsL_law_r8 ++ (wsL_law_r9 ++ (wsL_law_r10 ++ (wsL_law_r11 ++ (wsL_law_r12 ++ (wsL_law_r13 ++ (wsL_law_r14 ++ (wsL_law_r15 ++ (wsL_law_r16 ++ (wsL_law_r17 ++ (wsL_law_r18 ++ (wsL_law_r19 ++ (wsL_law_r20 ++ (wsL_law_r21 ++ (wsL_law_r22 ++ wsL_law_r23)))))))))))))))))))))) ++ wsX40 ++ wsX50 ++ wsX30 ++ wsX00 ++ ([] : List Cond)
set_option maxRecDepth 20000 in
theorem mem_r {big : List Cond} (ws : List Cond) (ps : List Nat) (hp : ws = ps.filterMap (fun i => big[i]?)) : ∀ w ∈ ws, w ∈ big := by
  intro w hw
  rw [hp] at hw
  obtain ⟨i, -, hi⟩ := List.mem_filterMap.mp hw
  exact List.mem_of_getElem? hi
set_option maxRecDepth 20000 in
theorem wl_r1 : ∀ w ∈ wsL_law_r1, w ∈ lw_tbl := mem_r _ [39, 40, 29, 423, 424, 32, 41, 42, 43, 44, 45, 46, 47, 48, 30, 105, 79, 80, 31, 106, 49, 50, 51, 52] (by decide +kernel)
set_option maxRecDepth 20000 in
theorem wl_r2 : ∀ w ∈ wsL_law_r2, w ∈ lw_tbl := mem_r _ [78, 53, 54, 55, 57, 59, 81, 82, 83, 84, 85, 425, 426, 427, 428, 429, 430, 431, 481, 432, 433, 435, 436, 437] (by decide +kernel)
set_option maxRecDepth 20000 in
theorem wl_r3 : ∀ w ∈ wsL_law_r3, w ∈ lw_tbl := mem_r _ [440, 441, 442, 445, 112, 113, 114, 115, 116, 117, 118, 119, 120, 121, 122, 61, 62, 123, 124, 125, 126, 86, 482, 483] (by decide +kernel)
set_option maxRecDepth 20000 in
theorem wl_r4 : ∀ w ∈ wsL_law_r4, w ∈ lw_tbl := mem_r _ [484, 485, 486, 434, 487, 488, 489, 127, 128, 129, 130, 60, 134, 135, 33, 136, 56, 58, 144, 141, 142, 131, 132, 133] (by decide +kernel)
set_option maxRecDepth 20000 in
theorem wl_r5 : ∀ w ∈ wsL_law_r5, w ∈ lw_tbl := mem_r _ [137, 138, 34, 139, 140, 143, 145, 146, 147, 148, 149, 150, 151, 152, 153, 154, 155, 156, 157, 158, 35, 159, 160, 161] (by decide +kernel)
set_option maxRecDepth 20000 in
theorem wl_r6 : ∀ w ∈ wsL_law_r6, w ∈ lw_tbl := mem_r _ [162, 490, 491, 492, 493, 494, 495, 497, 7, 498, 499, 501, 8, 502, 163, 164, 165, 166, 167, 168, 169, 170, 171, 172] (by decide +kernel)
set_option maxRecDepth 20000 in
theorem wl_r7 : ∀ w ∈ wsL_law_r7, w ∈ lw_tbl := mem_r _ [173, 174, 175, 176, 177, 178, 503, 504, 505, 506, 179, 180, 181, 182, 183, 184, 185, 186, 187, 188, 189, 190, 191, 192] (by decide +kernel)
set_option maxRecDepth 20000 in
theorem wl_r8 : ∀ w ∈ wsL_law_r8, w ∈ lw_tbl := mem_r _ [193, 194, 195, 196, 197, 198, 199, 200, 201, 202, 203, 204, 507, 508, 509, 510, 511, 513, 9, 514, 515, 517, 10, 518] (by decide +kernel)
set_option maxRecDepth 20000 in
theorem wl_r9 : ∀ w ∈ wsL_law_r9, w ∈ lw_tbl := mem_r _ [519, 521, 11, 522, 205, 206, 207, 208, 209, 523, 524, 525, 526, 210, 211, 212, 213, 214, 215, 216, 217, 218, 219, 220] (by decide +kernel)
set_option maxRecDepth 20000 in
theorem wl_r10 : ∀ w ∈ wsL_law_r10, w ∈ lw_tbl := mem_r _ [221, 222, 223, 224, 225, 226, 227, 228, 229, 230, 231, 232, 233, 234, 235, 236, 237, 238, 239, 36, 240, 241, 242, 243] (by decide +kernel)
set_option maxRecDepth 20000 in
theorem wl_r11 : ∀ w ∈ wsL_law_r11, w ∈ lw_tbl := mem_r _ [244, 245, 246, 247, 527, 528, 529, 530, 531, 533, 12, 534, 535, 537, 13, 538, 539, 541, 14, 542, 543, 545, 15, 546] (by decide +kernel)
set_option maxRecDepth 20000 in
theorem wl_r12 : ∀ w ∈ wsL_law_r12, w ∈ lw_tbl := mem_r _ [248, 249, 250, 251, 252, 253, 37, 254, 255, 256, 257, 258, 259, 260, 261, 262, 263, 272, 264, 265, 266, 267, 268, 269] (by decide +kernel)
set_option maxRecDepth 20000 in
theorem wl_r13 : ∀ w ∈ wsL_law_r13, w ∈ lw_tbl := mem_r _ [270, 271, 273, 274, 275, 276, 277, 278, 279, 280, 281, 282, 283, 284, 285, 286, 287, 288, 289, 290, 291, 292, 293, 294] (by decide +kernel)
set_option maxRecDepth 20000 in
theorem wl_r14 : ∀ w ∈ wsL_law_r14, w ∈ lw_tbl := mem_r _ [295, 296, 297, 298, 299, 300, 547, 548, 549, 550, 439, 438, 551, 553, 16, 554, 555, 557, 17, 558, 559, 561, 18, 562] (by decide +kernel)
set_option maxRecDepth 20000 in
theorem wl_r15 : ∀ w ∈ wsL_law_r15, w ∈ lw_tbl := mem_r _ [563, 565, 19, 566, 567, 569, 20, 570, 301, 302, 303, 304, 305, 306, 307, 308, 309, 571, 572, 573, 574, 310, 311, 312] (by decide +kernel)
set_option maxRecDepth 20000 in
theorem wl_r16 : ∀ w ∈ wsL_law_r16, w ∈ lw_tbl := mem_r _ [313, 314, 315, 575, 576, 577, 578, 316, 317, 318, 319, 320, 321, 322, 323, 579, 580, 581, 582, 583, 585, 21, 586, 587] (by decide +kernel)
set_option maxRecDepth 20000 in
theorem wl_r17 : ∀ w ∈ wsL_law_r17, w ∈ lw_tbl := mem_r _ [589, 22, 590, 591, 593, 23, 594, 324, 325, 326, 327, 328, 329, 330, 331, 332, 333, 335, 0, 336, 337, 338, 340, 1] (by decide +kernel)
set_option maxRecDepth 20000 in
theorem wl_r18 : ∀ w ∈ wsL_law_r18, w ∈ lw_tbl := mem_r _ [341, 342, 344, 2, 345, 346, 347, 348, 350, 3, 351, 595, 596, 597, 598, 599, 600, 601, 602, 604, 24, 605, 352, 353] (by decide +kernel)
set_option maxRecDepth 20000 in
theorem wl_r19 : ∀ w ∈ wsL_law_r19, w ∈ lw_tbl := mem_r _ [354, 355, 356, 357, 358, 359, 360, 361, 362, 363, 364, 365, 366, 367, 368, 606, 607, 608, 609, 369, 370, 371, 372, 91] (by decide +kernel)
set_option maxRecDepth 20000 in
theorem wl_r20 : ∀ w ∈ wsL_law_r20, w ∈ lw_tbl := mem_r _ [373, 375, 4, 376, 377, 378, 379, 380, 381, 382, 383, 384, 88, 385, 386, 387, 388, 400, 402, 401, 38, 389, 391, 5] (by decide +kernel)
set_option maxRecDepth 20000 in
theorem wl_r21 : ∀ w ∈ wsL_law_r21, w ∈ lw_tbl := mem_r _ [392, 393, 394, 395, 396, 397, 398, 399, 403, 405, 6, 406, 407, 408, 409, 410, 90, 92, 411, 412, 413, 610, 611, 612] (by decide +kernel)
set_option maxRecDepth 20000 in
theorem wl_r22 : ∀ w ∈ wsL_law_r22, w ∈ lw_tbl := mem_r _ [613, 614, 615, 443, 444, 616, 618, 25, 619, 620, 622, 26, 623, 624, 626, 27, 627, 414, 415, 416, 417, 87, 89, 418] (by decide +kernel)
set_option maxRecDepth 20000 in
theorem wl_r23 : ∀ w ∈ wsL_law_r23, w ∈ lw_tbl := mem_r _ [628, 629, 630, 631, 632, 419, 420, 421, 422, 93, 633, 634, 635, 636] (by decide +kernel)
theorem wl_X4 : ∀ w ∈ wsX40, w ∈ lw_tbl := mem_r _ [107, 109] (by decide +kernel)
theorem wl_X5 : ∀ w ∈ wsX50, w ∈ lw_tbl := mem_r _ [446, 448, 450, 452, 454, 456, 458, 460, 462, 464, 466, 468, 470, 472, 474, 476, 478] (by decide +kernel)
theorem wl_X3 : ∀ w ∈ wsX30, w ∈ lw_tbl := mem_r _ [63, 65, 67, 69, 71, 73, 75] (by decide +kernel)
theorem wl_X0 : ∀ w ∈ wsX00, w ∈ lw_tbl := mem_r _ [94, 96, 98, 100, 102] (by decide +kernel)
theorem wsL_law_in : ∀ w ∈ wsL_law, w ∈ lw_tbl := List.forall_mem_append.mpr ⟨List.forall_mem_append.mpr ⟨List.forall_mem_append.mpr ⟨List.forall_mem_append.mpr ⟨List.forall_mem_append.mpr ⟨List.forall_mem_append.mpr ⟨wl_r1, List.forall_mem_append.mpr ⟨wl_r2, List.forall_mem_append.mpr ⟨wl_r3, List.forall_mem_append.mpr ⟨wl_r4, List.forall_mem_append.mpr ⟨wl_r5, List.forall_mem_append.mpr ⟨wl_r6, List.forall_mem_append.mpr ⟨wl_r7, List.forall_mem_append.mpr ⟨wl_r8, List.forall_mem_append.mpr ⟨wl_r9, List.forall_mem_append.mpr ⟨wl_r10, List.forall_mem_append.mpr ⟨wl_r11, List.forall_mem_append.mpr ⟨wl_r12, List.forall_mem_append.mpr ⟨wl_r13, List.forall_mem_append.mpr ⟨wl_r14, List.forall_mem_append.mpr ⟨wl_r15, List.forall_mem_append.mpr ⟨wl_r16, List.forall_mem_append.mpr ⟨wl_r17, List.forall_mem_append.mpr ⟨wl_r18, List.forall_mem_append.mpr ⟨wl_r19, List.forall_mem_append.mpr ⟨wl_r20, List.forall_mem_append.mpr ⟨wl_r21, List.forall_mem_append.mpr ⟨wl_r22, wl_r23⟩⟩⟩⟩⟩⟩⟩⟩⟩⟩⟩⟩⟩⟩⟩⟩⟩⟩⟩⟩⟩⟩, wl_X4⟩, wl_X5⟩, wl_X3⟩, wl_X0⟩, fun _ h => absurd h List.not_mem_nil⟩
theorem inlX0 : ∀ w ∈ wsX00, w ∈ wsL_law := fun _ h => List.mem_append_left _ (List.mem_append_right _ h)
theorem inX0 : ∀ w ∈ wsX00, w ∈ lw_tbl := fun w h => wsL_law_in w (inlX0 w h)
theorem inX1 : ∀ w ∈ wsX10, w ∈ lw_tbl := by decide +kernel
theorem inX2 : ∀ w ∈ wsX20, w ∈ lw_tbl := by decide +kernel
theorem inlX3 : ∀ w ∈ wsX30, w ∈ wsL_law := fun _ h => List.mem_append_left _ (List.mem_append_left _ (List.mem_append_right _ h))
theorem inX3 : ∀ w ∈ wsX30, w ∈ lw_tbl := fun w h => wsL_law_in w (inlX3 w h)
theorem inlX4 : ∀ w ∈ wsX40, w ∈ wsL_law := fun _ h => List.mem_append_left _ (List.mem_append_left _ (List.mem_append_left _ (List.mem_append_left _ (List.mem_append_right _ h))))
theorem inX4 : ∀ w ∈ wsX40, w ∈ lw_tbl := fun w h => wsL_law_in w (inlX4 w h)
theorem inlX5 : ∀ w ∈ wsX50, w ∈ wsL_law := fun _ h => List.mem_append_left _ (List.mem_append_left _ (List.mem_append_left _ (List.mem_append_right _ h)))
theorem inX5 : ∀ w ∈ wsX50, w ∈ lw_tbl := fun w h => wsL_law_in w (inlX5 w h)
theorem inJ6 : ∀ w ∈ wsJ60, w ∈ lw_tbl := by decide +kernel
theorem inJ13 : ∀ w ∈ wsJ130, w ∈ lw_tbl := by decide +kernel
theorem inJ9 : ∀ w ∈ wsJ90, w ∈ lw_tbl := by decide +kernel
theorem inJ10 : ∀ w ∈ wsJ100, w ∈ lw_tbl := by decide +kernel
abbrev vwCl : List vw_C := [(RX0, TX0, 5), (RX3, TX3, 7), (RX4, TX4, 2), (RX5, TX5, 17)]
end
section
theorem dX0_init_0 : decode cX0_init 0 = .ok (.aload_n 0, 1) := by decide +kernel
theorem dX0_init_1 : decode cX0_init 1 = .ok (.invokespecial 3, 3) := by decide +kernel
theorem dX0_init_4 : decode cX0_init 4 = .ok (.aload_n 0, 1) := by decide +kernel
theorem dX0_init_5 : decode cX0_init 5 = .ok (.bipush 112, 2) := by decide +kernel
theorem dX0_init_7 : decode cX0_init 7 = .ok (.newarray .int, 2) := by decide +kernel
theorem dX0_init_9 : decode cX0_init 9 = .ok (.putfield 11, 3) := by decide +kernel
theorem dX0_init_12 : decode cX0_init 12 = .ok (.return_, 1) := by decide +kernel
theorem dX0_forget_0 : decode cX0_forget 0 = .ok (.aload_n 0, 1) := by decide +kernel
theorem dX0_forget_1 : decode cX0_forget 1 = .ok (.iconst 0, 1) := by decide +kernel
theorem dX0_forget_2 : decode cX0_forget 2 = .ok (.putfield 15, 3) := by decide +kernel
theorem dX0_forget_5 : decode cX0_forget 5 = .ok (.return_, 1) := by decide +kernel
theorem dX0_clear_0 : decode cX0_clear 0 = .ok (.aload_n 0, 1) := by decide +kernel
theorem dX0_clear_1 : decode cX0_clear 1 = .ok (.iconst 0, 1) := by decide +kernel
theorem dX0_clear_2 : decode cX0_clear 2 = .ok (.putfield 19, 3) := by decide +kernel
theorem dX0_clear_5 : decode cX0_clear 5 = .ok (.return_, 1) := by decide +kernel
set_option maxRecDepth 20000 in
theorem ggX0_fact_X0_hasFact : GoodIn wsX0_fact wsX0_hasFact := goodIn_r _ [5] (by decide +kernel) (by decide +kernel)
set_option maxRecDepth 20000 in
theorem gX0_fact_X0_hasFact : GoodIn wsX0_fact (va_wsS RX0 23 yX0_hasFact wsX0_hasFact) := goodIn_app (goodIn_of _ (by decide +kernel)) ggX0_fact_X0_hasFact
theorem dX0_fact_0 : decode cX0_fact 0 = .ok (.iload_n 1, 1) := by decide +kernel
theorem dX0_fact_1 : decode cX0_fact 1 = .ok (.iload_n 2, 1) := by decide +kernel
theorem dX0_fact_2 : decode cX0_fact 2 = .ok (.invokestatic 23, 3) := by decide +kernel
theorem dX0_fact_5 : decode cX0_fact 5 = .ok (.ifCond .eq 17, 3) := by decide +kernel
theorem dX0_fact_8 : decode cX0_fact 8 = .ok (.aload_n 0, 1) := by decide +kernel
theorem dX0_fact_9 : decode cX0_fact 9 = .ok (.getfield 11, 3) := by decide +kernel
theorem dX0_fact_12 : decode cX0_fact 12 = .ok (.iload_n 1, 1) := by decide +kernel
theorem dX0_fact_13 : decode cX0_fact 13 = .ok (.bipush 7, 2) := by decide +kernel
theorem dX0_fact_15 : decode cX0_fact 15 = .ok (.imul, 1) := by decide +kernel
theorem dX0_fact_16 : decode cX0_fact 16 = .ok (.iload_n 2, 1) := by decide +kernel
theorem dX0_fact_17 : decode cX0_fact 17 = .ok (.iadd, 1) := by decide +kernel
theorem dX0_fact_18 : decode cX0_fact 18 = .ok (.iaload, 1) := by decide +kernel
theorem dX0_fact_19 : decode cX0_fact 19 = .ok (.goto 5, 3) := by decide +kernel
theorem dX0_fact_22 : decode cX0_fact 22 = .ok (.bipush (-6), 2) := by decide +kernel
theorem dX0_fact_24 : decode cX0_fact 24 = .ok (.ireturn, 1) := by decide +kernel
set_option maxRecDepth 20000 in
theorem ggX0_note_X0_hasFact : GoodIn wsX0_note wsX0_hasFact := goodIn_r _ [5] (by decide +kernel) (by decide +kernel)
set_option maxRecDepth 20000 in
theorem gX0_note_X0_hasFact : GoodIn wsX0_note (va_wsS RX0 23 yX0_hasFact wsX0_hasFact) := goodIn_app (goodIn_of _ (by decide +kernel)) ggX0_note_X0_hasFact
theorem dX0_note_0 : decode cX0_note 0 = .ok (.iload_n 1, 1) := by decide +kernel
theorem dX0_note_1 : decode cX0_note 1 = .ok (.iload_n 2, 1) := by decide +kernel
theorem dX0_note_2 : decode cX0_note 2 = .ok (.invokestatic 23, 3) := by decide +kernel
theorem dX0_note_5 : decode cX0_note 5 = .ok (.ifCond .eq 15, 3) := by decide +kernel
theorem dX0_note_8 : decode cX0_note 8 = .ok (.aload_n 0, 1) := by decide +kernel
theorem dX0_note_9 : decode cX0_note 9 = .ok (.getfield 11, 3) := by decide +kernel
theorem dX0_note_12 : decode cX0_note 12 = .ok (.iload_n 1, 1) := by decide +kernel
theorem dX0_note_13 : decode cX0_note 13 = .ok (.bipush 7, 2) := by decide +kernel
theorem dX0_note_15 : decode cX0_note 15 = .ok (.imul, 1) := by decide +kernel
theorem dX0_note_16 : decode cX0_note 16 = .ok (.iload_n 2, 1) := by decide +kernel
theorem dX0_note_17 : decode cX0_note 17 = .ok (.iadd, 1) := by decide +kernel
theorem dX0_note_18 : decode cX0_note 18 = .ok (.iload_n 3, 1) := by decide +kernel
theorem dX0_note_19 : decode cX0_note 19 = .ok (.iastore, 1) := by decide +kernel
theorem dX0_note_20 : decode cX0_note 20 = .ok (.return_, 1) := by decide +kernel
theorem dX0_hasFact_0 : decode cX0_hasFact 0 = .ok (.iload_n 0, 1) := by decide +kernel
theorem dX0_hasFact_1 : decode cX0_hasFact 1 = .ok (.ifCond .lt 23, 3) := by decide +kernel
theorem dX0_hasFact_4 : decode cX0_hasFact 4 = .ok (.iload_n 0, 1) := by decide +kernel
theorem dX0_hasFact_5 : decode cX0_hasFact 5 = .ok (.bipush 16, 2) := by decide +kernel
theorem dX0_hasFact_7 : decode cX0_hasFact 7 = .ok (.if_icmp .ge 17, 3) := by decide +kernel
theorem dX0_hasFact_10 : decode cX0_hasFact 10 = .ok (.iload_n 1, 1) := by decide +kernel
theorem dX0_hasFact_11 : decode cX0_hasFact 11 = .ok (.ifCond .lt 13, 3) := by decide +kernel
theorem dX0_hasFact_14 : decode cX0_hasFact 14 = .ok (.iload_n 1, 1) := by decide +kernel
theorem dX0_hasFact_15 : decode cX0_hasFact 15 = .ok (.bipush 7, 2) := by decide +kernel
theorem dX0_hasFact_17 : decode cX0_hasFact 17 = .ok (.if_icmp .ge 7, 3) := by decide +kernel
theorem dX0_hasFact_20 : decode cX0_hasFact 20 = .ok (.iconst 1, 1) := by decide +kernel
theorem dX0_hasFact_21 : decode cX0_hasFact 21 = .ok (.goto 4, 3) := by decide +kernel
theorem dX0_hasFact_24 : decode cX0_hasFact 24 = .ok (.iconst 0, 1) := by decide +kernel
theorem dX0_hasFact_25 : decode cX0_hasFact 25 = .ok (.ireturn, 1) := by decide +kernel
set_option maxRecDepth 20000 in
theorem ggX0_add_X0_isLess : GoodIn wsX0_add wsX0_isLess := goodIn_r _ [11, 12, 13, 14, 10, 15, 2, 16, 17, 18, 23, 24, 25, 26, 27] (by decide +kernel) (by decide +kernel)
set_option maxRecDepth 20000 in
theorem gX0_add_X0_isLess : GoodIn wsX0_add (wsV RX0 27 RX0 yX0_isLess wsX0_isLess) := goodIn_app (goodIn_of _ (by decide +kernel)) ggX0_add_X0_isLess
set_option maxRecDepth 20000 in
theorem ggX0_add_X0_note : GoodIn wsX0_add wsX0_note := goodIn_r _ [22, 2, 16, 17, 10, 18, 23, 24, 25, 26, 27] (by decide +kernel) (by decide +kernel)
set_option maxRecDepth 20000 in
theorem gX0_add_X0_note : GoodIn wsX0_add (wsV RX0 37 RX0 yX0_note wsX0_note) := goodIn_app (goodIn_of _ (by decide +kernel)) ggX0_add_X0_note
theorem dX0_add_0 : decode cX0_add 0 = .ok (.aload_n 0, 1) := by decide +kernel
theorem dX0_add_1 : decode cX0_add 1 = .ok (.getfield 19, 3) := by decide +kernel
theorem dX0_add_4 : decode cX0_add 4 = .ok (.bipush 16, 2) := by decide +kernel
theorem dX0_add_6 : decode cX0_add 6 = .ok (.if_icmp .lt 4, 3) := by decide +kernel
theorem dX0_add_9 : decode cX0_add 9 = .ok (.return_, 1) := by decide +kernel
theorem dX0_add_10 : decode cX0_add 10 = .ok (.aload_n 0, 1) := by decide +kernel
theorem dX0_add_11 : decode cX0_add 11 = .ok (.getfield 19, 3) := by decide +kernel
theorem dX0_add_14 : decode cX0_add 14 = .ok (.istore 5, 2) := by decide +kernel
theorem dX0_add_16 : decode cX0_add 16 = .ok (.iload 5, 2) := by decide +kernel
theorem dX0_add_18 : decode cX0_add 18 = .ok (.ifCond .le 23, 3) := by decide +kernel
theorem dX0_add_21 : decode cX0_add 21 = .ok (.aload_n 0, 1) := by decide +kernel
theorem dX0_add_22 : decode cX0_add 22 = .ok (.iload 5, 2) := by decide +kernel
theorem dX0_add_24 : decode cX0_add 24 = .ok (.iconst 1, 1) := by decide +kernel
theorem dX0_add_25 : decode cX0_add 25 = .ok (.isub, 1) := by decide +kernel
theorem dX0_add_26 : decode cX0_add 26 = .ok (.iload_n 3, 1) := by decide +kernel
theorem dX0_add_27 : decode cX0_add 27 = .ok (.iload 4, 2) := by decide +kernel
theorem dX0_add_29 : decode cX0_add 29 = .ok (.invokevirtual 27, 3) := by decide +kernel
theorem dX0_add_32 : decode cX0_add 32 = .ok (.ifCond .eq 9, 3) := by decide +kernel
theorem dX0_add_35 : decode cX0_add 35 = .ok (.iinc 5 (-1), 3) := by decide +kernel
theorem dX0_add_38 : decode cX0_add 38 = .ok (.goto (-22), 3) := by decide +kernel
theorem dX0_add_41 : decode cX0_add 41 = .ok (.aload_n 0, 1) := by decide +kernel
theorem dX0_add_42 : decode cX0_add 42 = .ok (.getfield 11, 3) := by decide +kernel
theorem dX0_add_45 : decode cX0_add 45 = .ok (.iload 5, 2) := by decide +kernel
theorem dX0_add_47 : decode cX0_add 47 = .ok (.bipush 7, 2) := by decide +kernel
theorem dX0_add_49 : decode cX0_add 49 = .ok (.imul, 1) := by decide +kernel
theorem dX0_add_50 : decode cX0_add 50 = .ok (.aload_n 0, 1) := by decide +kernel
theorem dX0_add_51 : decode cX0_add 51 = .ok (.getfield 11, 3) := by decide +kernel
theorem dX0_add_54 : decode cX0_add 54 = .ok (.iload 5, 2) := by decide +kernel
theorem dX0_add_56 : decode cX0_add 56 = .ok (.iconst 1, 1) := by decide +kernel
theorem dX0_add_57 : decode cX0_add 57 = .ok (.iadd, 1) := by decide +kernel
theorem dX0_add_58 : decode cX0_add 58 = .ok (.bipush 7, 2) := by decide +kernel
theorem dX0_add_60 : decode cX0_add 60 = .ok (.imul, 1) := by decide +kernel
theorem dX0_add_61 : decode cX0_add 61 = .ok (.aload_n 0, 1) := by decide +kernel
theorem dX0_add_62 : decode cX0_add 62 = .ok (.getfield 19, 3) := by decide +kernel
theorem dX0_add_65 : decode cX0_add 65 = .ok (.iload 5, 2) := by decide +kernel
theorem dX0_add_67 : decode cX0_add 67 = .ok (.isub, 1) := by decide +kernel
theorem dX0_add_68 : decode cX0_add 68 = .ok (.bipush 7, 2) := by decide +kernel
theorem dX0_add_70 : decode cX0_add 70 = .ok (.imul, 1) := by decide +kernel
theorem dX0_add_71 : decode cX0_add 71 = .ok (.invokestatic 31, 3) := by decide +kernel
theorem dX0_add_74 : decode cX0_add 74 = .ok (.aload_n 0, 1) := by decide +kernel
theorem dX0_add_75 : decode cX0_add 75 = .ok (.iload 5, 2) := by decide +kernel
theorem dX0_add_77 : decode cX0_add 77 = .ok (.iconst 0, 1) := by decide +kernel
theorem dX0_add_78 : decode cX0_add 78 = .ok (.iload_n 1, 1) := by decide +kernel
theorem dX0_add_79 : decode cX0_add 79 = .ok (.invokevirtual 37, 3) := by decide +kernel
theorem dX0_add_82 : decode cX0_add 82 = .ok (.aload_n 0, 1) := by decide +kernel
theorem dX0_add_83 : decode cX0_add 83 = .ok (.iload 5, 2) := by decide +kernel
theorem dX0_add_85 : decode cX0_add 85 = .ok (.iconst 1, 1) := by decide +kernel
theorem dX0_add_86 : decode cX0_add 86 = .ok (.iload_n 2, 1) := by decide +kernel
theorem dX0_add_87 : decode cX0_add 87 = .ok (.invokevirtual 37, 3) := by decide +kernel
theorem dX0_add_90 : decode cX0_add 90 = .ok (.aload_n 0, 1) := by decide +kernel
theorem dX0_add_91 : decode cX0_add 91 = .ok (.iload 5, 2) := by decide +kernel
theorem dX0_add_93 : decode cX0_add 93 = .ok (.iconst 5, 1) := by decide +kernel
theorem dX0_add_94 : decode cX0_add 94 = .ok (.iload_n 3, 1) := by decide +kernel
theorem dX0_add_95 : decode cX0_add 95 = .ok (.invokevirtual 37, 3) := by decide +kernel
theorem dX0_add_98 : decode cX0_add 98 = .ok (.aload_n 0, 1) := by decide +kernel
theorem dX0_add_99 : decode cX0_add 99 = .ok (.iload 5, 2) := by decide +kernel
theorem dX0_add_101 : decode cX0_add 101 = .ok (.bipush 6, 2) := by decide +kernel
theorem dX0_add_103 : decode cX0_add 103 = .ok (.iload 4, 2) := by decide +kernel
theorem dX0_add_105 : decode cX0_add 105 = .ok (.invokevirtual 37, 3) := by decide +kernel
theorem dX0_add_108 : decode cX0_add 108 = .ok (.aload_n 0, 1) := by decide +kernel
theorem dX0_add_109 : decode cX0_add 109 = .ok (.dup, 1) := by decide +kernel
theorem dX0_add_110 : decode cX0_add 110 = .ok (.getfield 19, 3) := by decide +kernel
theorem dX0_add_113 : decode cX0_add 113 = .ok (.iconst 1, 1) := by decide +kernel
theorem dX0_add_114 : decode cX0_add 114 = .ok (.iadd, 1) := by decide +kernel
theorem dX0_add_115 : decode cX0_add 115 = .ok (.putfield 19, 3) := by decide +kernel
theorem dX0_add_118 : decode cX0_add 118 = .ok (.return_, 1) := by decide +kernel
set_option maxRecDepth 20000 in
theorem ggX0_isLess_X0_fact : GoodIn wsX0_isLess wsX0_fact := goodIn_r _ [5, 6, 7, 8, 4, 9, 10, 11, 12, 13, 14] (by decide +kernel) (by decide +kernel)
set_option maxRecDepth 20000 in
theorem gX0_isLess_X0_fact : GoodIn wsX0_isLess (wsV RX0 41 RX0 yX0_fact wsX0_fact) := goodIn_app (goodIn_of _ (by decide +kernel)) ggX0_isLess_X0_fact
theorem dX0_isLess_0 : decode cX0_isLess 0 = .ok (.aload_n 0, 1) := by decide +kernel
theorem dX0_isLess_1 : decode cX0_isLess 1 = .ok (.iload_n 1, 1) := by decide +kernel
theorem dX0_isLess_2 : decode cX0_isLess 2 = .ok (.bipush 6, 2) := by decide +kernel
theorem dX0_isLess_4 : decode cX0_isLess 4 = .ok (.invokevirtual 41, 3) := by decide +kernel
theorem dX0_isLess_7 : decode cX0_isLess 7 = .ok (.istore 4, 2) := by decide +kernel
theorem dX0_isLess_9 : decode cX0_isLess 9 = .ok (.iload 4, 2) := by decide +kernel
theorem dX0_isLess_11 : decode cX0_isLess 11 = .ok (.iload_n 3, 1) := by decide +kernel
theorem dX0_isLess_12 : decode cX0_isLess 12 = .ok (.if_icmp .lt 19, 3) := by decide +kernel
theorem dX0_isLess_15 : decode cX0_isLess 15 = .ok (.iload 4, 2) := by decide +kernel
theorem dX0_isLess_17 : decode cX0_isLess 17 = .ok (.iload_n 3, 1) := by decide +kernel
theorem dX0_isLess_18 : decode cX0_isLess 18 = .ok (.if_icmp .ne 17, 3) := by decide +kernel
theorem dX0_isLess_21 : decode cX0_isLess 21 = .ok (.aload_n 0, 1) := by decide +kernel
theorem dX0_isLess_22 : decode cX0_isLess 22 = .ok (.iload_n 1, 1) := by decide +kernel
theorem dX0_isLess_23 : decode cX0_isLess 23 = .ok (.iconst 5, 1) := by decide +kernel
theorem dX0_isLess_24 : decode cX0_isLess 24 = .ok (.invokevirtual 41, 3) := by decide +kernel
theorem dX0_isLess_27 : decode cX0_isLess 27 = .ok (.iload_n 2, 1) := by decide +kernel
theorem dX0_isLess_28 : decode cX0_isLess 28 = .ok (.if_icmp .ge 7, 3) := by decide +kernel
theorem dX0_isLess_31 : decode cX0_isLess 31 = .ok (.iconst 1, 1) := by decide +kernel
theorem dX0_isLess_32 : decode cX0_isLess 32 = .ok (.goto 4, 3) := by decide +kernel
theorem dX0_isLess_35 : decode cX0_isLess 35 = .ok (.iconst 0, 1) := by decide +kernel
theorem dX0_isLess_36 : decode cX0_isLess 36 = .ok (.ireturn, 1) := by decide +kernel
set_option maxRecDepth 20000 in
theorem ggX0_layInRows_X0_fact : GoodIn wsX0_layInRows wsX0_fact := goodIn_r _ [9, 10, 11, 12, 8, 13, 21, 22, 23, 24, 25] (by decide +kernel) (by decide +kernel)
set_option maxRecDepth 20000 in
theorem gX0_layInRows_X0_fact : GoodIn wsX0_layInRows (wsV RX0 41 RX0 yX0_fact wsX0_fact) := goodIn_app (goodIn_of _ (by decide +kernel)) ggX0_layInRows_X0_fact
set_option maxRecDepth 20000 in
theorem ggX0_layInRows_X0_note : GoodIn wsX0_layInRows wsX0_note := goodIn_r _ [17, 10, 11, 12, 8, 13, 21, 22, 23, 24, 25] (by decide +kernel) (by decide +kernel)
set_option maxRecDepth 20000 in
theorem gX0_layInRows_X0_note : GoodIn wsX0_layInRows (wsV RX0 37 RX0 yX0_note wsX0_note) := goodIn_app (goodIn_of _ (by decide +kernel)) ggX0_layInRows_X0_note
set_option maxRecDepth 20000 in
theorem ggX0_layInRows_X0_quotientCutUp : GoodIn wsX0_layInRows wsX0_quotientCutUp := goodIn_r _ [20] (by decide +kernel) (by decide +kernel)
set_option maxRecDepth 20000 in
theorem gX0_layInRows_X0_quotientCutUp : GoodIn wsX0_layInRows (va_wsS RX0 48 yX0_quotientCutUp wsX0_quotientCutUp) := goodIn_app (goodIn_of _ (by decide +kernel)) ggX0_layInRows_X0_quotientCutUp
theorem dX0_layInRows_0 : decode cX0_layInRows 0 = .ok (.iconst 0, 1) := by decide +kernel
theorem dX0_layInRows_1 : decode cX0_layInRows 1 = .ok (.istore_n 3, 1) := by decide +kernel
theorem dX0_layInRows_2 : decode cX0_layInRows 2 = .ok (.iconst 0, 1) := by decide +kernel
theorem dX0_layInRows_3 : decode cX0_layInRows 3 = .ok (.istore 4, 2) := by decide +kernel
theorem dX0_layInRows_5 : decode cX0_layInRows 5 = .ok (.iconst 0, 1) := by decide +kernel
theorem dX0_layInRows_6 : decode cX0_layInRows 6 = .ok (.istore 5, 2) := by decide +kernel
theorem dX0_layInRows_8 : decode cX0_layInRows 8 = .ok (.iload_n 1, 1) := by decide +kernel
theorem dX0_layInRows_9 : decode cX0_layInRows 9 = .ok (.istore 6, 2) := by decide +kernel
theorem dX0_layInRows_11 : decode cX0_layInRows 11 = .ok (.iconst 0, 1) := by decide +kernel
theorem dX0_layInRows_12 : decode cX0_layInRows 12 = .ok (.istore 7, 2) := by decide +kernel
theorem dX0_layInRows_14 : decode cX0_layInRows 14 = .ok (.iconst 0, 1) := by decide +kernel
theorem dX0_layInRows_15 : decode cX0_layInRows 15 = .ok (.istore 8, 2) := by decide +kernel
theorem dX0_layInRows_17 : decode cX0_layInRows 17 = .ok (.iload 8, 2) := by decide +kernel
theorem dX0_layInRows_19 : decode cX0_layInRows 19 = .ok (.aload_n 0, 1) := by decide +kernel
theorem dX0_layInRows_20 : decode cX0_layInRows 20 = .ok (.getfield 19, 3) := by decide +kernel
theorem dX0_layInRows_23 : decode cX0_layInRows 23 = .ok (.if_icmp .ge 109, 3) := by decide +kernel
theorem dX0_layInRows_26 : decode cX0_layInRows 26 = .ok (.aload_n 0, 1) := by decide +kernel
theorem dX0_layInRows_27 : decode cX0_layInRows 27 = .ok (.iload 8, 2) := by decide +kernel
theorem dX0_layInRows_29 : decode cX0_layInRows 29 = .ok (.iconst 5, 1) := by decide +kernel
theorem dX0_layInRows_30 : decode cX0_layInRows 30 = .ok (.invokevirtual 41, 3) := by decide +kernel
theorem dX0_layInRows_33 : decode cX0_layInRows 33 = .ok (.istore 9, 2) := by decide +kernel
theorem dX0_layInRows_35 : decode cX0_layInRows 35 = .ok (.aload_n 0, 1) := by decide +kernel
theorem dX0_layInRows_36 : decode cX0_layInRows 36 = .ok (.iload 8, 2) := by decide +kernel
theorem dX0_layInRows_38 : decode cX0_layInRows 38 = .ok (.bipush 6, 2) := by decide +kernel
theorem dX0_layInRows_40 : decode cX0_layInRows 40 = .ok (.invokevirtual 41, 3) := by decide +kernel
theorem dX0_layInRows_43 : decode cX0_layInRows 43 = .ok (.istore 10, 2) := by decide +kernel
theorem dX0_layInRows_45 : decode cX0_layInRows 45 = .ok (.iload 6, 2) := by decide +kernel
theorem dX0_layInRows_47 : decode cX0_layInRows 47 = .ok (.iload 9, 2) := by decide +kernel
theorem dX0_layInRows_49 : decode cX0_layInRows 49 = .ok (.iadd, 1) := by decide +kernel
theorem dX0_layInRows_50 : decode cX0_layInRows 50 = .ok (.iload_n 1, 1) := by decide +kernel
theorem dX0_layInRows_51 : decode cX0_layInRows 51 = .ok (.if_icmp .le 32, 3) := by decide +kernel
theorem dX0_layInRows_54 : decode cX0_layInRows 54 = .ok (.iconst 0, 1) := by decide +kernel
theorem dX0_layInRows_55 : decode cX0_layInRows 55 = .ok (.istore 6, 2) := by decide +kernel
theorem dX0_layInRows_57 : decode cX0_layInRows 57 = .ok (.iload 4, 2) := by decide +kernel
theorem dX0_layInRows_59 : decode cX0_layInRows 59 = .ok (.iload 5, 2) := by decide +kernel
theorem dX0_layInRows_61 : decode cX0_layInRows 61 = .ok (.iadd, 1) := by decide +kernel
theorem dX0_layInRows_62 : decode cX0_layInRows 62 = .ok (.istore 4, 2) := by decide +kernel
theorem dX0_layInRows_64 : decode cX0_layInRows 64 = .ok (.iload 10, 2) := by decide +kernel
theorem dX0_layInRows_66 : decode cX0_layInRows 66 = .ok (.istore 5, 2) := by decide +kernel
theorem dX0_layInRows_68 : decode cX0_layInRows 68 = .ok (.iload 4, 2) := by decide +kernel
theorem dX0_layInRows_70 : decode cX0_layInRows 70 = .ok (.iload 10, 2) := by decide +kernel
theorem dX0_layInRows_72 : decode cX0_layInRows 72 = .ok (.iadd, 1) := by decide +kernel
theorem dX0_layInRows_73 : decode cX0_layInRows 73 = .ok (.iload_n 2, 1) := by decide +kernel
theorem dX0_layInRows_74 : decode cX0_layInRows 74 = .ok (.if_icmp .le 9, 3) := by decide +kernel
theorem dX0_layInRows_77 : decode cX0_layInRows 77 = .ok (.iconst 0, 1) := by decide +kernel
theorem dX0_layInRows_78 : decode cX0_layInRows 78 = .ok (.istore 4, 2) := by decide +kernel
theorem dX0_layInRows_80 : decode cX0_layInRows 80 = .ok (.iinc 3 1, 3) := by decide +kernel
theorem dX0_layInRows_83 : decode cX0_layInRows 83 = .ok (.aload_n 0, 1) := by decide +kernel
theorem dX0_layInRows_84 : decode cX0_layInRows 84 = .ok (.iload 8, 2) := by decide +kernel
theorem dX0_layInRows_86 : decode cX0_layInRows 86 = .ok (.iconst 2, 1) := by decide +kernel
theorem dX0_layInRows_87 : decode cX0_layInRows 87 = .ok (.iload_n 3, 1) := by decide +kernel
theorem dX0_layInRows_88 : decode cX0_layInRows 88 = .ok (.invokevirtual 37, 3) := by decide +kernel
theorem dX0_layInRows_91 : decode cX0_layInRows 91 = .ok (.aload_n 0, 1) := by decide +kernel
theorem dX0_layInRows_92 : decode cX0_layInRows 92 = .ok (.iload 8, 2) := by decide +kernel
theorem dX0_layInRows_94 : decode cX0_layInRows 94 = .ok (.iconst 3, 1) := by decide +kernel
theorem dX0_layInRows_95 : decode cX0_layInRows 95 = .ok (.iload 6, 2) := by decide +kernel
theorem dX0_layInRows_97 : decode cX0_layInRows 97 = .ok (.invokevirtual 37, 3) := by decide +kernel
theorem dX0_layInRows_100 : decode cX0_layInRows 100 = .ok (.aload_n 0, 1) := by decide +kernel
theorem dX0_layInRows_101 : decode cX0_layInRows 101 = .ok (.iload 8, 2) := by decide +kernel
theorem dX0_layInRows_103 : decode cX0_layInRows 103 = .ok (.iconst 4, 1) := by decide +kernel
theorem dX0_layInRows_104 : decode cX0_layInRows 104 = .ok (.iload 4, 2) := by decide +kernel
theorem dX0_layInRows_106 : decode cX0_layInRows 106 = .ok (.invokevirtual 37, 3) := by decide +kernel
theorem dX0_layInRows_109 : decode cX0_layInRows 109 = .ok (.iload 6, 2) := by decide +kernel
theorem dX0_layInRows_111 : decode cX0_layInRows 111 = .ok (.iload 9, 2) := by decide +kernel
theorem dX0_layInRows_113 : decode cX0_layInRows 113 = .ok (.iadd, 1) := by decide +kernel
theorem dX0_layInRows_114 : decode cX0_layInRows 114 = .ok (.istore 6, 2) := by decide +kernel
theorem dX0_layInRows_116 : decode cX0_layInRows 116 = .ok (.iload 7, 2) := by decide +kernel
theorem dX0_layInRows_118 : decode cX0_layInRows 118 = .ok (.iload 9, 2) := by decide +kernel
theorem dX0_layInRows_120 : decode cX0_layInRows 120 = .ok (.iload 10, 2) := by decide +kernel
theorem dX0_layInRows_122 : decode cX0_layInRows 122 = .ok (.imul, 1) := by decide +kernel
theorem dX0_layInRows_123 : decode cX0_layInRows 123 = .ok (.iadd, 1) := by decide +kernel
theorem dX0_layInRows_124 : decode cX0_layInRows 124 = .ok (.istore 7, 2) := by decide +kernel
theorem dX0_layInRows_126 : decode cX0_layInRows 126 = .ok (.iinc 8 1, 3) := by decide +kernel
theorem dX0_layInRows_129 : decode cX0_layInRows 129 = .ok (.goto (-112), 3) := by decide +kernel
theorem dX0_layInRows_132 : decode cX0_layInRows 132 = .ok (.aload_n 0, 1) := by decide +kernel
theorem dX0_layInRows_133 : decode cX0_layInRows 133 = .ok (.aload_n 0, 1) := by decide +kernel
theorem dX0_layInRows_134 : decode cX0_layInRows 134 = .ok (.getfield 19, 3) := by decide +kernel
theorem dX0_layInRows_137 : decode cX0_layInRows 137 = .ok (.ifCond .ne 7, 3) := by decide +kernel
theorem dX0_layInRows_140 : decode cX0_layInRows 140 = .ok (.iconst 0, 1) := by decide +kernel
theorem dX0_layInRows_141 : decode cX0_layInRows 141 = .ok (.goto 6, 3) := by decide +kernel
theorem dX0_layInRows_144 : decode cX0_layInRows 144 = .ok (.iload_n 3, 1) := by decide +kernel
theorem dX0_layInRows_145 : decode cX0_layInRows 145 = .ok (.iconst 1, 1) := by decide +kernel
theorem dX0_layInRows_146 : decode cX0_layInRows 146 = .ok (.iadd, 1) := by decide +kernel
theorem dX0_layInRows_147 : decode cX0_layInRows 147 = .ok (.putfield 45, 3) := by decide +kernel
theorem dX0_layInRows_150 : decode cX0_layInRows 150 = .ok (.aload_n 0, 1) := by decide +kernel
theorem dX0_layInRows_151 : decode cX0_layInRows 151 = .ok (.iload 7, 2) := by decide +kernel
theorem dX0_layInRows_153 : decode cX0_layInRows 153 = .ok (.iload_n 1, 1) := by decide +kernel
theorem dX0_layInRows_154 : decode cX0_layInRows 154 = .ok (.iload_n 2, 1) := by decide +kernel
theorem dX0_layInRows_155 : decode cX0_layInRows 155 = .ok (.imul, 1) := by decide +kernel
theorem dX0_layInRows_156 : decode cX0_layInRows 156 = .ok (.invokestatic 48, 3) := by decide +kernel
theorem dX0_layInRows_159 : decode cX0_layInRows 159 = .ok (.putfield 51, 3) := by decide +kernel
theorem dX0_layInRows_162 : decode cX0_layInRows 162 = .ok (.aload_n 0, 1) := by decide +kernel
theorem dX0_layInRows_163 : decode cX0_layInRows 163 = .ok (.iconst 1, 1) := by decide +kernel
theorem dX0_layInRows_164 : decode cX0_layInRows 164 = .ok (.putfield 15, 3) := by decide +kernel
theorem dX0_layInRows_167 : decode cX0_layInRows 167 = .ok (.return_, 1) := by decide +kernel
theorem dX0_quotientCutUp_0 : decode cX0_quotientCutUp 0 = .ok (.iload_n 1, 1) := by decide +kernel
theorem dX0_quotientCutUp_1 : decode cX0_quotientCutUp 1 = .ok (.iconst 1, 1) := by decide +kernel
theorem dX0_quotientCutUp_2 : decode cX0_quotientCutUp 2 = .ok (.if_icmp .ge 7, 3) := by decide +kernel
theorem dX0_quotientCutUp_5 : decode cX0_quotientCutUp 5 = .ok (.iconst 0, 1) := by decide +kernel
theorem dX0_quotientCutUp_6 : decode cX0_quotientCutUp 6 = .ok (.goto 10, 3) := by decide +kernel
theorem dX0_quotientCutUp_9 : decode cX0_quotientCutUp 9 = .ok (.iload_n 0, 1) := by decide +kernel
theorem dX0_quotientCutUp_10 : decode cX0_quotientCutUp 10 = .ok (.iload_n 1, 1) := by decide +kernel
theorem dX0_quotientCutUp_11 : decode cX0_quotientCutUp 11 = .ok (.iadd, 1) := by decide +kernel
theorem dX0_quotientCutUp_12 : decode cX0_quotientCutUp 12 = .ok (.iconst 1, 1) := by decide +kernel
theorem dX0_quotientCutUp_13 : decode cX0_quotientCutUp 13 = .ok (.isub, 1) := by decide +kernel
theorem dX0_quotientCutUp_14 : decode cX0_quotientCutUp 14 = .ok (.iload_n 1, 1) := by decide +kernel
theorem dX0_quotientCutUp_15 : decode cX0_quotientCutUp 15 = .ok (.idiv, 1) := by decide +kernel
theorem dX0_quotientCutUp_16 : decode cX0_quotientCutUp 16 = .ok (.ireturn, 1) := by decide +kernel
theorem dX1_hasBit_0 : decode cX1_hasBit 0 = .ok (.iload_n 1, 1) := by decide +kernel
theorem dX1_hasBit_1 : decode cX1_hasBit 1 = .ok (.ifCond .lt 22, 3) := by decide +kernel
theorem dX1_hasBit_4 : decode cX1_hasBit 4 = .ok (.iload_n 1, 1) := by decide +kernel
theorem dX1_hasBit_5 : decode cX1_hasBit 5 = .ok (.bipush 8, 2) := by decide +kernel
theorem dX1_hasBit_7 : decode cX1_hasBit 7 = .ok (.if_icmp .ge 16, 3) := by decide +kernel
theorem dX1_hasBit_10 : decode cX1_hasBit 10 = .ok (.iload_n 0, 1) := by decide +kernel
theorem dX1_hasBit_11 : decode cX1_hasBit 11 = .ok (.iload_n 1, 1) := by decide +kernel
theorem dX1_hasBit_12 : decode cX1_hasBit 12 = .ok (.ishr, 1) := by decide +kernel
theorem dX1_hasBit_13 : decode cX1_hasBit 13 = .ok (.iconst 1, 1) := by decide +kernel
theorem dX1_hasBit_14 : decode cX1_hasBit 14 = .ok (.iand, 1) := by decide +kernel
theorem dX1_hasBit_15 : decode cX1_hasBit 15 = .ok (.iconst 1, 1) := by decide +kernel
theorem dX1_hasBit_16 : decode cX1_hasBit 16 = .ok (.if_icmp .ne 7, 3) := by decide +kernel
theorem dX1_hasBit_19 : decode cX1_hasBit 19 = .ok (.iconst 1, 1) := by decide +kernel
theorem dX1_hasBit_20 : decode cX1_hasBit 20 = .ok (.goto 4, 3) := by decide +kernel
theorem dX1_hasBit_23 : decode cX1_hasBit 23 = .ok (.iconst 0, 1) := by decide +kernel
theorem dX1_hasBit_24 : decode cX1_hasBit 24 = .ok (.ireturn, 1) := by decide +kernel
theorem dX1_bitsBetween_0 : decode cX1_bitsBetween 0 = .ok (.iconst 0, 1) := by decide +kernel
theorem dX1_bitsBetween_1 : decode cX1_bitsBetween 1 = .ok (.istore_n 2, 1) := by decide +kernel
theorem dX1_bitsBetween_2 : decode cX1_bitsBetween 2 = .ok (.iload_n 0, 1) := by decide +kernel
theorem dX1_bitsBetween_3 : decode cX1_bitsBetween 3 = .ok (.iconst 0, 1) := by decide +kernel
theorem dX1_bitsBetween_4 : decode cX1_bitsBetween 4 = .ok (.invokestatic 11, 3) := by decide +kernel
theorem dX1_bitsBetween_7 : decode cX1_bitsBetween 7 = .ok (.istore_n 3, 1) := by decide +kernel
theorem dX1_bitsBetween_8 : decode cX1_bitsBetween 8 = .ok (.iload_n 3, 1) := by decide +kernel
theorem dX1_bitsBetween_9 : decode cX1_bitsBetween 9 = .ok (.iload_n 1, 1) := by decide +kernel
theorem dX1_bitsBetween_10 : decode cX1_bitsBetween 10 = .ok (.bipush 8, 2) := by decide +kernel
theorem dX1_bitsBetween_12 : decode cX1_bitsBetween 12 = .ok (.invokestatic 17, 3) := by decide +kernel
theorem dX1_bitsBetween_15 : decode cX1_bitsBetween 15 = .ok (.if_icmp .ge 15, 3) := by decide +kernel
theorem dX1_bitsBetween_18 : decode cX1_bitsBetween 18 = .ok (.iload_n 2, 1) := by decide +kernel
theorem dX1_bitsBetween_19 : decode cX1_bitsBetween 19 = .ok (.iconst 1, 1) := by decide +kernel
theorem dX1_bitsBetween_20 : decode cX1_bitsBetween 20 = .ok (.iload_n 3, 1) := by decide +kernel
theorem dX1_bitsBetween_21 : decode cX1_bitsBetween 21 = .ok (.ishl, 1) := by decide +kernel
theorem dX1_bitsBetween_22 : decode cX1_bitsBetween 22 = .ok (.ior, 1) := by decide +kernel
theorem dX1_bitsBetween_23 : decode cX1_bitsBetween 23 = .ok (.istore_n 2, 1) := by decide +kernel
theorem dX1_bitsBetween_24 : decode cX1_bitsBetween 24 = .ok (.iinc 3 1, 3) := by decide +kernel
theorem dX1_bitsBetween_27 : decode cX1_bitsBetween 27 = .ok (.goto (-19), 3) := by decide +kernel
theorem dX1_bitsBetween_30 : decode cX1_bitsBetween 30 = .ok (.iload_n 2, 1) := by decide +kernel
theorem dX1_bitsBetween_31 : decode cX1_bitsBetween 31 = .ok (.ireturn, 1) := by decide +kernel
set_option maxRecDepth 20000 in
theorem ggX1_beginsRun_X1_hasBit : GoodIn wsX1_beginsRun wsX1_hasBit := goodIn_r _ [4] (by decide +kernel) (by decide +kernel)
set_option maxRecDepth 20000 in
theorem gX1_beginsRun_X1_hasBit : GoodIn wsX1_beginsRun (va_wsS RX1 20 yX1_hasBit wsX1_hasBit) := goodIn_app (goodIn_of _ (by decide +kernel)) ggX1_beginsRun_X1_hasBit
theorem dX1_beginsRun_0 : decode cX1_beginsRun 0 = .ok (.iload_n 0, 1) := by decide +kernel
theorem dX1_beginsRun_1 : decode cX1_beginsRun 1 = .ok (.iload_n 1, 1) := by decide +kernel
theorem dX1_beginsRun_2 : decode cX1_beginsRun 2 = .ok (.invokestatic 20, 3) := by decide +kernel
theorem dX1_beginsRun_5 : decode cX1_beginsRun 5 = .ok (.ifCond .eq 17, 3) := by decide +kernel
theorem dX1_beginsRun_8 : decode cX1_beginsRun 8 = .ok (.iload_n 0, 1) := by decide +kernel
theorem dX1_beginsRun_9 : decode cX1_beginsRun 9 = .ok (.iload_n 1, 1) := by decide +kernel
theorem dX1_beginsRun_10 : decode cX1_beginsRun 10 = .ok (.iconst 1, 1) := by decide +kernel
theorem dX1_beginsRun_11 : decode cX1_beginsRun 11 = .ok (.isub, 1) := by decide +kernel
theorem dX1_beginsRun_12 : decode cX1_beginsRun 12 = .ok (.invokestatic 20, 3) := by decide +kernel
theorem dX1_beginsRun_15 : decode cX1_beginsRun 15 = .ok (.ifCond .ne 7, 3) := by decide +kernel
theorem dX1_beginsRun_18 : decode cX1_beginsRun 18 = .ok (.iconst 1, 1) := by decide +kernel
theorem dX1_beginsRun_19 : decode cX1_beginsRun 19 = .ok (.goto 4, 3) := by decide +kernel
theorem dX1_beginsRun_22 : decode cX1_beginsRun 22 = .ok (.iconst 0, 1) := by decide +kernel
theorem dX1_beginsRun_23 : decode cX1_beginsRun 23 = .ok (.ireturn, 1) := by decide +kernel
set_option maxRecDepth 20000 in
theorem ggX1_runCount_J6_bitCount_0f7a4 : GoodIn wsX1_runCount wsJ6_bitCount_0f7a4 := goodIn_r _ [4, 5, 6, 7] (by decide +kernel) (by decide +kernel)
set_option maxRecDepth 20000 in
theorem gX1_runCount_J6_bitCount_0f7a4 : GoodIn wsX1_runCount (va_wsS RX1 24 yJ6_bitCount_0f7a4 wsJ6_bitCount_0f7a4) := goodIn_app (goodIn_of _ (by decide +kernel)) ggX1_runCount_J6_bitCount_0f7a4
theorem dX1_runCount_0 : decode cX1_runCount 0 = .ok (.iload_n 0, 1) := by decide +kernel
theorem dX1_runCount_1 : decode cX1_runCount 1 = .ok (.iload_n 0, 1) := by decide +kernel
theorem dX1_runCount_2 : decode cX1_runCount 2 = .ok (.iconst 1, 1) := by decide +kernel
theorem dX1_runCount_3 : decode cX1_runCount 3 = .ok (.ishl, 1) := by decide +kernel
theorem dX1_runCount_4 : decode cX1_runCount 4 = .ok (.iconst (-1), 1) := by decide +kernel
theorem dX1_runCount_5 : decode cX1_runCount 5 = .ok (.ixor, 1) := by decide +kernel
theorem dX1_runCount_6 : decode cX1_runCount 6 = .ok (.iand, 1) := by decide +kernel
theorem dX1_runCount_7 : decode cX1_runCount 7 = .ok (.invokestatic 24, 3) := by decide +kernel
theorem dX1_runCount_10 : decode cX1_runCount 10 = .ok (.ireturn, 1) := by decide +kernel
set_option maxRecDepth 20000 in
theorem ggX1_runLength_X1_hasBit : GoodIn wsX1_runLength wsX1_hasBit := goodIn_r _ [4] (by decide +kernel) (by decide +kernel)
set_option maxRecDepth 20000 in
theorem gX1_runLength_X1_hasBit : GoodIn wsX1_runLength (va_wsS RX1 20 yX1_hasBit wsX1_hasBit) := goodIn_app (goodIn_of _ (by decide +kernel)) ggX1_runLength_X1_hasBit
theorem dX1_runLength_0 : decode cX1_runLength 0 = .ok (.iconst 0, 1) := by decide +kernel
theorem dX1_runLength_1 : decode cX1_runLength 1 = .ok (.istore_n 2, 1) := by decide +kernel
theorem dX1_runLength_2 : decode cX1_runLength 2 = .ok (.iload_n 2, 1) := by decide +kernel
theorem dX1_runLength_3 : decode cX1_runLength 3 = .ok (.bipush 8, 2) := by decide +kernel
theorem dX1_runLength_5 : decode cX1_runLength 5 = .ok (.if_icmp .ge 19, 3) := by decide +kernel
theorem dX1_runLength_8 : decode cX1_runLength 8 = .ok (.iload_n 0, 1) := by decide +kernel
theorem dX1_runLength_9 : decode cX1_runLength 9 = .ok (.iload_n 1, 1) := by decide +kernel
theorem dX1_runLength_10 : decode cX1_runLength 10 = .ok (.iload_n 2, 1) := by decide +kernel
theorem dX1_runLength_11 : decode cX1_runLength 11 = .ok (.iadd, 1) := by decide +kernel
theorem dX1_runLength_12 : decode cX1_runLength 12 = .ok (.invokestatic 20, 3) := by decide +kernel
theorem dX1_runLength_15 : decode cX1_runLength 15 = .ok (.ifCond .eq 9, 3) := by decide +kernel
theorem dX1_runLength_18 : decode cX1_runLength 18 = .ok (.iinc 2 1, 3) := by decide +kernel
theorem dX1_runLength_21 : decode cX1_runLength 21 = .ok (.goto (-19), 3) := by decide +kernel
theorem dX1_runLength_24 : decode cX1_runLength 24 = .ok (.iload_n 2, 1) := by decide +kernel
theorem dX1_runLength_25 : decode cX1_runLength 25 = .ok (.ireturn, 1) := by decide +kernel
set_option maxRecDepth 20000 in
theorem ggX1_upperHalves_X1_beginsRun : GoodIn wsX1_upperHalves wsX1_beginsRun := goodIn_r _ [4, 5, 6, 3, 7] (by decide +kernel) (by decide +kernel)
set_option maxRecDepth 20000 in
theorem gX1_upperHalves_X1_beginsRun : GoodIn wsX1_upperHalves (va_wsS RX1 30 yX1_beginsRun wsX1_beginsRun) := goodIn_app (goodIn_of _ (by decide +kernel)) ggX1_upperHalves_X1_beginsRun
set_option maxRecDepth 20000 in
theorem ggX1_upperHalves_X1_runLength : GoodIn wsX1_upperHalves wsX1_runLength := goodIn_r _ [10, 5, 6, 3, 7] (by decide +kernel) (by decide +kernel)
set_option maxRecDepth 20000 in
theorem gX1_upperHalves_X1_runLength : GoodIn wsX1_upperHalves (va_wsS RX1 33 yX1_runLength wsX1_runLength) := goodIn_app (goodIn_of _ (by decide +kernel)) ggX1_upperHalves_X1_runLength
set_option maxRecDepth 20000 in
theorem ggX1_upperHalves_X1_bitsBetween : GoodIn wsX1_upperHalves wsX1_bitsBetween := goodIn_r _ [13, 14, 15, 16, 17, 18, 19, 20] (by decide +kernel) (by decide +kernel)
set_option maxRecDepth 20000 in
theorem gX1_upperHalves_X1_bitsBetween : GoodIn wsX1_upperHalves (va_wsS RX1 36 yX1_bitsBetween wsX1_bitsBetween) := goodIn_app (goodIn_of _ (by decide +kernel)) ggX1_upperHalves_X1_bitsBetween
theorem dX1_upperHalves_0 : decode cX1_upperHalves 0 = .ok (.iconst 0, 1) := by decide +kernel
theorem dX1_upperHalves_1 : decode cX1_upperHalves 1 = .ok (.istore_n 1, 1) := by decide +kernel
theorem dX1_upperHalves_2 : decode cX1_upperHalves 2 = .ok (.iconst 0, 1) := by decide +kernel
theorem dX1_upperHalves_3 : decode cX1_upperHalves 3 = .ok (.istore_n 2, 1) := by decide +kernel
theorem dX1_upperHalves_4 : decode cX1_upperHalves 4 = .ok (.iload_n 2, 1) := by decide +kernel
theorem dX1_upperHalves_5 : decode cX1_upperHalves 5 = .ok (.bipush 8, 2) := by decide +kernel
theorem dX1_upperHalves_7 : decode cX1_upperHalves 7 = .ok (.if_icmp .ge 39, 3) := by decide +kernel
theorem dX1_upperHalves_10 : decode cX1_upperHalves 10 = .ok (.iload_n 0, 1) := by decide +kernel
theorem dX1_upperHalves_11 : decode cX1_upperHalves 11 = .ok (.iload_n 2, 1) := by decide +kernel
theorem dX1_upperHalves_12 : decode cX1_upperHalves 12 = .ok (.invokestatic 30, 3) := by decide +kernel
theorem dX1_upperHalves_15 : decode cX1_upperHalves 15 = .ok (.ifCond .eq 25, 3) := by decide +kernel
theorem dX1_upperHalves_18 : decode cX1_upperHalves 18 = .ok (.iload_n 0, 1) := by decide +kernel
theorem dX1_upperHalves_19 : decode cX1_upperHalves 19 = .ok (.iload_n 2, 1) := by decide +kernel
theorem dX1_upperHalves_20 : decode cX1_upperHalves 20 = .ok (.invokestatic 33, 3) := by decide +kernel
theorem dX1_upperHalves_23 : decode cX1_upperHalves 23 = .ok (.istore_n 3, 1) := by decide +kernel
theorem dX1_upperHalves_24 : decode cX1_upperHalves 24 = .ok (.iload_n 1, 1) := by decide +kernel
theorem dX1_upperHalves_25 : decode cX1_upperHalves 25 = .ok (.iload_n 2, 1) := by decide +kernel
theorem dX1_upperHalves_26 : decode cX1_upperHalves 26 = .ok (.iload_n 3, 1) := by decide +kernel
theorem dX1_upperHalves_27 : decode cX1_upperHalves 27 = .ok (.iadd, 1) := by decide +kernel
theorem dX1_upperHalves_28 : decode cX1_upperHalves 28 = .ok (.iload_n 3, 1) := by decide +kernel
theorem dX1_upperHalves_29 : decode cX1_upperHalves 29 = .ok (.iconst 2, 1) := by decide +kernel
theorem dX1_upperHalves_30 : decode cX1_upperHalves 30 = .ok (.idiv, 1) := by decide +kernel
theorem dX1_upperHalves_31 : decode cX1_upperHalves 31 = .ok (.isub, 1) := by decide +kernel
theorem dX1_upperHalves_32 : decode cX1_upperHalves 32 = .ok (.iload_n 2, 1) := by decide +kernel
theorem dX1_upperHalves_33 : decode cX1_upperHalves 33 = .ok (.iload_n 3, 1) := by decide +kernel
theorem dX1_upperHalves_34 : decode cX1_upperHalves 34 = .ok (.iadd, 1) := by decide +kernel
theorem dX1_upperHalves_35 : decode cX1_upperHalves 35 = .ok (.invokestatic 36, 3) := by decide +kernel
theorem dX1_upperHalves_38 : decode cX1_upperHalves 38 = .ok (.ior, 1) := by decide +kernel
theorem dX1_upperHalves_39 : decode cX1_upperHalves 39 = .ok (.istore_n 1, 1) := by decide +kernel
theorem dX1_upperHalves_40 : decode cX1_upperHalves 40 = .ok (.iinc 2 1, 3) := by decide +kernel
theorem dX1_upperHalves_43 : decode cX1_upperHalves 43 = .ok (.goto (-39), 3) := by decide +kernel
theorem dX1_upperHalves_46 : decode cX1_upperHalves 46 = .ok (.iload_n 1, 1) := by decide +kernel
theorem dX1_upperHalves_47 : decode cX1_upperHalves 47 = .ok (.ireturn, 1) := by decide +kernel
set_option maxRecDepth 20000 in
theorem ggX1_span_X1_hasBit : GoodIn wsX1_span wsX1_hasBit := goodIn_r _ [4] (by decide +kernel) (by decide +kernel)
set_option maxRecDepth 20000 in
theorem gX1_span_X1_hasBit : GoodIn wsX1_span (va_wsS RX1 20 yX1_hasBit wsX1_hasBit) := goodIn_app (goodIn_of _ (by decide +kernel)) ggX1_span_X1_hasBit
theorem dX1_span_0 : decode cX1_span 0 = .ok (.iconst 0, 1) := by decide +kernel
theorem dX1_span_1 : decode cX1_span 1 = .ok (.istore_n 1, 1) := by decide +kernel
theorem dX1_span_2 : decode cX1_span 2 = .ok (.iconst 0, 1) := by decide +kernel
theorem dX1_span_3 : decode cX1_span 3 = .ok (.istore_n 2, 1) := by decide +kernel
theorem dX1_span_4 : decode cX1_span 4 = .ok (.iconst 0, 1) := by decide +kernel
theorem dX1_span_5 : decode cX1_span 5 = .ok (.istore_n 3, 1) := by decide +kernel
theorem dX1_span_6 : decode cX1_span 6 = .ok (.iload_n 3, 1) := by decide +kernel
theorem dX1_span_7 : decode cX1_span 7 = .ok (.bipush 8, 2) := by decide +kernel
theorem dX1_span_9 : decode cX1_span 9 = .ok (.if_icmp .ge 31, 3) := by decide +kernel
theorem dX1_span_12 : decode cX1_span 12 = .ok (.iload_n 0, 1) := by decide +kernel
theorem dX1_span_13 : decode cX1_span 13 = .ok (.iload_n 3, 1) := by decide +kernel
theorem dX1_span_14 : decode cX1_span 14 = .ok (.invokestatic 20, 3) := by decide +kernel
theorem dX1_span_17 : decode cX1_span 17 = .ok (.ifCond .eq 17, 3) := by decide +kernel
theorem dX1_span_20 : decode cX1_span 20 = .ok (.iload_n 2, 1) := by decide +kernel
theorem dX1_span_21 : decode cX1_span 21 = .ok (.ifCond .ne 7, 3) := by decide +kernel
theorem dX1_span_24 : decode cX1_span 24 = .ok (.iload_n 3, 1) := by decide +kernel
theorem dX1_span_25 : decode cX1_span 25 = .ok (.goto 4, 3) := by decide +kernel
theorem dX1_span_28 : decode cX1_span 28 = .ok (.iload_n 1, 1) := by decide +kernel
theorem dX1_span_29 : decode cX1_span 29 = .ok (.istore_n 1, 1) := by decide +kernel
theorem dX1_span_30 : decode cX1_span 30 = .ok (.iload_n 3, 1) := by decide +kernel
theorem dX1_span_31 : decode cX1_span 31 = .ok (.iconst 1, 1) := by decide +kernel
theorem dX1_span_32 : decode cX1_span 32 = .ok (.iadd, 1) := by decide +kernel
theorem dX1_span_33 : decode cX1_span 33 = .ok (.istore_n 2, 1) := by decide +kernel
theorem dX1_span_34 : decode cX1_span 34 = .ok (.iinc 3 1, 3) := by decide +kernel
theorem dX1_span_37 : decode cX1_span 37 = .ok (.goto (-31), 3) := by decide +kernel
theorem dX1_span_40 : decode cX1_span 40 = .ok (.iload_n 2, 1) := by decide +kernel
theorem dX1_span_41 : decode cX1_span 41 = .ok (.iload_n 1, 1) := by decide +kernel
theorem dX1_span_42 : decode cX1_span 42 = .ok (.isub, 1) := by decide +kernel
theorem dX1_span_43 : decode cX1_span 43 = .ok (.ireturn, 1) := by decide +kernel
set_option maxRecDepth 20000 in
theorem ggX2_partCount_X2_partsClearOf : GoodIn wsX2_partCount wsX2_partsClearOf := goodIn_r _ [4, 5, 6, 7, 3, 8, 9, 10, 11, 12, 13] (by decide +kernel) (by decide +kernel)
set_option maxRecDepth 20000 in
theorem gX2_partCount_X2_partsClearOf : GoodIn wsX2_partCount (va_wsS RX2 9 yX2_partsClearOf wsX2_partsClearOf) := goodIn_app (goodIn_of _ (by decide +kernel)) ggX2_partCount_X2_partsClearOf
theorem dX2_partCount_0 : decode cX2_partCount 0 = .ok (.lload_n 0, 1) := by decide +kernel
theorem dX2_partCount_1 : decode cX2_partCount 1 = .ok (.lconst 0, 1) := by decide +kernel
theorem dX2_partCount_2 : decode cX2_partCount 2 = .ok (.invokestatic 9, 3) := by decide +kernel
theorem dX2_partCount_5 : decode cX2_partCount 5 = .ok (.ireturn, 1) := by decide +kernel
set_option maxRecDepth 20000 in
theorem ggX2_partsClearOf_X2_partAround : GoodIn wsX2_partsClearOf wsX2_partAround := goodIn_r _ [5, 6, 7, 4, 8, 9, 10] (by decide +kernel) (by decide +kernel)
set_option maxRecDepth 20000 in
theorem gX2_partsClearOf_X2_partAround : GoodIn wsX2_partsClearOf (va_wsS RX2 13 yX2_partAround wsX2_partAround) := goodIn_app (goodIn_of _ (by decide +kernel)) ggX2_partsClearOf_X2_partAround
theorem dX2_partsClearOf_0 : decode cX2_partsClearOf 0 = .ok (.iconst 0, 1) := by decide +kernel
theorem dX2_partsClearOf_1 : decode cX2_partsClearOf 1 = .ok (.istore 4, 2) := by decide +kernel
theorem dX2_partsClearOf_3 : decode cX2_partsClearOf 3 = .ok (.lload_n 0, 1) := by decide +kernel
theorem dX2_partsClearOf_4 : decode cX2_partsClearOf 4 = .ok (.lstore 5, 2) := by decide +kernel
theorem dX2_partsClearOf_6 : decode cX2_partsClearOf 6 = .ok (.iconst 0, 1) := by decide +kernel
theorem dX2_partsClearOf_7 : decode cX2_partsClearOf 7 = .ok (.istore 7, 2) := by decide +kernel
theorem dX2_partsClearOf_9 : decode cX2_partsClearOf 9 = .ok (.iload 7, 2) := by decide +kernel
theorem dX2_partsClearOf_11 : decode cX2_partsClearOf 11 = .ok (.bipush 64, 2) := by decide +kernel
theorem dX2_partsClearOf_13 : decode cX2_partsClearOf 13 = .ok (.if_icmp .ge 51, 3) := by decide +kernel
theorem dX2_partsClearOf_16 : decode cX2_partsClearOf 16 = .ok (.lload 5, 2) := by decide +kernel
theorem dX2_partsClearOf_18 : decode cX2_partsClearOf 18 = .ok (.lconst 0, 1) := by decide +kernel
theorem dX2_partsClearOf_19 : decode cX2_partsClearOf 19 = .ok (.lcmp, 1) := by decide +kernel
theorem dX2_partsClearOf_20 : decode cX2_partsClearOf 20 = .ok (.ifCond .eq 44, 3) := by decide +kernel
theorem dX2_partsClearOf_23 : decode cX2_partsClearOf 23 = .ok (.lload_n 0, 1) := by decide +kernel
theorem dX2_partsClearOf_24 : decode cX2_partsClearOf 24 = .ok (.lload 5, 2) := by decide +kernel
theorem dX2_partsClearOf_26 : decode cX2_partsClearOf 26 = .ok (.lload 5, 2) := by decide +kernel
theorem dX2_partsClearOf_28 : decode cX2_partsClearOf 28 = .ok (.lneg, 1) := by decide +kernel
theorem dX2_partsClearOf_29 : decode cX2_partsClearOf 29 = .ok (.land, 1) := by decide +kernel
theorem dX2_partsClearOf_30 : decode cX2_partsClearOf 30 = .ok (.invokestatic 13, 3) := by decide +kernel
theorem dX2_partsClearOf_33 : decode cX2_partsClearOf 33 = .ok (.lstore 8, 2) := by decide +kernel
theorem dX2_partsClearOf_35 : decode cX2_partsClearOf 35 = .ok (.lload 8, 2) := by decide +kernel
theorem dX2_partsClearOf_37 : decode cX2_partsClearOf 37 = .ok (.lload_n 2, 1) := by decide +kernel
theorem dX2_partsClearOf_38 : decode cX2_partsClearOf 38 = .ok (.land, 1) := by decide +kernel
theorem dX2_partsClearOf_39 : decode cX2_partsClearOf 39 = .ok (.lconst 0, 1) := by decide +kernel
theorem dX2_partsClearOf_40 : decode cX2_partsClearOf 40 = .ok (.lcmp, 1) := by decide +kernel
theorem dX2_partsClearOf_41 : decode cX2_partsClearOf 41 = .ok (.ifCond .ne 6, 3) := by decide +kernel
theorem dX2_partsClearOf_44 : decode cX2_partsClearOf 44 = .ok (.iinc 4 1, 3) := by decide +kernel
theorem dX2_partsClearOf_47 : decode cX2_partsClearOf 47 = .ok (.lload 5, 2) := by decide +kernel
theorem dX2_partsClearOf_49 : decode cX2_partsClearOf 49 = .ok (.lload 8, 2) := by decide +kernel
theorem dX2_partsClearOf_51 : decode cX2_partsClearOf 51 = .ok (.ldc2_w 17, 3) := by decide +kernel
theorem dX2_partsClearOf_54 : decode cX2_partsClearOf 54 = .ok (.lxor, 1) := by decide +kernel
theorem dX2_partsClearOf_55 : decode cX2_partsClearOf 55 = .ok (.land, 1) := by decide +kernel
theorem dX2_partsClearOf_56 : decode cX2_partsClearOf 56 = .ok (.lstore 5, 2) := by decide +kernel
theorem dX2_partsClearOf_58 : decode cX2_partsClearOf 58 = .ok (.iinc 7 1, 3) := by decide +kernel
theorem dX2_partsClearOf_61 : decode cX2_partsClearOf 61 = .ok (.goto (-52), 3) := by decide +kernel
theorem dX2_partsClearOf_64 : decode cX2_partsClearOf 64 = .ok (.iload 4, 2) := by decide +kernel
theorem dX2_partsClearOf_66 : decode cX2_partsClearOf 66 = .ok (.ireturn, 1) := by decide +kernel
set_option maxRecDepth 20000 in
theorem ggX2_partAround_X2_neighboursOf : GoodIn wsX2_partAround wsX2_neighboursOf := goodIn_r _ [4, 5, 6] (by decide +kernel) (by decide +kernel)
set_option maxRecDepth 20000 in
theorem gX2_partAround_X2_neighboursOf : GoodIn wsX2_partAround (va_wsS RX2 19 yX2_neighboursOf wsX2_neighboursOf) := goodIn_app (goodIn_of _ (by decide +kernel)) ggX2_partAround_X2_neighboursOf
theorem dX2_partAround_0 : decode cX2_partAround 0 = .ok (.lload_n 2, 1) := by decide +kernel
theorem dX2_partAround_1 : decode cX2_partAround 1 = .ok (.lstore 4, 2) := by decide +kernel
theorem dX2_partAround_3 : decode cX2_partAround 3 = .ok (.iconst 0, 1) := by decide +kernel
theorem dX2_partAround_4 : decode cX2_partAround 4 = .ok (.istore 6, 2) := by decide +kernel
theorem dX2_partAround_6 : decode cX2_partAround 6 = .ok (.iload 6, 2) := by decide +kernel
theorem dX2_partAround_8 : decode cX2_partAround 8 = .ok (.bipush 64, 2) := by decide +kernel
theorem dX2_partAround_10 : decode cX2_partAround 10 = .ok (.if_icmp .ge 36, 3) := by decide +kernel
theorem dX2_partAround_13 : decode cX2_partAround 13 = .ok (.lload 4, 2) := by decide +kernel
theorem dX2_partAround_15 : decode cX2_partAround 15 = .ok (.lload 4, 2) := by decide +kernel
theorem dX2_partAround_17 : decode cX2_partAround 17 = .ok (.invokestatic 19, 3) := by decide +kernel
theorem dX2_partAround_20 : decode cX2_partAround 20 = .ok (.lor, 1) := by decide +kernel
theorem dX2_partAround_21 : decode cX2_partAround 21 = .ok (.lload_n 0, 1) := by decide +kernel
theorem dX2_partAround_22 : decode cX2_partAround 22 = .ok (.land, 1) := by decide +kernel
theorem dX2_partAround_23 : decode cX2_partAround 23 = .ok (.lstore 7, 2) := by decide +kernel
theorem dX2_partAround_25 : decode cX2_partAround 25 = .ok (.lload 7, 2) := by decide +kernel
theorem dX2_partAround_27 : decode cX2_partAround 27 = .ok (.lload 4, 2) := by decide +kernel
theorem dX2_partAround_29 : decode cX2_partAround 29 = .ok (.lcmp, 1) := by decide +kernel
theorem dX2_partAround_30 : decode cX2_partAround 30 = .ok (.ifCond .ne 6, 3) := by decide +kernel
theorem dX2_partAround_33 : decode cX2_partAround 33 = .ok (.goto 13, 3) := by decide +kernel
theorem dX2_partAround_36 : decode cX2_partAround 36 = .ok (.lload 7, 2) := by decide +kernel
theorem dX2_partAround_38 : decode cX2_partAround 38 = .ok (.lstore 4, 2) := by decide +kernel
theorem dX2_partAround_40 : decode cX2_partAround 40 = .ok (.iinc 6 1, 3) := by decide +kernel
theorem dX2_partAround_43 : decode cX2_partAround 43 = .ok (.goto (-37), 3) := by decide +kernel
theorem dX2_partAround_46 : decode cX2_partAround 46 = .ok (.lload 4, 2) := by decide +kernel
theorem dX2_partAround_48 : decode cX2_partAround 48 = .ok (.lreturn, 1) := by decide +kernel
theorem dX2_neighboursOf_0 : decode cX2_neighboursOf 0 = .ok (.lload_n 0, 1) := by decide +kernel
theorem dX2_neighboursOf_1 : decode cX2_neighboursOf 1 = .ok (.ldc2_w 23, 3) := by decide +kernel
theorem dX2_neighboursOf_4 : decode cX2_neighboursOf 4 = .ok (.land, 1) := by decide +kernel
theorem dX2_neighboursOf_5 : decode cX2_neighboursOf 5 = .ok (.iconst 1, 1) := by decide +kernel
theorem dX2_neighboursOf_6 : decode cX2_neighboursOf 6 = .ok (.lshl, 1) := by decide +kernel
theorem dX2_neighboursOf_7 : decode cX2_neighboursOf 7 = .ok (.lstore_n 2, 1) := by decide +kernel
theorem dX2_neighboursOf_8 : decode cX2_neighboursOf 8 = .ok (.lload_n 0, 1) := by decide +kernel
theorem dX2_neighboursOf_9 : decode cX2_neighboursOf 9 = .ok (.ldc2_w 25, 3) := by decide +kernel
theorem dX2_neighboursOf_12 : decode cX2_neighboursOf 12 = .ok (.land, 1) := by decide +kernel
theorem dX2_neighboursOf_13 : decode cX2_neighboursOf 13 = .ok (.iconst 1, 1) := by decide +kernel
theorem dX2_neighboursOf_14 : decode cX2_neighboursOf 14 = .ok (.lushr, 1) := by decide +kernel
theorem dX2_neighboursOf_15 : decode cX2_neighboursOf 15 = .ok (.lstore 4, 2) := by decide +kernel
theorem dX2_neighboursOf_17 : decode cX2_neighboursOf 17 = .ok (.lload_n 2, 1) := by decide +kernel
theorem dX2_neighboursOf_18 : decode cX2_neighboursOf 18 = .ok (.lload 4, 2) := by decide +kernel
theorem dX2_neighboursOf_20 : decode cX2_neighboursOf 20 = .ok (.lor, 1) := by decide +kernel
theorem dX2_neighboursOf_21 : decode cX2_neighboursOf 21 = .ok (.lload_n 0, 1) := by decide +kernel
theorem dX2_neighboursOf_22 : decode cX2_neighboursOf 22 = .ok (.bipush 8, 2) := by decide +kernel
theorem dX2_neighboursOf_24 : decode cX2_neighboursOf 24 = .ok (.lshl, 1) := by decide +kernel
theorem dX2_neighboursOf_25 : decode cX2_neighboursOf 25 = .ok (.lor, 1) := by decide +kernel
theorem dX2_neighboursOf_26 : decode cX2_neighboursOf 26 = .ok (.lload_n 0, 1) := by decide +kernel
theorem dX2_neighboursOf_27 : decode cX2_neighboursOf 27 = .ok (.bipush 8, 2) := by decide +kernel
theorem dX2_neighboursOf_29 : decode cX2_neighboursOf 29 = .ok (.lushr, 1) := by decide +kernel
theorem dX2_neighboursOf_30 : decode cX2_neighboursOf 30 = .ok (.lor, 1) := by decide +kernel
theorem dX2_neighboursOf_31 : decode cX2_neighboursOf 31 = .ok (.lreturn, 1) := by decide +kernel
theorem dX2_shifted_0 : decode cX2_shifted 0 = .ok (.iload_n 0, 1) := by decide +kernel
theorem dX2_shifted_1 : decode cX2_shifted 1 = .ok (.i2l, 1) := by decide +kernel
theorem dX2_shifted_2 : decode cX2_shifted 2 = .ok (.bipush 8, 2) := by decide +kernel
theorem dX2_shifted_4 : decode cX2_shifted 4 = .ok (.iload_n 1, 1) := by decide +kernel
theorem dX2_shifted_5 : decode cX2_shifted 5 = .ok (.imul, 1) := by decide +kernel
theorem dX2_shifted_6 : decode cX2_shifted 6 = .ok (.lshl, 1) := by decide +kernel
theorem dX2_shifted_7 : decode cX2_shifted 7 = .ok (.lreturn, 1) := by decide +kernel
theorem dX2_columnAt_0 : decode cX2_columnAt 0 = .ok (.lload_n 0, 1) := by decide +kernel
theorem dX2_columnAt_1 : decode cX2_columnAt 1 = .ok (.bipush 8, 2) := by decide +kernel
theorem dX2_columnAt_3 : decode cX2_columnAt 3 = .ok (.iload_n 2, 1) := by decide +kernel
theorem dX2_columnAt_4 : decode cX2_columnAt 4 = .ok (.imul, 1) := by decide +kernel
theorem dX2_columnAt_5 : decode cX2_columnAt 5 = .ok (.lushr, 1) := by decide +kernel
theorem dX2_columnAt_6 : decode cX2_columnAt 6 = .ok (.l2i, 1) := by decide +kernel
theorem dX2_columnAt_7 : decode cX2_columnAt 7 = .ok (.sipush 255, 3) := by decide +kernel
theorem dX2_columnAt_10 : decode cX2_columnAt 10 = .ok (.iand, 1) := by decide +kernel
theorem dX2_columnAt_11 : decode cX2_columnAt 11 = .ok (.ireturn, 1) := by decide +kernel
set_option maxRecDepth 20000 in
theorem ggX2_spanOfU_X2_columnAt : GoodIn wsX2_spanOfU wsX2_columnAt := goodIn_r _ [4] (by decide +kernel) (by decide +kernel)
set_option maxRecDepth 20000 in
theorem gX2_spanOfU_X2_columnAt : GoodIn wsX2_spanOfU (va_wsS RX2 29 yX2_columnAt wsX2_columnAt) := goodIn_app (goodIn_of _ (by decide +kernel)) ggX2_spanOfU_X2_columnAt
set_option maxRecDepth 20000 in
theorem ggX2_spanOfU_X1_span : GoodIn wsX2_spanOfU wsX1_span := goodIn_r _ [8, 9, 10, 7, 11] (by decide +kernel) (by decide +kernel)
set_option maxRecDepth 20000 in
theorem gX2_spanOfU_X1_span : GoodIn wsX2_spanOfU (va_wsS RX2 33 yX1_span wsX1_span) := goodIn_app (goodIn_of _ (by decide +kernel)) ggX2_spanOfU_X1_span
theorem dX2_spanOfU_0 : decode cX2_spanOfU 0 = .ok (.iconst 0, 1) := by decide +kernel
theorem dX2_spanOfU_1 : decode cX2_spanOfU 1 = .ok (.istore_n 2, 1) := by decide +kernel
theorem dX2_spanOfU_2 : decode cX2_spanOfU 2 = .ok (.iconst 0, 1) := by decide +kernel
theorem dX2_spanOfU_3 : decode cX2_spanOfU 3 = .ok (.istore_n 3, 1) := by decide +kernel
theorem dX2_spanOfU_4 : decode cX2_spanOfU 4 = .ok (.iload_n 3, 1) := by decide +kernel
theorem dX2_spanOfU_5 : decode cX2_spanOfU 5 = .ok (.bipush 8, 2) := by decide +kernel
theorem dX2_spanOfU_7 : decode cX2_spanOfU 7 = .ok (.if_icmp .ge 23, 3) := by decide +kernel
theorem dX2_spanOfU_10 : decode cX2_spanOfU 10 = .ok (.lload_n 0, 1) := by decide +kernel
theorem dX2_spanOfU_11 : decode cX2_spanOfU 11 = .ok (.iload_n 3, 1) := by decide +kernel
theorem dX2_spanOfU_12 : decode cX2_spanOfU 12 = .ok (.invokestatic 29, 3) := by decide +kernel
theorem dX2_spanOfU_15 : decode cX2_spanOfU 15 = .ok (.ifCond .eq 9, 3) := by decide +kernel
theorem dX2_spanOfU_18 : decode cX2_spanOfU 18 = .ok (.iload_n 2, 1) := by decide +kernel
theorem dX2_spanOfU_19 : decode cX2_spanOfU 19 = .ok (.iconst 1, 1) := by decide +kernel
theorem dX2_spanOfU_20 : decode cX2_spanOfU 20 = .ok (.iload_n 3, 1) := by decide +kernel
theorem dX2_spanOfU_21 : decode cX2_spanOfU 21 = .ok (.ishl, 1) := by decide +kernel
theorem dX2_spanOfU_22 : decode cX2_spanOfU 22 = .ok (.ior, 1) := by decide +kernel
theorem dX2_spanOfU_23 : decode cX2_spanOfU 23 = .ok (.istore_n 2, 1) := by decide +kernel
theorem dX2_spanOfU_24 : decode cX2_spanOfU 24 = .ok (.iinc 3 1, 3) := by decide +kernel
theorem dX2_spanOfU_27 : decode cX2_spanOfU 27 = .ok (.goto (-23), 3) := by decide +kernel
theorem dX2_spanOfU_30 : decode cX2_spanOfU 30 = .ok (.iload_n 2, 1) := by decide +kernel
theorem dX2_spanOfU_31 : decode cX2_spanOfU 31 = .ok (.invokestatic 33, 3) := by decide +kernel
theorem dX2_spanOfU_34 : decode cX2_spanOfU 34 = .ok (.ireturn, 1) := by decide +kernel
set_option maxRecDepth 20000 in
theorem ggX2_spanOfZ_X2_columnAt : GoodIn wsX2_spanOfZ wsX2_columnAt := goodIn_r _ [4] (by decide +kernel) (by decide +kernel)
set_option maxRecDepth 20000 in
theorem gX2_spanOfZ_X2_columnAt : GoodIn wsX2_spanOfZ (va_wsS RX2 29 yX2_columnAt wsX2_columnAt) := goodIn_app (goodIn_of _ (by decide +kernel)) ggX2_spanOfZ_X2_columnAt
set_option maxRecDepth 20000 in
theorem ggX2_spanOfZ_X1_span : GoodIn wsX2_spanOfZ wsX1_span := goodIn_r _ [8, 9, 10, 7, 11] (by decide +kernel) (by decide +kernel)
set_option maxRecDepth 20000 in
theorem gX2_spanOfZ_X1_span : GoodIn wsX2_spanOfZ (va_wsS RX2 33 yX1_span wsX1_span) := goodIn_app (goodIn_of _ (by decide +kernel)) ggX2_spanOfZ_X1_span
theorem dX2_spanOfZ_0 : decode cX2_spanOfZ 0 = .ok (.iconst 0, 1) := by decide +kernel
theorem dX2_spanOfZ_1 : decode cX2_spanOfZ 1 = .ok (.istore_n 2, 1) := by decide +kernel
theorem dX2_spanOfZ_2 : decode cX2_spanOfZ 2 = .ok (.iconst 0, 1) := by decide +kernel
theorem dX2_spanOfZ_3 : decode cX2_spanOfZ 3 = .ok (.istore_n 3, 1) := by decide +kernel
theorem dX2_spanOfZ_4 : decode cX2_spanOfZ 4 = .ok (.iload_n 3, 1) := by decide +kernel
theorem dX2_spanOfZ_5 : decode cX2_spanOfZ 5 = .ok (.bipush 8, 2) := by decide +kernel
theorem dX2_spanOfZ_7 : decode cX2_spanOfZ 7 = .ok (.if_icmp .ge 17, 3) := by decide +kernel
theorem dX2_spanOfZ_10 : decode cX2_spanOfZ 10 = .ok (.iload_n 2, 1) := by decide +kernel
theorem dX2_spanOfZ_11 : decode cX2_spanOfZ 11 = .ok (.lload_n 0, 1) := by decide +kernel
theorem dX2_spanOfZ_12 : decode cX2_spanOfZ 12 = .ok (.iload_n 3, 1) := by decide +kernel
theorem dX2_spanOfZ_13 : decode cX2_spanOfZ 13 = .ok (.invokestatic 29, 3) := by decide +kernel
theorem dX2_spanOfZ_16 : decode cX2_spanOfZ 16 = .ok (.ior, 1) := by decide +kernel
theorem dX2_spanOfZ_17 : decode cX2_spanOfZ 17 = .ok (.istore_n 2, 1) := by decide +kernel
theorem dX2_spanOfZ_18 : decode cX2_spanOfZ 18 = .ok (.iinc 3 1, 3) := by decide +kernel
theorem dX2_spanOfZ_21 : decode cX2_spanOfZ 21 = .ok (.goto (-17), 3) := by decide +kernel
theorem dX2_spanOfZ_24 : decode cX2_spanOfZ 24 = .ok (.iload_n 2, 1) := by decide +kernel
theorem dX2_spanOfZ_25 : decode cX2_spanOfZ 25 = .ok (.invokestatic 33, 3) := by decide +kernel
theorem dX2_spanOfZ_28 : decode cX2_spanOfZ 28 = .ok (.ireturn, 1) := by decide +kernel
theorem dX3_init_0 : decode cX3_init 0 = .ok (.aload_n 0, 1) := by decide +kernel
theorem dX3_init_1 : decode cX3_init 1 = .ok (.invokespecial 3, 3) := by decide +kernel
theorem dX3_init_4 : decode cX3_init 4 = .ok (.aload_n 0, 1) := by decide +kernel
theorem dX3_init_5 : decode cX3_init 5 = .ok (.bipush 64, 2) := by decide +kernel
theorem dX3_init_7 : decode cX3_init 7 = .ok (.newarray .int, 2) := by decide +kernel
theorem dX3_init_9 : decode cX3_init 9 = .ok (.putfield 11, 3) := by decide +kernel
theorem dX3_init_12 : decode cX3_init 12 = .ok (.aload_n 0, 1) := by decide +kernel
theorem dX3_init_13 : decode cX3_init 13 = .ok (.bipush 8, 2) := by decide +kernel
theorem dX3_init_15 : decode cX3_init 15 = .ok (.newarray .int, 2) := by decide +kernel
theorem dX3_init_17 : decode cX3_init 17 = .ok (.putfield 15, 3) := by decide +kernel
theorem dX3_init_20 : decode cX3_init 20 = .ok (.aload_n 0, 1) := by decide +kernel
theorem dX3_init_21 : decode cX3_init 21 = .ok (.iconst 4, 1) := by decide +kernel
theorem dX3_init_22 : decode cX3_init 22 = .ok (.putfield 18, 3) := by decide +kernel
theorem dX3_init_25 : decode cX3_init 25 = .ok (.aload_n 0, 1) := by decide +kernel
theorem dX3_init_26 : decode cX3_init 26 = .ok (.iconst 4, 1) := by decide +kernel
theorem dX3_init_27 : decode cX3_init 27 = .ok (.putfield 22, 3) := by decide +kernel
theorem dX3_init_30 : decode cX3_init 30 = .ok (.aload_n 0, 1) := by decide +kernel
theorem dX3_init_31 : decode cX3_init 31 = .ok (.iconst 4, 1) := by decide +kernel
theorem dX3_init_32 : decode cX3_init 32 = .ok (.putfield 25, 3) := by decide +kernel
theorem dX3_init_35 : decode cX3_init 35 = .ok (.return_, 1) := by decide +kernel
theorem dX3_beginAnew_0 : decode cX3_beginAnew 0 = .ok (.iconst 0, 1) := by decide +kernel
theorem dX3_beginAnew_1 : decode cX3_beginAnew 1 = .ok (.istore 4, 2) := by decide +kernel
theorem dX3_beginAnew_3 : decode cX3_beginAnew 3 = .ok (.iload 4, 2) := by decide +kernel
theorem dX3_beginAnew_5 : decode cX3_beginAnew 5 = .ok (.aload_n 0, 1) := by decide +kernel
theorem dX3_beginAnew_6 : decode cX3_beginAnew 6 = .ok (.getfield 11, 3) := by decide +kernel
theorem dX3_beginAnew_9 : decode cX3_beginAnew 9 = .ok (.arraylength, 1) := by decide +kernel
theorem dX3_beginAnew_10 : decode cX3_beginAnew 10 = .ok (.if_icmp .ge 17, 3) := by decide +kernel
theorem dX3_beginAnew_13 : decode cX3_beginAnew 13 = .ok (.aload_n 0, 1) := by decide +kernel
theorem dX3_beginAnew_14 : decode cX3_beginAnew 14 = .ok (.getfield 11, 3) := by decide +kernel
theorem dX3_beginAnew_17 : decode cX3_beginAnew 17 = .ok (.iload 4, 2) := by decide +kernel
theorem dX3_beginAnew_19 : decode cX3_beginAnew 19 = .ok (.iconst 0, 1) := by decide +kernel
theorem dX3_beginAnew_20 : decode cX3_beginAnew 20 = .ok (.iastore, 1) := by decide +kernel
theorem dX3_beginAnew_21 : decode cX3_beginAnew 21 = .ok (.iinc 4 1, 3) := by decide +kernel
theorem dX3_beginAnew_24 : decode cX3_beginAnew 24 = .ok (.goto (-21), 3) := by decide +kernel
theorem dX3_beginAnew_27 : decode cX3_beginAnew 27 = .ok (.aload_n 0, 1) := by decide +kernel
theorem dX3_beginAnew_28 : decode cX3_beginAnew 28 = .ok (.iload_n 1, 1) := by decide +kernel
theorem dX3_beginAnew_29 : decode cX3_beginAnew 29 = .ok (.putfield 18, 3) := by decide +kernel
theorem dX3_beginAnew_32 : decode cX3_beginAnew 32 = .ok (.aload_n 0, 1) := by decide +kernel
theorem dX3_beginAnew_33 : decode cX3_beginAnew 33 = .ok (.iload_n 2, 1) := by decide +kernel
theorem dX3_beginAnew_34 : decode cX3_beginAnew 34 = .ok (.putfield 22, 3) := by decide +kernel
theorem dX3_beginAnew_37 : decode cX3_beginAnew 37 = .ok (.aload_n 0, 1) := by decide +kernel
theorem dX3_beginAnew_38 : decode cX3_beginAnew 38 = .ok (.iload_n 3, 1) := by decide +kernel
theorem dX3_beginAnew_39 : decode cX3_beginAnew 39 = .ok (.putfield 25, 3) := by decide +kernel
theorem dX3_beginAnew_42 : decode cX3_beginAnew 42 = .ok (.aload_n 0, 1) := by decide +kernel
theorem dX3_beginAnew_43 : decode cX3_beginAnew 43 = .ok (.iconst 0, 1) := by decide +kernel
theorem dX3_beginAnew_44 : decode cX3_beginAnew 44 = .ok (.putfield 28, 3) := by decide +kernel
theorem dX3_beginAnew_47 : decode cX3_beginAnew 47 = .ok (.aload_n 0, 1) := by decide +kernel
theorem dX3_beginAnew_48 : decode cX3_beginAnew 48 = .ok (.iconst 0, 1) := by decide +kernel
theorem dX3_beginAnew_49 : decode cX3_beginAnew 49 = .ok (.putfield 31, 3) := by decide +kernel
theorem dX3_beginAnew_52 : decode cX3_beginAnew 52 = .ok (.return_, 1) := by decide +kernel
theorem dX3_hasColumn_0 : decode cX3_hasColumn 0 = .ok (.iload_n 1, 1) := by decide +kernel
theorem dX3_hasColumn_1 : decode cX3_hasColumn 1 = .ok (.ifCond .lt 27, 3) := by decide +kernel
theorem dX3_hasColumn_4 : decode cX3_hasColumn 4 = .ok (.iload_n 1, 1) := by decide +kernel
theorem dX3_hasColumn_5 : decode cX3_hasColumn 5 = .ok (.aload_n 0, 1) := by decide +kernel
theorem dX3_hasColumn_6 : decode cX3_hasColumn 6 = .ok (.getfield 18, 3) := by decide +kernel
theorem dX3_hasColumn_9 : decode cX3_hasColumn 9 = .ok (.if_icmp .ge 19, 3) := by decide +kernel
theorem dX3_hasColumn_12 : decode cX3_hasColumn 12 = .ok (.iload_n 2, 1) := by decide +kernel
theorem dX3_hasColumn_13 : decode cX3_hasColumn 13 = .ok (.ifCond .lt 15, 3) := by decide +kernel
theorem dX3_hasColumn_16 : decode cX3_hasColumn 16 = .ok (.iload_n 2, 1) := by decide +kernel
theorem dX3_hasColumn_17 : decode cX3_hasColumn 17 = .ok (.aload_n 0, 1) := by decide +kernel
theorem dX3_hasColumn_18 : decode cX3_hasColumn 18 = .ok (.getfield 22, 3) := by decide +kernel
theorem dX3_hasColumn_21 : decode cX3_hasColumn 21 = .ok (.if_icmp .ge 7, 3) := by decide +kernel
theorem dX3_hasColumn_24 : decode cX3_hasColumn 24 = .ok (.iconst 1, 1) := by decide +kernel
theorem dX3_hasColumn_25 : decode cX3_hasColumn 25 = .ok (.goto 4, 3) := by decide +kernel
theorem dX3_hasColumn_28 : decode cX3_hasColumn 28 = .ok (.iconst 0, 1) := by decide +kernel
theorem dX3_hasColumn_29 : decode cX3_hasColumn 29 = .ok (.ireturn, 1) := by decide +kernel
theorem dX3_hasLayer_0 : decode cX3_hasLayer 0 = .ok (.iload_n 1, 1) := by decide +kernel
theorem dX3_hasLayer_1 : decode cX3_hasLayer 1 = .ok (.ifCond .lt 15, 3) := by decide +kernel
theorem dX3_hasLayer_4 : decode cX3_hasLayer 4 = .ok (.iload_n 1, 1) := by decide +kernel
theorem dX3_hasLayer_5 : decode cX3_hasLayer 5 = .ok (.aload_n 0, 1) := by decide +kernel
theorem dX3_hasLayer_6 : decode cX3_hasLayer 6 = .ok (.getfield 25, 3) := by decide +kernel
theorem dX3_hasLayer_9 : decode cX3_hasLayer 9 = .ok (.if_icmp .ge 7, 3) := by decide +kernel
theorem dX3_hasLayer_12 : decode cX3_hasLayer 12 = .ok (.iconst 1, 1) := by decide +kernel
theorem dX3_hasLayer_13 : decode cX3_hasLayer 13 = .ok (.goto 4, 3) := by decide +kernel
theorem dX3_hasLayer_16 : decode cX3_hasLayer 16 = .ok (.iconst 0, 1) := by decide +kernel
theorem dX3_hasLayer_17 : decode cX3_hasLayer 17 = .ok (.ireturn, 1) := by decide +kernel
set_option maxRecDepth 20000 in
theorem ggX3_hasRib_X3_ribCount : GoodIn wsX3_hasRib wsX3_ribCount := goodIn_r _ [5, 6, 7, 8, 9, 10, 11, 12, 13, 14] (by decide +kernel) (by decide +kernel)
set_option maxRecDepth 20000 in
theorem gX3_hasRib_X3_ribCount : GoodIn wsX3_hasRib (wsV RX3 34 RX3 yX3_ribCount wsX3_ribCount) := goodIn_app (goodIn_of _ (by decide +kernel)) ggX3_hasRib_X3_ribCount
theorem dX3_hasRib_0 : decode cX3_hasRib 0 = .ok (.iload_n 1, 1) := by decide +kernel
theorem dX3_hasRib_1 : decode cX3_hasRib 1 = .ok (.ifCond .eq 8, 3) := by decide +kernel
theorem dX3_hasRib_4 : decode cX3_hasRib 4 = .ok (.iload_n 1, 1) := by decide +kernel
theorem dX3_hasRib_5 : decode cX3_hasRib 5 = .ok (.iconst 1, 1) := by decide +kernel
theorem dX3_hasRib_6 : decode cX3_hasRib 6 = .ok (.if_icmp .ne 20, 3) := by decide +kernel
theorem dX3_hasRib_9 : decode cX3_hasRib 9 = .ok (.iload_n 2, 1) := by decide +kernel
theorem dX3_hasRib_10 : decode cX3_hasRib 10 = .ok (.ifCond .lt 16, 3) := by decide +kernel
theorem dX3_hasRib_13 : decode cX3_hasRib 13 = .ok (.iload_n 2, 1) := by decide +kernel
theorem dX3_hasRib_14 : decode cX3_hasRib 14 = .ok (.aload_n 0, 1) := by decide +kernel
theorem dX3_hasRib_15 : decode cX3_hasRib 15 = .ok (.iload_n 1, 1) := by decide +kernel
theorem dX3_hasRib_16 : decode cX3_hasRib 16 = .ok (.invokevirtual 34, 3) := by decide +kernel
theorem dX3_hasRib_19 : decode cX3_hasRib 19 = .ok (.if_icmp .ge 7, 3) := by decide +kernel
theorem dX3_hasRib_22 : decode cX3_hasRib 22 = .ok (.iconst 1, 1) := by decide +kernel
theorem dX3_hasRib_23 : decode cX3_hasRib 23 = .ok (.goto 4, 3) := by decide +kernel
theorem dX3_hasRib_26 : decode cX3_hasRib 26 = .ok (.iconst 0, 1) := by decide +kernel
theorem dX3_hasRib_27 : decode cX3_hasRib 27 = .ok (.ireturn, 1) := by decide +kernel
theorem dX3_ribCount_0 : decode cX3_ribCount 0 = .ok (.iload_n 1, 1) := by decide +kernel
theorem dX3_ribCount_1 : decode cX3_ribCount 1 = .ok (.ifCond .ne 10, 3) := by decide +kernel
theorem dX3_ribCount_4 : decode cX3_ribCount 4 = .ok (.aload_n 0, 1) := by decide +kernel
theorem dX3_ribCount_5 : decode cX3_ribCount 5 = .ok (.getfield 18, 3) := by decide +kernel
theorem dX3_ribCount_8 : decode cX3_ribCount 8 = .ok (.goto 7, 3) := by decide +kernel
theorem dX3_ribCount_11 : decode cX3_ribCount 11 = .ok (.aload_n 0, 1) := by decide +kernel
theorem dX3_ribCount_12 : decode cX3_ribCount 12 = .ok (.getfield 22, 3) := by decide +kernel
theorem dX3_ribCount_15 : decode cX3_ribCount 15 = .ok (.ireturn, 1) := by decide +kernel
set_option maxRecDepth 20000 in
theorem ggX3_columnAt_X3_hasColumn : GoodIn wsX3_columnAt wsX3_hasColumn := goodIn_r _ [6, 7, 8, 9, 10, 11, 12, 13, 14, 15] (by decide +kernel) (by decide +kernel)
set_option maxRecDepth 20000 in
theorem gX3_columnAt_X3_hasColumn : GoodIn wsX3_columnAt (wsV RX3 38 RX3 yX3_hasColumn wsX3_hasColumn) := goodIn_app (goodIn_of _ (by decide +kernel)) ggX3_columnAt_X3_hasColumn
theorem dX3_columnAt_0 : decode cX3_columnAt 0 = .ok (.aload_n 0, 1) := by decide +kernel
theorem dX3_columnAt_1 : decode cX3_columnAt 1 = .ok (.iload_n 1, 1) := by decide +kernel
theorem dX3_columnAt_2 : decode cX3_columnAt 2 = .ok (.iload_n 2, 1) := by decide +kernel
theorem dX3_columnAt_3 : decode cX3_columnAt 3 = .ok (.invokevirtual 38, 3) := by decide +kernel
theorem dX3_columnAt_6 : decode cX3_columnAt 6 = .ok (.ifCond .eq 17, 3) := by decide +kernel
theorem dX3_columnAt_9 : decode cX3_columnAt 9 = .ok (.aload_n 0, 1) := by decide +kernel
theorem dX3_columnAt_10 : decode cX3_columnAt 10 = .ok (.getfield 11, 3) := by decide +kernel
theorem dX3_columnAt_13 : decode cX3_columnAt 13 = .ok (.bipush 8, 2) := by decide +kernel
theorem dX3_columnAt_15 : decode cX3_columnAt 15 = .ok (.iload_n 1, 1) := by decide +kernel
theorem dX3_columnAt_16 : decode cX3_columnAt 16 = .ok (.imul, 1) := by decide +kernel
theorem dX3_columnAt_17 : decode cX3_columnAt 17 = .ok (.iload_n 2, 1) := by decide +kernel
theorem dX3_columnAt_18 : decode cX3_columnAt 18 = .ok (.iadd, 1) := by decide +kernel
theorem dX3_columnAt_19 : decode cX3_columnAt 19 = .ok (.iaload, 1) := by decide +kernel
theorem dX3_columnAt_20 : decode cX3_columnAt 20 = .ok (.goto 4, 3) := by decide +kernel
theorem dX3_columnAt_23 : decode cX3_columnAt 23 = .ok (.iconst 0, 1) := by decide +kernel
theorem dX3_columnAt_24 : decode cX3_columnAt 24 = .ok (.ireturn, 1) := by decide +kernel
set_option maxRecDepth 20000 in
theorem ggX3_changeColumn_X3_hasColumn : GoodIn wsX3_changeColumn wsX3_hasColumn := goodIn_r _ [6, 7, 8, 20, 21, 22, 23, 24, 25, 26] (by decide +kernel) (by decide +kernel)
set_option maxRecDepth 20000 in
theorem gX3_changeColumn_X3_hasColumn : GoodIn wsX3_changeColumn (wsV RX3 38 RX3 yX3_hasColumn wsX3_hasColumn) := goodIn_app (goodIn_of _ (by decide +kernel)) ggX3_changeColumn_X3_hasColumn
set_option maxRecDepth 20000 in
theorem ggX3_changeColumn_X3_columnAt : GoodIn wsX3_changeColumn wsX3_columnAt := goodIn_r _ [12, 1, 2, 3, 4, 5, 6, 7, 8, 20, 21, 22, 23, 24, 25, 26] (by decide +kernel) (by decide +kernel)
set_option maxRecDepth 20000 in
theorem gX3_changeColumn_X3_columnAt : GoodIn wsX3_changeColumn (wsV RX3 42 RX3 yX3_columnAt wsX3_columnAt) := goodIn_app (goodIn_of _ (by decide +kernel)) ggX3_changeColumn_X3_columnAt
set_option maxRecDepth 20000 in
theorem ggX3_changeColumn_J6_bitCount_0f7a4 : GoodIn wsX3_changeColumn wsJ6_bitCount_0f7a4 := goodIn_r _ [16, 17, 18, 19] (by decide +kernel) (by decide +kernel)
set_option maxRecDepth 20000 in
theorem gX3_changeColumn_J6_bitCount_0f7a4 : GoodIn wsX3_changeColumn (va_wsS RX3 46 yJ6_bitCount_0f7a4 wsJ6_bitCount_0f7a4) := goodIn_app (goodIn_of _ (by decide +kernel)) ggX3_changeColumn_J6_bitCount_0f7a4
theorem dX3_changeColumn_0 : decode cX3_changeColumn 0 = .ok (.aload_n 0, 1) := by decide +kernel
theorem dX3_changeColumn_1 : decode cX3_changeColumn 1 = .ok (.iload_n 1, 1) := by decide +kernel
theorem dX3_changeColumn_2 : decode cX3_changeColumn 2 = .ok (.iload_n 2, 1) := by decide +kernel
theorem dX3_changeColumn_3 : decode cX3_changeColumn 3 = .ok (.invokevirtual 38, 3) := by decide +kernel
theorem dX3_changeColumn_6 : decode cX3_changeColumn 6 = .ok (.ifCond .ne 5, 3) := by decide +kernel
theorem dX3_changeColumn_9 : decode cX3_changeColumn 9 = .ok (.iconst 0, 1) := by decide +kernel
theorem dX3_changeColumn_10 : decode cX3_changeColumn 10 = .ok (.ireturn, 1) := by decide +kernel
theorem dX3_changeColumn_11 : decode cX3_changeColumn 11 = .ok (.aload_n 0, 1) := by decide +kernel
theorem dX3_changeColumn_12 : decode cX3_changeColumn 12 = .ok (.iload_n 1, 1) := by decide +kernel
theorem dX3_changeColumn_13 : decode cX3_changeColumn 13 = .ok (.iload_n 2, 1) := by decide +kernel
theorem dX3_changeColumn_14 : decode cX3_changeColumn 14 = .ok (.invokevirtual 42, 3) := by decide +kernel
theorem dX3_changeColumn_17 : decode cX3_changeColumn 17 = .ok (.istore 5, 2) := by decide +kernel
theorem dX3_changeColumn_19 : decode cX3_changeColumn 19 = .ok (.iload 4, 2) := by decide +kernel
theorem dX3_changeColumn_21 : decode cX3_changeColumn 21 = .ok (.ifCond .eq 10, 3) := by decide +kernel
theorem dX3_changeColumn_24 : decode cX3_changeColumn 24 = .ok (.iload 5, 2) := by decide +kernel
theorem dX3_changeColumn_26 : decode cX3_changeColumn 26 = .ok (.iload_n 3, 1) := by decide +kernel
theorem dX3_changeColumn_27 : decode cX3_changeColumn 27 = .ok (.ior, 1) := by decide +kernel
theorem dX3_changeColumn_28 : decode cX3_changeColumn 28 = .ok (.goto 9, 3) := by decide +kernel
theorem dX3_changeColumn_31 : decode cX3_changeColumn 31 = .ok (.iload 5, 2) := by decide +kernel
theorem dX3_changeColumn_33 : decode cX3_changeColumn 33 = .ok (.iload_n 3, 1) := by decide +kernel
theorem dX3_changeColumn_34 : decode cX3_changeColumn 34 = .ok (.iconst (-1), 1) := by decide +kernel
theorem dX3_changeColumn_35 : decode cX3_changeColumn 35 = .ok (.ixor, 1) := by decide +kernel
theorem dX3_changeColumn_36 : decode cX3_changeColumn 36 = .ok (.iand, 1) := by decide +kernel
theorem dX3_changeColumn_37 : decode cX3_changeColumn 37 = .ok (.istore 6, 2) := by decide +kernel
theorem dX3_changeColumn_39 : decode cX3_changeColumn 39 = .ok (.aload_n 0, 1) := by decide +kernel
theorem dX3_changeColumn_40 : decode cX3_changeColumn 40 = .ok (.getfield 11, 3) := by decide +kernel
theorem dX3_changeColumn_43 : decode cX3_changeColumn 43 = .ok (.bipush 8, 2) := by decide +kernel
theorem dX3_changeColumn_45 : decode cX3_changeColumn 45 = .ok (.iload_n 1, 1) := by decide +kernel
theorem dX3_changeColumn_46 : decode cX3_changeColumn 46 = .ok (.imul, 1) := by decide +kernel
theorem dX3_changeColumn_47 : decode cX3_changeColumn 47 = .ok (.iload_n 2, 1) := by decide +kernel
theorem dX3_changeColumn_48 : decode cX3_changeColumn 48 = .ok (.iadd, 1) := by decide +kernel
theorem dX3_changeColumn_49 : decode cX3_changeColumn 49 = .ok (.iload 6, 2) := by decide +kernel
theorem dX3_changeColumn_51 : decode cX3_changeColumn 51 = .ok (.iastore, 1) := by decide +kernel
theorem dX3_changeColumn_52 : decode cX3_changeColumn 52 = .ok (.iload 5, 2) := by decide +kernel
theorem dX3_changeColumn_54 : decode cX3_changeColumn 54 = .ok (.iload 6, 2) := by decide +kernel
theorem dX3_changeColumn_56 : decode cX3_changeColumn 56 = .ok (.ixor, 1) := by decide +kernel
theorem dX3_changeColumn_57 : decode cX3_changeColumn 57 = .ok (.invokestatic 46, 3) := by decide +kernel
theorem dX3_changeColumn_60 : decode cX3_changeColumn 60 = .ok (.ireturn, 1) := by decide +kernel
set_option maxRecDepth 20000 in
theorem ggX3_cubeCount_J6_bitCount_0f7a4 : GoodIn wsX3_cubeCount wsJ6_bitCount_0f7a4 := goodIn_r _ [5, 6, 7, 8] (by decide +kernel) (by decide +kernel)
set_option maxRecDepth 20000 in
theorem gX3_cubeCount_J6_bitCount_0f7a4 : GoodIn wsX3_cubeCount (va_wsS RX3 46 yJ6_bitCount_0f7a4 wsJ6_bitCount_0f7a4) := goodIn_app (goodIn_of _ (by decide +kernel)) ggX3_cubeCount_J6_bitCount_0f7a4
theorem dX3_cubeCount_0 : decode cX3_cubeCount 0 = .ok (.iconst 0, 1) := by decide +kernel
theorem dX3_cubeCount_1 : decode cX3_cubeCount 1 = .ok (.istore_n 1, 1) := by decide +kernel
theorem dX3_cubeCount_2 : decode cX3_cubeCount 2 = .ok (.aload_n 0, 1) := by decide +kernel
theorem dX3_cubeCount_3 : decode cX3_cubeCount 3 = .ok (.getfield 11, 3) := by decide +kernel
theorem dX3_cubeCount_6 : decode cX3_cubeCount 6 = .ok (.astore_n 2, 1) := by decide +kernel
theorem dX3_cubeCount_7 : decode cX3_cubeCount 7 = .ok (.aload_n 2, 1) := by decide +kernel
theorem dX3_cubeCount_8 : decode cX3_cubeCount 8 = .ok (.arraylength, 1) := by decide +kernel
theorem dX3_cubeCount_9 : decode cX3_cubeCount 9 = .ok (.istore_n 3, 1) := by decide +kernel
theorem dX3_cubeCount_10 : decode cX3_cubeCount 10 = .ok (.iconst 0, 1) := by decide +kernel
theorem dX3_cubeCount_11 : decode cX3_cubeCount 11 = .ok (.istore 4, 2) := by decide +kernel
theorem dX3_cubeCount_13 : decode cX3_cubeCount 13 = .ok (.iload 4, 2) := by decide +kernel
theorem dX3_cubeCount_15 : decode cX3_cubeCount 15 = .ok (.iload_n 3, 1) := by decide +kernel
theorem dX3_cubeCount_16 : decode cX3_cubeCount 16 = .ok (.if_icmp .ge 23, 3) := by decide +kernel
theorem dX3_cubeCount_19 : decode cX3_cubeCount 19 = .ok (.aload_n 2, 1) := by decide +kernel
theorem dX3_cubeCount_20 : decode cX3_cubeCount 20 = .ok (.iload 4, 2) := by decide +kernel
theorem dX3_cubeCount_22 : decode cX3_cubeCount 22 = .ok (.iaload, 1) := by decide +kernel
theorem dX3_cubeCount_23 : decode cX3_cubeCount 23 = .ok (.istore 5, 2) := by decide +kernel
theorem dX3_cubeCount_25 : decode cX3_cubeCount 25 = .ok (.iload_n 1, 1) := by decide +kernel
theorem dX3_cubeCount_26 : decode cX3_cubeCount 26 = .ok (.iload 5, 2) := by decide +kernel
theorem dX3_cubeCount_28 : decode cX3_cubeCount 28 = .ok (.invokestatic 46, 3) := by decide +kernel
theorem dX3_cubeCount_31 : decode cX3_cubeCount 31 = .ok (.iadd, 1) := by decide +kernel
theorem dX3_cubeCount_32 : decode cX3_cubeCount 32 = .ok (.istore_n 1, 1) := by decide +kernel
theorem dX3_cubeCount_33 : decode cX3_cubeCount 33 = .ok (.iinc 4 1, 3) := by decide +kernel
theorem dX3_cubeCount_36 : decode cX3_cubeCount 36 = .ok (.goto (-23), 3) := by decide +kernel
theorem dX3_cubeCount_39 : decode cX3_cubeCount 39 = .ok (.iload_n 1, 1) := by decide +kernel
theorem dX3_cubeCount_40 : decode cX3_cubeCount 40 = .ok (.ireturn, 1) := by decide +kernel
theorem dX3_chosenBits_0 : decode cX3_chosenBits 0 = .ok (.iload_n 1, 1) := by decide +kernel
theorem dX3_chosenBits_1 : decode cX3_chosenBits 1 = .ok (.ifCond .ne 10, 3) := by decide +kernel
theorem dX3_chosenBits_4 : decode cX3_chosenBits 4 = .ok (.aload_n 0, 1) := by decide +kernel
theorem dX3_chosenBits_5 : decode cX3_chosenBits 5 = .ok (.getfield 28, 3) := by decide +kernel
theorem dX3_chosenBits_8 : decode cX3_chosenBits 8 = .ok (.goto 7, 3) := by decide +kernel
theorem dX3_chosenBits_11 : decode cX3_chosenBits 11 = .ok (.aload_n 0, 1) := by decide +kernel
theorem dX3_chosenBits_12 : decode cX3_chosenBits 12 = .ok (.getfield 31, 3) := by decide +kernel
theorem dX3_chosenBits_15 : decode cX3_chosenBits 15 = .ok (.ireturn, 1) := by decide +kernel
theorem dX3_choose_0 : decode cX3_choose 0 = .ok (.iload_n 1, 1) := by decide +kernel
theorem dX3_choose_1 : decode cX3_choose 1 = .ok (.ifCond .ne 11, 3) := by decide +kernel
theorem dX3_choose_4 : decode cX3_choose 4 = .ok (.aload_n 0, 1) := by decide +kernel
theorem dX3_choose_5 : decode cX3_choose 5 = .ok (.iload_n 2, 1) := by decide +kernel
theorem dX3_choose_6 : decode cX3_choose 6 = .ok (.putfield 28, 3) := by decide +kernel
theorem dX3_choose_9 : decode cX3_choose 9 = .ok (.goto 8, 3) := by decide +kernel
theorem dX3_choose_12 : decode cX3_choose 12 = .ok (.aload_n 0, 1) := by decide +kernel
theorem dX3_choose_13 : decode cX3_choose 13 = .ok (.iload_n 2, 1) := by decide +kernel
theorem dX3_choose_14 : decode cX3_choose 14 = .ok (.putfield 31, 3) := by decide +kernel
theorem dX3_choose_17 : decode cX3_choose 17 = .ok (.return_, 1) := by decide +kernel
set_option maxRecDepth 20000 in
theorem ggX3_isChosen_X3_chosenBits : GoodIn wsX3_isChosen wsX3_chosenBits := goodIn_r _ [5, 6, 7, 12, 13, 14, 15, 16, 17, 18] (by decide +kernel) (by decide +kernel)
set_option maxRecDepth 20000 in
theorem gX3_isChosen_X3_chosenBits : GoodIn wsX3_isChosen (wsV RX3 51 RX3 yX3_chosenBits wsX3_chosenBits) := goodIn_app (goodIn_of _ (by decide +kernel)) ggX3_isChosen_X3_chosenBits
set_option maxRecDepth 20000 in
theorem ggX3_isChosen_X1_hasBit : GoodIn wsX3_isChosen wsX1_hasBit := goodIn_r _ [11] (by decide +kernel) (by decide +kernel)
set_option maxRecDepth 20000 in
theorem gX3_isChosen_X1_hasBit : GoodIn wsX3_isChosen (va_wsS RX3 54 yX1_hasBit wsX1_hasBit) := goodIn_app (goodIn_of _ (by decide +kernel)) ggX3_isChosen_X1_hasBit
theorem dX3_isChosen_0 : decode cX3_isChosen 0 = .ok (.aload_n 0, 1) := by decide +kernel
theorem dX3_isChosen_1 : decode cX3_isChosen 1 = .ok (.iload_n 1, 1) := by decide +kernel
theorem dX3_isChosen_2 : decode cX3_isChosen 2 = .ok (.invokevirtual 51, 3) := by decide +kernel
theorem dX3_isChosen_5 : decode cX3_isChosen 5 = .ok (.iload_n 2, 1) := by decide +kernel
theorem dX3_isChosen_6 : decode cX3_isChosen 6 = .ok (.invokestatic 54, 3) := by decide +kernel
theorem dX3_isChosen_9 : decode cX3_isChosen 9 = .ok (.ireturn, 1) := by decide +kernel
set_option maxRecDepth 20000 in
theorem ggX3_crossingsOf_X3_isChosen : GoodIn wsX3_crossingsOf wsX3_isChosen := goodIn_r _ [5, 6, 7, 8, 4, 9, 10, 11, 12, 13, 14, 15, 16, 17, 18, 19, 20, 21, 22] (by decide +kernel) (by decide +kernel)
set_option maxRecDepth 20000 in
theorem gX3_crossingsOf_X3_isChosen : GoodIn wsX3_crossingsOf (wsV RX3 57 RX3 yX3_isChosen wsX3_isChosen) := goodIn_app (goodIn_of _ (by decide +kernel)) ggX3_crossingsOf_X3_isChosen
set_option maxRecDepth 20000 in
theorem ggX3_crossingsOf_X3_chosenBits : GoodIn wsX3_crossingsOf wsX3_chosenBits := goodIn_r _ [9, 10, 11, 16, 17, 18, 19, 20, 21, 22] (by decide +kernel) (by decide +kernel)
set_option maxRecDepth 20000 in
theorem gX3_crossingsOf_X3_chosenBits : GoodIn wsX3_crossingsOf (wsV RX3 51 RX3 yX3_chosenBits wsX3_chosenBits) := goodIn_app (goodIn_of _ (by decide +kernel)) ggX3_crossingsOf_X3_chosenBits
theorem dX3_crossingsOf_0 : decode cX3_crossingsOf 0 = .ok (.aload_n 0, 1) := by decide +kernel
theorem dX3_crossingsOf_1 : decode cX3_crossingsOf 1 = .ok (.iload_n 1, 1) := by decide +kernel
theorem dX3_crossingsOf_2 : decode cX3_crossingsOf 2 = .ok (.iload_n 2, 1) := by decide +kernel
theorem dX3_crossingsOf_3 : decode cX3_crossingsOf 3 = .ok (.invokevirtual 57, 3) := by decide +kernel
theorem dX3_crossingsOf_6 : decode cX3_crossingsOf 6 = .ok (.ifCond .eq 13, 3) := by decide +kernel
theorem dX3_crossingsOf_9 : decode cX3_crossingsOf 9 = .ok (.aload_n 0, 1) := by decide +kernel
theorem dX3_crossingsOf_10 : decode cX3_crossingsOf 10 = .ok (.iconst 1, 1) := by decide +kernel
theorem dX3_crossingsOf_11 : decode cX3_crossingsOf 11 = .ok (.iload_n 1, 1) := by decide +kernel
theorem dX3_crossingsOf_12 : decode cX3_crossingsOf 12 = .ok (.isub, 1) := by decide +kernel
theorem dX3_crossingsOf_13 : decode cX3_crossingsOf 13 = .ok (.invokevirtual 51, 3) := by decide +kernel
theorem dX3_crossingsOf_16 : decode cX3_crossingsOf 16 = .ok (.goto 4, 3) := by decide +kernel
theorem dX3_crossingsOf_19 : decode cX3_crossingsOf 19 = .ok (.iconst 0, 1) := by decide +kernel
theorem dX3_crossingsOf_20 : decode cX3_crossingsOf 20 = .ok (.ireturn, 1) := by decide +kernel
set_option maxRecDepth 20000 in
theorem ggX3_wouldCatch_X3_columnAt : GoodIn wsX3_wouldCatch wsX3_columnAt := goodIn_r _ [5, 6, 7, 8, 9, 4, 10, 11, 12, 24, 25, 26, 27, 28, 29, 30] (by decide +kernel) (by decide +kernel)
set_option maxRecDepth 20000 in
theorem gX3_wouldCatch_X3_columnAt : GoodIn wsX3_wouldCatch (wsV RX3 42 RX3 yX3_columnAt wsX3_columnAt) := goodIn_app (goodIn_of _ (by decide +kernel)) ggX3_wouldCatch_X3_columnAt
set_option maxRecDepth 20000 in
theorem ggX3_wouldCatch_X1_runCount : GoodIn wsX3_wouldCatch wsX1_runCount := goodIn_r _ [16, 17, 18, 19, 20, 21, 22, 23] (by decide +kernel) (by decide +kernel)
set_option maxRecDepth 20000 in
theorem gX3_wouldCatch_X1_runCount : GoodIn wsX3_wouldCatch (va_wsS RX3 60 yX1_runCount wsX1_runCount) := goodIn_app (goodIn_of _ (by decide +kernel)) ggX3_wouldCatch_X1_runCount
theorem dX3_wouldCatch_0 : decode cX3_wouldCatch 0 = .ok (.aload_n 0, 1) := by decide +kernel
theorem dX3_wouldCatch_1 : decode cX3_wouldCatch 1 = .ok (.iload_n 1, 1) := by decide +kernel
theorem dX3_wouldCatch_2 : decode cX3_wouldCatch 2 = .ok (.iload_n 2, 1) := by decide +kernel
theorem dX3_wouldCatch_3 : decode cX3_wouldCatch 3 = .ok (.invokevirtual 42, 3) := by decide +kernel
theorem dX3_wouldCatch_6 : decode cX3_wouldCatch 6 = .ok (.invokestatic 60, 3) := by decide +kernel
theorem dX3_wouldCatch_9 : decode cX3_wouldCatch 9 = .ok (.iconst 1, 1) := by decide +kernel
theorem dX3_wouldCatch_10 : decode cX3_wouldCatch 10 = .ok (.if_icmp .le 7, 3) := by decide +kernel
theorem dX3_wouldCatch_13 : decode cX3_wouldCatch 13 = .ok (.iconst 1, 1) := by decide +kernel
theorem dX3_wouldCatch_14 : decode cX3_wouldCatch 14 = .ok (.goto 4, 3) := by decide +kernel
theorem dX3_wouldCatch_17 : decode cX3_wouldCatch 17 = .ok (.iconst 0, 1) := by decide +kernel
theorem dX3_wouldCatch_18 : decode cX3_wouldCatch 18 = .ok (.ireturn, 1) := by decide +kernel
set_option maxRecDepth 20000 in
theorem ggX3_ribColumn_X3_columnAt : GoodIn wsX3_ribColumn wsX3_columnAt := goodIn_r _ [5, 6, 7, 8, 9, 4, 10, 11, 12, 13, 14, 15, 16, 17, 18, 19] (by decide +kernel) (by decide +kernel)
set_option maxRecDepth 20000 in
theorem gX3_ribColumn_X3_columnAt : GoodIn wsX3_ribColumn (wsV RX3 42 RX3 yX3_columnAt wsX3_columnAt) := goodIn_app (goodIn_of _ (by decide +kernel)) ggX3_ribColumn_X3_columnAt
theorem dX3_ribColumn_0 : decode cX3_ribColumn 0 = .ok (.iload_n 1, 1) := by decide +kernel
theorem dX3_ribColumn_1 : decode cX3_ribColumn 1 = .ok (.ifCond .ne 12, 3) := by decide +kernel
theorem dX3_ribColumn_4 : decode cX3_ribColumn 4 = .ok (.aload_n 0, 1) := by decide +kernel
theorem dX3_ribColumn_5 : decode cX3_ribColumn 5 = .ok (.iload_n 2, 1) := by decide +kernel
theorem dX3_ribColumn_6 : decode cX3_ribColumn 6 = .ok (.iload_n 3, 1) := by decide +kernel
theorem dX3_ribColumn_7 : decode cX3_ribColumn 7 = .ok (.invokevirtual 42, 3) := by decide +kernel
theorem dX3_ribColumn_10 : decode cX3_ribColumn 10 = .ok (.goto 9, 3) := by decide +kernel
theorem dX3_ribColumn_13 : decode cX3_ribColumn 13 = .ok (.aload_n 0, 1) := by decide +kernel
theorem dX3_ribColumn_14 : decode cX3_ribColumn 14 = .ok (.iload_n 3, 1) := by decide +kernel
theorem dX3_ribColumn_15 : decode cX3_ribColumn 15 = .ok (.iload_n 2, 1) := by decide +kernel
theorem dX3_ribColumn_16 : decode cX3_ribColumn 16 = .ok (.invokevirtual 42, 3) := by decide +kernel
theorem dX3_ribColumn_19 : decode cX3_ribColumn 19 = .ok (.ireturn, 1) := by decide +kernel
set_option maxRecDepth 20000 in
theorem ggX3_figureOf_X3_ribCount : GoodIn wsX3_figureOf wsX3_ribCount := goodIn_r _ [5, 6, 7, 25, 26, 27, 28, 29, 30, 31] (by decide +kernel) (by decide +kernel)
set_option maxRecDepth 20000 in
theorem gX3_figureOf_X3_ribCount : GoodIn wsX3_figureOf (wsV RX3 34 RX3 yX3_ribCount wsX3_ribCount) := goodIn_app (goodIn_of _ (by decide +kernel)) ggX3_figureOf_X3_ribCount
set_option maxRecDepth 20000 in
theorem ggX3_figureOf_X3_ribColumn : GoodIn wsX3_figureOf wsX3_ribColumn := goodIn_r _ [11, 12, 13, 14, 4, 15, 16, 17, 18, 19, 20, 6, 7, 25, 26, 27, 28, 29, 30, 31] (by decide +kernel) (by decide +kernel)
set_option maxRecDepth 20000 in
theorem gX3_figureOf_X3_ribColumn : GoodIn wsX3_figureOf (wsV RX3 63 RX3 yX3_ribColumn wsX3_ribColumn) := goodIn_app (goodIn_of _ (by decide +kernel)) ggX3_figureOf_X3_ribColumn
set_option maxRecDepth 20000 in
theorem ggX3_figureOf_X2_shifted : GoodIn wsX3_figureOf wsX2_shifted := goodIn_r _ [24] (by decide +kernel) (by decide +kernel)
set_option maxRecDepth 20000 in
theorem gX3_figureOf_X2_shifted : GoodIn wsX3_figureOf (va_wsS RX3 67 yX2_shifted wsX2_shifted) := goodIn_app (goodIn_of _ (by decide +kernel)) ggX3_figureOf_X2_shifted
theorem dX3_figureOf_0 : decode cX3_figureOf 0 = .ok (.lconst 0, 1) := by decide +kernel
theorem dX3_figureOf_1 : decode cX3_figureOf 1 = .ok (.lstore_n 3, 1) := by decide +kernel
theorem dX3_figureOf_2 : decode cX3_figureOf 2 = .ok (.iconst 0, 1) := by decide +kernel
theorem dX3_figureOf_3 : decode cX3_figureOf 3 = .ok (.istore 5, 2) := by decide +kernel
theorem dX3_figureOf_5 : decode cX3_figureOf 5 = .ok (.iload 5, 2) := by decide +kernel
theorem dX3_figureOf_7 : decode cX3_figureOf 7 = .ok (.aload_n 0, 1) := by decide +kernel
theorem dX3_figureOf_8 : decode cX3_figureOf 8 = .ok (.iconst 1, 1) := by decide +kernel
theorem dX3_figureOf_9 : decode cX3_figureOf 9 = .ok (.iload_n 1, 1) := by decide +kernel
theorem dX3_figureOf_10 : decode cX3_figureOf 10 = .ok (.isub, 1) := by decide +kernel
theorem dX3_figureOf_11 : decode cX3_figureOf 11 = .ok (.invokevirtual 34, 3) := by decide +kernel
theorem dX3_figureOf_14 : decode cX3_figureOf 14 = .ok (.if_icmp .ge 25, 3) := by decide +kernel
theorem dX3_figureOf_17 : decode cX3_figureOf 17 = .ok (.lload_n 3, 1) := by decide +kernel
theorem dX3_figureOf_18 : decode cX3_figureOf 18 = .ok (.aload_n 0, 1) := by decide +kernel
theorem dX3_figureOf_19 : decode cX3_figureOf 19 = .ok (.iload_n 1, 1) := by decide +kernel
theorem dX3_figureOf_20 : decode cX3_figureOf 20 = .ok (.iload_n 2, 1) := by decide +kernel
theorem dX3_figureOf_21 : decode cX3_figureOf 21 = .ok (.iload 5, 2) := by decide +kernel
theorem dX3_figureOf_23 : decode cX3_figureOf 23 = .ok (.invokevirtual 63, 3) := by decide +kernel
theorem dX3_figureOf_26 : decode cX3_figureOf 26 = .ok (.iload 5, 2) := by decide +kernel
theorem dX3_figureOf_28 : decode cX3_figureOf 28 = .ok (.invokestatic 67, 3) := by decide +kernel
theorem dX3_figureOf_31 : decode cX3_figureOf 31 = .ok (.lor, 1) := by decide +kernel
theorem dX3_figureOf_32 : decode cX3_figureOf 32 = .ok (.lstore_n 3, 1) := by decide +kernel
theorem dX3_figureOf_33 : decode cX3_figureOf 33 = .ok (.iinc 5 1, 3) := by decide +kernel
theorem dX3_figureOf_36 : decode cX3_figureOf 36 = .ok (.goto (-31), 3) := by decide +kernel
theorem dX3_figureOf_39 : decode cX3_figureOf 39 = .ok (.lload_n 3, 1) := by decide +kernel
theorem dX3_figureOf_40 : decode cX3_figureOf 40 = .ok (.lreturn, 1) := by decide +kernel
set_option maxRecDepth 20000 in
theorem ggX3_cutOf_X3_crossingsOf : GoodIn wsX3_cutOf wsX3_crossingsOf := goodIn_r _ [5, 6, 7, 8, 4, 9, 10, 11, 12, 13, 14, 15, 16, 17, 18, 19, 63, 64, 65, 66, 67, 68, 69] (by decide +kernel) (by decide +kernel)
set_option maxRecDepth 20000 in
theorem gX3_cutOf_X3_crossingsOf : GoodIn wsX3_cutOf (wsV RX3 73 RX3 yX3_crossingsOf wsX3_crossingsOf) := goodIn_app (goodIn_of _ (by decide +kernel)) ggX3_cutOf_X3_crossingsOf
set_option maxRecDepth 20000 in
theorem ggX3_cutOf_X3_ribCount : GoodIn wsX3_cutOf wsX3_ribCount := goodIn_r _ [23, 24, 25, 63, 64, 65, 66, 67, 68, 69] (by decide +kernel) (by decide +kernel)
set_option maxRecDepth 20000 in
theorem gX3_cutOf_X3_ribCount : GoodIn wsX3_cutOf (wsV RX3 34 RX3 yX3_ribCount wsX3_ribCount) := goodIn_app (goodIn_of _ (by decide +kernel)) ggX3_cutOf_X3_ribCount
set_option maxRecDepth 20000 in
theorem ggX3_cutOf_X3_ribColumn : GoodIn wsX3_cutOf wsX3_ribColumn := goodIn_r _ [29, 30, 31, 32, 4, 33, 34, 35, 36, 37, 38, 24, 25, 63, 64, 65, 66, 67, 68, 69] (by decide +kernel) (by decide +kernel)
set_option maxRecDepth 20000 in
theorem gX3_cutOf_X3_ribColumn : GoodIn wsX3_cutOf (wsV RX3 63 RX3 yX3_ribColumn wsX3_ribColumn) := goodIn_app (goodIn_of _ (by decide +kernel)) ggX3_cutOf_X3_ribColumn
set_option maxRecDepth 20000 in
theorem ggX3_cutOf_X1_hasBit : GoodIn wsX3_cutOf wsX1_hasBit := goodIn_r _ [19] (by decide +kernel) (by decide +kernel)
set_option maxRecDepth 20000 in
theorem gX3_cutOf_X1_hasBit : GoodIn wsX3_cutOf (va_wsS RX3 54 yX1_hasBit wsX1_hasBit) := goodIn_app (goodIn_of _ (by decide +kernel)) ggX3_cutOf_X1_hasBit
set_option maxRecDepth 20000 in
theorem ggX3_cutOf_X1_upperHalves : GoodIn wsX3_cutOf wsX1_upperHalves := goodIn_r _ [41, 42, 43, 18, 44, 45, 17, 19, 46, 47, 48, 49, 50, 51, 52, 53, 54, 55, 56, 57, 58] (by decide +kernel) (by decide +kernel)
set_option maxRecDepth 20000 in
theorem gX3_cutOf_X1_upperHalves : GoodIn wsX3_cutOf (va_wsS RX3 76 yX1_upperHalves wsX1_upperHalves) := goodIn_app (goodIn_of _ (by decide +kernel)) ggX3_cutOf_X1_upperHalves
set_option maxRecDepth 20000 in
theorem ggX3_cutOf_X2_shifted : GoodIn wsX3_cutOf wsX2_shifted := goodIn_r _ [62] (by decide +kernel) (by decide +kernel)
set_option maxRecDepth 20000 in
theorem gX3_cutOf_X2_shifted : GoodIn wsX3_cutOf (va_wsS RX3 67 yX2_shifted wsX2_shifted) := goodIn_app (goodIn_of _ (by decide +kernel)) ggX3_cutOf_X2_shifted
theorem dX3_cutOf_0 : decode cX3_cutOf 0 = .ok (.aload_n 0, 1) := by decide +kernel
theorem dX3_cutOf_1 : decode cX3_cutOf 1 = .ok (.iload_n 1, 1) := by decide +kernel
theorem dX3_cutOf_2 : decode cX3_cutOf 2 = .ok (.iload_n 2, 1) := by decide +kernel
theorem dX3_cutOf_3 : decode cX3_cutOf 3 = .ok (.invokevirtual 73, 3) := by decide +kernel
theorem dX3_cutOf_6 : decode cX3_cutOf 6 = .ok (.istore_n 3, 1) := by decide +kernel
theorem dX3_cutOf_7 : decode cX3_cutOf 7 = .ok (.lconst 0, 1) := by decide +kernel
theorem dX3_cutOf_8 : decode cX3_cutOf 8 = .ok (.lstore 4, 2) := by decide +kernel
theorem dX3_cutOf_10 : decode cX3_cutOf 10 = .ok (.iconst 0, 1) := by decide +kernel
theorem dX3_cutOf_11 : decode cX3_cutOf 11 = .ok (.istore 6, 2) := by decide +kernel
theorem dX3_cutOf_13 : decode cX3_cutOf 13 = .ok (.iload 6, 2) := by decide +kernel
theorem dX3_cutOf_15 : decode cX3_cutOf 15 = .ok (.aload_n 0, 1) := by decide +kernel
theorem dX3_cutOf_16 : decode cX3_cutOf 16 = .ok (.iconst 1, 1) := by decide +kernel
theorem dX3_cutOf_17 : decode cX3_cutOf 17 = .ok (.iload_n 1, 1) := by decide +kernel
theorem dX3_cutOf_18 : decode cX3_cutOf 18 = .ok (.isub, 1) := by decide +kernel
theorem dX3_cutOf_19 : decode cX3_cutOf 19 = .ok (.invokevirtual 34, 3) := by decide +kernel
theorem dX3_cutOf_22 : decode cX3_cutOf 22 = .ok (.if_icmp .ge 65, 3) := by decide +kernel
theorem dX3_cutOf_25 : decode cX3_cutOf 25 = .ok (.aload_n 0, 1) := by decide +kernel
theorem dX3_cutOf_26 : decode cX3_cutOf 26 = .ok (.iload_n 1, 1) := by decide +kernel
theorem dX3_cutOf_27 : decode cX3_cutOf 27 = .ok (.iload_n 2, 1) := by decide +kernel
theorem dX3_cutOf_28 : decode cX3_cutOf 28 = .ok (.iload 6, 2) := by decide +kernel
theorem dX3_cutOf_30 : decode cX3_cutOf 30 = .ok (.invokevirtual 63, 3) := by decide +kernel
theorem dX3_cutOf_33 : decode cX3_cutOf 33 = .ok (.istore 7, 2) := by decide +kernel
theorem dX3_cutOf_35 : decode cX3_cutOf 35 = .ok (.iload_n 3, 1) := by decide +kernel
end
section
theorem dX3_cutOf_36 : decode cX3_cutOf 36 = .ok (.iload 6, 2) := by decide +kernel
theorem dX3_cutOf_38 : decode cX3_cutOf 38 = .ok (.invokestatic 54, 3) := by decide +kernel
theorem dX3_cutOf_41 : decode cX3_cutOf 41 = .ok (.ifCond .eq 28, 3) := by decide +kernel
theorem dX3_cutOf_44 : decode cX3_cutOf 44 = .ok (.iload 7, 2) := by decide +kernel
theorem dX3_cutOf_46 : decode cX3_cutOf 46 = .ok (.invokestatic 76, 3) := by decide +kernel
theorem dX3_cutOf_49 : decode cX3_cutOf 49 = .ok (.istore 8, 2) := by decide +kernel
theorem dX3_cutOf_51 : decode cX3_cutOf 51 = .ok (.iload_n 1, 1) := by decide +kernel
theorem dX3_cutOf_52 : decode cX3_cutOf 52 = .ok (.ifCond .ne 13, 3) := by decide +kernel
theorem dX3_cutOf_55 : decode cX3_cutOf 55 = .ok (.iload 7, 2) := by decide +kernel
theorem dX3_cutOf_57 : decode cX3_cutOf 57 = .ok (.iload 8, 2) := by decide +kernel
theorem dX3_cutOf_59 : decode cX3_cutOf 59 = .ok (.iconst (-1), 1) := by decide +kernel
theorem dX3_cutOf_60 : decode cX3_cutOf 60 = .ok (.ixor, 1) := by decide +kernel
theorem dX3_cutOf_61 : decode cX3_cutOf 61 = .ok (.iand, 1) := by decide +kernel
theorem dX3_cutOf_62 : decode cX3_cutOf 62 = .ok (.goto 5, 3) := by decide +kernel
theorem dX3_cutOf_65 : decode cX3_cutOf 65 = .ok (.iload 8, 2) := by decide +kernel
theorem dX3_cutOf_67 : decode cX3_cutOf 67 = .ok (.istore 7, 2) := by decide +kernel
theorem dX3_cutOf_69 : decode cX3_cutOf 69 = .ok (.lload 4, 2) := by decide +kernel
theorem dX3_cutOf_71 : decode cX3_cutOf 71 = .ok (.iload 7, 2) := by decide +kernel
theorem dX3_cutOf_73 : decode cX3_cutOf 73 = .ok (.iload 6, 2) := by decide +kernel
theorem dX3_cutOf_75 : decode cX3_cutOf 75 = .ok (.invokestatic 67, 3) := by decide +kernel
theorem dX3_cutOf_78 : decode cX3_cutOf 78 = .ok (.lor, 1) := by decide +kernel
theorem dX3_cutOf_79 : decode cX3_cutOf 79 = .ok (.lstore 4, 2) := by decide +kernel
theorem dX3_cutOf_81 : decode cX3_cutOf 81 = .ok (.iinc 6 1, 3) := by decide +kernel
theorem dX3_cutOf_84 : decode cX3_cutOf 84 = .ok (.goto (-71), 3) := by decide +kernel
theorem dX3_cutOf_87 : decode cX3_cutOf 87 = .ok (.lload 4, 2) := by decide +kernel
theorem dX3_cutOf_89 : decode cX3_cutOf 89 = .ok (.lreturn, 1) := by decide +kernel
set_option maxRecDepth 20000 in
theorem ggX3_chosenFigure_X3_isChosen : GoodIn wsX3_chosenFigure wsX3_isChosen := goodIn_r _ [5, 6, 7, 8, 4, 9, 10, 11, 12, 13, 14, 15, 43, 44, 45, 46, 47, 48, 49] (by decide +kernel) (by decide +kernel)
set_option maxRecDepth 20000 in
theorem gX3_chosenFigure_X3_isChosen : GoodIn wsX3_chosenFigure (wsV RX3 57 RX3 yX3_isChosen wsX3_isChosen) := goodIn_app (goodIn_of _ (by decide +kernel)) ggX3_chosenFigure_X3_isChosen
set_option maxRecDepth 20000 in
theorem ggX3_chosenFigure_X3_figureOf : GoodIn wsX3_chosenFigure wsX3_figureOf := goodIn_r _ [19, 20, 21, 22, 4, 23, 24, 25, 26, 27, 28, 29, 30, 31, 32, 33, 34, 35, 36, 37, 38, 39, 40, 41, 42, 43, 44, 45, 46, 47, 48, 49] (by decide +kernel) (by decide +kernel)
set_option maxRecDepth 20000 in
theorem gX3_chosenFigure_X3_figureOf : GoodIn wsX3_chosenFigure (wsV RX3 79 RX3 yX3_figureOf wsX3_figureOf) := goodIn_app (goodIn_of _ (by decide +kernel)) ggX3_chosenFigure_X3_figureOf
theorem dX3_chosenFigure_0 : decode cX3_chosenFigure 0 = .ok (.aload_n 0, 1) := by decide +kernel
theorem dX3_chosenFigure_1 : decode cX3_chosenFigure 1 = .ok (.iload_n 1, 1) := by decide +kernel
theorem dX3_chosenFigure_2 : decode cX3_chosenFigure 2 = .ok (.iload_n 2, 1) := by decide +kernel
theorem dX3_chosenFigure_3 : decode cX3_chosenFigure 3 = .ok (.invokevirtual 57, 3) := by decide +kernel
theorem dX3_chosenFigure_6 : decode cX3_chosenFigure 6 = .ok (.ifCond .eq 12, 3) := by decide +kernel
theorem dX3_chosenFigure_9 : decode cX3_chosenFigure 9 = .ok (.aload_n 0, 1) := by decide +kernel
theorem dX3_chosenFigure_10 : decode cX3_chosenFigure 10 = .ok (.iload_n 1, 1) := by decide +kernel
theorem dX3_chosenFigure_11 : decode cX3_chosenFigure 11 = .ok (.iload_n 2, 1) := by decide +kernel
theorem dX3_chosenFigure_12 : decode cX3_chosenFigure 12 = .ok (.invokevirtual 79, 3) := by decide +kernel
theorem dX3_chosenFigure_15 : decode cX3_chosenFigure 15 = .ok (.goto 4, 3) := by decide +kernel
theorem dX3_chosenFigure_18 : decode cX3_chosenFigure 18 = .ok (.lconst 0, 1) := by decide +kernel
theorem dX3_chosenFigure_19 : decode cX3_chosenFigure 19 = .ok (.lreturn, 1) := by decide +kernel
set_option maxRecDepth 20000 in
theorem ggX3_loosePartsOf_X3_crossingsOf : GoodIn wsX3_loosePartsOf wsX3_crossingsOf := goodIn_r _ [5, 6, 7, 8, 4, 9, 10, 11, 12, 13, 14, 15, 16, 17, 18, 19, 79, 80, 81, 82, 83, 84, 85] (by decide +kernel) (by decide +kernel)
set_option maxRecDepth 20000 in
theorem gX3_loosePartsOf_X3_crossingsOf : GoodIn wsX3_loosePartsOf (wsV RX3 73 RX3 yX3_crossingsOf wsX3_crossingsOf) := goodIn_app (goodIn_of _ (by decide +kernel)) ggX3_loosePartsOf_X3_crossingsOf
set_option maxRecDepth 20000 in
theorem ggX3_loosePartsOf_X3_ribCount : GoodIn wsX3_loosePartsOf wsX3_ribCount := goodIn_r _ [23, 24, 25, 79, 80, 81, 82, 83, 84, 85] (by decide +kernel) (by decide +kernel)
set_option maxRecDepth 20000 in
theorem gX3_loosePartsOf_X3_ribCount : GoodIn wsX3_loosePartsOf (wsV RX3 34 RX3 yX3_ribCount wsX3_ribCount) := goodIn_app (goodIn_of _ (by decide +kernel)) ggX3_loosePartsOf_X3_ribCount
set_option maxRecDepth 20000 in
theorem ggX3_loosePartsOf_X1_hasBit : GoodIn wsX3_loosePartsOf wsX1_hasBit := goodIn_r _ [19] (by decide +kernel) (by decide +kernel)
set_option maxRecDepth 20000 in
theorem gX3_loosePartsOf_X1_hasBit : GoodIn wsX3_loosePartsOf (va_wsS RX3 54 yX1_hasBit wsX1_hasBit) := goodIn_app (goodIn_of _ (by decide +kernel)) ggX3_loosePartsOf_X1_hasBit
set_option maxRecDepth 20000 in
theorem ggX3_loosePartsOf_X2_shifted : GoodIn wsX3_loosePartsOf wsX2_shifted := goodIn_r _ [29] (by decide +kernel) (by decide +kernel)
set_option maxRecDepth 20000 in
theorem gX3_loosePartsOf_X2_shifted : GoodIn wsX3_loosePartsOf (va_wsS RX3 67 yX2_shifted wsX2_shifted) := goodIn_app (goodIn_of _ (by decide +kernel)) ggX3_loosePartsOf_X2_shifted
set_option maxRecDepth 20000 in
theorem ggX3_loosePartsOf_X3_cutOf : GoodIn wsX3_loosePartsOf wsX3_cutOf := goodIn_r _ [33, 1, 2, 3, 4, 5, 6, 7, 8, 9, 10, 11, 12, 13, 14, 15, 16, 17, 18, 19, 20, 21, 22, 23, 24, 25, 34, 35, 36, 37, 38, 39, 40, 41, 42, 43, 44, 45, 46, 47, 48, 49, 50, 51, 52, 53, 54, 55, 56, 57, 58, 59, 60, 61, 62, 63, 64, 65, 66, 26, 27, 28, 29, 79, 80, 81, 82, 83, 84, 85] (by decide +kernel) (by decide +kernel)
set_option maxRecDepth 20000 in
theorem gX3_loosePartsOf_X3_cutOf : GoodIn wsX3_loosePartsOf (wsV RX3 82 RX3 yX3_cutOf wsX3_cutOf) := goodIn_app (goodIn_of _ (by decide +kernel)) ggX3_loosePartsOf_X3_cutOf
set_option maxRecDepth 20000 in
theorem ggX3_loosePartsOf_X2_partsClearOf : GoodIn wsX3_loosePartsOf wsX2_partsClearOf := goodIn_r _ [69, 70, 71, 72, 28, 73, 74, 75, 76, 77, 78] (by decide +kernel) (by decide +kernel)
set_option maxRecDepth 20000 in
theorem gX3_loosePartsOf_X2_partsClearOf : GoodIn wsX3_loosePartsOf (va_wsS RX3 85 yX2_partsClearOf wsX2_partsClearOf) := goodIn_app (goodIn_of _ (by decide +kernel)) ggX3_loosePartsOf_X2_partsClearOf
theorem dX3_loosePartsOf_0 : decode cX3_loosePartsOf 0 = .ok (.aload_n 0, 1) := by decide +kernel
theorem dX3_loosePartsOf_1 : decode cX3_loosePartsOf 1 = .ok (.iload_n 1, 1) := by decide +kernel
theorem dX3_loosePartsOf_2 : decode cX3_loosePartsOf 2 = .ok (.iload_n 2, 1) := by decide +kernel
theorem dX3_loosePartsOf_3 : decode cX3_loosePartsOf 3 = .ok (.invokevirtual 73, 3) := by decide +kernel
theorem dX3_loosePartsOf_6 : decode cX3_loosePartsOf 6 = .ok (.istore_n 3, 1) := by decide +kernel
theorem dX3_loosePartsOf_7 : decode cX3_loosePartsOf 7 = .ok (.lconst 0, 1) := by decide +kernel
theorem dX3_loosePartsOf_8 : decode cX3_loosePartsOf 8 = .ok (.lstore 4, 2) := by decide +kernel
theorem dX3_loosePartsOf_10 : decode cX3_loosePartsOf 10 = .ok (.iconst 0, 1) := by decide +kernel
theorem dX3_loosePartsOf_11 : decode cX3_loosePartsOf 11 = .ok (.istore 6, 2) := by decide +kernel
theorem dX3_loosePartsOf_13 : decode cX3_loosePartsOf 13 = .ok (.iload 6, 2) := by decide +kernel
theorem dX3_loosePartsOf_15 : decode cX3_loosePartsOf 15 = .ok (.aload_n 0, 1) := by decide +kernel
theorem dX3_loosePartsOf_16 : decode cX3_loosePartsOf 16 = .ok (.iconst 1, 1) := by decide +kernel
theorem dX3_loosePartsOf_17 : decode cX3_loosePartsOf 17 = .ok (.iload_n 1, 1) := by decide +kernel
theorem dX3_loosePartsOf_18 : decode cX3_loosePartsOf 18 = .ok (.isub, 1) := by decide +kernel
theorem dX3_loosePartsOf_19 : decode cX3_loosePartsOf 19 = .ok (.invokevirtual 34, 3) := by decide +kernel
theorem dX3_loosePartsOf_22 : decode cX3_loosePartsOf 22 = .ok (.if_icmp .ge 31, 3) := by decide +kernel
theorem dX3_loosePartsOf_25 : decode cX3_loosePartsOf 25 = .ok (.iload_n 3, 1) := by decide +kernel
theorem dX3_loosePartsOf_26 : decode cX3_loosePartsOf 26 = .ok (.iload 6, 2) := by decide +kernel
theorem dX3_loosePartsOf_28 : decode cX3_loosePartsOf 28 = .ok (.invokestatic 54, 3) := by decide +kernel
theorem dX3_loosePartsOf_31 : decode cX3_loosePartsOf 31 = .ok (.ifCond .eq 16, 3) := by decide +kernel
theorem dX3_loosePartsOf_34 : decode cX3_loosePartsOf 34 = .ok (.lload 4, 2) := by decide +kernel
theorem dX3_loosePartsOf_36 : decode cX3_loosePartsOf 36 = .ok (.sipush 255, 3) := by decide +kernel
theorem dX3_loosePartsOf_39 : decode cX3_loosePartsOf 39 = .ok (.iload 6, 2) := by decide +kernel
theorem dX3_loosePartsOf_41 : decode cX3_loosePartsOf 41 = .ok (.invokestatic 67, 3) := by decide +kernel
theorem dX3_loosePartsOf_44 : decode cX3_loosePartsOf 44 = .ok (.lor, 1) := by decide +kernel
theorem dX3_loosePartsOf_45 : decode cX3_loosePartsOf 45 = .ok (.lstore 4, 2) := by decide +kernel
theorem dX3_loosePartsOf_47 : decode cX3_loosePartsOf 47 = .ok (.iinc 6 1, 3) := by decide +kernel
theorem dX3_loosePartsOf_50 : decode cX3_loosePartsOf 50 = .ok (.goto (-37), 3) := by decide +kernel
theorem dX3_loosePartsOf_53 : decode cX3_loosePartsOf 53 = .ok (.aload_n 0, 1) := by decide +kernel
theorem dX3_loosePartsOf_54 : decode cX3_loosePartsOf 54 = .ok (.iload_n 1, 1) := by decide +kernel
theorem dX3_loosePartsOf_55 : decode cX3_loosePartsOf 55 = .ok (.iload_n 2, 1) := by decide +kernel
theorem dX3_loosePartsOf_56 : decode cX3_loosePartsOf 56 = .ok (.invokevirtual 82, 3) := by decide +kernel
theorem dX3_loosePartsOf_59 : decode cX3_loosePartsOf 59 = .ok (.lload 4, 2) := by decide +kernel
theorem dX3_loosePartsOf_61 : decode cX3_loosePartsOf 61 = .ok (.invokestatic 85, 3) := by decide +kernel
theorem dX3_loosePartsOf_64 : decode cX3_loosePartsOf 64 = .ok (.ireturn, 1) := by decide +kernel
set_option maxRecDepth 20000 in
theorem ggX3_crossingsWithRun_X3_crossingsOf : GoodIn wsX3_crossingsWithRun wsX3_crossingsOf := goodIn_r _ [5, 6, 7, 8, 4, 9, 10, 11, 12, 13, 14, 15, 16, 17, 18, 19, 39, 40, 41, 42, 43, 44, 45] (by decide +kernel) (by decide +kernel)
set_option maxRecDepth 20000 in
theorem gX3_crossingsWithRun_X3_crossingsOf : GoodIn wsX3_crossingsWithRun (wsV RX3 73 RX3 yX3_crossingsOf wsX3_crossingsOf) := goodIn_app (goodIn_of _ (by decide +kernel)) ggX3_crossingsWithRun_X3_crossingsOf
set_option maxRecDepth 20000 in
theorem ggX3_crossingsWithRun_X3_ribCount : GoodIn wsX3_crossingsWithRun wsX3_ribCount := goodIn_r _ [23, 24, 25, 39, 40, 41, 42, 43, 44, 45] (by decide +kernel) (by decide +kernel)
set_option maxRecDepth 20000 in
theorem gX3_crossingsWithRun_X3_ribCount : GoodIn wsX3_crossingsWithRun (wsV RX3 34 RX3 yX3_ribCount wsX3_ribCount) := goodIn_app (goodIn_of _ (by decide +kernel)) ggX3_crossingsWithRun_X3_ribCount
set_option maxRecDepth 20000 in
theorem ggX3_crossingsWithRun_X1_hasBit : GoodIn wsX3_crossingsWithRun wsX1_hasBit := goodIn_r _ [19] (by decide +kernel) (by decide +kernel)
set_option maxRecDepth 20000 in
theorem gX3_crossingsWithRun_X1_hasBit : GoodIn wsX3_crossingsWithRun (va_wsS RX3 54 yX1_hasBit wsX1_hasBit) := goodIn_app (goodIn_of _ (by decide +kernel)) ggX3_crossingsWithRun_X1_hasBit
set_option maxRecDepth 20000 in
theorem ggX3_crossingsWithRun_X3_ribColumn : GoodIn wsX3_crossingsWithRun wsX3_ribColumn := goodIn_r _ [29, 30, 31, 32, 4, 33, 34, 35, 36, 37, 38, 24, 25, 39, 40, 41, 42, 43, 44, 45] (by decide +kernel) (by decide +kernel)
set_option maxRecDepth 20000 in
theorem gX3_crossingsWithRun_X3_ribColumn : GoodIn wsX3_crossingsWithRun (wsV RX3 63 RX3 yX3_ribColumn wsX3_ribColumn) := goodIn_app (goodIn_of _ (by decide +kernel)) ggX3_crossingsWithRun_X3_ribColumn
theorem dX3_crossingsWithRun_0 : decode cX3_crossingsWithRun 0 = .ok (.aload_n 0, 1) := by decide +kernel
theorem dX3_crossingsWithRun_1 : decode cX3_crossingsWithRun 1 = .ok (.iload_n 1, 1) := by decide +kernel
theorem dX3_crossingsWithRun_2 : decode cX3_crossingsWithRun 2 = .ok (.iload_n 2, 1) := by decide +kernel
theorem dX3_crossingsWithRun_3 : decode cX3_crossingsWithRun 3 = .ok (.invokevirtual 73, 3) := by decide +kernel
theorem dX3_crossingsWithRun_6 : decode cX3_crossingsWithRun 6 = .ok (.istore_n 3, 1) := by decide +kernel
theorem dX3_crossingsWithRun_7 : decode cX3_crossingsWithRun 7 = .ok (.iconst 0, 1) := by decide +kernel
theorem dX3_crossingsWithRun_8 : decode cX3_crossingsWithRun 8 = .ok (.istore 4, 2) := by decide +kernel
theorem dX3_crossingsWithRun_10 : decode cX3_crossingsWithRun 10 = .ok (.iconst 0, 1) := by decide +kernel
theorem dX3_crossingsWithRun_11 : decode cX3_crossingsWithRun 11 = .ok (.istore 5, 2) := by decide +kernel
theorem dX3_crossingsWithRun_13 : decode cX3_crossingsWithRun 13 = .ok (.iload 5, 2) := by decide +kernel
theorem dX3_crossingsWithRun_15 : decode cX3_crossingsWithRun 15 = .ok (.aload_n 0, 1) := by decide +kernel
theorem dX3_crossingsWithRun_16 : decode cX3_crossingsWithRun 16 = .ok (.iconst 1, 1) := by decide +kernel
theorem dX3_crossingsWithRun_17 : decode cX3_crossingsWithRun 17 = .ok (.iload_n 1, 1) := by decide +kernel
theorem dX3_crossingsWithRun_18 : decode cX3_crossingsWithRun 18 = .ok (.isub, 1) := by decide +kernel
theorem dX3_crossingsWithRun_19 : decode cX3_crossingsWithRun 19 = .ok (.invokevirtual 34, 3) := by decide +kernel
theorem dX3_crossingsWithRun_22 : decode cX3_crossingsWithRun 22 = .ok (.if_icmp .ge 32, 3) := by decide +kernel
theorem dX3_crossingsWithRun_25 : decode cX3_crossingsWithRun 25 = .ok (.iload_n 3, 1) := by decide +kernel
theorem dX3_crossingsWithRun_26 : decode cX3_crossingsWithRun 26 = .ok (.iload 5, 2) := by decide +kernel
theorem dX3_crossingsWithRun_28 : decode cX3_crossingsWithRun 28 = .ok (.invokestatic 54, 3) := by decide +kernel
theorem dX3_crossingsWithRun_31 : decode cX3_crossingsWithRun 31 = .ok (.ifCond .eq 17, 3) := by decide +kernel
theorem dX3_crossingsWithRun_34 : decode cX3_crossingsWithRun 34 = .ok (.aload_n 0, 1) := by decide +kernel
theorem dX3_crossingsWithRun_35 : decode cX3_crossingsWithRun 35 = .ok (.iload_n 1, 1) := by decide +kernel
theorem dX3_crossingsWithRun_36 : decode cX3_crossingsWithRun 36 = .ok (.iload_n 2, 1) := by decide +kernel
theorem dX3_crossingsWithRun_37 : decode cX3_crossingsWithRun 37 = .ok (.iload 5, 2) := by decide +kernel
theorem dX3_crossingsWithRun_39 : decode cX3_crossingsWithRun 39 = .ok (.invokevirtual 63, 3) := by decide +kernel
theorem dX3_crossingsWithRun_42 : decode cX3_crossingsWithRun 42 = .ok (.ifCond .eq 6, 3) := by decide +kernel
theorem dX3_crossingsWithRun_45 : decode cX3_crossingsWithRun 45 = .ok (.iinc 4 1, 3) := by decide +kernel
theorem dX3_crossingsWithRun_48 : decode cX3_crossingsWithRun 48 = .ok (.iinc 5 1, 3) := by decide +kernel
theorem dX3_crossingsWithRun_51 : decode cX3_crossingsWithRun 51 = .ok (.goto (-38), 3) := by decide +kernel
theorem dX3_crossingsWithRun_54 : decode cX3_crossingsWithRun 54 = .ok (.iload 4, 2) := by decide +kernel
theorem dX3_crossingsWithRun_56 : decode cX3_crossingsWithRun 56 = .ok (.ireturn, 1) := by decide +kernel
set_option maxRecDepth 20000 in
theorem ggX3_runsInCrossings_X3_crossingsOf : GoodIn wsX3_runsInCrossings wsX3_crossingsOf := goodIn_r _ [5, 6, 7, 8, 4, 9, 10, 11, 12, 13, 14, 15, 16, 17, 18, 19, 49, 50, 51, 52, 53, 54, 55] (by decide +kernel) (by decide +kernel)
set_option maxRecDepth 20000 in
theorem gX3_runsInCrossings_X3_crossingsOf : GoodIn wsX3_runsInCrossings (wsV RX3 73 RX3 yX3_crossingsOf wsX3_crossingsOf) := goodIn_app (goodIn_of _ (by decide +kernel)) ggX3_runsInCrossings_X3_crossingsOf
set_option maxRecDepth 20000 in
theorem ggX3_runsInCrossings_X3_ribCount : GoodIn wsX3_runsInCrossings wsX3_ribCount := goodIn_r _ [23, 24, 25, 49, 50, 51, 52, 53, 54, 55] (by decide +kernel) (by decide +kernel)
set_option maxRecDepth 20000 in
theorem gX3_runsInCrossings_X3_ribCount : GoodIn wsX3_runsInCrossings (wsV RX3 34 RX3 yX3_ribCount wsX3_ribCount) := goodIn_app (goodIn_of _ (by decide +kernel)) ggX3_runsInCrossings_X3_ribCount
set_option maxRecDepth 20000 in
theorem ggX3_runsInCrossings_X1_hasBit : GoodIn wsX3_runsInCrossings wsX1_hasBit := goodIn_r _ [19] (by decide +kernel) (by decide +kernel)
set_option maxRecDepth 20000 in
theorem gX3_runsInCrossings_X1_hasBit : GoodIn wsX3_runsInCrossings (va_wsS RX3 54 yX1_hasBit wsX1_hasBit) := goodIn_app (goodIn_of _ (by decide +kernel)) ggX3_runsInCrossings_X1_hasBit
set_option maxRecDepth 20000 in
theorem ggX3_runsInCrossings_X3_ribColumn : GoodIn wsX3_runsInCrossings wsX3_ribColumn := goodIn_r _ [29, 30, 31, 32, 4, 33, 34, 35, 36, 37, 38, 24, 25, 49, 50, 51, 52, 53, 54, 55] (by decide +kernel) (by decide +kernel)
set_option maxRecDepth 20000 in
theorem gX3_runsInCrossings_X3_ribColumn : GoodIn wsX3_runsInCrossings (wsV RX3 63 RX3 yX3_ribColumn wsX3_ribColumn) := goodIn_app (goodIn_of _ (by decide +kernel)) ggX3_runsInCrossings_X3_ribColumn
set_option maxRecDepth 20000 in
theorem ggX3_runsInCrossings_X1_runCount : GoodIn wsX3_runsInCrossings wsX1_runCount := goodIn_r _ [41, 42, 43, 44, 45, 46, 47, 48] (by decide +kernel) (by decide +kernel)
set_option maxRecDepth 20000 in
theorem gX3_runsInCrossings_X1_runCount : GoodIn wsX3_runsInCrossings (va_wsS RX3 60 yX1_runCount wsX1_runCount) := goodIn_app (goodIn_of _ (by decide +kernel)) ggX3_runsInCrossings_X1_runCount
theorem dX3_runsInCrossings_0 : decode cX3_runsInCrossings 0 = .ok (.aload_n 0, 1) := by decide +kernel
theorem dX3_runsInCrossings_1 : decode cX3_runsInCrossings 1 = .ok (.iload_n 1, 1) := by decide +kernel
theorem dX3_runsInCrossings_2 : decode cX3_runsInCrossings 2 = .ok (.iload_n 2, 1) := by decide +kernel
theorem dX3_runsInCrossings_3 : decode cX3_runsInCrossings 3 = .ok (.invokevirtual 73, 3) := by decide +kernel
theorem dX3_runsInCrossings_6 : decode cX3_runsInCrossings 6 = .ok (.istore_n 3, 1) := by decide +kernel
theorem dX3_runsInCrossings_7 : decode cX3_runsInCrossings 7 = .ok (.iconst 0, 1) := by decide +kernel
theorem dX3_runsInCrossings_8 : decode cX3_runsInCrossings 8 = .ok (.istore 4, 2) := by decide +kernel
theorem dX3_runsInCrossings_10 : decode cX3_runsInCrossings 10 = .ok (.iconst 0, 1) := by decide +kernel
theorem dX3_runsInCrossings_11 : decode cX3_runsInCrossings 11 = .ok (.istore 5, 2) := by decide +kernel
theorem dX3_runsInCrossings_13 : decode cX3_runsInCrossings 13 = .ok (.iload 5, 2) := by decide +kernel
theorem dX3_runsInCrossings_15 : decode cX3_runsInCrossings 15 = .ok (.aload_n 0, 1) := by decide +kernel
theorem dX3_runsInCrossings_16 : decode cX3_runsInCrossings 16 = .ok (.iconst 1, 1) := by decide +kernel
theorem dX3_runsInCrossings_17 : decode cX3_runsInCrossings 17 = .ok (.iload_n 1, 1) := by decide +kernel
theorem dX3_runsInCrossings_18 : decode cX3_runsInCrossings 18 = .ok (.isub, 1) := by decide +kernel
theorem dX3_runsInCrossings_19 : decode cX3_runsInCrossings 19 = .ok (.invokevirtual 34, 3) := by decide +kernel
theorem dX3_runsInCrossings_22 : decode cX3_runsInCrossings 22 = .ok (.if_icmp .ge 34, 3) := by decide +kernel
theorem dX3_runsInCrossings_25 : decode cX3_runsInCrossings 25 = .ok (.iload_n 3, 1) := by decide +kernel
theorem dX3_runsInCrossings_26 : decode cX3_runsInCrossings 26 = .ok (.iload 5, 2) := by decide +kernel
theorem dX3_runsInCrossings_28 : decode cX3_runsInCrossings 28 = .ok (.invokestatic 54, 3) := by decide +kernel
theorem dX3_runsInCrossings_31 : decode cX3_runsInCrossings 31 = .ok (.ifCond .eq 19, 3) := by decide +kernel
theorem dX3_runsInCrossings_34 : decode cX3_runsInCrossings 34 = .ok (.iload 4, 2) := by decide +kernel
theorem dX3_runsInCrossings_36 : decode cX3_runsInCrossings 36 = .ok (.aload_n 0, 1) := by decide +kernel
theorem dX3_runsInCrossings_37 : decode cX3_runsInCrossings 37 = .ok (.iload_n 1, 1) := by decide +kernel
theorem dX3_runsInCrossings_38 : decode cX3_runsInCrossings 38 = .ok (.iload_n 2, 1) := by decide +kernel
theorem dX3_runsInCrossings_39 : decode cX3_runsInCrossings 39 = .ok (.iload 5, 2) := by decide +kernel
theorem dX3_runsInCrossings_41 : decode cX3_runsInCrossings 41 = .ok (.invokevirtual 63, 3) := by decide +kernel
theorem dX3_runsInCrossings_44 : decode cX3_runsInCrossings 44 = .ok (.invokestatic 60, 3) := by decide +kernel
theorem dX3_runsInCrossings_47 : decode cX3_runsInCrossings 47 = .ok (.iadd, 1) := by decide +kernel
theorem dX3_runsInCrossings_48 : decode cX3_runsInCrossings 48 = .ok (.istore 4, 2) := by decide +kernel
theorem dX3_runsInCrossings_50 : decode cX3_runsInCrossings 50 = .ok (.iinc 5 1, 3) := by decide +kernel
theorem dX3_runsInCrossings_53 : decode cX3_runsInCrossings 53 = .ok (.goto (-40), 3) := by decide +kernel
theorem dX3_runsInCrossings_56 : decode cX3_runsInCrossings 56 = .ok (.iload 4, 2) := by decide +kernel
theorem dX3_runsInCrossings_58 : decode cX3_runsInCrossings 58 = .ok (.ireturn, 1) := by decide +kernel
set_option maxRecDepth 20000 in
theorem ggX3_cubesOfCuts_X3_ribCount : GoodIn wsX3_cubesOfCuts wsX3_ribCount := goodIn_r _ [5, 6, 7, 74, 75, 76, 77, 78, 79, 80] (by decide +kernel) (by decide +kernel)
set_option maxRecDepth 20000 in
theorem gX3_cubesOfCuts_X3_ribCount : GoodIn wsX3_cubesOfCuts (wsV RX3 34 RX3 yX3_ribCount wsX3_ribCount) := goodIn_app (goodIn_of _ (by decide +kernel)) ggX3_cubesOfCuts_X3_ribCount
set_option maxRecDepth 20000 in
theorem ggX3_cubesOfCuts_X3_isChosen : GoodIn wsX3_cubesOfCuts wsX3_isChosen := goodIn_r _ [11, 12, 13, 14, 4, 15, 16, 17, 18, 19, 20, 21, 74, 75, 76, 77, 78, 79, 80] (by decide +kernel) (by decide +kernel)
set_option maxRecDepth 20000 in
theorem gX3_cubesOfCuts_X3_isChosen : GoodIn wsX3_cubesOfCuts (wsV RX3 57 RX3 yX3_isChosen wsX3_isChosen) := goodIn_app (goodIn_of _ (by decide +kernel)) ggX3_cubesOfCuts_X3_isChosen
set_option maxRecDepth 20000 in
theorem ggX3_cubesOfCuts_X3_cutOf : GoodIn wsX3_cubesOfCuts wsX3_cutOf := goodIn_r _ [25, 26, 27, 28, 4, 29, 8, 9, 10, 11, 12, 13, 14, 15, 16, 17, 18, 19, 20, 21, 1, 2, 3, 5, 6, 7, 30, 31, 32, 33, 34, 35, 36, 37, 38, 39, 40, 41, 42, 43, 44, 45, 46, 47, 48, 49, 50, 51, 52, 53, 54, 55, 56, 57, 58, 59, 60, 61, 62, 63, 64, 65, 66, 74, 75, 76, 77, 78, 79, 80] (by decide +kernel) (by decide +kernel)
set_option maxRecDepth 20000 in
theorem gX3_cubesOfCuts_X3_cutOf : GoodIn wsX3_cubesOfCuts (wsV RX3 82 RX3 yX3_cutOf wsX3_cutOf) := goodIn_app (goodIn_of _ (by decide +kernel)) ggX3_cubesOfCuts_X3_cutOf
set_option maxRecDepth 20000 in
theorem ggX3_cubesOfCuts_J13_bitCount_95d88 : GoodIn wsX3_cubesOfCuts wsJ13_bitCount_95d88 := goodIn_r _ [70, 71, 72, 73] (by decide +kernel) (by decide +kernel)
set_option maxRecDepth 20000 in
theorem gX3_cubesOfCuts_J13_bitCount_95d88 : GoodIn wsX3_cubesOfCuts (va_wsS RX3 89 yJ13_bitCount_95d88 wsJ13_bitCount_95d88) := goodIn_app (goodIn_of _ (by decide +kernel)) ggX3_cubesOfCuts_J13_bitCount_95d88
theorem dX3_cubesOfCuts_0 : decode cX3_cubesOfCuts 0 = .ok (.iconst 0, 1) := by decide +kernel
theorem dX3_cubesOfCuts_1 : decode cX3_cubesOfCuts 1 = .ok (.istore_n 1, 1) := by decide +kernel
theorem dX3_cubesOfCuts_2 : decode cX3_cubesOfCuts 2 = .ok (.iconst 0, 1) := by decide +kernel
theorem dX3_cubesOfCuts_3 : decode cX3_cubesOfCuts 3 = .ok (.istore_n 2, 1) := by decide +kernel
theorem dX3_cubesOfCuts_4 : decode cX3_cubesOfCuts 4 = .ok (.iload_n 2, 1) := by decide +kernel
theorem dX3_cubesOfCuts_5 : decode cX3_cubesOfCuts 5 = .ok (.iconst 2, 1) := by decide +kernel
theorem dX3_cubesOfCuts_6 : decode cX3_cubesOfCuts 6 = .ok (.if_icmp .ge 51, 3) := by decide +kernel
theorem dX3_cubesOfCuts_9 : decode cX3_cubesOfCuts 9 = .ok (.iconst 0, 1) := by decide +kernel
theorem dX3_cubesOfCuts_10 : decode cX3_cubesOfCuts 10 = .ok (.istore_n 3, 1) := by decide +kernel
theorem dX3_cubesOfCuts_11 : decode cX3_cubesOfCuts 11 = .ok (.iload_n 3, 1) := by decide +kernel
theorem dX3_cubesOfCuts_12 : decode cX3_cubesOfCuts 12 = .ok (.aload_n 0, 1) := by decide +kernel
theorem dX3_cubesOfCuts_13 : decode cX3_cubesOfCuts 13 = .ok (.iload_n 2, 1) := by decide +kernel
theorem dX3_cubesOfCuts_14 : decode cX3_cubesOfCuts 14 = .ok (.invokevirtual 34, 3) := by decide +kernel
theorem dX3_cubesOfCuts_17 : decode cX3_cubesOfCuts 17 = .ok (.if_icmp .ge 34, 3) := by decide +kernel
theorem dX3_cubesOfCuts_20 : decode cX3_cubesOfCuts 20 = .ok (.iload_n 1, 1) := by decide +kernel
theorem dX3_cubesOfCuts_21 : decode cX3_cubesOfCuts 21 = .ok (.aload_n 0, 1) := by decide +kernel
theorem dX3_cubesOfCuts_22 : decode cX3_cubesOfCuts 22 = .ok (.iload_n 2, 1) := by decide +kernel
theorem dX3_cubesOfCuts_23 : decode cX3_cubesOfCuts 23 = .ok (.iload_n 3, 1) := by decide +kernel
theorem dX3_cubesOfCuts_24 : decode cX3_cubesOfCuts 24 = .ok (.invokevirtual 57, 3) := by decide +kernel
theorem dX3_cubesOfCuts_27 : decode cX3_cubesOfCuts 27 = .ok (.ifCond .eq 15, 3) := by decide +kernel
theorem dX3_cubesOfCuts_30 : decode cX3_cubesOfCuts 30 = .ok (.aload_n 0, 1) := by decide +kernel
theorem dX3_cubesOfCuts_31 : decode cX3_cubesOfCuts 31 = .ok (.iload_n 2, 1) := by decide +kernel
theorem dX3_cubesOfCuts_32 : decode cX3_cubesOfCuts 32 = .ok (.iload_n 3, 1) := by decide +kernel
theorem dX3_cubesOfCuts_33 : decode cX3_cubesOfCuts 33 = .ok (.invokevirtual 82, 3) := by decide +kernel
theorem dX3_cubesOfCuts_36 : decode cX3_cubesOfCuts 36 = .ok (.invokestatic 89, 3) := by decide +kernel
theorem dX3_cubesOfCuts_39 : decode cX3_cubesOfCuts 39 = .ok (.goto 4, 3) := by decide +kernel
theorem dX3_cubesOfCuts_42 : decode cX3_cubesOfCuts 42 = .ok (.iconst 0, 1) := by decide +kernel
theorem dX3_cubesOfCuts_43 : decode cX3_cubesOfCuts 43 = .ok (.iadd, 1) := by decide +kernel
theorem dX3_cubesOfCuts_44 : decode cX3_cubesOfCuts 44 = .ok (.istore_n 1, 1) := by decide +kernel
theorem dX3_cubesOfCuts_45 : decode cX3_cubesOfCuts 45 = .ok (.iinc 3 1, 3) := by decide +kernel
theorem dX3_cubesOfCuts_48 : decode cX3_cubesOfCuts 48 = .ok (.goto (-37), 3) := by decide +kernel
theorem dX3_cubesOfCuts_51 : decode cX3_cubesOfCuts 51 = .ok (.iinc 2 1, 3) := by decide +kernel
theorem dX3_cubesOfCuts_54 : decode cX3_cubesOfCuts 54 = .ok (.goto (-50), 3) := by decide +kernel
theorem dX3_cubesOfCuts_57 : decode cX3_cubesOfCuts 57 = .ok (.iload_n 1, 1) := by decide +kernel
theorem dX3_cubesOfCuts_58 : decode cX3_cubesOfCuts 58 = .ok (.ireturn, 1) := by decide +kernel
set_option maxRecDepth 20000 in
theorem ggX3_looseParts_X3_ribCount : GoodIn wsX3_looseParts wsX3_ribCount := goodIn_r _ [5, 6, 7, 83, 84, 85, 86, 87, 88, 89] (by decide +kernel) (by decide +kernel)
set_option maxRecDepth 20000 in
theorem gX3_looseParts_X3_ribCount : GoodIn wsX3_looseParts (wsV RX3 34 RX3 yX3_ribCount wsX3_ribCount) := goodIn_app (goodIn_of _ (by decide +kernel)) ggX3_looseParts_X3_ribCount
set_option maxRecDepth 20000 in
theorem ggX3_looseParts_X3_isChosen : GoodIn wsX3_looseParts wsX3_isChosen := goodIn_r _ [11, 12, 13, 14, 4, 15, 16, 17, 18, 19, 20, 21, 83, 84, 85, 86, 87, 88, 89] (by decide +kernel) (by decide +kernel)
set_option maxRecDepth 20000 in
theorem gX3_looseParts_X3_isChosen : GoodIn wsX3_looseParts (wsV RX3 57 RX3 yX3_isChosen wsX3_isChosen) := goodIn_app (goodIn_of _ (by decide +kernel)) ggX3_looseParts_X3_isChosen
set_option maxRecDepth 20000 in
theorem ggX3_looseParts_X3_loosePartsOf : GoodIn wsX3_looseParts wsX3_loosePartsOf := goodIn_r _ [25, 26, 27, 28, 4, 29, 8, 9, 10, 11, 12, 13, 14, 15, 16, 17, 18, 19, 20, 21, 1, 2, 3, 5, 6, 7, 30, 31, 32, 33, 34, 35, 36, 37, 38, 39, 40, 41, 42, 43, 44, 45, 46, 47, 48, 49, 50, 51, 52, 53, 54, 55, 56, 57, 58, 59, 60, 61, 62, 63, 64, 65, 66, 67, 68, 69, 70, 71, 72, 73, 74, 75, 76, 77, 78, 79, 80, 81, 82, 83, 84, 85, 86, 87, 88, 89] (by decide +kernel) (by decide +kernel)
set_option maxRecDepth 20000 in
theorem gX3_looseParts_X3_loosePartsOf : GoodIn wsX3_looseParts (wsV RX3 94 RX3 yX3_loosePartsOf wsX3_loosePartsOf) := goodIn_app (goodIn_of _ (by decide +kernel)) ggX3_looseParts_X3_loosePartsOf
theorem dX3_looseParts_0 : decode cX3_looseParts 0 = .ok (.iconst 0, 1) := by decide +kernel
theorem dX3_looseParts_1 : decode cX3_looseParts 1 = .ok (.istore_n 1, 1) := by decide +kernel
theorem dX3_looseParts_2 : decode cX3_looseParts 2 = .ok (.iconst 0, 1) := by decide +kernel
theorem dX3_looseParts_3 : decode cX3_looseParts 3 = .ok (.istore_n 2, 1) := by decide +kernel
theorem dX3_looseParts_4 : decode cX3_looseParts 4 = .ok (.iload_n 2, 1) := by decide +kernel
theorem dX3_looseParts_5 : decode cX3_looseParts 5 = .ok (.iconst 2, 1) := by decide +kernel
theorem dX3_looseParts_6 : decode cX3_looseParts 6 = .ok (.if_icmp .ge 48, 3) := by decide +kernel
theorem dX3_looseParts_9 : decode cX3_looseParts 9 = .ok (.iconst 0, 1) := by decide +kernel
theorem dX3_looseParts_10 : decode cX3_looseParts 10 = .ok (.istore_n 3, 1) := by decide +kernel
theorem dX3_looseParts_11 : decode cX3_looseParts 11 = .ok (.iload_n 3, 1) := by decide +kernel
theorem dX3_looseParts_12 : decode cX3_looseParts 12 = .ok (.aload_n 0, 1) := by decide +kernel
theorem dX3_looseParts_13 : decode cX3_looseParts 13 = .ok (.iload_n 2, 1) := by decide +kernel
theorem dX3_looseParts_14 : decode cX3_looseParts 14 = .ok (.invokevirtual 34, 3) := by decide +kernel
theorem dX3_looseParts_17 : decode cX3_looseParts 17 = .ok (.if_icmp .ge 31, 3) := by decide +kernel
theorem dX3_looseParts_20 : decode cX3_looseParts 20 = .ok (.iload_n 1, 1) := by decide +kernel
theorem dX3_looseParts_21 : decode cX3_looseParts 21 = .ok (.aload_n 0, 1) := by decide +kernel
theorem dX3_looseParts_22 : decode cX3_looseParts 22 = .ok (.iload_n 2, 1) := by decide +kernel
theorem dX3_looseParts_23 : decode cX3_looseParts 23 = .ok (.iload_n 3, 1) := by decide +kernel
theorem dX3_looseParts_24 : decode cX3_looseParts 24 = .ok (.invokevirtual 57, 3) := by decide +kernel
theorem dX3_looseParts_27 : decode cX3_looseParts 27 = .ok (.ifCond .eq 12, 3) := by decide +kernel
theorem dX3_looseParts_30 : decode cX3_looseParts 30 = .ok (.aload_n 0, 1) := by decide +kernel
theorem dX3_looseParts_31 : decode cX3_looseParts 31 = .ok (.iload_n 2, 1) := by decide +kernel
theorem dX3_looseParts_32 : decode cX3_looseParts 32 = .ok (.iload_n 3, 1) := by decide +kernel
theorem dX3_looseParts_33 : decode cX3_looseParts 33 = .ok (.invokevirtual 94, 3) := by decide +kernel
theorem dX3_looseParts_36 : decode cX3_looseParts 36 = .ok (.goto 4, 3) := by decide +kernel
theorem dX3_looseParts_39 : decode cX3_looseParts 39 = .ok (.iconst 0, 1) := by decide +kernel
theorem dX3_looseParts_40 : decode cX3_looseParts 40 = .ok (.iadd, 1) := by decide +kernel
theorem dX3_looseParts_41 : decode cX3_looseParts 41 = .ok (.istore_n 1, 1) := by decide +kernel
theorem dX3_looseParts_42 : decode cX3_looseParts 42 = .ok (.iinc 3 1, 3) := by decide +kernel
theorem dX3_looseParts_45 : decode cX3_looseParts 45 = .ok (.goto (-34), 3) := by decide +kernel
theorem dX3_looseParts_48 : decode cX3_looseParts 48 = .ok (.iinc 2 1, 3) := by decide +kernel
theorem dX3_looseParts_51 : decode cX3_looseParts 51 = .ok (.goto (-47), 3) := by decide +kernel
theorem dX3_looseParts_54 : decode cX3_looseParts 54 = .ok (.iload_n 1, 1) := by decide +kernel
theorem dX3_looseParts_55 : decode cX3_looseParts 55 = .ok (.ireturn, 1) := by decide +kernel
set_option maxRecDepth 20000 in
theorem ggX3_coveredCubes_X3_isChosen : GoodIn wsX3_coveredCubes wsX3_isChosen := goodIn_r _ [7, 8, 9, 10, 6, 11, 12, 13, 14, 15, 16, 17, 34, 35, 36, 37, 38, 39, 40] (by decide +kernel) (by decide +kernel)
set_option maxRecDepth 20000 in
theorem gX3_coveredCubes_X3_isChosen : GoodIn wsX3_coveredCubes (wsV RX3 57 RX3 yX3_isChosen wsX3_isChosen) := goodIn_app (goodIn_of _ (by decide +kernel)) ggX3_coveredCubes_X3_isChosen
set_option maxRecDepth 20000 in
theorem ggX3_coveredCubes_X3_columnAt : GoodIn wsX3_coveredCubes wsX3_columnAt := goodIn_r _ [21, 22, 23, 24, 25, 6, 26, 1, 2, 34, 35, 36, 37, 38, 39, 40] (by decide +kernel) (by decide +kernel)
set_option maxRecDepth 20000 in
theorem gX3_coveredCubes_X3_columnAt : GoodIn wsX3_coveredCubes (wsV RX3 42 RX3 yX3_columnAt wsX3_columnAt) := goodIn_app (goodIn_of _ (by decide +kernel)) ggX3_coveredCubes_X3_columnAt
set_option maxRecDepth 20000 in
theorem ggX3_coveredCubes_J6_bitCount_0f7a4 : GoodIn wsX3_coveredCubes wsJ6_bitCount_0f7a4 := goodIn_r _ [30, 31, 32, 33] (by decide +kernel) (by decide +kernel)
set_option maxRecDepth 20000 in
theorem gX3_coveredCubes_J6_bitCount_0f7a4 : GoodIn wsX3_coveredCubes (va_wsS RX3 46 yJ6_bitCount_0f7a4 wsJ6_bitCount_0f7a4) := goodIn_app (goodIn_of _ (by decide +kernel)) ggX3_coveredCubes_J6_bitCount_0f7a4
theorem dX3_coveredCubes_0 : decode cX3_coveredCubes 0 = .ok (.iconst 0, 1) := by decide +kernel
theorem dX3_coveredCubes_1 : decode cX3_coveredCubes 1 = .ok (.istore_n 1, 1) := by decide +kernel
theorem dX3_coveredCubes_2 : decode cX3_coveredCubes 2 = .ok (.iconst 0, 1) := by decide +kernel
theorem dX3_coveredCubes_3 : decode cX3_coveredCubes 3 = .ok (.istore_n 2, 1) := by decide +kernel
theorem dX3_coveredCubes_4 : decode cX3_coveredCubes 4 = .ok (.iload_n 2, 1) := by decide +kernel
theorem dX3_coveredCubes_5 : decode cX3_coveredCubes 5 = .ok (.aload_n 0, 1) := by decide +kernel
theorem dX3_coveredCubes_6 : decode cX3_coveredCubes 6 = .ok (.getfield 18, 3) := by decide +kernel
theorem dX3_coveredCubes_9 : decode cX3_coveredCubes 9 = .ok (.if_icmp .ge 55, 3) := by decide +kernel
theorem dX3_coveredCubes_12 : decode cX3_coveredCubes 12 = .ok (.iconst 0, 1) := by decide +kernel
theorem dX3_coveredCubes_13 : decode cX3_coveredCubes 13 = .ok (.istore_n 3, 1) := by decide +kernel
theorem dX3_coveredCubes_14 : decode cX3_coveredCubes 14 = .ok (.iload_n 3, 1) := by decide +kernel
theorem dX3_coveredCubes_15 : decode cX3_coveredCubes 15 = .ok (.aload_n 0, 1) := by decide +kernel
theorem dX3_coveredCubes_16 : decode cX3_coveredCubes 16 = .ok (.getfield 22, 3) := by decide +kernel
theorem dX3_coveredCubes_19 : decode cX3_coveredCubes 19 = .ok (.if_icmp .ge 39, 3) := by decide +kernel
theorem dX3_coveredCubes_22 : decode cX3_coveredCubes 22 = .ok (.aload_n 0, 1) := by decide +kernel
theorem dX3_coveredCubes_23 : decode cX3_coveredCubes 23 = .ok (.iconst 0, 1) := by decide +kernel
theorem dX3_coveredCubes_24 : decode cX3_coveredCubes 24 = .ok (.iload_n 2, 1) := by decide +kernel
theorem dX3_coveredCubes_25 : decode cX3_coveredCubes 25 = .ok (.invokevirtual 57, 3) := by decide +kernel
theorem dX3_coveredCubes_28 : decode cX3_coveredCubes 28 = .ok (.ifCond .ne 12, 3) := by decide +kernel
theorem dX3_coveredCubes_31 : decode cX3_coveredCubes 31 = .ok (.aload_n 0, 1) := by decide +kernel
theorem dX3_coveredCubes_32 : decode cX3_coveredCubes 32 = .ok (.iconst 1, 1) := by decide +kernel
theorem dX3_coveredCubes_33 : decode cX3_coveredCubes 33 = .ok (.iload_n 3, 1) := by decide +kernel
theorem dX3_coveredCubes_34 : decode cX3_coveredCubes 34 = .ok (.invokevirtual 57, 3) := by decide +kernel
theorem dX3_coveredCubes_37 : decode cX3_coveredCubes 37 = .ok (.ifCond .eq 15, 3) := by decide +kernel
theorem dX3_coveredCubes_40 : decode cX3_coveredCubes 40 = .ok (.iload_n 1, 1) := by decide +kernel
theorem dX3_coveredCubes_41 : decode cX3_coveredCubes 41 = .ok (.aload_n 0, 1) := by decide +kernel
theorem dX3_coveredCubes_42 : decode cX3_coveredCubes 42 = .ok (.iload_n 2, 1) := by decide +kernel
theorem dX3_coveredCubes_43 : decode cX3_coveredCubes 43 = .ok (.iload_n 3, 1) := by decide +kernel
theorem dX3_coveredCubes_44 : decode cX3_coveredCubes 44 = .ok (.invokevirtual 42, 3) := by decide +kernel
theorem dX3_coveredCubes_47 : decode cX3_coveredCubes 47 = .ok (.invokestatic 46, 3) := by decide +kernel
theorem dX3_coveredCubes_50 : decode cX3_coveredCubes 50 = .ok (.iadd, 1) := by decide +kernel
theorem dX3_coveredCubes_51 : decode cX3_coveredCubes 51 = .ok (.istore_n 1, 1) := by decide +kernel
theorem dX3_coveredCubes_52 : decode cX3_coveredCubes 52 = .ok (.iinc 3 1, 3) := by decide +kernel
theorem dX3_coveredCubes_55 : decode cX3_coveredCubes 55 = .ok (.goto (-41), 3) := by decide +kernel
theorem dX3_coveredCubes_58 : decode cX3_coveredCubes 58 = .ok (.iinc 2 1, 3) := by decide +kernel
theorem dX3_coveredCubes_61 : decode cX3_coveredCubes 61 = .ok (.goto (-57), 3) := by decide +kernel
theorem dX3_coveredCubes_64 : decode cX3_coveredCubes 64 = .ok (.iload_n 1, 1) := by decide +kernel
theorem dX3_coveredCubes_65 : decode cX3_coveredCubes 65 = .ok (.ireturn, 1) := by decide +kernel
set_option maxRecDepth 20000 in
theorem ggX3_chooseBest_J6_bitCount_0f7a4 : GoodIn wsX3_chooseBest wsJ6_bitCount_0f7a4 := goodIn_r _ [8, 9, 10, 11] (by decide +kernel) (by decide +kernel)
set_option maxRecDepth 20000 in
theorem gX3_chooseBest_J6_bitCount_0f7a4 : GoodIn wsX3_chooseBest (va_wsS RX3 46 yJ6_bitCount_0f7a4 wsJ6_bitCount_0f7a4) := goodIn_app (goodIn_of _ (by decide +kernel)) ggX3_chooseBest_J6_bitCount_0f7a4
set_option maxRecDepth 20000 in
theorem ggX3_chooseBest_X3_reckonGains : GoodIn wsX3_chooseBest wsX3_reckonGains := goodIn_r _ [16, 17, 18, 2, 19, 20, 21, 22, 23, 24, 25, 15, 26, 27, 28, 29, 30, 31, 5, 6, 7, 8, 9, 10, 11, 32, 33, 34, 35, 36, 37, 38, 39, 75, 76, 77, 78, 79, 80, 81] (by decide +kernel) (by decide +kernel)
set_option maxRecDepth 20000 in
theorem gX3_chooseBest_X3_reckonGains : GoodIn wsX3_chooseBest (wsV RX3 98 RX3 yX3_reckonGains wsX3_reckonGains) := goodIn_app (goodIn_of _ (by decide +kernel)) ggX3_chooseBest_X3_reckonGains
set_option maxRecDepth 20000 in
theorem ggX3_chooseBest_X3_greatestGains : GoodIn wsX3_chooseBest wsX3_greatestGains := goodIn_r _ [43, 17, 18, 19, 20, 21, 22, 75, 76, 77, 78, 79, 80, 81] (by decide +kernel) (by decide +kernel)
set_option maxRecDepth 20000 in
theorem gX3_chooseBest_X3_greatestGains : GoodIn wsX3_chooseBest (wsV RX3 102 RX3 yX3_greatestGains wsX3_greatestGains) := goodIn_app (goodIn_of _ (by decide +kernel)) ggX3_chooseBest_X3_greatestGains
set_option maxRecDepth 20000 in
theorem ggX3_chooseBest_X3_worthAlone : GoodIn wsX3_chooseBest wsX3_worthAlone := goodIn_r _ [47, 2, 19, 20, 21, 22, 48, 49, 50, 15, 51, 52, 53, 54, 55, 17, 56, 57, 58, 59, 23, 24, 25, 26, 27, 28, 29, 30, 31, 60, 61, 62, 63, 64, 65, 66, 67, 68, 69, 70, 75, 76, 77, 78, 79, 80, 81] (by decide +kernel) (by decide +kernel)
set_option maxRecDepth 20000 in
theorem gX3_chooseBest_X3_worthAlone : GoodIn wsX3_chooseBest (wsV RX3 105 RX3 yX3_worthAlone wsX3_worthAlone) := goodIn_app (goodIn_of _ (by decide +kernel)) ggX3_chooseBest_X3_worthAlone
set_option maxRecDepth 20000 in
theorem ggX3_chooseBest_X3_sumOfGains : GoodIn wsX3_chooseBest wsX3_sumOfGains := goodIn_r _ [74, 17, 18, 19, 20, 21, 22, 75, 76, 77, 78, 79, 80, 81] (by decide +kernel) (by decide +kernel)
set_option maxRecDepth 20000 in
theorem gX3_chooseBest_X3_sumOfGains : GoodIn wsX3_chooseBest (wsV RX3 108 RX3 yX3_sumOfGains wsX3_sumOfGains) := goodIn_app (goodIn_of _ (by decide +kernel)) ggX3_chooseBest_X3_sumOfGains
theorem dX3_chooseBest_0 : decode cX3_chooseBest 0 = .ok (.iconst 0, 1) := by decide +kernel
theorem dX3_chooseBest_1 : decode cX3_chooseBest 1 = .ok (.istore_n 3, 1) := by decide +kernel
theorem dX3_chooseBest_2 : decode cX3_chooseBest 2 = .ok (.iconst 0, 1) := by decide +kernel
theorem dX3_chooseBest_3 : decode cX3_chooseBest 3 = .ok (.istore 4, 2) := by decide +kernel
theorem dX3_chooseBest_5 : decode cX3_chooseBest 5 = .ok (.ldc 97, 2) := by decide +kernel
theorem dX3_chooseBest_7 : decode cX3_chooseBest 7 = .ok (.istore 5, 2) := by decide +kernel
theorem dX3_chooseBest_9 : decode cX3_chooseBest 9 = .ok (.iconst 0, 1) := by decide +kernel
theorem dX3_chooseBest_10 : decode cX3_chooseBest 10 = .ok (.istore 6, 2) := by decide +kernel
theorem dX3_chooseBest_12 : decode cX3_chooseBest 12 = .ok (.iload 6, 2) := by decide +kernel
theorem dX3_chooseBest_14 : decode cX3_chooseBest 14 = .ok (.iconst 1, 1) := by decide +kernel
theorem dX3_chooseBest_15 : decode cX3_chooseBest 15 = .ok (.aload_n 0, 1) := by decide +kernel
theorem dX3_chooseBest_16 : decode cX3_chooseBest 16 = .ok (.getfield 18, 3) := by decide +kernel
theorem dX3_chooseBest_19 : decode cX3_chooseBest 19 = .ok (.ishl, 1) := by decide +kernel
theorem dX3_chooseBest_20 : decode cX3_chooseBest 20 = .ok (.if_icmp .ge 64, 3) := by decide +kernel
theorem dX3_chooseBest_23 : decode cX3_chooseBest 23 = .ok (.iload 6, 2) := by decide +kernel
theorem dX3_chooseBest_25 : decode cX3_chooseBest 25 = .ok (.invokestatic 46, 3) := by decide +kernel
theorem dX3_chooseBest_28 : decode cX3_chooseBest 28 = .ok (.iload_n 1, 1) := by decide +kernel
theorem dX3_chooseBest_29 : decode cX3_chooseBest 29 = .ok (.if_icmp .ne 49, 3) := by decide +kernel
theorem dX3_chooseBest_32 : decode cX3_chooseBest 32 = .ok (.aload_n 0, 1) := by decide +kernel
theorem dX3_chooseBest_33 : decode cX3_chooseBest 33 = .ok (.iload 6, 2) := by decide +kernel
theorem dX3_chooseBest_35 : decode cX3_chooseBest 35 = .ok (.invokevirtual 98, 3) := by decide +kernel
theorem dX3_chooseBest_38 : decode cX3_chooseBest 38 = .ok (.aload_n 0, 1) := by decide +kernel
theorem dX3_chooseBest_39 : decode cX3_chooseBest 39 = .ok (.iload_n 2, 1) := by decide +kernel
theorem dX3_chooseBest_40 : decode cX3_chooseBest 40 = .ok (.invokevirtual 102, 3) := by decide +kernel
theorem dX3_chooseBest_43 : decode cX3_chooseBest 43 = .ok (.istore 7, 2) := by decide +kernel
theorem dX3_chooseBest_45 : decode cX3_chooseBest 45 = .ok (.aload_n 0, 1) := by decide +kernel
theorem dX3_chooseBest_46 : decode cX3_chooseBest 46 = .ok (.iload 6, 2) := by decide +kernel
theorem dX3_chooseBest_48 : decode cX3_chooseBest 48 = .ok (.invokevirtual 105, 3) := by decide +kernel
theorem dX3_chooseBest_51 : decode cX3_chooseBest 51 = .ok (.aload_n 0, 1) := by decide +kernel
theorem dX3_chooseBest_52 : decode cX3_chooseBest 52 = .ok (.iload 7, 2) := by decide +kernel
theorem dX3_chooseBest_54 : decode cX3_chooseBest 54 = .ok (.invokevirtual 108, 3) := by decide +kernel
theorem dX3_chooseBest_57 : decode cX3_chooseBest 57 = .ok (.iadd, 1) := by decide +kernel
theorem dX3_chooseBest_58 : decode cX3_chooseBest 58 = .ok (.istore 8, 2) := by decide +kernel
theorem dX3_chooseBest_60 : decode cX3_chooseBest 60 = .ok (.iload 8, 2) := by decide +kernel
theorem dX3_chooseBest_62 : decode cX3_chooseBest 62 = .ok (.iload 5, 2) := by decide +kernel
theorem dX3_chooseBest_64 : decode cX3_chooseBest 64 = .ok (.if_icmp .le 14, 3) := by decide +kernel
theorem dX3_chooseBest_67 : decode cX3_chooseBest 67 = .ok (.iload 8, 2) := by decide +kernel
theorem dX3_chooseBest_69 : decode cX3_chooseBest 69 = .ok (.istore 5, 2) := by decide +kernel
theorem dX3_chooseBest_71 : decode cX3_chooseBest 71 = .ok (.iload 6, 2) := by decide +kernel
theorem dX3_chooseBest_73 : decode cX3_chooseBest 73 = .ok (.istore_n 3, 1) := by decide +kernel
theorem dX3_chooseBest_74 : decode cX3_chooseBest 74 = .ok (.iload 7, 2) := by decide +kernel
theorem dX3_chooseBest_76 : decode cX3_chooseBest 76 = .ok (.istore 4, 2) := by decide +kernel
theorem dX3_chooseBest_78 : decode cX3_chooseBest 78 = .ok (.iinc 6 1, 3) := by decide +kernel
theorem dX3_chooseBest_81 : decode cX3_chooseBest 81 = .ok (.goto (-69), 3) := by decide +kernel
theorem dX3_chooseBest_84 : decode cX3_chooseBest 84 = .ok (.aload_n 0, 1) := by decide +kernel
theorem dX3_chooseBest_85 : decode cX3_chooseBest 85 = .ok (.iload_n 3, 1) := by decide +kernel
theorem dX3_chooseBest_86 : decode cX3_chooseBest 86 = .ok (.putfield 28, 3) := by decide +kernel
theorem dX3_chooseBest_89 : decode cX3_chooseBest 89 = .ok (.aload_n 0, 1) := by decide +kernel
theorem dX3_chooseBest_90 : decode cX3_chooseBest 90 = .ok (.iload 4, 2) := by decide +kernel
theorem dX3_chooseBest_92 : decode cX3_chooseBest 92 = .ok (.putfield 31, 3) := by decide +kernel
theorem dX3_chooseBest_95 : decode cX3_chooseBest 95 = .ok (.return_, 1) := by decide +kernel
set_option maxRecDepth 20000 in
theorem ggX3_worthAlone_X1_hasBit : GoodIn wsX3_worthAlone wsX1_hasBit := goodIn_r _ [5] (by decide +kernel) (by decide +kernel)
set_option maxRecDepth 20000 in
theorem gX3_worthAlone_X1_hasBit : GoodIn wsX3_worthAlone (va_wsS RX3 54 yX1_hasBit wsX1_hasBit) := goodIn_app (goodIn_of _ (by decide +kernel)) ggX3_worthAlone_X1_hasBit
set_option maxRecDepth 20000 in
theorem ggX3_worthAlone_X3_figureOf : GoodIn wsX3_worthAlone wsX3_figureOf := goodIn_r _ [10, 11, 12, 13, 9, 14, 1, 15, 16, 17, 18, 19, 20, 21, 22, 23, 24, 25, 26, 27, 28, 29, 30, 31, 32, 40, 41, 42, 43, 44, 45, 46] (by decide +kernel) (by decide +kernel)
set_option maxRecDepth 20000 in
theorem gX3_worthAlone_X3_figureOf : GoodIn wsX3_worthAlone (wsV RX3 79 RX3 yX3_figureOf wsX3_figureOf) := goodIn_app (goodIn_of _ (by decide +kernel)) ggX3_worthAlone_X3_figureOf
set_option maxRecDepth 20000 in
theorem ggX3_worthAlone_J13_bitCount_95d88 : GoodIn wsX3_worthAlone wsJ13_bitCount_95d88 := goodIn_r _ [36, 37, 38, 39] (by decide +kernel) (by decide +kernel)
set_option maxRecDepth 20000 in
theorem gX3_worthAlone_J13_bitCount_95d88 : GoodIn wsX3_worthAlone (va_wsS RX3 89 yJ13_bitCount_95d88 wsJ13_bitCount_95d88) := goodIn_app (goodIn_of _ (by decide +kernel)) ggX3_worthAlone_J13_bitCount_95d88
theorem dX3_worthAlone_0 : decode cX3_worthAlone 0 = .ok (.iconst 0, 1) := by decide +kernel
theorem dX3_worthAlone_1 : decode cX3_worthAlone 1 = .ok (.istore_n 2, 1) := by decide +kernel
theorem dX3_worthAlone_2 : decode cX3_worthAlone 2 = .ok (.iconst 0, 1) := by decide +kernel
theorem dX3_worthAlone_3 : decode cX3_worthAlone 3 = .ok (.istore_n 3, 1) := by decide +kernel
theorem dX3_worthAlone_4 : decode cX3_worthAlone 4 = .ok (.iload_n 3, 1) := by decide +kernel
theorem dX3_worthAlone_5 : decode cX3_worthAlone 5 = .ok (.aload_n 0, 1) := by decide +kernel
theorem dX3_worthAlone_6 : decode cX3_worthAlone 6 = .ok (.getfield 18, 3) := by decide +kernel
theorem dX3_worthAlone_9 : decode cX3_worthAlone 9 = .ok (.if_icmp .ge 29, 3) := by decide +kernel
theorem dX3_worthAlone_12 : decode cX3_worthAlone 12 = .ok (.iload_n 1, 1) := by decide +kernel
theorem dX3_worthAlone_13 : decode cX3_worthAlone 13 = .ok (.iload_n 3, 1) := by decide +kernel
theorem dX3_worthAlone_14 : decode cX3_worthAlone 14 = .ok (.invokestatic 54, 3) := by decide +kernel
theorem dX3_worthAlone_17 : decode cX3_worthAlone 17 = .ok (.ifCond .eq 15, 3) := by decide +kernel
theorem dX3_worthAlone_20 : decode cX3_worthAlone 20 = .ok (.iload_n 2, 1) := by decide +kernel
theorem dX3_worthAlone_21 : decode cX3_worthAlone 21 = .ok (.aload_n 0, 1) := by decide +kernel
theorem dX3_worthAlone_22 : decode cX3_worthAlone 22 = .ok (.iconst 0, 1) := by decide +kernel
theorem dX3_worthAlone_23 : decode cX3_worthAlone 23 = .ok (.iload_n 3, 1) := by decide +kernel
theorem dX3_worthAlone_24 : decode cX3_worthAlone 24 = .ok (.invokevirtual 79, 3) := by decide +kernel
theorem dX3_worthAlone_27 : decode cX3_worthAlone 27 = .ok (.invokestatic 89, 3) := by decide +kernel
theorem dX3_worthAlone_30 : decode cX3_worthAlone 30 = .ok (.iadd, 1) := by decide +kernel
theorem dX3_worthAlone_31 : decode cX3_worthAlone 31 = .ok (.istore_n 2, 1) := by decide +kernel
theorem dX3_worthAlone_32 : decode cX3_worthAlone 32 = .ok (.iinc 3 1, 3) := by decide +kernel
theorem dX3_worthAlone_35 : decode cX3_worthAlone 35 = .ok (.goto (-31), 3) := by decide +kernel
theorem dX3_worthAlone_38 : decode cX3_worthAlone 38 = .ok (.sipush 128, 3) := by decide +kernel
theorem dX3_worthAlone_41 : decode cX3_worthAlone 41 = .ok (.iload_n 2, 1) := by decide +kernel
theorem dX3_worthAlone_42 : decode cX3_worthAlone 42 = .ok (.imul, 1) := by decide +kernel
theorem dX3_worthAlone_43 : decode cX3_worthAlone 43 = .ok (.ireturn, 1) := by decide +kernel
set_option maxRecDepth 20000 in
theorem ggX3_reckonGains_X1_hasBit : GoodIn wsX3_reckonGains wsX1_hasBit := goodIn_r _ [7] (by decide +kernel) (by decide +kernel)
set_option maxRecDepth 20000 in
theorem gX3_reckonGains_X1_hasBit : GoodIn wsX3_reckonGains (va_wsS RX3 54 yX1_hasBit wsX1_hasBit) := goodIn_app (goodIn_of _ (by decide +kernel)) ggX3_reckonGains_X1_hasBit
set_option maxRecDepth 20000 in
theorem ggX3_reckonGains_X3_columnAt : GoodIn wsX3_reckonGains wsX3_columnAt := goodIn_r _ [12, 13, 14, 15, 16, 11, 17, 3, 1, 33, 34, 35, 36, 37, 38, 39] (by decide +kernel) (by decide +kernel)
set_option maxRecDepth 20000 in
theorem gX3_reckonGains_X3_columnAt : GoodIn wsX3_reckonGains (wsV RX3 42 RX3 yX3_columnAt wsX3_columnAt) := goodIn_app (goodIn_of _ (by decide +kernel)) ggX3_reckonGains_X3_columnAt
set_option maxRecDepth 20000 in
theorem ggX3_reckonGains_J6_bitCount_0f7a4 : GoodIn wsX3_reckonGains wsJ6_bitCount_0f7a4 := goodIn_r _ [21, 22, 23, 24] (by decide +kernel) (by decide +kernel)
set_option maxRecDepth 20000 in
theorem gX3_reckonGains_J6_bitCount_0f7a4 : GoodIn wsX3_reckonGains (va_wsS RX3 46 yJ6_bitCount_0f7a4 wsJ6_bitCount_0f7a4) := goodIn_app (goodIn_of _ (by decide +kernel)) ggX3_reckonGains_J6_bitCount_0f7a4
set_option maxRecDepth 20000 in
theorem ggX3_reckonGains_X3_wouldCatch : GoodIn wsX3_reckonGains wsX3_wouldCatch := goodIn_r _ [28, 8, 9, 10, 11, 12, 13, 14, 15, 16, 17, 3, 1, 29, 30, 6, 31, 32, 19, 20, 21, 22, 23, 24, 33, 34, 35, 36, 37, 38, 39] (by decide +kernel) (by decide +kernel)
set_option maxRecDepth 20000 in
theorem gX3_reckonGains_X3_wouldCatch : GoodIn wsX3_reckonGains (wsV RX3 111 RX3 yX3_wouldCatch wsX3_wouldCatch) := goodIn_app (goodIn_of _ (by decide +kernel)) ggX3_reckonGains_X3_wouldCatch
theorem dX3_reckonGains_0 : decode cX3_reckonGains 0 = .ok (.iconst 0, 1) := by decide +kernel
theorem dX3_reckonGains_1 : decode cX3_reckonGains 1 = .ok (.istore_n 2, 1) := by decide +kernel
theorem dX3_reckonGains_2 : decode cX3_reckonGains 2 = .ok (.iload_n 2, 1) := by decide +kernel
theorem dX3_reckonGains_3 : decode cX3_reckonGains 3 = .ok (.aload_n 0, 1) := by decide +kernel
theorem dX3_reckonGains_4 : decode cX3_reckonGains 4 = .ok (.getfield 22, 3) := by decide +kernel
theorem dX3_reckonGains_7 : decode cX3_reckonGains 7 = .ok (.if_icmp .ge 87, 3) := by decide +kernel
theorem dX3_reckonGains_10 : decode cX3_reckonGains 10 = .ok (.iload_n 2, 1) := by decide +kernel
theorem dX3_reckonGains_11 : decode cX3_reckonGains 11 = .ok (.aload_n 0, 1) := by decide +kernel
theorem dX3_reckonGains_12 : decode cX3_reckonGains 12 = .ok (.getfield 15, 3) := by decide +kernel
theorem dX3_reckonGains_15 : decode cX3_reckonGains 15 = .ok (.arraylength, 1) := by decide +kernel
theorem dX3_reckonGains_16 : decode cX3_reckonGains 16 = .ok (.if_icmp .ge 78, 3) := by decide +kernel
theorem dX3_reckonGains_19 : decode cX3_reckonGains 19 = .ok (.iconst 0, 1) := by decide +kernel
theorem dX3_reckonGains_20 : decode cX3_reckonGains 20 = .ok (.istore_n 3, 1) := by decide +kernel
theorem dX3_reckonGains_21 : decode cX3_reckonGains 21 = .ok (.iconst 0, 1) := by decide +kernel
theorem dX3_reckonGains_22 : decode cX3_reckonGains 22 = .ok (.istore 4, 2) := by decide +kernel
theorem dX3_reckonGains_24 : decode cX3_reckonGains 24 = .ok (.iload 4, 2) := by decide +kernel
theorem dX3_reckonGains_26 : decode cX3_reckonGains 26 = .ok (.aload_n 0, 1) := by decide +kernel
theorem dX3_reckonGains_27 : decode cX3_reckonGains 27 = .ok (.getfield 18, 3) := by decide +kernel
theorem dX3_reckonGains_30 : decode cX3_reckonGains 30 = .ok (.if_icmp .ge 51, 3) := by decide +kernel
theorem dX3_reckonGains_33 : decode cX3_reckonGains 33 = .ok (.iload_n 1, 1) := by decide +kernel
theorem dX3_reckonGains_34 : decode cX3_reckonGains 34 = .ok (.iload 4, 2) := by decide +kernel
theorem dX3_reckonGains_36 : decode cX3_reckonGains 36 = .ok (.invokestatic 54, 3) := by decide +kernel
theorem dX3_reckonGains_39 : decode cX3_reckonGains 39 = .ok (.ifCond .ne 23, 3) := by decide +kernel
theorem dX3_reckonGains_42 : decode cX3_reckonGains 42 = .ok (.iload_n 3, 1) := by decide +kernel
theorem dX3_reckonGains_43 : decode cX3_reckonGains 43 = .ok (.sipush 128, 3) := by decide +kernel
theorem dX3_reckonGains_46 : decode cX3_reckonGains 46 = .ok (.aload_n 0, 1) := by decide +kernel
theorem dX3_reckonGains_47 : decode cX3_reckonGains 47 = .ok (.iload 4, 2) := by decide +kernel
theorem dX3_reckonGains_49 : decode cX3_reckonGains 49 = .ok (.iload_n 2, 1) := by decide +kernel
theorem dX3_reckonGains_50 : decode cX3_reckonGains 50 = .ok (.invokevirtual 42, 3) := by decide +kernel
theorem dX3_reckonGains_53 : decode cX3_reckonGains 53 = .ok (.invokestatic 46, 3) := by decide +kernel
theorem dX3_reckonGains_56 : decode cX3_reckonGains 56 = .ok (.imul, 1) := by decide +kernel
theorem dX3_reckonGains_57 : decode cX3_reckonGains 57 = .ok (.iadd, 1) := by decide +kernel
theorem dX3_reckonGains_58 : decode cX3_reckonGains 58 = .ok (.istore_n 3, 1) := by decide +kernel
theorem dX3_reckonGains_59 : decode cX3_reckonGains 59 = .ok (.goto 16, 3) := by decide +kernel
theorem dX3_reckonGains_62 : decode cX3_reckonGains 62 = .ok (.aload_n 0, 1) := by decide +kernel
theorem dX3_reckonGains_63 : decode cX3_reckonGains 63 = .ok (.iload 4, 2) := by decide +kernel
theorem dX3_reckonGains_65 : decode cX3_reckonGains 65 = .ok (.iload_n 2, 1) := by decide +kernel
theorem dX3_reckonGains_66 : decode cX3_reckonGains 66 = .ok (.invokevirtual 111, 3) := by decide +kernel
theorem dX3_reckonGains_69 : decode cX3_reckonGains 69 = .ok (.ifCond .eq 6, 3) := by decide +kernel
theorem dX3_reckonGains_72 : decode cX3_reckonGains 72 = .ok (.iinc 3 (-1), 3) := by decide +kernel
theorem dX3_reckonGains_75 : decode cX3_reckonGains 75 = .ok (.iinc 4 1, 3) := by decide +kernel
theorem dX3_reckonGains_78 : decode cX3_reckonGains 78 = .ok (.goto (-54), 3) := by decide +kernel
theorem dX3_reckonGains_81 : decode cX3_reckonGains 81 = .ok (.aload_n 0, 1) := by decide +kernel
theorem dX3_reckonGains_82 : decode cX3_reckonGains 82 = .ok (.getfield 15, 3) := by decide +kernel
theorem dX3_reckonGains_85 : decode cX3_reckonGains 85 = .ok (.iload_n 2, 1) := by decide +kernel
theorem dX3_reckonGains_86 : decode cX3_reckonGains 86 = .ok (.iload_n 3, 1) := by decide +kernel
theorem dX3_reckonGains_87 : decode cX3_reckonGains 87 = .ok (.iastore, 1) := by decide +kernel
theorem dX3_reckonGains_88 : decode cX3_reckonGains 88 = .ok (.iinc 2 1, 3) := by decide +kernel
theorem dX3_reckonGains_91 : decode cX3_reckonGains 91 = .ok (.goto (-89), 3) := by decide +kernel
theorem dX3_reckonGains_94 : decode cX3_reckonGains 94 = .ok (.return_, 1) := by decide +kernel
set_option maxRecDepth 20000 in
theorem ggX3_greatestGains_X1_hasBit : GoodIn wsX3_greatestGains wsX1_hasBit := goodIn_r _ [6] (by decide +kernel) (by decide +kernel)
set_option maxRecDepth 20000 in
theorem gX3_greatestGains_X1_hasBit : GoodIn wsX3_greatestGains (va_wsS RX3 54 yX1_hasBit wsX1_hasBit) := goodIn_app (goodIn_of _ (by decide +kernel)) ggX3_greatestGains_X1_hasBit
theorem dX3_greatestGains_0 : decode cX3_greatestGains 0 = .ok (.iconst 0, 1) := by decide +kernel
theorem dX3_greatestGains_1 : decode cX3_greatestGains 1 = .ok (.istore_n 2, 1) := by decide +kernel
theorem dX3_greatestGains_2 : decode cX3_greatestGains 2 = .ok (.iconst 0, 1) := by decide +kernel
theorem dX3_greatestGains_3 : decode cX3_greatestGains 3 = .ok (.istore_n 3, 1) := by decide +kernel
theorem dX3_greatestGains_4 : decode cX3_greatestGains 4 = .ok (.iload_n 3, 1) := by decide +kernel
theorem dX3_greatestGains_5 : decode cX3_greatestGains 5 = .ok (.iload_n 1, 1) := by decide +kernel
theorem dX3_greatestGains_6 : decode cX3_greatestGains 6 = .ok (.if_icmp .ge 87, 3) := by decide +kernel
theorem dX3_greatestGains_9 : decode cX3_greatestGains 9 = .ok (.iconst (-1), 1) := by decide +kernel
theorem dX3_greatestGains_10 : decode cX3_greatestGains 10 = .ok (.istore 4, 2) := by decide +kernel
theorem dX3_greatestGains_12 : decode cX3_greatestGains 12 = .ok (.iconst 0, 1) := by decide +kernel
theorem dX3_greatestGains_13 : decode cX3_greatestGains 13 = .ok (.istore 5, 2) := by decide +kernel
theorem dX3_greatestGains_15 : decode cX3_greatestGains 15 = .ok (.iload 5, 2) := by decide +kernel
theorem dX3_greatestGains_17 : decode cX3_greatestGains 17 = .ok (.aload_n 0, 1) := by decide +kernel
theorem dX3_greatestGains_18 : decode cX3_greatestGains 18 = .ok (.getfield 22, 3) := by decide +kernel
theorem dX3_greatestGains_21 : decode cX3_greatestGains 21 = .ok (.if_icmp .ge 54, 3) := by decide +kernel
theorem dX3_greatestGains_24 : decode cX3_greatestGains 24 = .ok (.iload 5, 2) := by decide +kernel
theorem dX3_greatestGains_26 : decode cX3_greatestGains 26 = .ok (.aload_n 0, 1) := by decide +kernel
theorem dX3_greatestGains_27 : decode cX3_greatestGains 27 = .ok (.getfield 15, 3) := by decide +kernel
theorem dX3_greatestGains_30 : decode cX3_greatestGains 30 = .ok (.arraylength, 1) := by decide +kernel
theorem dX3_greatestGains_31 : decode cX3_greatestGains 31 = .ok (.if_icmp .ge 44, 3) := by decide +kernel
theorem dX3_greatestGains_34 : decode cX3_greatestGains 34 = .ok (.iload_n 2, 1) := by decide +kernel
theorem dX3_greatestGains_35 : decode cX3_greatestGains 35 = .ok (.iload 5, 2) := by decide +kernel
theorem dX3_greatestGains_37 : decode cX3_greatestGains 37 = .ok (.invokestatic 54, 3) := by decide +kernel
theorem dX3_greatestGains_40 : decode cX3_greatestGains 40 = .ok (.ifCond .ne 29, 3) := by decide +kernel
theorem dX3_greatestGains_43 : decode cX3_greatestGains 43 = .ok (.iload 4, 2) := by decide +kernel
theorem dX3_greatestGains_45 : decode cX3_greatestGains 45 = .ok (.ifCond .lt 20, 3) := by decide +kernel
theorem dX3_greatestGains_48 : decode cX3_greatestGains 48 = .ok (.aload_n 0, 1) := by decide +kernel
theorem dX3_greatestGains_49 : decode cX3_greatestGains 49 = .ok (.getfield 15, 3) := by decide +kernel
theorem dX3_greatestGains_52 : decode cX3_greatestGains 52 = .ok (.iload 5, 2) := by decide +kernel
theorem dX3_greatestGains_54 : decode cX3_greatestGains 54 = .ok (.iaload, 1) := by decide +kernel
theorem dX3_greatestGains_55 : decode cX3_greatestGains 55 = .ok (.aload_n 0, 1) := by decide +kernel
theorem dX3_greatestGains_56 : decode cX3_greatestGains 56 = .ok (.getfield 15, 3) := by decide +kernel
theorem dX3_greatestGains_59 : decode cX3_greatestGains 59 = .ok (.iload 4, 2) := by decide +kernel
theorem dX3_greatestGains_61 : decode cX3_greatestGains 61 = .ok (.iaload, 1) := by decide +kernel
theorem dX3_greatestGains_62 : decode cX3_greatestGains 62 = .ok (.if_icmp .le 7, 3) := by decide +kernel
theorem dX3_greatestGains_65 : decode cX3_greatestGains 65 = .ok (.iload 5, 2) := by decide +kernel
theorem dX3_greatestGains_67 : decode cX3_greatestGains 67 = .ok (.istore 4, 2) := by decide +kernel
theorem dX3_greatestGains_69 : decode cX3_greatestGains 69 = .ok (.iinc 5 1, 3) := by decide +kernel
theorem dX3_greatestGains_72 : decode cX3_greatestGains 72 = .ok (.goto (-57), 3) := by decide +kernel
theorem dX3_greatestGains_75 : decode cX3_greatestGains 75 = .ok (.iload 4, 2) := by decide +kernel
theorem dX3_greatestGains_77 : decode cX3_greatestGains 77 = .ok (.ifCond .lt 10, 3) := by decide +kernel
theorem dX3_greatestGains_80 : decode cX3_greatestGains 80 = .ok (.iload_n 2, 1) := by decide +kernel
theorem dX3_greatestGains_81 : decode cX3_greatestGains 81 = .ok (.iconst 1, 1) := by decide +kernel
theorem dX3_greatestGains_82 : decode cX3_greatestGains 82 = .ok (.iload 4, 2) := by decide +kernel
theorem dX3_greatestGains_84 : decode cX3_greatestGains 84 = .ok (.ishl, 1) := by decide +kernel
theorem dX3_greatestGains_85 : decode cX3_greatestGains 85 = .ok (.ior, 1) := by decide +kernel
theorem dX3_greatestGains_86 : decode cX3_greatestGains 86 = .ok (.istore_n 2, 1) := by decide +kernel
theorem dX3_greatestGains_87 : decode cX3_greatestGains 87 = .ok (.iinc 3 1, 3) := by decide +kernel
theorem dX3_greatestGains_90 : decode cX3_greatestGains 90 = .ok (.goto (-86), 3) := by decide +kernel
theorem dX3_greatestGains_93 : decode cX3_greatestGains 93 = .ok (.iload_n 2, 1) := by decide +kernel
theorem dX3_greatestGains_94 : decode cX3_greatestGains 94 = .ok (.ireturn, 1) := by decide +kernel
set_option maxRecDepth 20000 in
theorem ggX3_sumOfGains_X1_hasBit : GoodIn wsX3_sumOfGains wsX1_hasBit := goodIn_r _ [6] (by decide +kernel) (by decide +kernel)
set_option maxRecDepth 20000 in
theorem gX3_sumOfGains_X1_hasBit : GoodIn wsX3_sumOfGains (va_wsS RX3 54 yX1_hasBit wsX1_hasBit) := goodIn_app (goodIn_of _ (by decide +kernel)) ggX3_sumOfGains_X1_hasBit
theorem dX3_sumOfGains_0 : decode cX3_sumOfGains 0 = .ok (.iconst 0, 1) := by decide +kernel
theorem dX3_sumOfGains_1 : decode cX3_sumOfGains 1 = .ok (.istore_n 2, 1) := by decide +kernel
theorem dX3_sumOfGains_2 : decode cX3_sumOfGains 2 = .ok (.iconst 0, 1) := by decide +kernel
theorem dX3_sumOfGains_3 : decode cX3_sumOfGains 3 = .ok (.istore_n 3, 1) := by decide +kernel
theorem dX3_sumOfGains_4 : decode cX3_sumOfGains 4 = .ok (.iload_n 3, 1) := by decide +kernel
theorem dX3_sumOfGains_5 : decode cX3_sumOfGains 5 = .ok (.aload_n 0, 1) := by decide +kernel
theorem dX3_sumOfGains_6 : decode cX3_sumOfGains 6 = .ok (.getfield 22, 3) := by decide +kernel
theorem dX3_sumOfGains_9 : decode cX3_sumOfGains 9 = .ok (.if_icmp .ge 35, 3) := by decide +kernel
theorem dX3_sumOfGains_12 : decode cX3_sumOfGains 12 = .ok (.iload_n 3, 1) := by decide +kernel
theorem dX3_sumOfGains_13 : decode cX3_sumOfGains 13 = .ok (.aload_n 0, 1) := by decide +kernel
theorem dX3_sumOfGains_14 : decode cX3_sumOfGains 14 = .ok (.getfield 15, 3) := by decide +kernel
theorem dX3_sumOfGains_17 : decode cX3_sumOfGains 17 = .ok (.arraylength, 1) := by decide +kernel
theorem dX3_sumOfGains_18 : decode cX3_sumOfGains 18 = .ok (.if_icmp .ge 26, 3) := by decide +kernel
theorem dX3_sumOfGains_21 : decode cX3_sumOfGains 21 = .ok (.iload_n 1, 1) := by decide +kernel
theorem dX3_sumOfGains_22 : decode cX3_sumOfGains 22 = .ok (.iload_n 3, 1) := by decide +kernel
theorem dX3_sumOfGains_23 : decode cX3_sumOfGains 23 = .ok (.invokestatic 54, 3) := by decide +kernel
theorem dX3_sumOfGains_26 : decode cX3_sumOfGains 26 = .ok (.ifCond .eq 12, 3) := by decide +kernel
theorem dX3_sumOfGains_29 : decode cX3_sumOfGains 29 = .ok (.iload_n 2, 1) := by decide +kernel
theorem dX3_sumOfGains_30 : decode cX3_sumOfGains 30 = .ok (.aload_n 0, 1) := by decide +kernel
theorem dX3_sumOfGains_31 : decode cX3_sumOfGains 31 = .ok (.getfield 15, 3) := by decide +kernel
theorem dX3_sumOfGains_34 : decode cX3_sumOfGains 34 = .ok (.iload_n 3, 1) := by decide +kernel
theorem dX3_sumOfGains_35 : decode cX3_sumOfGains 35 = .ok (.iaload, 1) := by decide +kernel
theorem dX3_sumOfGains_36 : decode cX3_sumOfGains 36 = .ok (.iadd, 1) := by decide +kernel
theorem dX3_sumOfGains_37 : decode cX3_sumOfGains 37 = .ok (.istore_n 2, 1) := by decide +kernel
theorem dX3_sumOfGains_38 : decode cX3_sumOfGains 38 = .ok (.iinc 3 1, 3) := by decide +kernel
theorem dX3_sumOfGains_41 : decode cX3_sumOfGains 41 = .ok (.goto (-37), 3) := by decide +kernel
theorem dX3_sumOfGains_44 : decode cX3_sumOfGains 44 = .ok (.iload_n 2, 1) := by decide +kernel
theorem dX3_sumOfGains_45 : decode cX3_sumOfGains 45 = .ok (.ireturn, 1) := by decide +kernel
set_option maxRecDepth 20000 in
theorem ggX4_init_X3_init : GoodIn wsX4_init wsX3_init := goodIn_r _ [14, 15, 2, 3, 16, 17, 18, 19, 20, 21, 27, 28, 29, 30, 31, 32, 33] (by decide +kernel) (by decide +kernel)
set_option maxRecDepth 20000 in
theorem gX4_init_X3_init : GoodIn wsX4_init (wsX3_init) := ggX4_init_X3_init
set_option maxRecDepth 20000 in
theorem ggX4_init_X0_init : GoodIn wsX4_init wsX0_init := goodIn_r _ [24, 25, 2, 3, 16, 26, 36, 37, 38, 39, 40] (by decide +kernel) (by decide +kernel)
set_option maxRecDepth 20000 in
theorem gX4_init_X0_init : GoodIn wsX4_init (wsX0_init) := ggX4_init_X0_init
theorem dX4_init_0 : decode cX4_init 0 = .ok (.aload_n 0, 1) := by decide +kernel
theorem dX4_init_1 : decode cX4_init 1 = .ok (.invokespecial 1, 3) := by decide +kernel
theorem dX4_init_4 : decode cX4_init 4 = .ok (.aload_n 0, 1) := by decide +kernel
theorem dX4_init_5 : decode cX4_init 5 = .ok (.new 7, 3) := by decide +kernel
theorem dX4_init_8 : decode cX4_init 8 = .ok (.dup, 1) := by decide +kernel
theorem dX4_init_9 : decode cX4_init 9 = .ok (.invokespecial 9, 3) := by decide +kernel
theorem dX4_init_12 : decode cX4_init 12 = .ok (.putfield 10, 3) := by decide +kernel
theorem dX4_init_15 : decode cX4_init 15 = .ok (.aload_n 0, 1) := by decide +kernel
theorem dX4_init_16 : decode cX4_init 16 = .ok (.new 16, 3) := by decide +kernel
theorem dX4_init_19 : decode cX4_init 19 = .ok (.dup, 1) := by decide +kernel
theorem dX4_init_20 : decode cX4_init 20 = .ok (.invokespecial 18, 3) := by decide +kernel
theorem dX4_init_23 : decode cX4_init 23 = .ok (.putfield 19, 3) := by decide +kernel
theorem dX4_init_26 : decode cX4_init 26 = .ok (.return_, 1) := by decide +kernel
set_option maxRecDepth 20000 in
theorem ggX4_space_X4_isSize : GoodIn wsX4_space wsX4_isSize := goodIn_r _ [6] (by decide +kernel) (by decide +kernel)
set_option maxRecDepth 20000 in
theorem gX4_space_X4_isSize : GoodIn wsX4_space (va_wsS RX4 23 yX4_isSize wsX4_isSize) := goodIn_app (goodIn_of _ (by decide +kernel)) ggX4_space_X4_isSize
set_option maxRecDepth 20000 in
theorem ggX4_space_X3_beginAnew : GoodIn wsX4_space wsX3_beginAnew := goodIn_r _ [11, 12, 13, 14, 15, 16, 17, 26, 27, 28, 29, 30, 31, 32] (by decide +kernel) (by decide +kernel)
set_option maxRecDepth 20000 in
theorem gX4_space_X3_beginAnew : GoodIn wsX4_space (wsV RX4 27 RX3 yX3_beginAnew wsX3_beginAnew) := goodIn_app (goodIn_of _ (by decide +kernel)) ggX4_space_X3_beginAnew
set_option maxRecDepth 20000 in
theorem ggX4_space_X0_forget : GoodIn wsX4_space wsX0_forget := goodIn_r _ [22, 23, 33, 34, 35, 36, 37] (by decide +kernel) (by decide +kernel)
set_option maxRecDepth 20000 in
theorem gX4_space_X0_forget : GoodIn wsX4_space (wsV RX4 31 RX0 yX0_forget wsX0_forget) := goodIn_app (goodIn_of _ (by decide +kernel)) ggX4_space_X0_forget
theorem dX4_space_0 : decode cX4_space 0 = .ok (.iload_n 1, 1) := by decide +kernel
theorem dX4_space_1 : decode cX4_space 1 = .ok (.invokestatic 23, 3) := by decide +kernel
theorem dX4_space_4 : decode cX4_space 4 = .ok (.ifCond .eq 17, 3) := by decide +kernel
theorem dX4_space_7 : decode cX4_space 7 = .ok (.iload_n 2, 1) := by decide +kernel
theorem dX4_space_8 : decode cX4_space 8 = .ok (.invokestatic 23, 3) := by decide +kernel
theorem dX4_space_11 : decode cX4_space 11 = .ok (.ifCond .eq 10, 3) := by decide +kernel
theorem dX4_space_14 : decode cX4_space 14 = .ok (.iload_n 3, 1) := by decide +kernel
theorem dX4_space_15 : decode cX4_space 15 = .ok (.invokestatic 23, 3) := by decide +kernel
theorem dX4_space_18 : decode cX4_space 18 = .ok (.ifCond .ne 6, 3) := by decide +kernel
theorem dX4_space_21 : decode cX4_space 21 = .ok (.bipush (-2), 2) := by decide +kernel
theorem dX4_space_23 : decode cX4_space 23 = .ok (.ireturn, 1) := by decide +kernel
theorem dX4_space_24 : decode cX4_space 24 = .ok (.aload_n 0, 1) := by decide +kernel
theorem dX4_space_25 : decode cX4_space 25 = .ok (.getfield 10, 3) := by decide +kernel
theorem dX4_space_28 : decode cX4_space 28 = .ok (.iload_n 1, 1) := by decide +kernel
theorem dX4_space_29 : decode cX4_space 29 = .ok (.iload_n 2, 1) := by decide +kernel
theorem dX4_space_30 : decode cX4_space 30 = .ok (.iload_n 3, 1) := by decide +kernel
theorem dX4_space_31 : decode cX4_space 31 = .ok (.invokevirtual 27, 3) := by decide +kernel
theorem dX4_space_34 : decode cX4_space 34 = .ok (.aload_n 0, 1) := by decide +kernel
theorem dX4_space_35 : decode cX4_space 35 = .ok (.getfield 19, 3) := by decide +kernel
theorem dX4_space_38 : decode cX4_space 38 = .ok (.invokevirtual 31, 3) := by decide +kernel
theorem dX4_space_41 : decode cX4_space 41 = .ok (.iload_n 1, 1) := by decide +kernel
theorem dX4_space_42 : decode cX4_space 42 = .ok (.iload_n 2, 1) := by decide +kernel
theorem dX4_space_43 : decode cX4_space 43 = .ok (.imul, 1) := by decide +kernel
theorem dX4_space_44 : decode cX4_space 44 = .ok (.iload_n 3, 1) := by decide +kernel
theorem dX4_space_45 : decode cX4_space 45 = .ok (.imul, 1) := by decide +kernel
theorem dX4_space_46 : decode cX4_space 46 = .ok (.ireturn, 1) := by decide +kernel
set_option maxRecDepth 20000 in
theorem ggX4_box_X4_isCorner : GoodIn wsX4_box wsX4_isCorner := goodIn_r _ [16] (by decide +kernel) (by decide +kernel)
set_option maxRecDepth 20000 in
theorem gX4_box_X4_isCorner : GoodIn wsX4_box (va_wsS RX4 34 yX4_isCorner wsX4_isCorner) := goodIn_app (goodIn_of _ (by decide +kernel)) ggX4_box_X4_isCorner
set_option maxRecDepth 20000 in
theorem ggX4_box_X4_isSize : GoodIn wsX4_box wsX4_isSize := goodIn_r _ [19] (by decide +kernel) (by decide +kernel)
set_option maxRecDepth 20000 in
theorem gX4_box_X4_isSize : GoodIn wsX4_box (va_wsS RX4 23 yX4_isSize wsX4_isSize) := goodIn_app (goodIn_of _ (by decide +kernel)) ggX4_box_X4_isSize
set_option maxRecDepth 20000 in
theorem ggX4_box_X1_bitsBetween : GoodIn wsX4_box wsX1_bitsBetween := goodIn_r _ [23, 24, 10, 5, 11, 25, 4, 6] (by decide +kernel) (by decide +kernel)
set_option maxRecDepth 20000 in
theorem gX4_box_X1_bitsBetween : GoodIn wsX4_box (va_wsS RX4 47 yX1_bitsBetween wsX1_bitsBetween) := goodIn_app (goodIn_of _ (by decide +kernel)) ggX4_box_X1_bitsBetween
set_option maxRecDepth 20000 in
theorem ggX4_box_X3_changeColumn : GoodIn wsX4_box wsX3_changeColumn := goodIn_r _ [30, 31, 32, 33, 34, 29, 35, 36, 37, 38, 39, 40, 41, 42, 43, 44, 45, 46, 47, 48, 57, 58, 59, 60, 61, 62, 63] (by decide +kernel) (by decide +kernel)
set_option maxRecDepth 20000 in
theorem gX4_box_X3_changeColumn : GoodIn wsX4_box (wsV RX4 61 RX3 yX3_changeColumn wsX3_changeColumn) := goodIn_app (goodIn_of _ (by decide +kernel)) ggX4_box_X3_changeColumn
set_option maxRecDepth 20000 in
theorem ggX4_box_X0_forget : GoodIn wsX4_box wsX0_forget := goodIn_r _ [53, 54, 64, 65, 66, 67, 68] (by decide +kernel) (by decide +kernel)
set_option maxRecDepth 20000 in
theorem gX4_box_X0_forget : GoodIn wsX4_box (wsV RX4 31 RX0 yX0_forget wsX0_forget) := goodIn_app (goodIn_of _ (by decide +kernel)) ggX4_box_X0_forget
theorem dX4_box_0 : decode cX4_box 0 = .ok (.iload_n 1, 1) := by decide +kernel
theorem dX4_box_1 : decode cX4_box 1 = .ok (.invokestatic 34, 3) := by decide +kernel
theorem dX4_box_4 : decode cX4_box 4 = .ok (.ifCond .eq 17, 3) := by decide +kernel
theorem dX4_box_7 : decode cX4_box 7 = .ok (.iload_n 2, 1) := by decide +kernel
theorem dX4_box_8 : decode cX4_box 8 = .ok (.invokestatic 34, 3) := by decide +kernel
theorem dX4_box_11 : decode cX4_box 11 = .ok (.ifCond .eq 10, 3) := by decide +kernel
theorem dX4_box_14 : decode cX4_box 14 = .ok (.iload_n 3, 1) := by decide +kernel
theorem dX4_box_15 : decode cX4_box 15 = .ok (.invokestatic 34, 3) := by decide +kernel
theorem dX4_box_18 : decode cX4_box 18 = .ok (.ifCond .ne 6, 3) := by decide +kernel
theorem dX4_box_21 : decode cX4_box 21 = .ok (.bipush (-2), 2) := by decide +kernel
theorem dX4_box_23 : decode cX4_box 23 = .ok (.ireturn, 1) := by decide +kernel
theorem dX4_box_24 : decode cX4_box 24 = .ok (.iload 4, 2) := by decide +kernel
theorem dX4_box_26 : decode cX4_box 26 = .ok (.invokestatic 23, 3) := by decide +kernel
theorem dX4_box_29 : decode cX4_box 29 = .ok (.ifCond .eq 19, 3) := by decide +kernel
theorem dX4_box_32 : decode cX4_box 32 = .ok (.iload 5, 2) := by decide +kernel
theorem dX4_box_34 : decode cX4_box 34 = .ok (.invokestatic 23, 3) := by decide +kernel
theorem dX4_box_37 : decode cX4_box 37 = .ok (.ifCond .eq 11, 3) := by decide +kernel
theorem dX4_box_40 : decode cX4_box 40 = .ok (.iload 6, 2) := by decide +kernel
theorem dX4_box_42 : decode cX4_box 42 = .ok (.invokestatic 23, 3) := by decide +kernel
theorem dX4_box_45 : decode cX4_box 45 = .ok (.ifCond .ne 6, 3) := by decide +kernel
theorem dX4_box_48 : decode cX4_box 48 = .ok (.bipush (-2), 2) := by decide +kernel
theorem dX4_box_50 : decode cX4_box 50 = .ok (.ireturn, 1) := by decide +kernel
theorem dX4_box_51 : decode cX4_box 51 = .ok (.iload_n 3, 1) := by decide +kernel
theorem dX4_box_52 : decode cX4_box 52 = .ok (.iload_n 3, 1) := by decide +kernel
theorem dX4_box_53 : decode cX4_box 53 = .ok (.iload 6, 2) := by decide +kernel
theorem dX4_box_55 : decode cX4_box 55 = .ok (.iadd, 1) := by decide +kernel
theorem dX4_box_56 : decode cX4_box 56 = .ok (.aload_n 0, 1) := by decide +kernel
theorem dX4_box_57 : decode cX4_box 57 = .ok (.getfield 10, 3) := by decide +kernel
theorem dX4_box_60 : decode cX4_box 60 = .ok (.getfield 37, 3) := by decide +kernel
theorem dX4_box_63 : decode cX4_box 63 = .ok (.invokestatic 41, 3) := by decide +kernel
theorem dX4_box_66 : decode cX4_box 66 = .ok (.invokestatic 47, 3) := by decide +kernel
theorem dX4_box_69 : decode cX4_box 69 = .ok (.istore 8, 2) := by decide +kernel
theorem dX4_box_71 : decode cX4_box 71 = .ok (.iload_n 1, 1) := by decide +kernel
theorem dX4_box_72 : decode cX4_box 72 = .ok (.iload 4, 2) := by decide +kernel
theorem dX4_box_74 : decode cX4_box 74 = .ok (.iadd, 1) := by decide +kernel
theorem dX4_box_75 : decode cX4_box 75 = .ok (.aload_n 0, 1) := by decide +kernel
theorem dX4_box_76 : decode cX4_box 76 = .ok (.getfield 10, 3) := by decide +kernel
theorem dX4_box_79 : decode cX4_box 79 = .ok (.getfield 52, 3) := by decide +kernel
theorem dX4_box_82 : decode cX4_box 82 = .ok (.invokestatic 41, 3) := by decide +kernel
theorem dX4_box_85 : decode cX4_box 85 = .ok (.istore 9, 2) := by decide +kernel
theorem dX4_box_87 : decode cX4_box 87 = .ok (.iload_n 2, 1) := by decide +kernel
theorem dX4_box_88 : decode cX4_box 88 = .ok (.iload 5, 2) := by decide +kernel
theorem dX4_box_90 : decode cX4_box 90 = .ok (.iadd, 1) := by decide +kernel
theorem dX4_box_91 : decode cX4_box 91 = .ok (.aload_n 0, 1) := by decide +kernel
theorem dX4_box_92 : decode cX4_box 92 = .ok (.getfield 10, 3) := by decide +kernel
theorem dX4_box_95 : decode cX4_box 95 = .ok (.getfield 55, 3) := by decide +kernel
theorem dX4_box_98 : decode cX4_box 98 = .ok (.invokestatic 41, 3) := by decide +kernel
theorem dX4_box_101 : decode cX4_box 101 = .ok (.istore 10, 2) := by decide +kernel
theorem dX4_box_103 : decode cX4_box 103 = .ok (.iconst 0, 1) := by decide +kernel
theorem dX4_box_104 : decode cX4_box 104 = .ok (.istore 11, 2) := by decide +kernel
theorem dX4_box_106 : decode cX4_box 106 = .ok (.iload_n 1, 1) := by decide +kernel
theorem dX4_box_107 : decode cX4_box 107 = .ok (.iconst 0, 1) := by decide +kernel
theorem dX4_box_108 : decode cX4_box 108 = .ok (.invokestatic 58, 3) := by decide +kernel
theorem dX4_box_111 : decode cX4_box 111 = .ok (.istore 12, 2) := by decide +kernel
theorem dX4_box_113 : decode cX4_box 113 = .ok (.iload 12, 2) := by decide +kernel
theorem dX4_box_115 : decode cX4_box 115 = .ok (.iload 9, 2) := by decide +kernel
theorem dX4_box_117 : decode cX4_box 117 = .ok (.if_icmp .ge 49, 3) := by decide +kernel
theorem dX4_box_120 : decode cX4_box 120 = .ok (.iload_n 2, 1) := by decide +kernel
theorem dX4_box_121 : decode cX4_box 121 = .ok (.iconst 0, 1) := by decide +kernel
theorem dX4_box_122 : decode cX4_box 122 = .ok (.invokestatic 58, 3) := by decide +kernel
theorem dX4_box_125 : decode cX4_box 125 = .ok (.istore 13, 2) := by decide +kernel
theorem dX4_box_127 : decode cX4_box 127 = .ok (.iload 13, 2) := by decide +kernel
theorem dX4_box_129 : decode cX4_box 129 = .ok (.iload 10, 2) := by decide +kernel
theorem dX4_box_131 : decode cX4_box 131 = .ok (.if_icmp .ge 29, 3) := by decide +kernel
theorem dX4_box_134 : decode cX4_box 134 = .ok (.iload 11, 2) := by decide +kernel
theorem dX4_box_136 : decode cX4_box 136 = .ok (.aload_n 0, 1) := by decide +kernel
theorem dX4_box_137 : decode cX4_box 137 = .ok (.getfield 10, 3) := by decide +kernel
theorem dX4_box_140 : decode cX4_box 140 = .ok (.iload 12, 2) := by decide +kernel
theorem dX4_box_142 : decode cX4_box 142 = .ok (.iload 13, 2) := by decide +kernel
theorem dX4_box_144 : decode cX4_box 144 = .ok (.iload 8, 2) := by decide +kernel
theorem dX4_box_146 : decode cX4_box 146 = .ok (.iload 7, 2) := by decide +kernel
theorem dX4_box_148 : decode cX4_box 148 = .ok (.invokevirtual 61, 3) := by decide +kernel
theorem dX4_box_151 : decode cX4_box 151 = .ok (.iadd, 1) := by decide +kernel
theorem dX4_box_152 : decode cX4_box 152 = .ok (.istore 11, 2) := by decide +kernel
theorem dX4_box_154 : decode cX4_box 154 = .ok (.iinc 13 1, 3) := by decide +kernel
theorem dX4_box_157 : decode cX4_box 157 = .ok (.goto (-30), 3) := by decide +kernel
theorem dX4_box_160 : decode cX4_box 160 = .ok (.iinc 12 1, 3) := by decide +kernel
theorem dX4_box_163 : decode cX4_box 163 = .ok (.goto (-50), 3) := by decide +kernel
theorem dX4_box_166 : decode cX4_box 166 = .ok (.aload_n 0, 1) := by decide +kernel
theorem dX4_box_167 : decode cX4_box 167 = .ok (.getfield 19, 3) := by decide +kernel
theorem dX4_box_170 : decode cX4_box 170 = .ok (.invokevirtual 31, 3) := by decide +kernel
theorem dX4_box_173 : decode cX4_box 173 = .ok (.iload 11, 2) := by decide +kernel
theorem dX4_box_175 : decode cX4_box 175 = .ok (.ireturn, 1) := by decide +kernel
set_option maxRecDepth 20000 in
theorem ggX4_at_X3_hasColumn : GoodIn wsX4_at wsX3_hasColumn := goodIn_r _ [6, 7, 8, 30, 31, 32, 33, 34, 35, 36] (by decide +kernel) (by decide +kernel)
set_option maxRecDepth 20000 in
theorem gX4_at_X3_hasColumn : GoodIn wsX4_at (wsV RX4 65 RX3 yX3_hasColumn wsX3_hasColumn) := goodIn_app (goodIn_of _ (by decide +kernel)) ggX4_at_X3_hasColumn
set_option maxRecDepth 20000 in
theorem ggX4_at_X3_hasLayer : GoodIn wsX4_at wsX3_hasLayer := goodIn_r _ [12, 13, 30, 31, 32, 33, 34, 35, 36] (by decide +kernel) (by decide +kernel)
set_option maxRecDepth 20000 in
theorem gX4_at_X3_hasLayer : GoodIn wsX4_at (wsV RX4 69 RX3 yX3_hasLayer wsX3_hasLayer) := goodIn_app (goodIn_of _ (by decide +kernel)) ggX4_at_X3_hasLayer
set_option maxRecDepth 20000 in
theorem ggX4_at_X3_columnAt : GoodIn wsX4_at wsX3_columnAt := goodIn_r _ [17, 18, 19, 3, 4, 5, 6, 7, 8, 30, 31, 32, 33, 34, 35, 36] (by decide +kernel) (by decide +kernel)
set_option maxRecDepth 20000 in
theorem gX4_at_X3_columnAt : GoodIn wsX4_at (wsV RX4 72 RX3 yX3_columnAt wsX3_columnAt) := goodIn_app (goodIn_of _ (by decide +kernel)) ggX4_at_X3_columnAt
set_option maxRecDepth 20000 in
theorem ggX4_at_X1_hasBit : GoodIn wsX4_at wsX1_hasBit := goodIn_r _ [23] (by decide +kernel) (by decide +kernel)
set_option maxRecDepth 20000 in
theorem gX4_at_X1_hasBit : GoodIn wsX4_at (va_wsS RX4 75 yX1_hasBit wsX1_hasBit) := goodIn_app (goodIn_of _ (by decide +kernel)) ggX4_at_X1_hasBit
set_option maxRecDepth 20000 in
theorem ggX4_at_X4_asNumber : GoodIn wsX4_at wsX4_asNumber := goodIn_r _ [27] (by decide +kernel) (by decide +kernel)
set_option maxRecDepth 20000 in
theorem gX4_at_X4_asNumber : GoodIn wsX4_at (va_wsS RX4 78 yX4_asNumber wsX4_asNumber) := goodIn_app (goodIn_of _ (by decide +kernel)) ggX4_at_X4_asNumber
theorem dX4_at_0 : decode cX4_at 0 = .ok (.aload_n 0, 1) := by decide +kernel
theorem dX4_at_1 : decode cX4_at 1 = .ok (.getfield 10, 3) := by decide +kernel
theorem dX4_at_4 : decode cX4_at 4 = .ok (.iload_n 1, 1) := by decide +kernel
theorem dX4_at_5 : decode cX4_at 5 = .ok (.iload_n 2, 1) := by decide +kernel
theorem dX4_at_6 : decode cX4_at 6 = .ok (.invokevirtual 65, 3) := by decide +kernel
theorem dX4_at_9 : decode cX4_at 9 = .ok (.ifCond .eq 14, 3) := by decide +kernel
theorem dX4_at_12 : decode cX4_at 12 = .ok (.aload_n 0, 1) := by decide +kernel
theorem dX4_at_13 : decode cX4_at 13 = .ok (.getfield 10, 3) := by decide +kernel
theorem dX4_at_16 : decode cX4_at 16 = .ok (.iload_n 3, 1) := by decide +kernel
theorem dX4_at_17 : decode cX4_at 17 = .ok (.invokevirtual 69, 3) := by decide +kernel
theorem dX4_at_20 : decode cX4_at 20 = .ok (.ifCond .ne 5, 3) := by decide +kernel
theorem dX4_at_23 : decode cX4_at 23 = .ok (.iconst (-1), 1) := by decide +kernel
theorem dX4_at_24 : decode cX4_at 24 = .ok (.ireturn, 1) := by decide +kernel
theorem dX4_at_25 : decode cX4_at 25 = .ok (.aload_n 0, 1) := by decide +kernel
theorem dX4_at_26 : decode cX4_at 26 = .ok (.getfield 10, 3) := by decide +kernel
theorem dX4_at_29 : decode cX4_at 29 = .ok (.iload_n 1, 1) := by decide +kernel
theorem dX4_at_30 : decode cX4_at 30 = .ok (.iload_n 2, 1) := by decide +kernel
theorem dX4_at_31 : decode cX4_at 31 = .ok (.invokevirtual 72, 3) := by decide +kernel
theorem dX4_at_34 : decode cX4_at 34 = .ok (.iload_n 3, 1) := by decide +kernel
theorem dX4_at_35 : decode cX4_at 35 = .ok (.invokestatic 75, 3) := by decide +kernel
theorem dX4_at_38 : decode cX4_at 38 = .ok (.invokestatic 78, 3) := by decide +kernel
theorem dX4_at_41 : decode cX4_at 41 = .ok (.ireturn, 1) := by decide +kernel
set_option maxRecDepth 20000 in
theorem ggX4_rib_X3_hasRib : GoodIn wsX4_rib wsX3_hasRib := goodIn_r _ [7, 8, 9, 10, 6, 11, 12, 13, 45, 46, 47, 48, 49, 50, 51] (by decide +kernel) (by decide +kernel)
set_option maxRecDepth 20000 in
theorem gX4_rib_X3_hasRib : GoodIn wsX4_rib (wsV RX4 82 RX3 yX3_hasRib wsX3_hasRib) := goodIn_app (goodIn_of _ (by decide +kernel)) ggX4_rib_X3_hasRib
set_option maxRecDepth 20000 in
theorem ggX4_rib_X3_isChosen : GoodIn wsX4_rib wsX3_isChosen := goodIn_r _ [17, 18, 19, 20, 6, 21, 22, 23, 24, 25, 26, 27, 45, 46, 47, 48, 49, 50, 51] (by decide +kernel) (by decide +kernel)
set_option maxRecDepth 20000 in
theorem gX4_rib_X3_isChosen : GoodIn wsX4_rib (wsV RX4 85 RX3 yX3_isChosen wsX3_isChosen) := goodIn_app (goodIn_of _ (by decide +kernel)) ggX4_rib_X3_isChosen
set_option maxRecDepth 20000 in
theorem ggX4_rib_X3_chosenBits : GoodIn wsX4_rib wsX3_chosenBits := goodIn_r _ [21, 22, 23, 45, 46, 47, 48, 49, 50, 51] (by decide +kernel) (by decide +kernel)
set_option maxRecDepth 20000 in
theorem gX4_rib_X3_chosenBits : GoodIn wsX4_rib (wsV RX4 88 RX3 yX3_chosenBits wsX3_chosenBits) := goodIn_app (goodIn_of _ (by decide +kernel)) ggX4_rib_X3_chosenBits
set_option maxRecDepth 20000 in
theorem ggX4_rib_X3_choose : GoodIn wsX4_rib wsX3_choose := goodIn_r _ [32, 22, 23, 45, 46, 47, 48, 49, 50, 51] (by decide +kernel) (by decide +kernel)
set_option maxRecDepth 20000 in
theorem gX4_rib_X3_choose : GoodIn wsX4_rib (wsV RX4 92 RX3 yX3_choose wsX3_choose) := goodIn_app (goodIn_of _ (by decide +kernel)) ggX4_rib_X3_choose
set_option maxRecDepth 20000 in
theorem ggX4_rib_X0_forget : GoodIn wsX4_rib wsX0_forget := goodIn_r _ [37, 38, 52, 53, 54, 55, 56] (by decide +kernel) (by decide +kernel)
set_option maxRecDepth 20000 in
theorem gX4_rib_X0_forget : GoodIn wsX4_rib (wsV RX4 31 RX0 yX0_forget wsX0_forget) := goodIn_app (goodIn_of _ (by decide +kernel)) ggX4_rib_X0_forget
set_option maxRecDepth 20000 in
theorem ggX4_rib_X4_asNumber : GoodIn wsX4_rib wsX4_asNumber := goodIn_r _ [42] (by decide +kernel) (by decide +kernel)
set_option maxRecDepth 20000 in
theorem gX4_rib_X4_asNumber : GoodIn wsX4_rib (va_wsS RX4 78 yX4_asNumber wsX4_asNumber) := goodIn_app (goodIn_of _ (by decide +kernel)) ggX4_rib_X4_asNumber
theorem dX4_rib_0 : decode cX4_rib 0 = .ok (.aload_n 0, 1) := by decide +kernel
theorem dX4_rib_1 : decode cX4_rib 1 = .ok (.getfield 10, 3) := by decide +kernel
theorem dX4_rib_4 : decode cX4_rib 4 = .ok (.iload_n 1, 1) := by decide +kernel
theorem dX4_rib_5 : decode cX4_rib 5 = .ok (.iload_n 2, 1) := by decide +kernel
theorem dX4_rib_6 : decode cX4_rib 6 = .ok (.invokevirtual 82, 3) := by decide +kernel
theorem dX4_rib_9 : decode cX4_rib 9 = .ok (.ifCond .ne 5, 3) := by decide +kernel
theorem dX4_rib_12 : decode cX4_rib 12 = .ok (.iconst (-1), 1) := by decide +kernel
theorem dX4_rib_13 : decode cX4_rib 13 = .ok (.ireturn, 1) := by decide +kernel
theorem dX4_rib_14 : decode cX4_rib 14 = .ok (.aload_n 0, 1) := by decide +kernel
theorem dX4_rib_15 : decode cX4_rib 15 = .ok (.getfield 10, 3) := by decide +kernel
theorem dX4_rib_18 : decode cX4_rib 18 = .ok (.iload_n 1, 1) := by decide +kernel
theorem dX4_rib_19 : decode cX4_rib 19 = .ok (.iload_n 2, 1) := by decide +kernel
theorem dX4_rib_20 : decode cX4_rib 20 = .ok (.invokevirtual 85, 3) := by decide +kernel
theorem dX4_rib_23 : decode cX4_rib 23 = .ok (.istore 4, 2) := by decide +kernel
theorem dX4_rib_25 : decode cX4_rib 25 = .ok (.aload_n 0, 1) := by decide +kernel
theorem dX4_rib_26 : decode cX4_rib 26 = .ok (.getfield 10, 3) := by decide +kernel
theorem dX4_rib_29 : decode cX4_rib 29 = .ok (.iload_n 1, 1) := by decide +kernel
theorem dX4_rib_30 : decode cX4_rib 30 = .ok (.invokevirtual 88, 3) := by decide +kernel
theorem dX4_rib_33 : decode cX4_rib 33 = .ok (.iconst 1, 1) := by decide +kernel
theorem dX4_rib_34 : decode cX4_rib 34 = .ok (.iload_n 2, 1) := by decide +kernel
theorem dX4_rib_35 : decode cX4_rib 35 = .ok (.ishl, 1) := by decide +kernel
theorem dX4_rib_36 : decode cX4_rib 36 = .ok (.iconst (-1), 1) := by decide +kernel
theorem dX4_rib_37 : decode cX4_rib 37 = .ok (.ixor, 1) := by decide +kernel
theorem dX4_rib_38 : decode cX4_rib 38 = .ok (.iand, 1) := by decide +kernel
theorem dX4_rib_39 : decode cX4_rib 39 = .ok (.istore 5, 2) := by decide +kernel
theorem dX4_rib_41 : decode cX4_rib 41 = .ok (.aload_n 0, 1) := by decide +kernel
theorem dX4_rib_42 : decode cX4_rib 42 = .ok (.getfield 10, 3) := by decide +kernel
theorem dX4_rib_45 : decode cX4_rib 45 = .ok (.iload_n 1, 1) := by decide +kernel
theorem dX4_rib_46 : decode cX4_rib 46 = .ok (.iload_n 3, 1) := by decide +kernel
theorem dX4_rib_47 : decode cX4_rib 47 = .ok (.ifCond .eq 12, 3) := by decide +kernel
theorem dX4_rib_50 : decode cX4_rib 50 = .ok (.iload 5, 2) := by decide +kernel
theorem dX4_rib_52 : decode cX4_rib 52 = .ok (.iconst 1, 1) := by decide +kernel
theorem dX4_rib_53 : decode cX4_rib 53 = .ok (.iload_n 2, 1) := by decide +kernel
theorem dX4_rib_54 : decode cX4_rib 54 = .ok (.ishl, 1) := by decide +kernel
theorem dX4_rib_55 : decode cX4_rib 55 = .ok (.ior, 1) := by decide +kernel
theorem dX4_rib_56 : decode cX4_rib 56 = .ok (.goto 5, 3) := by decide +kernel
theorem dX4_rib_59 : decode cX4_rib 59 = .ok (.iload 5, 2) := by decide +kernel
theorem dX4_rib_61 : decode cX4_rib 61 = .ok (.invokevirtual 92, 3) := by decide +kernel
theorem dX4_rib_64 : decode cX4_rib 64 = .ok (.aload_n 0, 1) := by decide +kernel
theorem dX4_rib_65 : decode cX4_rib 65 = .ok (.getfield 19, 3) := by decide +kernel
theorem dX4_rib_68 : decode cX4_rib 68 = .ok (.invokevirtual 31, 3) := by decide +kernel
theorem dX4_rib_71 : decode cX4_rib 71 = .ok (.iload 4, 2) := by decide +kernel
theorem dX4_rib_73 : decode cX4_rib 73 = .ok (.invokestatic 78, 3) := by decide +kernel
theorem dX4_rib_76 : decode cX4_rib 76 = .ok (.ireturn, 1) := by decide +kernel
set_option maxRecDepth 20000 in
theorem ggX4_ribs_X3_ribCount : GoodIn wsX4_ribs wsX3_ribCount := goodIn_r _ [7, 8, 9, 28, 29, 30, 31, 32, 33, 34] (by decide +kernel) (by decide +kernel)
set_option maxRecDepth 20000 in
theorem gX4_ribs_X3_ribCount : GoodIn wsX4_ribs (wsV RX4 96 RX3 yX3_ribCount wsX3_ribCount) := goodIn_app (goodIn_of _ (by decide +kernel)) ggX4_ribs_X3_ribCount
set_option maxRecDepth 20000 in
theorem ggX4_ribs_X3_chosenBits : GoodIn wsX4_ribs wsX3_chosenBits := goodIn_r _ [13, 14, 15, 28, 29, 30, 31, 32, 33, 34] (by decide +kernel) (by decide +kernel)
set_option maxRecDepth 20000 in
theorem gX4_ribs_X3_chosenBits : GoodIn wsX4_ribs (wsV RX4 88 RX3 yX3_chosenBits wsX3_chosenBits) := goodIn_app (goodIn_of _ (by decide +kernel)) ggX4_ribs_X3_chosenBits
set_option maxRecDepth 20000 in
theorem ggX4_ribs_X3_choose : GoodIn wsX4_ribs wsX3_choose := goodIn_r _ [19, 14, 15, 28, 29, 30, 31, 32, 33, 34] (by decide +kernel) (by decide +kernel)
set_option maxRecDepth 20000 in
theorem gX4_ribs_X3_choose : GoodIn wsX4_ribs (wsV RX4 92 RX3 yX3_choose wsX3_choose) := goodIn_app (goodIn_of _ (by decide +kernel)) ggX4_ribs_X3_choose
set_option maxRecDepth 20000 in
theorem ggX4_ribs_X0_forget : GoodIn wsX4_ribs wsX0_forget := goodIn_r _ [24, 25, 35, 36, 37, 38, 39] (by decide +kernel) (by decide +kernel)
set_option maxRecDepth 20000 in
theorem gX4_ribs_X0_forget : GoodIn wsX4_ribs (wsV RX4 31 RX0 yX0_forget wsX0_forget) := goodIn_app (goodIn_of _ (by decide +kernel)) ggX4_ribs_X0_forget
theorem dX4_ribs_0 : decode cX4_ribs 0 = .ok (.iload_n 1, 1) := by decide +kernel
theorem dX4_ribs_1 : decode cX4_ribs 1 = .ok (.ifCond .lt 26, 3) := by decide +kernel
theorem dX4_ribs_4 : decode cX4_ribs 4 = .ok (.iload_n 1, 1) := by decide +kernel
theorem dX4_ribs_5 : decode cX4_ribs 5 = .ok (.iconst 1, 1) := by decide +kernel
theorem dX4_ribs_6 : decode cX4_ribs 6 = .ok (.if_icmp .gt 21, 3) := by decide +kernel
theorem dX4_ribs_9 : decode cX4_ribs 9 = .ok (.iload_n 2, 1) := by decide +kernel
theorem dX4_ribs_10 : decode cX4_ribs 10 = .ok (.ifCond .lt 17, 3) := by decide +kernel
theorem dX4_ribs_13 : decode cX4_ribs 13 = .ok (.iload_n 2, 1) := by decide +kernel
theorem dX4_ribs_14 : decode cX4_ribs 14 = .ok (.iconst 1, 1) := by decide +kernel
theorem dX4_ribs_15 : decode cX4_ribs 15 = .ok (.aload_n 0, 1) := by decide +kernel
theorem dX4_ribs_16 : decode cX4_ribs 16 = .ok (.getfield 10, 3) := by decide +kernel
theorem dX4_ribs_19 : decode cX4_ribs 19 = .ok (.iload_n 1, 1) := by decide +kernel
theorem dX4_ribs_20 : decode cX4_ribs 20 = .ok (.invokevirtual 96, 3) := by decide +kernel
theorem dX4_ribs_23 : decode cX4_ribs 23 = .ok (.ishl, 1) := by decide +kernel
theorem dX4_ribs_24 : decode cX4_ribs 24 = .ok (.if_icmp .lt 6, 3) := by decide +kernel
theorem dX4_ribs_27 : decode cX4_ribs 27 = .ok (.bipush (-2), 2) := by decide +kernel
theorem dX4_ribs_29 : decode cX4_ribs 29 = .ok (.ireturn, 1) := by decide +kernel
theorem dX4_ribs_30 : decode cX4_ribs 30 = .ok (.aload_n 0, 1) := by decide +kernel
theorem dX4_ribs_31 : decode cX4_ribs 31 = .ok (.getfield 10, 3) := by decide +kernel
theorem dX4_ribs_34 : decode cX4_ribs 34 = .ok (.iload_n 1, 1) := by decide +kernel
theorem dX4_ribs_35 : decode cX4_ribs 35 = .ok (.invokevirtual 88, 3) := by decide +kernel
theorem dX4_ribs_38 : decode cX4_ribs 38 = .ok (.istore_n 3, 1) := by decide +kernel
theorem dX4_ribs_39 : decode cX4_ribs 39 = .ok (.aload_n 0, 1) := by decide +kernel
theorem dX4_ribs_40 : decode cX4_ribs 40 = .ok (.getfield 10, 3) := by decide +kernel
theorem dX4_ribs_43 : decode cX4_ribs 43 = .ok (.iload_n 1, 1) := by decide +kernel
theorem dX4_ribs_44 : decode cX4_ribs 44 = .ok (.iload_n 2, 1) := by decide +kernel
theorem dX4_ribs_45 : decode cX4_ribs 45 = .ok (.invokevirtual 92, 3) := by decide +kernel
theorem dX4_ribs_48 : decode cX4_ribs 48 = .ok (.aload_n 0, 1) := by decide +kernel
theorem dX4_ribs_49 : decode cX4_ribs 49 = .ok (.getfield 19, 3) := by decide +kernel
theorem dX4_ribs_52 : decode cX4_ribs 52 = .ok (.invokevirtual 31, 3) := by decide +kernel
theorem dX4_ribs_55 : decode cX4_ribs 55 = .ok (.iload_n 3, 1) := by decide +kernel
theorem dX4_ribs_56 : decode cX4_ribs 56 = .ok (.ireturn, 1) := by decide +kernel
set_option maxRecDepth 20000 in
theorem ggX4_figure_X3_hasRib : GoodIn wsX4_figure wsX3_hasRib := goodIn_r _ [6, 7, 8, 9, 5, 10, 11, 12, 91, 92, 93, 94, 95, 96, 97] (by decide +kernel) (by decide +kernel)
set_option maxRecDepth 20000 in
theorem gX4_figure_X3_hasRib : GoodIn wsX4_figure (wsV RX4 82 RX3 yX3_hasRib wsX3_hasRib) := goodIn_app (goodIn_of _ (by decide +kernel)) ggX4_figure_X3_hasRib
set_option maxRecDepth 20000 in
theorem ggX4_figure_X3_hasLayer : GoodIn wsX4_figure wsX3_hasLayer := goodIn_r _ [16, 17, 91, 92, 93, 94, 95, 96, 97] (by decide +kernel) (by decide +kernel)
set_option maxRecDepth 20000 in
theorem gX4_figure_X3_hasLayer : GoodIn wsX4_figure (wsV RX4 69 RX3 yX3_hasLayer wsX3_hasLayer) := goodIn_app (goodIn_of _ (by decide +kernel)) ggX4_figure_X3_hasLayer
set_option maxRecDepth 20000 in
theorem ggX4_figure_X3_cutOf : GoodIn wsX4_figure wsX3_cutOf := goodIn_r _ [21, 22, 23, 24, 5, 25, 26, 27, 28, 29, 30, 31, 32, 33, 34, 35, 36, 37, 38, 39, 7, 8, 9, 10, 11, 12, 40, 41, 42, 43, 44, 45, 46, 47, 48, 49, 50, 51, 52, 53, 54, 55, 56, 57, 58, 59, 60, 61, 62, 63, 64, 65, 66, 67, 68, 69, 70, 71, 72, 73, 74, 75, 76, 91, 92, 93, 94, 95, 96, 97] (by decide +kernel) (by decide +kernel)
set_option maxRecDepth 20000 in
theorem gX4_figure_X3_cutOf : GoodIn wsX4_figure (wsV RX4 99 RX3 yX3_cutOf wsX3_cutOf) := goodIn_app (goodIn_of _ (by decide +kernel)) ggX4_figure_X3_cutOf
set_option maxRecDepth 20000 in
theorem ggX4_figure_X3_figureOf : GoodIn wsX4_figure wsX3_figureOf := goodIn_r _ [80, 7, 8, 9, 5, 10, 11, 12, 40, 41, 42, 43, 44, 45, 46, 47, 48, 49, 50, 51, 52, 73, 74, 75, 76, 91, 92, 93, 94, 95, 96, 97] (by decide +kernel) (by decide +kernel)
set_option maxRecDepth 20000 in
theorem gX4_figure_X3_figureOf : GoodIn wsX4_figure (wsV RX4 103 RX3 yX3_figureOf wsX3_figureOf) := goodIn_app (goodIn_of _ (by decide +kernel)) ggX4_figure_X3_figureOf
set_option maxRecDepth 20000 in
theorem ggX4_figure_X2_columnAt : GoodIn wsX4_figure wsX2_columnAt := goodIn_r _ [83] (by decide +kernel) (by decide +kernel)
set_option maxRecDepth 20000 in
theorem gX4_figure_X2_columnAt : GoodIn wsX4_figure (va_wsS RX4 106 yX2_columnAt wsX2_columnAt) := goodIn_app (goodIn_of _ (by decide +kernel)) ggX4_figure_X2_columnAt
set_option maxRecDepth 20000 in
theorem ggX4_figure_X1_hasBit : GoodIn wsX4_figure wsX1_hasBit := goodIn_r _ [39] (by decide +kernel) (by decide +kernel)
set_option maxRecDepth 20000 in
theorem gX4_figure_X1_hasBit : GoodIn wsX4_figure (va_wsS RX4 75 yX1_hasBit wsX1_hasBit) := goodIn_app (goodIn_of _ (by decide +kernel)) ggX4_figure_X1_hasBit
set_option maxRecDepth 20000 in
theorem ggX4_figure_X4_asNumber : GoodIn wsX4_figure wsX4_asNumber := goodIn_r _ [88] (by decide +kernel) (by decide +kernel)
set_option maxRecDepth 20000 in
theorem gX4_figure_X4_asNumber : GoodIn wsX4_figure (va_wsS RX4 78 yX4_asNumber wsX4_asNumber) := goodIn_app (goodIn_of _ (by decide +kernel)) ggX4_figure_X4_asNumber
theorem dX4_figure_0 : decode cX4_figure 0 = .ok (.aload_n 0, 1) := by decide +kernel
theorem dX4_figure_1 : decode cX4_figure 1 = .ok (.getfield 10, 3) := by decide +kernel
theorem dX4_figure_4 : decode cX4_figure 4 = .ok (.iload_n 1, 1) := by decide +kernel
theorem dX4_figure_5 : decode cX4_figure 5 = .ok (.iload_n 2, 1) := by decide +kernel
theorem dX4_figure_6 : decode cX4_figure 6 = .ok (.invokevirtual 82, 3) := by decide +kernel
theorem dX4_figure_9 : decode cX4_figure 9 = .ok (.ifCond .eq 29, 3) := by decide +kernel
theorem dX4_figure_12 : decode cX4_figure 12 = .ok (.aload_n 0, 1) := by decide +kernel
theorem dX4_figure_13 : decode cX4_figure 13 = .ok (.getfield 10, 3) := by decide +kernel
theorem dX4_figure_16 : decode cX4_figure 16 = .ok (.iconst 1, 1) := by decide +kernel
theorem dX4_figure_17 : decode cX4_figure 17 = .ok (.iload_n 1, 1) := by decide +kernel
theorem dX4_figure_18 : decode cX4_figure 18 = .ok (.isub, 1) := by decide +kernel
theorem dX4_figure_19 : decode cX4_figure 19 = .ok (.iload_n 3, 1) := by decide +kernel
theorem dX4_figure_20 : decode cX4_figure 20 = .ok (.invokevirtual 82, 3) := by decide +kernel
theorem dX4_figure_23 : decode cX4_figure 23 = .ok (.ifCond .eq 15, 3) := by decide +kernel
theorem dX4_figure_26 : decode cX4_figure 26 = .ok (.aload_n 0, 1) := by decide +kernel
theorem dX4_figure_27 : decode cX4_figure 27 = .ok (.getfield 10, 3) := by decide +kernel
theorem dX4_figure_30 : decode cX4_figure 30 = .ok (.iload 4, 2) := by decide +kernel
theorem dX4_figure_32 : decode cX4_figure 32 = .ok (.invokevirtual 69, 3) := by decide +kernel
theorem dX4_figure_35 : decode cX4_figure 35 = .ok (.ifCond .ne 5, 3) := by decide +kernel
theorem dX4_figure_38 : decode cX4_figure 38 = .ok (.iconst (-1), 1) := by decide +kernel
theorem dX4_figure_39 : decode cX4_figure 39 = .ok (.ireturn, 1) := by decide +kernel
theorem dX4_figure_40 : decode cX4_figure 40 = .ok (.iload 5, 2) := by decide +kernel
theorem dX4_figure_42 : decode cX4_figure 42 = .ok (.ifCond .eq 15, 3) := by decide +kernel
theorem dX4_figure_45 : decode cX4_figure 45 = .ok (.aload_n 0, 1) := by decide +kernel
theorem dX4_figure_46 : decode cX4_figure 46 = .ok (.getfield 10, 3) := by decide +kernel
theorem dX4_figure_49 : decode cX4_figure 49 = .ok (.iload_n 1, 1) := by decide +kernel
theorem dX4_figure_50 : decode cX4_figure 50 = .ok (.iload_n 2, 1) := by decide +kernel
theorem dX4_figure_51 : decode cX4_figure 51 = .ok (.invokevirtual 99, 3) := by decide +kernel
theorem dX4_figure_54 : decode cX4_figure 54 = .ok (.goto 12, 3) := by decide +kernel
theorem dX4_figure_57 : decode cX4_figure 57 = .ok (.aload_n 0, 1) := by decide +kernel
theorem dX4_figure_58 : decode cX4_figure 58 = .ok (.getfield 10, 3) := by decide +kernel
theorem dX4_figure_61 : decode cX4_figure 61 = .ok (.iload_n 1, 1) := by decide +kernel
theorem dX4_figure_62 : decode cX4_figure 62 = .ok (.iload_n 2, 1) := by decide +kernel
theorem dX4_figure_63 : decode cX4_figure 63 = .ok (.invokevirtual 103, 3) := by decide +kernel
theorem dX4_figure_66 : decode cX4_figure 66 = .ok (.lstore 6, 2) := by decide +kernel
theorem dX4_figure_68 : decode cX4_figure 68 = .ok (.lload 6, 2) := by decide +kernel
theorem dX4_figure_70 : decode cX4_figure 70 = .ok (.iload_n 3, 1) := by decide +kernel
theorem dX4_figure_71 : decode cX4_figure 71 = .ok (.invokestatic 106, 3) := by decide +kernel
end
section
theorem dX4_figure_74 : decode cX4_figure 74 = .ok (.iload 4, 2) := by decide +kernel
theorem dX4_figure_76 : decode cX4_figure 76 = .ok (.invokestatic 75, 3) := by decide +kernel
theorem dX4_figure_79 : decode cX4_figure 79 = .ok (.invokestatic 78, 3) := by decide +kernel
theorem dX4_figure_82 : decode cX4_figure 82 = .ok (.ireturn, 1) := by decide +kernel
set_option maxRecDepth 20000 in
theorem ggX4_about_X3_hasRib : GoodIn wsX4_about wsX3_hasRib := goodIn_r _ [6, 7, 8, 9, 5, 10, 11, 12, 136, 137, 138, 139, 140, 141, 142] (by decide +kernel) (by decide +kernel)
set_option maxRecDepth 20000 in
theorem gX4_about_X3_hasRib : GoodIn wsX4_about (wsV RX4 82 RX3 yX3_hasRib wsX3_hasRib) := goodIn_app (goodIn_of _ (by decide +kernel)) ggX4_about_X3_hasRib
set_option maxRecDepth 20000 in
theorem ggX4_about_X3_figureOf : GoodIn wsX4_about wsX3_figureOf := goodIn_r _ [16, 7, 8, 9, 5, 10, 11, 12, 17, 18, 19, 20, 21, 22, 23, 24, 25, 26, 27, 28, 29, 30, 31, 32, 33, 136, 137, 138, 139, 140, 141, 142] (by decide +kernel) (by decide +kernel)
set_option maxRecDepth 20000 in
theorem gX4_about_X3_figureOf : GoodIn wsX4_about (wsV RX4 103 RX3 yX3_figureOf wsX3_figureOf) := goodIn_app (goodIn_of _ (by decide +kernel)) ggX4_about_X3_figureOf
set_option maxRecDepth 20000 in
theorem ggX4_about_J13_bitCount_95d88 : GoodIn wsX4_about wsJ13_bitCount_95d88 := goodIn_r _ [37, 38, 39, 40] (by decide +kernel) (by decide +kernel)
set_option maxRecDepth 20000 in
theorem gX4_about_J13_bitCount_95d88 : GoodIn wsX4_about (va_wsS RX4 111 yJ13_bitCount_95d88 wsJ13_bitCount_95d88) := goodIn_app (goodIn_of _ (by decide +kernel)) ggX4_about_J13_bitCount_95d88
set_option maxRecDepth 20000 in
theorem ggX4_about_X3_cutOf : GoodIn wsX4_about wsX3_cutOf := goodIn_r _ [44, 45, 46, 47, 5, 48, 49, 50, 51, 52, 53, 54, 55, 56, 57, 58, 59, 60, 61, 62, 7, 8, 9, 10, 11, 12, 17, 18, 19, 20, 21, 22, 23, 24, 25, 26, 27, 28, 29, 63, 64, 65, 66, 67, 68, 69, 70, 71, 72, 73, 74, 75, 76, 77, 78, 79, 80, 81, 82, 30, 31, 32, 33, 136, 137, 138, 139, 140, 141, 142] (by decide +kernel) (by decide +kernel)
set_option maxRecDepth 20000 in
theorem gX4_about_X3_cutOf : GoodIn wsX4_about (wsV RX4 99 RX3 yX3_cutOf wsX3_cutOf) := goodIn_app (goodIn_of _ (by decide +kernel)) ggX4_about_X3_cutOf
set_option maxRecDepth 20000 in
theorem ggX4_about_X2_partCount : GoodIn wsX4_about wsX2_partCount := goodIn_r _ [85, 86, 87, 32, 88, 89, 90, 91, 92, 93, 94, 95, 96, 97] (by decide +kernel) (by decide +kernel)
set_option maxRecDepth 20000 in
theorem gX4_about_X2_partCount : GoodIn wsX4_about (va_wsS RX4 117 yX2_partCount wsX2_partCount) := goodIn_app (goodIn_of _ (by decide +kernel)) ggX4_about_X2_partCount
set_option maxRecDepth 20000 in
theorem ggX4_about_X3_loosePartsOf : GoodIn wsX4_about wsX3_loosePartsOf := goodIn_r _ [101, 45, 46, 47, 5, 48, 49, 50, 51, 52, 53, 54, 55, 56, 57, 58, 59, 60, 61, 62, 7, 8, 9, 10, 11, 12, 30, 31, 32, 33, 102, 42, 43, 44, 17, 18, 19, 20, 21, 22, 23, 24, 25, 26, 27, 28, 29, 63, 64, 65, 66, 67, 68, 69, 70, 71, 72, 73, 74, 75, 76, 77, 78, 79, 80, 81, 82, 103, 87, 88, 89, 90, 91, 92, 93, 94, 95, 96, 97, 136, 137, 138, 139, 140, 141, 142] (by decide +kernel) (by decide +kernel)
set_option maxRecDepth 20000 in
theorem gX4_about_X3_loosePartsOf : GoodIn wsX4_about (wsV RX4 120 RX3 yX3_loosePartsOf wsX3_loosePartsOf) := goodIn_app (goodIn_of _ (by decide +kernel)) ggX4_about_X3_loosePartsOf
set_option maxRecDepth 20000 in
theorem ggX4_about_X3_crossingsWithRun : GoodIn wsX4_about wsX3_crossingsWithRun := goodIn_r _ [107, 45, 46, 47, 5, 48, 49, 50, 51, 52, 53, 54, 55, 56, 57, 58, 59, 60, 61, 62, 7, 8, 9, 10, 11, 12, 17, 18, 19, 20, 21, 22, 23, 24, 25, 26, 27, 28, 29, 136, 137, 138, 139, 140, 141, 142] (by decide +kernel) (by decide +kernel)
set_option maxRecDepth 20000 in
theorem gX4_about_X3_crossingsWithRun : GoodIn wsX4_about (wsV RX4 123 RX3 yX3_crossingsWithRun wsX3_crossingsWithRun) := goodIn_app (goodIn_of _ (by decide +kernel)) ggX4_about_X3_crossingsWithRun
set_option maxRecDepth 20000 in
theorem ggX4_about_X3_runsInCrossings : GoodIn wsX4_about wsX3_runsInCrossings := goodIn_r _ [111, 45, 46, 47, 5, 48, 49, 50, 51, 52, 53, 54, 55, 56, 57, 58, 59, 60, 61, 62, 7, 8, 9, 10, 11, 12, 17, 18, 19, 20, 21, 22, 23, 24, 25, 26, 27, 28, 29, 112, 113, 114, 115, 116, 117, 118, 119, 120, 121, 136, 137, 138, 139, 140, 141, 142] (by decide +kernel) (by decide +kernel)
set_option maxRecDepth 20000 in
theorem gX4_about_X3_runsInCrossings : GoodIn wsX4_about (wsV RX4 126 RX3 yX3_runsInCrossings wsX3_runsInCrossings) := goodIn_app (goodIn_of _ (by decide +kernel)) ggX4_about_X3_runsInCrossings
set_option maxRecDepth 20000 in
theorem ggX4_about_X2_spanOfU : GoodIn wsX4_about wsX2_spanOfU := goodIn_r _ [124, 125, 126, 32, 127, 128, 129, 61, 130, 69, 60, 62] (by decide +kernel) (by decide +kernel)
set_option maxRecDepth 20000 in
theorem gX4_about_X2_spanOfU : GoodIn wsX4_about (va_wsS RX4 129 yX2_spanOfU wsX2_spanOfU) := goodIn_app (goodIn_of _ (by decide +kernel)) ggX4_about_X2_spanOfU
set_option maxRecDepth 20000 in
theorem ggX4_about_X2_spanOfZ : GoodIn wsX4_about wsX2_spanOfZ := goodIn_r _ [133, 125, 126, 32, 127, 128, 129, 61, 130, 69, 60, 62] (by decide +kernel) (by decide +kernel)
set_option maxRecDepth 20000 in
theorem gX4_about_X2_spanOfZ : GoodIn wsX4_about (va_wsS RX4 132 yX2_spanOfZ wsX2_spanOfZ) := goodIn_app (goodIn_of _ (by decide +kernel)) ggX4_about_X2_spanOfZ
theorem dX4_about_0 : decode cX4_about 0 = .ok (.aload_n 0, 1) := by decide +kernel
theorem dX4_about_1 : decode cX4_about 1 = .ok (.getfield 10, 3) := by decide +kernel
theorem dX4_about_4 : decode cX4_about 4 = .ok (.iload_n 1, 1) := by decide +kernel
theorem dX4_about_5 : decode cX4_about 5 = .ok (.iload_n 2, 1) := by decide +kernel
theorem dX4_about_6 : decode cX4_about 6 = .ok (.invokevirtual 82, 3) := by decide +kernel
theorem dX4_about_9 : decode cX4_about 9 = .ok (.ifCond .ne 5, 3) := by decide +kernel
theorem dX4_about_12 : decode cX4_about 12 = .ok (.iconst (-1), 1) := by decide +kernel
theorem dX4_about_13 : decode cX4_about 13 = .ok (.ireturn, 1) := by decide +kernel
theorem dX4_about_14 : decode cX4_about 14 = .ok (.iload_n 3, 1) := by decide +kernel
theorem dX4_about_15 : decode cX4_about 15 = .ok (.tableswitch 157 0 8 #[49, 62, 75, 88, 101, 111, 121, 131, 144], 49) := by decide +kernel
theorem dX4_about_64 : decode cX4_about 64 = .ok (.aload_n 0, 1) := by decide +kernel
theorem dX4_about_65 : decode cX4_about 65 = .ok (.getfield 10, 3) := by decide +kernel
theorem dX4_about_68 : decode cX4_about 68 = .ok (.iload_n 1, 1) := by decide +kernel
theorem dX4_about_69 : decode cX4_about 69 = .ok (.iload_n 2, 1) := by decide +kernel
theorem dX4_about_70 : decode cX4_about 70 = .ok (.invokevirtual 103, 3) := by decide +kernel
theorem dX4_about_73 : decode cX4_about 73 = .ok (.invokestatic 111, 3) := by decide +kernel
theorem dX4_about_76 : decode cX4_about 76 = .ok (.ireturn, 1) := by decide +kernel
theorem dX4_about_77 : decode cX4_about 77 = .ok (.aload_n 0, 1) := by decide +kernel
theorem dX4_about_78 : decode cX4_about 78 = .ok (.getfield 10, 3) := by decide +kernel
theorem dX4_about_81 : decode cX4_about 81 = .ok (.iload_n 1, 1) := by decide +kernel
theorem dX4_about_82 : decode cX4_about 82 = .ok (.iload_n 2, 1) := by decide +kernel
theorem dX4_about_83 : decode cX4_about 83 = .ok (.invokevirtual 99, 3) := by decide +kernel
theorem dX4_about_86 : decode cX4_about 86 = .ok (.invokestatic 111, 3) := by decide +kernel
theorem dX4_about_89 : decode cX4_about 89 = .ok (.ireturn, 1) := by decide +kernel
theorem dX4_about_90 : decode cX4_about 90 = .ok (.aload_n 0, 1) := by decide +kernel
theorem dX4_about_91 : decode cX4_about 91 = .ok (.getfield 10, 3) := by decide +kernel
theorem dX4_about_94 : decode cX4_about 94 = .ok (.iload_n 1, 1) := by decide +kernel
theorem dX4_about_95 : decode cX4_about 95 = .ok (.iload_n 2, 1) := by decide +kernel
theorem dX4_about_96 : decode cX4_about 96 = .ok (.invokevirtual 103, 3) := by decide +kernel
theorem dX4_about_99 : decode cX4_about 99 = .ok (.invokestatic 117, 3) := by decide +kernel
theorem dX4_about_102 : decode cX4_about 102 = .ok (.ireturn, 1) := by decide +kernel
theorem dX4_about_103 : decode cX4_about 103 = .ok (.aload_n 0, 1) := by decide +kernel
theorem dX4_about_104 : decode cX4_about 104 = .ok (.getfield 10, 3) := by decide +kernel
theorem dX4_about_107 : decode cX4_about 107 = .ok (.iload_n 1, 1) := by decide +kernel
theorem dX4_about_108 : decode cX4_about 108 = .ok (.iload_n 2, 1) := by decide +kernel
theorem dX4_about_109 : decode cX4_about 109 = .ok (.invokevirtual 99, 3) := by decide +kernel
theorem dX4_about_112 : decode cX4_about 112 = .ok (.invokestatic 117, 3) := by decide +kernel
theorem dX4_about_115 : decode cX4_about 115 = .ok (.ireturn, 1) := by decide +kernel
theorem dX4_about_116 : decode cX4_about 116 = .ok (.aload_n 0, 1) := by decide +kernel
theorem dX4_about_117 : decode cX4_about 117 = .ok (.getfield 10, 3) := by decide +kernel
theorem dX4_about_120 : decode cX4_about 120 = .ok (.iload_n 1, 1) := by decide +kernel
theorem dX4_about_121 : decode cX4_about 121 = .ok (.iload_n 2, 1) := by decide +kernel
theorem dX4_about_122 : decode cX4_about 122 = .ok (.invokevirtual 120, 3) := by decide +kernel
theorem dX4_about_125 : decode cX4_about 125 = .ok (.ireturn, 1) := by decide +kernel
theorem dX4_about_126 : decode cX4_about 126 = .ok (.aload_n 0, 1) := by decide +kernel
theorem dX4_about_127 : decode cX4_about 127 = .ok (.getfield 10, 3) := by decide +kernel
theorem dX4_about_130 : decode cX4_about 130 = .ok (.iload_n 1, 1) := by decide +kernel
theorem dX4_about_131 : decode cX4_about 131 = .ok (.iload_n 2, 1) := by decide +kernel
theorem dX4_about_132 : decode cX4_about 132 = .ok (.invokevirtual 123, 3) := by decide +kernel
theorem dX4_about_135 : decode cX4_about 135 = .ok (.ireturn, 1) := by decide +kernel
theorem dX4_about_136 : decode cX4_about 136 = .ok (.aload_n 0, 1) := by decide +kernel
theorem dX4_about_137 : decode cX4_about 137 = .ok (.getfield 10, 3) := by decide +kernel
theorem dX4_about_140 : decode cX4_about 140 = .ok (.iload_n 1, 1) := by decide +kernel
theorem dX4_about_141 : decode cX4_about 141 = .ok (.iload_n 2, 1) := by decide +kernel
theorem dX4_about_142 : decode cX4_about 142 = .ok (.invokevirtual 126, 3) := by decide +kernel
theorem dX4_about_145 : decode cX4_about 145 = .ok (.ireturn, 1) := by decide +kernel
theorem dX4_about_146 : decode cX4_about 146 = .ok (.aload_n 0, 1) := by decide +kernel
theorem dX4_about_147 : decode cX4_about 147 = .ok (.getfield 10, 3) := by decide +kernel
theorem dX4_about_150 : decode cX4_about 150 = .ok (.iload_n 1, 1) := by decide +kernel
theorem dX4_about_151 : decode cX4_about 151 = .ok (.iload_n 2, 1) := by decide +kernel
theorem dX4_about_152 : decode cX4_about 152 = .ok (.invokevirtual 103, 3) := by decide +kernel
theorem dX4_about_155 : decode cX4_about 155 = .ok (.invokestatic 129, 3) := by decide +kernel
theorem dX4_about_158 : decode cX4_about 158 = .ok (.ireturn, 1) := by decide +kernel
theorem dX4_about_159 : decode cX4_about 159 = .ok (.aload_n 0, 1) := by decide +kernel
theorem dX4_about_160 : decode cX4_about 160 = .ok (.getfield 10, 3) := by decide +kernel
theorem dX4_about_163 : decode cX4_about 163 = .ok (.iload_n 1, 1) := by decide +kernel
theorem dX4_about_164 : decode cX4_about 164 = .ok (.iload_n 2, 1) := by decide +kernel
theorem dX4_about_165 : decode cX4_about 165 = .ok (.invokevirtual 103, 3) := by decide +kernel
theorem dX4_about_168 : decode cX4_about 168 = .ok (.invokestatic 132, 3) := by decide +kernel
theorem dX4_about_171 : decode cX4_about 171 = .ok (.ireturn, 1) := by decide +kernel
theorem dX4_about_172 : decode cX4_about 172 = .ok (.bipush (-2), 2) := by decide +kernel
theorem dX4_about_174 : decode cX4_about 174 = .ok (.ireturn, 1) := by decide +kernel
set_option maxRecDepth 20000 in
theorem ggX4_caught_X3_crossingsOf : GoodIn wsX4_caught wsX3_crossingsOf := goodIn_r _ [8, 9, 10, 11, 7, 12, 13, 14, 15, 16, 17, 18, 19, 20, 21, 22, 51, 52, 53, 54, 55, 56, 57] (by decide +kernel) (by decide +kernel)
set_option maxRecDepth 20000 in
theorem gX4_caught_X3_crossingsOf : GoodIn wsX4_caught (wsV RX4 135 RX3 yX3_crossingsOf wsX3_crossingsOf) := goodIn_app (goodIn_of _ (by decide +kernel)) ggX4_caught_X3_crossingsOf
set_option maxRecDepth 20000 in
theorem ggX4_caught_X1_hasBit : GoodIn wsX4_caught wsX1_hasBit := goodIn_r _ [22] (by decide +kernel) (by decide +kernel)
set_option maxRecDepth 20000 in
theorem gX4_caught_X1_hasBit : GoodIn wsX4_caught (va_wsS RX4 75 yX1_hasBit wsX1_hasBit) := goodIn_app (goodIn_of _ (by decide +kernel)) ggX4_caught_X1_hasBit
set_option maxRecDepth 20000 in
theorem ggX4_caught_X3_wouldCatch : GoodIn wsX4_caught wsX3_wouldCatch := goodIn_r _ [27, 28, 29, 30, 7, 31, 32, 33, 34, 35, 36, 37, 38, 39, 40, 21, 41, 42, 43, 44, 45, 46, 47, 48, 51, 52, 53, 54, 55, 56, 57] (by decide +kernel) (by decide +kernel)
set_option maxRecDepth 20000 in
theorem gX4_caught_X3_wouldCatch : GoodIn wsX4_caught (wsV RX4 138 RX3 yX3_wouldCatch wsX3_wouldCatch) := goodIn_app (goodIn_of _ (by decide +kernel)) ggX4_caught_X3_wouldCatch
theorem dX4_caught_0 : decode cX4_caught 0 = .ok (.iconst 0, 1) := by decide +kernel
theorem dX4_caught_1 : decode cX4_caught 1 = .ok (.istore_n 2, 1) := by decide +kernel
theorem dX4_caught_2 : decode cX4_caught 2 = .ok (.iconst 0, 1) := by decide +kernel
theorem dX4_caught_3 : decode cX4_caught 3 = .ok (.istore_n 3, 1) := by decide +kernel
theorem dX4_caught_4 : decode cX4_caught 4 = .ok (.iload_n 3, 1) := by decide +kernel
theorem dX4_caught_5 : decode cX4_caught 5 = .ok (.aload_n 0, 1) := by decide +kernel
theorem dX4_caught_6 : decode cX4_caught 6 = .ok (.getfield 10, 3) := by decide +kernel
theorem dX4_caught_9 : decode cX4_caught 9 = .ok (.getfield 52, 3) := by decide +kernel
theorem dX4_caught_12 : decode cX4_caught 12 = .ok (.if_icmp .ge 80, 3) := by decide +kernel
theorem dX4_caught_15 : decode cX4_caught 15 = .ok (.aload_n 0, 1) := by decide +kernel
theorem dX4_caught_16 : decode cX4_caught 16 = .ok (.getfield 10, 3) := by decide +kernel
theorem dX4_caught_19 : decode cX4_caught 19 = .ok (.iconst 0, 1) := by decide +kernel
theorem dX4_caught_20 : decode cX4_caught 20 = .ok (.iload_n 3, 1) := by decide +kernel
theorem dX4_caught_21 : decode cX4_caught 21 = .ok (.invokevirtual 135, 3) := by decide +kernel
theorem dX4_caught_24 : decode cX4_caught 24 = .ok (.istore 4, 2) := by decide +kernel
theorem dX4_caught_26 : decode cX4_caught 26 = .ok (.iconst 0, 1) := by decide +kernel
theorem dX4_caught_27 : decode cX4_caught 27 = .ok (.istore 5, 2) := by decide +kernel
theorem dX4_caught_29 : decode cX4_caught 29 = .ok (.iload 5, 2) := by decide +kernel
theorem dX4_caught_31 : decode cX4_caught 31 = .ok (.aload_n 0, 1) := by decide +kernel
theorem dX4_caught_32 : decode cX4_caught 32 = .ok (.getfield 10, 3) := by decide +kernel
theorem dX4_caught_35 : decode cX4_caught 35 = .ok (.getfield 55, 3) := by decide +kernel
theorem dX4_caught_38 : decode cX4_caught 38 = .ok (.if_icmp .ge 48, 3) := by decide +kernel
theorem dX4_caught_41 : decode cX4_caught 41 = .ok (.iload 4, 2) := by decide +kernel
theorem dX4_caught_43 : decode cX4_caught 43 = .ok (.iload 5, 2) := by decide +kernel
theorem dX4_caught_45 : decode cX4_caught 45 = .ok (.invokestatic 75, 3) := by decide +kernel
theorem dX4_caught_48 : decode cX4_caught 48 = .ok (.ifCond .eq 32, 3) := by decide +kernel
theorem dX4_caught_51 : decode cX4_caught 51 = .ok (.aload_n 0, 1) := by decide +kernel
theorem dX4_caught_52 : decode cX4_caught 52 = .ok (.getfield 10, 3) := by decide +kernel
theorem dX4_caught_55 : decode cX4_caught 55 = .ok (.iload_n 3, 1) := by decide +kernel
theorem dX4_caught_56 : decode cX4_caught 56 = .ok (.iload 5, 2) := by decide +kernel
theorem dX4_caught_58 : decode cX4_caught 58 = .ok (.invokevirtual 138, 3) := by decide +kernel
theorem dX4_caught_61 : decode cX4_caught 61 = .ok (.ifCond .eq 19, 3) := by decide +kernel
theorem dX4_caught_64 : decode cX4_caught 64 = .ok (.iload_n 2, 1) := by decide +kernel
theorem dX4_caught_65 : decode cX4_caught 65 = .ok (.iload_n 1, 1) := by decide +kernel
theorem dX4_caught_66 : decode cX4_caught 66 = .ok (.if_icmp .ne 11, 3) := by decide +kernel
theorem dX4_caught_69 : decode cX4_caught 69 = .ok (.bipush 10, 2) := by decide +kernel
theorem dX4_caught_71 : decode cX4_caught 71 = .ok (.iload_n 3, 1) := by decide +kernel
theorem dX4_caught_72 : decode cX4_caught 72 = .ok (.imul, 1) := by decide +kernel
theorem dX4_caught_73 : decode cX4_caught 73 = .ok (.iload 5, 2) := by decide +kernel
theorem dX4_caught_75 : decode cX4_caught 75 = .ok (.iadd, 1) := by decide +kernel
theorem dX4_caught_76 : decode cX4_caught 76 = .ok (.ireturn, 1) := by decide +kernel
theorem dX4_caught_77 : decode cX4_caught 77 = .ok (.iinc 2 1, 3) := by decide +kernel
theorem dX4_caught_80 : decode cX4_caught 80 = .ok (.iinc 5 1, 3) := by decide +kernel
theorem dX4_caught_83 : decode cX4_caught 83 = .ok (.goto (-54), 3) := by decide +kernel
theorem dX4_caught_86 : decode cX4_caught 86 = .ok (.iinc 3 1, 3) := by decide +kernel
theorem dX4_caught_89 : decode cX4_caught 89 = .ok (.goto (-85), 3) := by decide +kernel
theorem dX4_caught_92 : decode cX4_caught 92 = .ok (.iload_n 1, 1) := by decide +kernel
theorem dX4_caught_93 : decode cX4_caught 93 = .ok (.iconst (-1), 1) := by decide +kernel
theorem dX4_caught_94 : decode cX4_caught 94 = .ok (.if_icmp .ne 7, 3) := by decide +kernel
theorem dX4_caught_97 : decode cX4_caught 97 = .ok (.iload_n 2, 1) := by decide +kernel
theorem dX4_caught_98 : decode cX4_caught 98 = .ok (.goto 5, 3) := by decide +kernel
theorem dX4_caught_101 : decode cX4_caught 101 = .ok (.bipush (-6), 2) := by decide +kernel
theorem dX4_caught_103 : decode cX4_caught 103 = .ok (.ireturn, 1) := by decide +kernel
set_option maxRecDepth 20000 in
theorem ggX4_run_X3_hasColumn : GoodIn wsX4_run wsX3_hasColumn := goodIn_r _ [7, 8, 9, 28, 29, 30, 31, 32, 33, 34] (by decide +kernel) (by decide +kernel)
set_option maxRecDepth 20000 in
theorem gX4_run_X3_hasColumn : GoodIn wsX4_run (wsV RX4 65 RX3 yX3_hasColumn wsX3_hasColumn) := goodIn_app (goodIn_of _ (by decide +kernel)) ggX4_run_X3_hasColumn
set_option maxRecDepth 20000 in
theorem ggX4_run_X3_columnAt : GoodIn wsX4_run wsX3_columnAt := goodIn_r _ [13, 14, 15, 4, 5, 6, 7, 8, 9, 28, 29, 30, 31, 32, 33, 34] (by decide +kernel) (by decide +kernel)
set_option maxRecDepth 20000 in
theorem gX4_run_X3_columnAt : GoodIn wsX4_run (wsV RX4 72 RX3 yX3_columnAt wsX3_columnAt) := goodIn_app (goodIn_of _ (by decide +kernel)) ggX4_run_X3_columnAt
set_option maxRecDepth 20000 in
theorem ggX4_run_X1_beginsRun : GoodIn wsX4_run wsX1_beginsRun := goodIn_r _ [19, 20, 21, 18, 22] (by decide +kernel) (by decide +kernel)
set_option maxRecDepth 20000 in
theorem gX4_run_X1_beginsRun : GoodIn wsX4_run (va_wsS RX4 141 yX1_beginsRun wsX1_beginsRun) := goodIn_app (goodIn_of _ (by decide +kernel)) ggX4_run_X1_beginsRun
set_option maxRecDepth 20000 in
theorem ggX4_run_X1_runLength : GoodIn wsX4_run wsX1_runLength := goodIn_r _ [25, 20, 21, 18, 22] (by decide +kernel) (by decide +kernel)
set_option maxRecDepth 20000 in
theorem gX4_run_X1_runLength : GoodIn wsX4_run (va_wsS RX4 144 yX1_runLength wsX1_runLength) := goodIn_app (goodIn_of _ (by decide +kernel)) ggX4_run_X1_runLength
theorem dX4_run_0 : decode cX4_run 0 = .ok (.aload_n 0, 1) := by decide +kernel
theorem dX4_run_1 : decode cX4_run 1 = .ok (.getfield 10, 3) := by decide +kernel
theorem dX4_run_4 : decode cX4_run 4 = .ok (.iload_n 1, 1) := by decide +kernel
theorem dX4_run_5 : decode cX4_run 5 = .ok (.iload_n 2, 1) := by decide +kernel
theorem dX4_run_6 : decode cX4_run 6 = .ok (.invokevirtual 65, 3) := by decide +kernel
theorem dX4_run_9 : decode cX4_run 9 = .ok (.ifCond .ne 5, 3) := by decide +kernel
theorem dX4_run_12 : decode cX4_run 12 = .ok (.iconst (-1), 1) := by decide +kernel
theorem dX4_run_13 : decode cX4_run 13 = .ok (.ireturn, 1) := by decide +kernel
theorem dX4_run_14 : decode cX4_run 14 = .ok (.aload_n 0, 1) := by decide +kernel
theorem dX4_run_15 : decode cX4_run 15 = .ok (.getfield 10, 3) := by decide +kernel
theorem dX4_run_18 : decode cX4_run 18 = .ok (.iload_n 1, 1) := by decide +kernel
theorem dX4_run_19 : decode cX4_run 19 = .ok (.iload_n 2, 1) := by decide +kernel
theorem dX4_run_20 : decode cX4_run 20 = .ok (.invokevirtual 72, 3) := by decide +kernel
theorem dX4_run_23 : decode cX4_run 23 = .ok (.istore 4, 2) := by decide +kernel
theorem dX4_run_25 : decode cX4_run 25 = .ok (.iconst 0, 1) := by decide +kernel
theorem dX4_run_26 : decode cX4_run 26 = .ok (.istore 5, 2) := by decide +kernel
theorem dX4_run_28 : decode cX4_run 28 = .ok (.iconst 0, 1) := by decide +kernel
theorem dX4_run_29 : decode cX4_run 29 = .ok (.istore 6, 2) := by decide +kernel
theorem dX4_run_31 : decode cX4_run 31 = .ok (.iload 6, 2) := by decide +kernel
theorem dX4_run_33 : decode cX4_run 33 = .ok (.aload_n 0, 1) := by decide +kernel
theorem dX4_run_34 : decode cX4_run 34 = .ok (.getfield 10, 3) := by decide +kernel
theorem dX4_run_37 : decode cX4_run 37 = .ok (.getfield 37, 3) := by decide +kernel
theorem dX4_run_40 : decode cX4_run 40 = .ok (.if_icmp .ge 42, 3) := by decide +kernel
theorem dX4_run_43 : decode cX4_run 43 = .ok (.iload 4, 2) := by decide +kernel
theorem dX4_run_45 : decode cX4_run 45 = .ok (.iload 6, 2) := by decide +kernel
theorem dX4_run_47 : decode cX4_run 47 = .ok (.invokestatic 141, 3) := by decide +kernel
theorem dX4_run_50 : decode cX4_run 50 = .ok (.ifCond .eq 26, 3) := by decide +kernel
theorem dX4_run_53 : decode cX4_run 53 = .ok (.iload 5, 2) := by decide +kernel
theorem dX4_run_55 : decode cX4_run 55 = .ok (.iload_n 3, 1) := by decide +kernel
theorem dX4_run_56 : decode cX4_run 56 = .ok (.if_icmp .ne 17, 3) := by decide +kernel
theorem dX4_run_59 : decode cX4_run 59 = .ok (.bipush 10, 2) := by decide +kernel
theorem dX4_run_61 : decode cX4_run 61 = .ok (.iload 6, 2) := by decide +kernel
theorem dX4_run_63 : decode cX4_run 63 = .ok (.imul, 1) := by decide +kernel
theorem dX4_run_64 : decode cX4_run 64 = .ok (.iload 4, 2) := by decide +kernel
theorem dX4_run_66 : decode cX4_run 66 = .ok (.iload 6, 2) := by decide +kernel
theorem dX4_run_68 : decode cX4_run 68 = .ok (.invokestatic 144, 3) := by decide +kernel
theorem dX4_run_71 : decode cX4_run 71 = .ok (.iadd, 1) := by decide +kernel
theorem dX4_run_72 : decode cX4_run 72 = .ok (.ireturn, 1) := by decide +kernel
theorem dX4_run_73 : decode cX4_run 73 = .ok (.iinc 5 1, 3) := by decide +kernel
theorem dX4_run_76 : decode cX4_run 76 = .ok (.iinc 6 1, 3) := by decide +kernel
theorem dX4_run_79 : decode cX4_run 79 = .ok (.goto (-48), 3) := by decide +kernel
theorem dX4_run_82 : decode cX4_run 82 = .ok (.iload_n 3, 1) := by decide +kernel
theorem dX4_run_83 : decode cX4_run 83 = .ok (.iconst (-1), 1) := by decide +kernel
theorem dX4_run_84 : decode cX4_run 84 = .ok (.if_icmp .ne 8, 3) := by decide +kernel
theorem dX4_run_87 : decode cX4_run 87 = .ok (.iload 5, 2) := by decide +kernel
theorem dX4_run_89 : decode cX4_run 89 = .ok (.goto 5, 3) := by decide +kernel
theorem dX4_run_92 : decode cX4_run 92 = .ok (.bipush (-6), 2) := by decide +kernel
theorem dX4_run_94 : decode cX4_run 94 = .ok (.ireturn, 1) := by decide +kernel
set_option maxRecDepth 20000 in
theorem ggX4_cover_X3_coveredCubes : GoodIn wsX4_cover wsX3_coveredCubes := goodIn_r _ [6, 7, 8, 9, 10, 11, 5, 12, 13, 14, 15, 16, 17, 18, 19, 20, 21, 22, 23, 24, 25, 26, 27, 28, 29, 30, 31, 32, 33, 34, 35, 36, 37, 38, 41, 42, 43, 44, 45, 46, 47] (by decide +kernel) (by decide +kernel)
set_option maxRecDepth 20000 in
theorem gX4_cover_X3_coveredCubes : GoodIn wsX4_cover (wsV RX4 147 RX3 yX3_coveredCubes wsX3_coveredCubes) := goodIn_app (goodIn_of _ (by decide +kernel)) ggX4_cover_X3_coveredCubes
theorem dX4_cover_0 : decode cX4_cover 0 = .ok (.aload_n 0, 1) := by decide +kernel
theorem dX4_cover_1 : decode cX4_cover 1 = .ok (.getfield 10, 3) := by decide +kernel
theorem dX4_cover_4 : decode cX4_cover 4 = .ok (.invokevirtual 147, 3) := by decide +kernel
theorem dX4_cover_7 : decode cX4_cover 7 = .ok (.ireturn, 1) := by decide +kernel
set_option maxRecDepth 20000 in
theorem ggX4_best_X3_chooseBest : GoodIn wsX4_best wsX3_chooseBest := goodIn_r _ [9, 10, 11, 12, 13, 14, 15, 16, 17, 18, 19, 20, 21, 22, 23, 8, 24, 25, 26, 27, 28, 29, 30, 31, 32, 33, 34, 35, 36, 37, 38, 39, 40, 41, 42, 43, 44, 45, 46, 47, 48, 49, 50, 51, 52, 53, 54, 55, 56, 57, 58, 59, 60, 61, 62, 63, 64, 65, 66, 67, 68, 69, 70, 71, 72, 73, 74, 75, 76, 77, 78, 79, 80, 81, 82, 103, 104, 105, 106, 107, 108, 109] (by decide +kernel) (by decide +kernel)
set_option maxRecDepth 20000 in
theorem gX4_best_X3_chooseBest : GoodIn wsX4_best (wsV RX4 151 RX3 yX3_chooseBest wsX3_chooseBest) := goodIn_app (goodIn_of _ (by decide +kernel)) ggX4_best_X3_chooseBest
set_option maxRecDepth 20000 in
theorem ggX4_best_X0_forget : GoodIn wsX4_best wsX0_forget := goodIn_r _ [87, 88, 110, 111, 112, 113, 114] (by decide +kernel) (by decide +kernel)
set_option maxRecDepth 20000 in
theorem gX4_best_X0_forget : GoodIn wsX4_best (wsV RX4 31 RX0 yX0_forget wsX0_forget) := goodIn_app (goodIn_of _ (by decide +kernel)) ggX4_best_X0_forget
set_option maxRecDepth 20000 in
theorem ggX4_best_X3_coveredCubes : GoodIn wsX4_best wsX3_coveredCubes := goodIn_r _ [92, 11, 25, 93, 94, 95, 8, 96, 97, 98, 99, 100, 12, 13, 27, 28, 29, 30, 31, 32, 33, 34, 35, 36, 37, 38, 39, 14, 15, 16, 17, 18, 19, 20, 103, 104, 105, 106, 107, 108, 109] (by decide +kernel) (by decide +kernel)
set_option maxRecDepth 20000 in
theorem gX4_best_X3_coveredCubes : GoodIn wsX4_best (wsV RX4 147 RX3 yX3_coveredCubes wsX3_coveredCubes) := goodIn_app (goodIn_of _ (by decide +kernel)) ggX4_best_X3_coveredCubes
theorem dX4_best_0 : decode cX4_best 0 = .ok (.iload_n 1, 1) := by decide +kernel
theorem dX4_best_1 : decode cX4_best 1 = .ok (.ifCond .lt 29, 3) := by decide +kernel
theorem dX4_best_4 : decode cX4_best 4 = .ok (.iload_n 1, 1) := by decide +kernel
theorem dX4_best_5 : decode cX4_best 5 = .ok (.aload_n 0, 1) := by decide +kernel
theorem dX4_best_6 : decode cX4_best 6 = .ok (.getfield 10, 3) := by decide +kernel
theorem dX4_best_9 : decode cX4_best 9 = .ok (.getfield 52, 3) := by decide +kernel
theorem dX4_best_12 : decode cX4_best 12 = .ok (.if_icmp .gt 18, 3) := by decide +kernel
theorem dX4_best_15 : decode cX4_best 15 = .ok (.iload_n 2, 1) := by decide +kernel
theorem dX4_best_16 : decode cX4_best 16 = .ok (.ifCond .lt 14, 3) := by decide +kernel
theorem dX4_best_19 : decode cX4_best 19 = .ok (.iload_n 2, 1) := by decide +kernel
theorem dX4_best_20 : decode cX4_best 20 = .ok (.aload_n 0, 1) := by decide +kernel
theorem dX4_best_21 : decode cX4_best 21 = .ok (.getfield 10, 3) := by decide +kernel
theorem dX4_best_24 : decode cX4_best 24 = .ok (.getfield 55, 3) := by decide +kernel
theorem dX4_best_27 : decode cX4_best 27 = .ok (.if_icmp .le 6, 3) := by decide +kernel
theorem dX4_best_30 : decode cX4_best 30 = .ok (.bipush (-2), 2) := by decide +kernel
theorem dX4_best_32 : decode cX4_best 32 = .ok (.ireturn, 1) := by decide +kernel
theorem dX4_best_33 : decode cX4_best 33 = .ok (.aload_n 0, 1) := by decide +kernel
theorem dX4_best_34 : decode cX4_best 34 = .ok (.getfield 10, 3) := by decide +kernel
theorem dX4_best_37 : decode cX4_best 37 = .ok (.iload_n 1, 1) := by decide +kernel
theorem dX4_best_38 : decode cX4_best 38 = .ok (.iload_n 2, 1) := by decide +kernel
theorem dX4_best_39 : decode cX4_best 39 = .ok (.invokevirtual 151, 3) := by decide +kernel
theorem dX4_best_42 : decode cX4_best 42 = .ok (.aload_n 0, 1) := by decide +kernel
theorem dX4_best_43 : decode cX4_best 43 = .ok (.getfield 19, 3) := by decide +kernel
theorem dX4_best_46 : decode cX4_best 46 = .ok (.invokevirtual 31, 3) := by decide +kernel
theorem dX4_best_49 : decode cX4_best 49 = .ok (.aload_n 0, 1) := by decide +kernel
theorem dX4_best_50 : decode cX4_best 50 = .ok (.getfield 10, 3) := by decide +kernel
theorem dX4_best_53 : decode cX4_best 53 = .ok (.invokevirtual 147, 3) := by decide +kernel
theorem dX4_best_56 : decode cX4_best 56 = .ok (.ireturn, 1) := by decide +kernel
set_option maxRecDepth 20000 in
theorem ggX4_told_X3_cubeCount : GoodIn wsX4_told wsX3_cubeCount := goodIn_r _ [9, 10, 11, 12, 13, 14, 15, 16, 17, 116, 117, 118, 119, 120, 121, 122] (by decide +kernel) (by decide +kernel)
set_option maxRecDepth 20000 in
theorem gX4_told_X3_cubeCount : GoodIn wsX4_told (wsV RX4 154 RX3 yX3_cubeCount wsX3_cubeCount) := goodIn_app (goodIn_of _ (by decide +kernel)) ggX4_told_X3_cubeCount
set_option maxRecDepth 20000 in
theorem ggX4_told_X3_chosenBits : GoodIn wsX4_told wsX3_chosenBits := goodIn_r _ [21, 22, 23, 116, 117, 118, 119, 120, 121, 122] (by decide +kernel) (by decide +kernel)
set_option maxRecDepth 20000 in
theorem gX4_told_X3_chosenBits : GoodIn wsX4_told (wsV RX4 88 RX3 yX3_chosenBits wsX3_chosenBits) := goodIn_app (goodIn_of _ (by decide +kernel)) ggX4_told_X3_chosenBits
set_option maxRecDepth 20000 in
theorem ggX4_told_X3_cubesOfCuts : GoodIn wsX4_told wsX3_cubesOfCuts := goodIn_r _ [27, 28, 29, 30, 8, 31, 32, 33, 34, 35, 36, 37, 38, 19, 20, 21, 22, 23, 39, 40, 41, 42, 43, 44, 45, 46, 47, 48, 49, 50, 51, 52, 53, 54, 55, 56, 57, 58, 10, 59, 60, 61, 62, 63, 64, 65, 66, 67, 68, 69, 70, 71, 72, 73, 74, 75, 76, 77, 78, 79, 80, 81, 82, 83, 84, 85, 86, 87, 88, 89, 90, 91, 92, 93, 116, 117, 118, 119, 120, 121, 122] (by decide +kernel) (by decide +kernel)
set_option maxRecDepth 20000 in
theorem gX4_told_X3_cubesOfCuts : GoodIn wsX4_told (wsV RX4 157 RX3 yX3_cubesOfCuts wsX3_cubesOfCuts) := goodIn_app (goodIn_of _ (by decide +kernel)) ggX4_told_X3_cubesOfCuts
set_option maxRecDepth 20000 in
theorem ggX4_told_X3_looseParts : GoodIn wsX4_told wsX3_looseParts := goodIn_r _ [97, 28, 29, 30, 8, 31, 32, 33, 34, 35, 36, 37, 38, 19, 20, 21, 22, 23, 39, 40, 41, 42, 98, 99, 100, 101, 47, 48, 49, 50, 83, 84, 85, 86, 43, 44, 45, 46, 51, 52, 53, 54, 55, 56, 57, 58, 10, 59, 60, 61, 62, 63, 64, 65, 66, 67, 68, 69, 70, 71, 72, 73, 74, 75, 76, 77, 78, 79, 80, 81, 82, 102, 103, 104, 105, 106, 107, 108, 109, 110, 111, 112, 113, 116, 117, 118, 119, 120, 121, 122] (by decide +kernel) (by decide +kernel)
set_option maxRecDepth 20000 in
theorem gX4_told_X3_looseParts : GoodIn wsX4_told (wsV RX4 160 RX3 yX3_looseParts wsX3_looseParts) := goodIn_app (goodIn_of _ (by decide +kernel)) ggX4_told_X3_looseParts
theorem dX4_told_0 : decode cX4_told 0 = .ok (.iload_n 1, 1) := by decide +kernel
theorem dX4_told_1 : decode cX4_told 1 = .ok (.tableswitch 113 0 7 #[47, 55, 63, 71, 79, 88, 97, 105], 47) := by decide +kernel
theorem dX4_told_48 : decode cX4_told 48 = .ok (.aload_n 0, 1) := by decide +kernel
theorem dX4_told_49 : decode cX4_told 49 = .ok (.getfield 10, 3) := by decide +kernel
theorem dX4_told_52 : decode cX4_told 52 = .ok (.getfield 52, 3) := by decide +kernel
theorem dX4_told_55 : decode cX4_told 55 = .ok (.ireturn, 1) := by decide +kernel
theorem dX4_told_56 : decode cX4_told 56 = .ok (.aload_n 0, 1) := by decide +kernel
theorem dX4_told_57 : decode cX4_told 57 = .ok (.getfield 10, 3) := by decide +kernel
theorem dX4_told_60 : decode cX4_told 60 = .ok (.getfield 55, 3) := by decide +kernel
theorem dX4_told_63 : decode cX4_told 63 = .ok (.ireturn, 1) := by decide +kernel
theorem dX4_told_64 : decode cX4_told 64 = .ok (.aload_n 0, 1) := by decide +kernel
theorem dX4_told_65 : decode cX4_told 65 = .ok (.getfield 10, 3) := by decide +kernel
theorem dX4_told_68 : decode cX4_told 68 = .ok (.getfield 37, 3) := by decide +kernel
theorem dX4_told_71 : decode cX4_told 71 = .ok (.ireturn, 1) := by decide +kernel
theorem dX4_told_72 : decode cX4_told 72 = .ok (.aload_n 0, 1) := by decide +kernel
theorem dX4_told_73 : decode cX4_told 73 = .ok (.getfield 10, 3) := by decide +kernel
theorem dX4_told_76 : decode cX4_told 76 = .ok (.invokevirtual 154, 3) := by decide +kernel
theorem dX4_told_79 : decode cX4_told 79 = .ok (.ireturn, 1) := by decide +kernel
theorem dX4_told_80 : decode cX4_told 80 = .ok (.aload_n 0, 1) := by decide +kernel
theorem dX4_told_81 : decode cX4_told 81 = .ok (.getfield 10, 3) := by decide +kernel
theorem dX4_told_84 : decode cX4_told 84 = .ok (.iconst 0, 1) := by decide +kernel
theorem dX4_told_85 : decode cX4_told 85 = .ok (.invokevirtual 88, 3) := by decide +kernel
theorem dX4_told_88 : decode cX4_told 88 = .ok (.ireturn, 1) := by decide +kernel
theorem dX4_told_89 : decode cX4_told 89 = .ok (.aload_n 0, 1) := by decide +kernel
theorem dX4_told_90 : decode cX4_told 90 = .ok (.getfield 10, 3) := by decide +kernel
theorem dX4_told_93 : decode cX4_told 93 = .ok (.iconst 1, 1) := by decide +kernel
theorem dX4_told_94 : decode cX4_told 94 = .ok (.invokevirtual 88, 3) := by decide +kernel
theorem dX4_told_97 : decode cX4_told 97 = .ok (.ireturn, 1) := by decide +kernel
theorem dX4_told_98 : decode cX4_told 98 = .ok (.aload_n 0, 1) := by decide +kernel
theorem dX4_told_99 : decode cX4_told 99 = .ok (.getfield 10, 3) := by decide +kernel
theorem dX4_told_102 : decode cX4_told 102 = .ok (.invokevirtual 157, 3) := by decide +kernel
theorem dX4_told_105 : decode cX4_told 105 = .ok (.ireturn, 1) := by decide +kernel
theorem dX4_told_106 : decode cX4_told 106 = .ok (.aload_n 0, 1) := by decide +kernel
theorem dX4_told_107 : decode cX4_told 107 = .ok (.getfield 10, 3) := by decide +kernel
theorem dX4_told_110 : decode cX4_told 110 = .ok (.invokevirtual 160, 3) := by decide +kernel
theorem dX4_told_113 : decode cX4_told 113 = .ok (.ireturn, 1) := by decide +kernel
theorem dX4_told_114 : decode cX4_told 114 = .ok (.bipush (-2), 2) := by decide +kernel
theorem dX4_told_116 : decode cX4_told 116 = .ok (.ireturn, 1) := by decide +kernel
set_option maxRecDepth 20000 in
theorem ggX4_lay_X4_allFitInto : GoodIn wsX4_lay wsX4_allFitInto := goodIn_r _ [8, 2, 9, 10, 11, 12, 13, 14, 15, 16, 17, 18, 19, 20, 21, 22, 23, 24, 25, 26, 27, 28, 29, 30, 31, 32, 33, 34, 35, 36, 37, 38, 39, 40, 41, 42, 43, 44, 45, 46, 47, 48, 49, 50, 51, 52, 53, 54, 55, 56, 57, 58, 59, 60, 61, 62, 63, 64, 65, 66, 67, 68, 109, 110, 116, 117, 118, 119, 120, 121, 122] (by decide +kernel) (by decide +kernel)
set_option maxRecDepth 20000 in
theorem gX4_lay_X4_allFitInto : GoodIn wsX4_lay (wsV RX4 163 RX4 yX4_allFitInto wsX4_allFitInto) := goodIn_app (goodIn_of _ (by decide +kernel)) ggX4_lay_X4_allFitInto
set_option maxRecDepth 20000 in
theorem ggX4_lay_X0_clear : GoodIn wsX4_lay wsX0_clear := goodIn_r _ [73, 74, 111, 112, 113, 114, 115] (by decide +kernel) (by decide +kernel)
set_option maxRecDepth 20000 in
theorem gX4_lay_X0_clear : GoodIn wsX4_lay (wsV RX4 166 RX0 yX0_clear wsX0_clear) := goodIn_app (goodIn_of _ (by decide +kernel)) ggX4_lay_X0_clear
set_option maxRecDepth 20000 in
theorem ggX4_lay_X3_ribCount : GoodIn wsX4_lay wsX3_ribCount := goodIn_r _ [13, 14, 15, 116, 117, 118, 119, 120, 121, 122] (by decide +kernel) (by decide +kernel)
set_option maxRecDepth 20000 in
theorem gX4_lay_X3_ribCount : GoodIn wsX4_lay (wsV RX4 96 RX3 yX3_ribCount wsX3_ribCount) := goodIn_app (goodIn_of _ (by decide +kernel)) ggX4_lay_X3_ribCount
set_option maxRecDepth 20000 in
theorem ggX4_lay_X3_chosenFigure : GoodIn wsX4_lay wsX3_chosenFigure := goodIn_r _ [19, 20, 21, 22, 12, 23, 24, 25, 26, 27, 28, 29, 30, 31, 32, 33, 34, 35, 36, 37, 38, 10, 11, 13, 14, 15, 39, 40, 41, 42, 43, 44, 45, 46, 47, 48, 49, 50, 51, 52, 53, 54, 55, 116, 117, 118, 119, 120, 121, 122] (by decide +kernel) (by decide +kernel)
set_option maxRecDepth 20000 in
theorem gX4_lay_X3_chosenFigure : GoodIn wsX4_lay (wsV RX4 169 RX3 yX3_chosenFigure wsX3_chosenFigure) := goodIn_app (goodIn_of _ (by decide +kernel)) ggX4_lay_X3_chosenFigure
set_option maxRecDepth 20000 in
theorem ggX4_lay_X2_spanOfU : GoodIn wsX4_lay wsX2_spanOfU := goodIn_r _ [58, 59, 60, 54, 61, 62, 63, 32, 64, 65, 31, 33] (by decide +kernel) (by decide +kernel)
set_option maxRecDepth 20000 in
theorem gX4_lay_X2_spanOfU : GoodIn wsX4_lay (va_wsS RX4 129 yX2_spanOfU wsX2_spanOfU) := goodIn_app (goodIn_of _ (by decide +kernel)) ggX4_lay_X2_spanOfU
set_option maxRecDepth 20000 in
theorem ggX4_lay_X2_spanOfZ : GoodIn wsX4_lay wsX2_spanOfZ := goodIn_r _ [68, 59, 60, 54, 61, 62, 63, 32, 64, 65, 31, 33] (by decide +kernel) (by decide +kernel)
set_option maxRecDepth 20000 in
theorem gX4_lay_X2_spanOfZ : GoodIn wsX4_lay (va_wsS RX4 132 yX2_spanOfZ wsX2_spanOfZ) := goodIn_app (goodIn_of _ (by decide +kernel)) ggX4_lay_X2_spanOfZ
set_option maxRecDepth 20000 in
theorem ggX4_lay_X0_add : GoodIn wsX4_lay wsX0_add := goodIn_r _ [78, 74, 79, 80, 81, 82, 83, 84, 85, 86, 72, 87, 88, 89, 90, 91, 92, 93, 94, 95, 96, 97, 98, 111, 112, 113, 114, 115] (by decide +kernel) (by decide +kernel)
set_option maxRecDepth 20000 in
theorem gX4_lay_X0_add : GoodIn wsX4_lay (wsV RX4 172 RX0 yX0_add wsX0_add) := goodIn_app (goodIn_of _ (by decide +kernel)) ggX4_lay_X0_add
set_option maxRecDepth 20000 in
theorem ggX4_lay_X0_layInRows : GoodIn wsX4_lay wsX0_layInRows := goodIn_r _ [102, 74, 103, 104, 105, 88, 89, 90, 72, 91, 79, 92, 93, 94, 95, 96, 97, 98, 106, 107, 108, 111, 112, 113, 114, 115] (by decide +kernel) (by decide +kernel)
set_option maxRecDepth 20000 in
theorem gX4_lay_X0_layInRows : GoodIn wsX4_lay (wsV RX4 176 RX0 yX0_layInRows wsX0_layInRows) := goodIn_app (goodIn_of _ (by decide +kernel)) ggX4_lay_X0_layInRows
theorem dX4_lay_0 : decode cX4_lay 0 = .ok (.iload_n 1, 1) := by decide +kernel
theorem dX4_lay_1 : decode cX4_lay 1 = .ok (.iconst 1, 1) := by decide +kernel
theorem dX4_lay_2 : decode cX4_lay 2 = .ok (.if_icmp .lt 29, 3) := by decide +kernel
theorem dX4_lay_5 : decode cX4_lay 5 = .ok (.iload_n 1, 1) := by decide +kernel
theorem dX4_lay_6 : decode cX4_lay 6 = .ok (.bipush 60, 2) := by decide +kernel
theorem dX4_lay_8 : decode cX4_lay 8 = .ok (.if_icmp .gt 23, 3) := by decide +kernel
theorem dX4_lay_11 : decode cX4_lay 11 = .ok (.iload_n 2, 1) := by decide +kernel
theorem dX4_lay_12 : decode cX4_lay 12 = .ok (.iconst 1, 1) := by decide +kernel
theorem dX4_lay_13 : decode cX4_lay 13 = .ok (.if_icmp .lt 18, 3) := by decide +kernel
theorem dX4_lay_16 : decode cX4_lay 16 = .ok (.iload_n 2, 1) := by decide +kernel
theorem dX4_lay_17 : decode cX4_lay 17 = .ok (.bipush 60, 2) := by decide +kernel
theorem dX4_lay_19 : decode cX4_lay 19 = .ok (.if_icmp .gt 12, 3) := by decide +kernel
theorem dX4_lay_22 : decode cX4_lay 22 = .ok (.iload_n 3, 1) := by decide +kernel
theorem dX4_lay_23 : decode cX4_lay 23 = .ok (.ifCond .lt 8, 3) := by decide +kernel
theorem dX4_lay_26 : decode cX4_lay 26 = .ok (.iload_n 3, 1) := by decide +kernel
theorem dX4_lay_27 : decode cX4_lay 27 = .ok (.iconst 5, 1) := by decide +kernel
theorem dX4_lay_28 : decode cX4_lay 28 = .ok (.if_icmp .le 6, 3) := by decide +kernel
theorem dX4_lay_31 : decode cX4_lay 31 = .ok (.bipush (-2), 2) := by decide +kernel
theorem dX4_lay_33 : decode cX4_lay 33 = .ok (.ireturn, 1) := by decide +kernel
theorem dX4_lay_34 : decode cX4_lay 34 = .ok (.aload_n 0, 1) := by decide +kernel
theorem dX4_lay_35 : decode cX4_lay 35 = .ok (.iload_n 1, 1) := by decide +kernel
theorem dX4_lay_36 : decode cX4_lay 36 = .ok (.iload_n 3, 1) := by decide +kernel
theorem dX4_lay_37 : decode cX4_lay 37 = .ok (.isub, 1) := by decide +kernel
theorem dX4_lay_38 : decode cX4_lay 38 = .ok (.iload_n 2, 1) := by decide +kernel
theorem dX4_lay_39 : decode cX4_lay 39 = .ok (.iload_n 3, 1) := by decide +kernel
theorem dX4_lay_40 : decode cX4_lay 40 = .ok (.isub, 1) := by decide +kernel
theorem dX4_lay_41 : decode cX4_lay 41 = .ok (.invokevirtual 163, 3) := by decide +kernel
theorem dX4_lay_44 : decode cX4_lay 44 = .ok (.ifCond .ne 6, 3) := by decide +kernel
theorem dX4_lay_47 : decode cX4_lay 47 = .ok (.bipush (-5), 2) := by decide +kernel
theorem dX4_lay_49 : decode cX4_lay 49 = .ok (.ireturn, 1) := by decide +kernel
theorem dX4_lay_50 : decode cX4_lay 50 = .ok (.aload_n 0, 1) := by decide +kernel
theorem dX4_lay_51 : decode cX4_lay 51 = .ok (.getfield 19, 3) := by decide +kernel
theorem dX4_lay_54 : decode cX4_lay 54 = .ok (.invokevirtual 166, 3) := by decide +kernel
theorem dX4_lay_57 : decode cX4_lay 57 = .ok (.iconst 0, 1) := by decide +kernel
theorem dX4_lay_58 : decode cX4_lay 58 = .ok (.istore 4, 2) := by decide +kernel
theorem dX4_lay_60 : decode cX4_lay 60 = .ok (.iload 4, 2) := by decide +kernel
theorem dX4_lay_62 : decode cX4_lay 62 = .ok (.iconst 2, 1) := by decide +kernel
theorem dX4_lay_63 : decode cX4_lay 63 = .ok (.if_icmp .ge 77, 3) := by decide +kernel
theorem dX4_lay_66 : decode cX4_lay 66 = .ok (.iconst 0, 1) := by decide +kernel
theorem dX4_lay_67 : decode cX4_lay 67 = .ok (.istore 5, 2) := by decide +kernel
theorem dX4_lay_69 : decode cX4_lay 69 = .ok (.iload 5, 2) := by decide +kernel
theorem dX4_lay_71 : decode cX4_lay 71 = .ok (.aload_n 0, 1) := by decide +kernel
theorem dX4_lay_72 : decode cX4_lay 72 = .ok (.getfield 10, 3) := by decide +kernel
theorem dX4_lay_75 : decode cX4_lay 75 = .ok (.iload 4, 2) := by decide +kernel
theorem dX4_lay_77 : decode cX4_lay 77 = .ok (.invokevirtual 96, 3) := by decide +kernel
theorem dX4_lay_80 : decode cX4_lay 80 = .ok (.if_icmp .ge 54, 3) := by decide +kernel
theorem dX4_lay_83 : decode cX4_lay 83 = .ok (.aload_n 0, 1) := by decide +kernel
theorem dX4_lay_84 : decode cX4_lay 84 = .ok (.getfield 10, 3) := by decide +kernel
theorem dX4_lay_87 : decode cX4_lay 87 = .ok (.iload 4, 2) := by decide +kernel
theorem dX4_lay_89 : decode cX4_lay 89 = .ok (.iload 5, 2) := by decide +kernel
theorem dX4_lay_91 : decode cX4_lay 91 = .ok (.invokevirtual 169, 3) := by decide +kernel
theorem dX4_lay_94 : decode cX4_lay 94 = .ok (.lstore 6, 2) := by decide +kernel
theorem dX4_lay_96 : decode cX4_lay 96 = .ok (.lload 6, 2) := by decide +kernel
theorem dX4_lay_98 : decode cX4_lay 98 = .ok (.lconst 0, 1) := by decide +kernel
theorem dX4_lay_99 : decode cX4_lay 99 = .ok (.lcmp, 1) := by decide +kernel
theorem dX4_lay_100 : decode cX4_lay 100 = .ok (.ifCond .eq 28, 3) := by decide +kernel
theorem dX4_lay_103 : decode cX4_lay 103 = .ok (.aload_n 0, 1) := by decide +kernel
theorem dX4_lay_104 : decode cX4_lay 104 = .ok (.getfield 19, 3) := by decide +kernel
theorem dX4_lay_107 : decode cX4_lay 107 = .ok (.iload 4, 2) := by decide +kernel
theorem dX4_lay_109 : decode cX4_lay 109 = .ok (.iload 5, 2) := by decide +kernel
theorem dX4_lay_111 : decode cX4_lay 111 = .ok (.lload 6, 2) := by decide +kernel
theorem dX4_lay_113 : decode cX4_lay 113 = .ok (.invokestatic 129, 3) := by decide +kernel
theorem dX4_lay_116 : decode cX4_lay 116 = .ok (.iload_n 3, 1) := by decide +kernel
theorem dX4_lay_117 : decode cX4_lay 117 = .ok (.iadd, 1) := by decide +kernel
theorem dX4_lay_118 : decode cX4_lay 118 = .ok (.lload 6, 2) := by decide +kernel
theorem dX4_lay_120 : decode cX4_lay 120 = .ok (.invokestatic 132, 3) := by decide +kernel
theorem dX4_lay_123 : decode cX4_lay 123 = .ok (.iload_n 3, 1) := by decide +kernel
theorem dX4_lay_124 : decode cX4_lay 124 = .ok (.iadd, 1) := by decide +kernel
theorem dX4_lay_125 : decode cX4_lay 125 = .ok (.invokevirtual 172, 3) := by decide +kernel
theorem dX4_lay_128 : decode cX4_lay 128 = .ok (.iinc 5 1, 3) := by decide +kernel
theorem dX4_lay_131 : decode cX4_lay 131 = .ok (.goto (-62), 3) := by decide +kernel
theorem dX4_lay_134 : decode cX4_lay 134 = .ok (.iinc 4 1, 3) := by decide +kernel
theorem dX4_lay_137 : decode cX4_lay 137 = .ok (.goto (-77), 3) := by decide +kernel
theorem dX4_lay_140 : decode cX4_lay 140 = .ok (.aload_n 0, 1) := by decide +kernel
theorem dX4_lay_141 : decode cX4_lay 141 = .ok (.getfield 19, 3) := by decide +kernel
theorem dX4_lay_144 : decode cX4_lay 144 = .ok (.iload_n 1, 1) := by decide +kernel
theorem dX4_lay_145 : decode cX4_lay 145 = .ok (.iload_n 2, 1) := by decide +kernel
theorem dX4_lay_146 : decode cX4_lay 146 = .ok (.invokevirtual 176, 3) := by decide +kernel
theorem dX4_lay_149 : decode cX4_lay 149 = .ok (.aload_n 0, 1) := by decide +kernel
theorem dX4_lay_150 : decode cX4_lay 150 = .ok (.getfield 19, 3) := by decide +kernel
theorem dX4_lay_153 : decode cX4_lay 153 = .ok (.getfield 179, 3) := by decide +kernel
theorem dX4_lay_156 : decode cX4_lay 156 = .ok (.ireturn, 1) := by decide +kernel
set_option maxRecDepth 20000 in
theorem ggX4_laid_X0_fact : GoodIn wsX4_laid wsX0_fact := goodIn_r _ [8, 9, 10, 11, 7, 12, 15, 16, 17, 18, 19] (by decide +kernel) (by decide +kernel)
set_option maxRecDepth 20000 in
theorem gX4_laid_X0_fact : GoodIn wsX4_laid (wsV RX4 189 RX0 yX0_fact wsX0_fact) := goodIn_app (goodIn_of _ (by decide +kernel)) ggX4_laid_X0_fact
theorem dX4_laid_0 : decode cX4_laid 0 = .ok (.aload_n 0, 1) := by decide +kernel
theorem dX4_laid_1 : decode cX4_laid 1 = .ok (.getfield 19, 3) := by decide +kernel
theorem dX4_laid_4 : decode cX4_laid 4 = .ok (.getfield 182, 3) := by decide +kernel
theorem dX4_laid_7 : decode cX4_laid 7 = .ok (.ifCond .ne 6, 3) := by decide +kernel
theorem dX4_laid_10 : decode cX4_laid 10 = .ok (.bipush (-3), 2) := by decide +kernel
theorem dX4_laid_12 : decode cX4_laid 12 = .ok (.ireturn, 1) := by decide +kernel
theorem dX4_laid_13 : decode cX4_laid 13 = .ok (.iload_n 2, 1) := by decide +kernel
theorem dX4_laid_14 : decode cX4_laid 14 = .ok (.ifCond .lt 9, 3) := by decide +kernel
theorem dX4_laid_17 : decode cX4_laid 17 = .ok (.iload_n 2, 1) := by decide +kernel
theorem dX4_laid_18 : decode cX4_laid 18 = .ok (.bipush 7, 2) := by decide +kernel
theorem dX4_laid_20 : decode cX4_laid 20 = .ok (.if_icmp .lt 6, 3) := by decide +kernel
theorem dX4_laid_23 : decode cX4_laid 23 = .ok (.bipush (-2), 2) := by decide +kernel
theorem dX4_laid_25 : decode cX4_laid 25 = .ok (.ireturn, 1) := by decide +kernel
theorem dX4_laid_26 : decode cX4_laid 26 = .ok (.iload_n 1, 1) := by decide +kernel
theorem dX4_laid_27 : decode cX4_laid 27 = .ok (.ifCond .lt 14, 3) := by decide +kernel
theorem dX4_laid_30 : decode cX4_laid 30 = .ok (.iload_n 1, 1) := by decide +kernel
theorem dX4_laid_31 : decode cX4_laid 31 = .ok (.aload_n 0, 1) := by decide +kernel
theorem dX4_laid_32 : decode cX4_laid 32 = .ok (.getfield 19, 3) := by decide +kernel
theorem dX4_laid_35 : decode cX4_laid 35 = .ok (.getfield 186, 3) := by decide +kernel
theorem dX4_laid_38 : decode cX4_laid 38 = .ok (.if_icmp .lt 6, 3) := by decide +kernel
theorem dX4_laid_41 : decode cX4_laid 41 = .ok (.bipush (-6), 2) := by decide +kernel
theorem dX4_laid_43 : decode cX4_laid 43 = .ok (.ireturn, 1) := by decide +kernel
theorem dX4_laid_44 : decode cX4_laid 44 = .ok (.aload_n 0, 1) := by decide +kernel
theorem dX4_laid_45 : decode cX4_laid 45 = .ok (.getfield 19, 3) := by decide +kernel
theorem dX4_laid_48 : decode cX4_laid 48 = .ok (.iload_n 1, 1) := by decide +kernel
theorem dX4_laid_49 : decode cX4_laid 49 = .ok (.iload_n 2, 1) := by decide +kernel
theorem dX4_laid_50 : decode cX4_laid 50 = .ok (.invokevirtual 189, 3) := by decide +kernel
theorem dX4_laid_53 : decode cX4_laid 53 = .ok (.ireturn, 1) := by decide +kernel
theorem dX4_least_0 : decode cX4_least 0 = .ok (.aload_n 0, 1) := by decide +kernel
theorem dX4_least_1 : decode cX4_least 1 = .ok (.getfield 19, 3) := by decide +kernel
theorem dX4_least_4 : decode cX4_least 4 = .ok (.getfield 182, 3) := by decide +kernel
theorem dX4_least_7 : decode cX4_least 7 = .ok (.ifCond .eq 13, 3) := by decide +kernel
theorem dX4_least_10 : decode cX4_least 10 = .ok (.aload_n 0, 1) := by decide +kernel
theorem dX4_least_11 : decode cX4_least 11 = .ok (.getfield 19, 3) := by decide +kernel
theorem dX4_least_14 : decode cX4_least 14 = .ok (.getfield 192, 3) := by decide +kernel
theorem dX4_least_17 : decode cX4_least 17 = .ok (.goto 5, 3) := by decide +kernel
theorem dX4_least_20 : decode cX4_least 20 = .ok (.bipush (-3), 2) := by decide +kernel
theorem dX4_least_22 : decode cX4_least 22 = .ok (.ireturn, 1) := by decide +kernel
theorem dX4_isSize_0 : decode cX4_isSize 0 = .ok (.iload_n 0, 1) := by decide +kernel
theorem dX4_isSize_1 : decode cX4_isSize 1 = .ok (.iconst 1, 1) := by decide +kernel
theorem dX4_isSize_2 : decode cX4_isSize 2 = .ok (.if_icmp .lt 13, 3) := by decide +kernel
theorem dX4_isSize_5 : decode cX4_isSize 5 = .ok (.iload_n 0, 1) := by decide +kernel
theorem dX4_isSize_6 : decode cX4_isSize 6 = .ok (.bipush 8, 2) := by decide +kernel
theorem dX4_isSize_8 : decode cX4_isSize 8 = .ok (.if_icmp .gt 7, 3) := by decide +kernel
theorem dX4_isSize_11 : decode cX4_isSize 11 = .ok (.iconst 1, 1) := by decide +kernel
theorem dX4_isSize_12 : decode cX4_isSize 12 = .ok (.goto 4, 3) := by decide +kernel
theorem dX4_isSize_15 : decode cX4_isSize 15 = .ok (.iconst 0, 1) := by decide +kernel
theorem dX4_isSize_16 : decode cX4_isSize 16 = .ok (.ireturn, 1) := by decide +kernel
theorem dX4_isCorner_0 : decode cX4_isCorner 0 = .ok (.iload_n 0, 1) := by decide +kernel
theorem dX4_isCorner_1 : decode cX4_isCorner 1 = .ok (.bipush (-8), 2) := by decide +kernel
theorem dX4_isCorner_3 : decode cX4_isCorner 3 = .ok (.if_icmp .lt 13, 3) := by decide +kernel
theorem dX4_isCorner_6 : decode cX4_isCorner 6 = .ok (.iload_n 0, 1) := by decide +kernel
theorem dX4_isCorner_7 : decode cX4_isCorner 7 = .ok (.bipush 8, 2) := by decide +kernel
theorem dX4_isCorner_9 : decode cX4_isCorner 9 = .ok (.if_icmp .gt 7, 3) := by decide +kernel
theorem dX4_isCorner_12 : decode cX4_isCorner 12 = .ok (.iconst 1, 1) := by decide +kernel
theorem dX4_isCorner_13 : decode cX4_isCorner 13 = .ok (.goto 4, 3) := by decide +kernel
theorem dX4_isCorner_16 : decode cX4_isCorner 16 = .ok (.iconst 0, 1) := by decide +kernel
theorem dX4_isCorner_17 : decode cX4_isCorner 17 = .ok (.ireturn, 1) := by decide +kernel
theorem dX4_asNumber_0 : decode cX4_asNumber 0 = .ok (.iload_n 0, 1) := by decide +kernel
theorem dX4_asNumber_1 : decode cX4_asNumber 1 = .ok (.ifCond .eq 7, 3) := by decide +kernel
theorem dX4_asNumber_4 : decode cX4_asNumber 4 = .ok (.iconst 1, 1) := by decide +kernel
theorem dX4_asNumber_5 : decode cX4_asNumber 5 = .ok (.goto 4, 3) := by decide +kernel
theorem dX4_asNumber_8 : decode cX4_asNumber 8 = .ok (.iconst 0, 1) := by decide +kernel
theorem dX4_asNumber_9 : decode cX4_asNumber 9 = .ok (.ireturn, 1) := by decide +kernel
set_option maxRecDepth 20000 in
theorem ggX4_allFitInto_X3_ribCount : GoodIn wsX4_allFitInto wsX3_ribCount := goodIn_r _ [6, 7, 8, 64, 65, 66, 67, 68, 69, 70] (by decide +kernel) (by decide +kernel)
set_option maxRecDepth 20000 in
theorem gX4_allFitInto_X3_ribCount : GoodIn wsX4_allFitInto (wsV RX4 96 RX3 yX3_ribCount wsX3_ribCount) := goodIn_app (goodIn_of _ (by decide +kernel)) ggX4_allFitInto_X3_ribCount
set_option maxRecDepth 20000 in
theorem ggX4_allFitInto_X3_chosenFigure : GoodIn wsX4_allFitInto wsX3_chosenFigure := goodIn_r _ [12, 13, 14, 15, 5, 16, 17, 18, 19, 20, 21, 22, 23, 24, 25, 26, 27, 28, 29, 30, 31, 3, 4, 6, 7, 8, 32, 33, 34, 35, 36, 37, 38, 39, 40, 41, 42, 43, 44, 45, 46, 47, 48, 64, 65, 66, 67, 68, 69, 70] (by decide +kernel) (by decide +kernel)
set_option maxRecDepth 20000 in
theorem gX4_allFitInto_X3_chosenFigure : GoodIn wsX4_allFitInto (wsV RX4 169 RX3 yX3_chosenFigure wsX3_chosenFigure) := goodIn_app (goodIn_of _ (by decide +kernel)) ggX4_allFitInto_X3_chosenFigure
set_option maxRecDepth 20000 in
theorem ggX4_allFitInto_X2_spanOfU : GoodIn wsX4_allFitInto wsX2_spanOfU := goodIn_r _ [51, 52, 53, 47, 54, 55, 56, 25, 57, 58, 24, 26] (by decide +kernel) (by decide +kernel)
set_option maxRecDepth 20000 in
theorem gX4_allFitInto_X2_spanOfU : GoodIn wsX4_allFitInto (va_wsS RX4 129 yX2_spanOfU wsX2_spanOfU) := goodIn_app (goodIn_of _ (by decide +kernel)) ggX4_allFitInto_X2_spanOfU
set_option maxRecDepth 20000 in
theorem ggX4_allFitInto_X2_spanOfZ : GoodIn wsX4_allFitInto wsX2_spanOfZ := goodIn_r _ [61, 52, 53, 47, 54, 55, 56, 25, 57, 58, 24, 26] (by decide +kernel) (by decide +kernel)
set_option maxRecDepth 20000 in
theorem gX4_allFitInto_X2_spanOfZ : GoodIn wsX4_allFitInto (va_wsS RX4 132 yX2_spanOfZ wsX2_spanOfZ) := goodIn_app (goodIn_of _ (by decide +kernel)) ggX4_allFitInto_X2_spanOfZ
theorem dX4_allFitInto_0 : decode cX4_allFitInto 0 = .ok (.iconst 0, 1) := by decide +kernel
theorem dX4_allFitInto_1 : decode cX4_allFitInto 1 = .ok (.istore_n 3, 1) := by decide +kernel
theorem dX4_allFitInto_2 : decode cX4_allFitInto 2 = .ok (.iload_n 3, 1) := by decide +kernel
theorem dX4_allFitInto_3 : decode cX4_allFitInto 3 = .ok (.iconst 2, 1) := by decide +kernel
theorem dX4_allFitInto_4 : decode cX4_allFitInto 4 = .ok (.if_icmp .ge 70, 3) := by decide +kernel
theorem dX4_allFitInto_7 : decode cX4_allFitInto 7 = .ok (.iconst 0, 1) := by decide +kernel
theorem dX4_allFitInto_8 : decode cX4_allFitInto 8 = .ok (.istore 4, 2) := by decide +kernel
theorem dX4_allFitInto_10 : decode cX4_allFitInto 10 = .ok (.iload 4, 2) := by decide +kernel
theorem dX4_allFitInto_12 : decode cX4_allFitInto 12 = .ok (.aload_n 0, 1) := by decide +kernel
theorem dX4_allFitInto_13 : decode cX4_allFitInto 13 = .ok (.getfield 10, 3) := by decide +kernel
theorem dX4_allFitInto_16 : decode cX4_allFitInto 16 = .ok (.iload_n 3, 1) := by decide +kernel
theorem dX4_allFitInto_17 : decode cX4_allFitInto 17 = .ok (.invokevirtual 96, 3) := by decide +kernel
theorem dX4_allFitInto_20 : decode cX4_allFitInto 20 = .ok (.if_icmp .ge 48, 3) := by decide +kernel
theorem dX4_allFitInto_23 : decode cX4_allFitInto 23 = .ok (.aload_n 0, 1) := by decide +kernel
theorem dX4_allFitInto_24 : decode cX4_allFitInto 24 = .ok (.getfield 10, 3) := by decide +kernel
theorem dX4_allFitInto_27 : decode cX4_allFitInto 27 = .ok (.iload_n 3, 1) := by decide +kernel
theorem dX4_allFitInto_28 : decode cX4_allFitInto 28 = .ok (.iload 4, 2) := by decide +kernel
theorem dX4_allFitInto_30 : decode cX4_allFitInto 30 = .ok (.invokevirtual 169, 3) := by decide +kernel
theorem dX4_allFitInto_33 : decode cX4_allFitInto 33 = .ok (.lstore 5, 2) := by decide +kernel
theorem dX4_allFitInto_35 : decode cX4_allFitInto 35 = .ok (.lload 5, 2) := by decide +kernel
theorem dX4_allFitInto_37 : decode cX4_allFitInto 37 = .ok (.lconst 0, 1) := by decide +kernel
theorem dX4_allFitInto_38 : decode cX4_allFitInto 38 = .ok (.lcmp, 1) := by decide +kernel
theorem dX4_allFitInto_39 : decode cX4_allFitInto 39 = .ok (.ifCond .eq 23, 3) := by decide +kernel
theorem dX4_allFitInto_42 : decode cX4_allFitInto 42 = .ok (.lload 5, 2) := by decide +kernel
theorem dX4_allFitInto_44 : decode cX4_allFitInto 44 = .ok (.invokestatic 129, 3) := by decide +kernel
theorem dX4_allFitInto_47 : decode cX4_allFitInto 47 = .ok (.iload_n 1, 1) := by decide +kernel
theorem dX4_allFitInto_48 : decode cX4_allFitInto 48 = .ok (.if_icmp .gt 12, 3) := by decide +kernel
theorem dX4_allFitInto_51 : decode cX4_allFitInto 51 = .ok (.lload 5, 2) := by decide +kernel
theorem dX4_allFitInto_53 : decode cX4_allFitInto 53 = .ok (.invokestatic 132, 3) := by decide +kernel
theorem dX4_allFitInto_56 : decode cX4_allFitInto 56 = .ok (.iload_n 2, 1) := by decide +kernel
theorem dX4_allFitInto_57 : decode cX4_allFitInto 57 = .ok (.if_icmp .le 5, 3) := by decide +kernel
theorem dX4_allFitInto_60 : decode cX4_allFitInto 60 = .ok (.iconst 0, 1) := by decide +kernel
theorem dX4_allFitInto_61 : decode cX4_allFitInto 61 = .ok (.ireturn, 1) := by decide +kernel
theorem dX4_allFitInto_62 : decode cX4_allFitInto 62 = .ok (.iinc 4 1, 3) := by decide +kernel
theorem dX4_allFitInto_65 : decode cX4_allFitInto 65 = .ok (.goto (-55), 3) := by decide +kernel
theorem dX4_allFitInto_68 : decode cX4_allFitInto 68 = .ok (.iinc 3 1, 3) := by decide +kernel
theorem dX4_allFitInto_71 : decode cX4_allFitInto 71 = .ok (.goto (-69), 3) := by decide +kernel
theorem dX4_allFitInto_74 : decode cX4_allFitInto 74 = .ok (.iconst 1, 1) := by decide +kernel
theorem dX4_allFitInto_75 : decode cX4_allFitInto 75 = .ok (.ireturn, 1) := by decide +kernel
theorem dX5_init_0 : decode cX5_init 0 = .ok (.aload_n 0, 1) := by decide +kernel
theorem dX5_init_1 : decode cX5_init 1 = .ok (.invokespecial 1, 3) := by decide +kernel
theorem dX5_init_4 : decode cX5_init 4 = .ok (.aload_n 0, 1) := by decide +kernel
theorem dX5_init_5 : decode cX5_init 5 = .ok (.iconst 4, 1) := by decide +kernel
theorem dX5_init_6 : decode cX5_init 6 = .ok (.putfield 7, 3) := by decide +kernel
theorem dX5_init_9 : decode cX5_init 9 = .ok (.aload_n 0, 1) := by decide +kernel
theorem dX5_init_10 : decode cX5_init 10 = .ok (.iconst 4, 1) := by decide +kernel
theorem dX5_init_11 : decode cX5_init 11 = .ok (.putfield 13, 3) := by decide +kernel
theorem dX5_init_14 : decode cX5_init 14 = .ok (.aload_n 0, 1) := by decide +kernel
theorem dX5_init_15 : decode cX5_init 15 = .ok (.iconst 4, 1) := by decide +kernel
theorem dX5_init_16 : decode cX5_init 16 = .ok (.putfield 16, 3) := by decide +kernel
theorem dX5_init_19 : decode cX5_init 19 = .ok (.aload_n 0, 1) := by decide +kernel
theorem dX5_init_20 : decode cX5_init 20 = .ok (.sipush 512, 3) := by decide +kernel
theorem dX5_init_23 : decode cX5_init 23 = .ok (.newarray .boolean, 2) := by decide +kernel
theorem dX5_init_25 : decode cX5_init 25 = .ok (.putfield 19, 3) := by decide +kernel
theorem dX5_init_28 : decode cX5_init 28 = .ok (.aload_n 0, 1) := by decide +kernel
theorem dX5_init_29 : decode cX5_init 29 = .ok (.iconst 2, 1) := by decide +kernel
theorem dX5_init_30 : decode cX5_init 30 = .ok (.newarray .int, 2) := by decide +kernel
theorem dX5_init_32 : decode cX5_init 32 = .ok (.putfield 23, 3) := by decide +kernel
theorem dX5_init_35 : decode cX5_init 35 = .ok (.aload_n 0, 1) := by decide +kernel
theorem dX5_init_36 : decode cX5_init 36 = .ok (.iconst 4, 1) := by decide +kernel
theorem dX5_init_37 : decode cX5_init 37 = .ok (.newarray .int, 2) := by decide +kernel
theorem dX5_init_39 : decode cX5_init 39 = .ok (.putfield 27, 3) := by decide +kernel
theorem dX5_init_42 : decode cX5_init 42 = .ok (.aload_n 0, 1) := by decide +kernel
theorem dX5_init_43 : decode cX5_init 43 = .ok (.iconst 4, 1) := by decide +kernel
theorem dX5_init_44 : decode cX5_init 44 = .ok (.newarray .int, 2) := by decide +kernel
theorem dX5_init_46 : decode cX5_init 46 = .ok (.putfield 30, 3) := by decide +kernel
theorem dX5_init_49 : decode cX5_init 49 = .ok (.aload_n 0, 1) := by decide +kernel
theorem dX5_init_50 : decode cX5_init 50 = .ok (.bipush 64, 2) := by decide +kernel
theorem dX5_init_52 : decode cX5_init 52 = .ok (.newarray .int, 2) := by decide +kernel
theorem dX5_init_54 : decode cX5_init 54 = .ok (.putfield 33, 3) := by decide +kernel
theorem dX5_init_57 : decode cX5_init 57 = .ok (.aload_n 0, 1) := by decide +kernel
theorem dX5_init_58 : decode cX5_init 58 = .ok (.bipush 64, 2) := by decide +kernel
theorem dX5_init_60 : decode cX5_init 60 = .ok (.newarray .int, 2) := by decide +kernel
theorem dX5_init_62 : decode cX5_init 62 = .ok (.putfield 36, 3) := by decide +kernel
theorem dX5_init_65 : decode cX5_init 65 = .ok (.aload_n 0, 1) := by decide +kernel
theorem dX5_init_66 : decode cX5_init 66 = .ok (.bipush 64, 2) := by decide +kernel
theorem dX5_init_68 : decode cX5_init 68 = .ok (.newarray .int, 2) := by decide +kernel
theorem dX5_init_70 : decode cX5_init 70 = .ok (.putfield 39, 3) := by decide +kernel
theorem dX5_init_73 : decode cX5_init 73 = .ok (.aload_n 0, 1) := by decide +kernel
theorem dX5_init_74 : decode cX5_init 74 = .ok (.bipush 112, 2) := by decide +kernel
theorem dX5_init_76 : decode cX5_init 76 = .ok (.newarray .int, 2) := by decide +kernel
theorem dX5_init_78 : decode cX5_init 78 = .ok (.putfield 42, 3) := by decide +kernel
theorem dX5_init_81 : decode cX5_init 81 = .ok (.aload_n 0, 1) := by decide +kernel
theorem dX5_init_82 : decode cX5_init 82 = .ok (.bipush 112, 2) := by decide +kernel
theorem dX5_init_84 : decode cX5_init 84 = .ok (.newarray .int, 2) := by decide +kernel
theorem dX5_init_86 : decode cX5_init 86 = .ok (.putfield 45, 3) := by decide +kernel
theorem dX5_init_89 : decode cX5_init 89 = .ok (.return_, 1) := by decide +kernel
theorem dX5_in_0 : decode cX5_in 0 = .ok (.lload_n 0, 1) := by decide +kernel
theorem dX5_in_1 : decode cX5_in 1 = .ok (.lload_n 2, 1) := by decide +kernel
theorem dX5_in_2 : decode cX5_in 2 = .ok (.lcmp, 1) := by decide +kernel
theorem dX5_in_3 : decode cX5_in 3 = .ok (.ifCond .lt 14, 3) := by decide +kernel
theorem dX5_in_6 : decode cX5_in 6 = .ok (.lload_n 0, 1) := by decide +kernel
theorem dX5_in_7 : decode cX5_in 7 = .ok (.lload 4, 2) := by decide +kernel
theorem dX5_in_9 : decode cX5_in 9 = .ok (.lcmp, 1) := by decide +kernel
theorem dX5_in_10 : decode cX5_in 10 = .ok (.ifCond .gt 7, 3) := by decide +kernel
theorem dX5_in_13 : decode cX5_in 13 = .ok (.iconst 1, 1) := by decide +kernel
theorem dX5_in_14 : decode cX5_in 14 = .ok (.goto 4, 3) := by decide +kernel
theorem dX5_in_17 : decode cX5_in 17 = .ok (.iconst 0, 1) := by decide +kernel
theorem dX5_in_18 : decode cX5_in 18 = .ok (.ireturn, 1) := by decide +kernel
theorem dX5_has_0 : decode cX5_has 0 = .ok (.aload_n 0, 1) := by decide +kernel
theorem dX5_has_1 : decode cX5_has 1 = .ok (.getfield 19, 3) := by decide +kernel
theorem dX5_has_4 : decode cX5_has 4 = .ok (.bipush 64, 2) := by decide +kernel
theorem dX5_has_6 : decode cX5_has 6 = .ok (.iload_n 1, 1) := by decide +kernel
theorem dX5_has_7 : decode cX5_has 7 = .ok (.imul, 1) := by decide +kernel
theorem dX5_has_8 : decode cX5_has 8 = .ok (.bipush 8, 2) := by decide +kernel
theorem dX5_has_10 : decode cX5_has 10 = .ok (.iload_n 2, 1) := by decide +kernel
theorem dX5_has_11 : decode cX5_has 11 = .ok (.imul, 1) := by decide +kernel
theorem dX5_has_12 : decode cX5_has 12 = .ok (.iadd, 1) := by decide +kernel
theorem dX5_has_13 : decode cX5_has 13 = .ok (.iload_n 3, 1) := by decide +kernel
theorem dX5_has_14 : decode cX5_has 14 = .ok (.iadd, 1) := by decide +kernel
theorem dX5_has_15 : decode cX5_has 15 = .ok (.baload, 1) := by decide +kernel
theorem dX5_has_16 : decode cX5_has 16 = .ok (.ireturn, 1) := by decide +kernel
set_option maxRecDepth 20000 in
theorem ggX5_isPlace_X5_in : GoodIn wsX5_isPlace wsX5_in := goodIn_r _ [7] (by decide +kernel) (by decide +kernel)
set_option maxRecDepth 20000 in
theorem gX5_isPlace_X5_in : GoodIn wsX5_isPlace (va_wsS RX5 48 yX5_in wsX5_in) := goodIn_app (goodIn_of _ (by decide +kernel)) ggX5_isPlace_X5_in
theorem dX5_isPlace_0 : decode cX5_isPlace 0 = .ok (.iload_n 1, 1) := by decide +kernel
theorem dX5_isPlace_1 : decode cX5_isPlace 1 = .ok (.i2l, 1) := by decide +kernel
theorem dX5_isPlace_2 : decode cX5_isPlace 2 = .ok (.lconst 0, 1) := by decide +kernel
theorem dX5_isPlace_3 : decode cX5_isPlace 3 = .ok (.aload_n 0, 1) := by decide +kernel
theorem dX5_isPlace_4 : decode cX5_isPlace 4 = .ok (.getfield 7, 3) := by decide +kernel
theorem dX5_isPlace_7 : decode cX5_isPlace 7 = .ok (.iconst 1, 1) := by decide +kernel
theorem dX5_isPlace_8 : decode cX5_isPlace 8 = .ok (.isub, 1) := by decide +kernel
theorem dX5_isPlace_9 : decode cX5_isPlace 9 = .ok (.i2l, 1) := by decide +kernel
theorem dX5_isPlace_10 : decode cX5_isPlace 10 = .ok (.invokestatic 48, 3) := by decide +kernel
theorem dX5_isPlace_13 : decode cX5_isPlace 13 = .ok (.ifCond .eq 39, 3) := by decide +kernel
theorem dX5_isPlace_16 : decode cX5_isPlace 16 = .ok (.iload_n 2, 1) := by decide +kernel
theorem dX5_isPlace_17 : decode cX5_isPlace 17 = .ok (.i2l, 1) := by decide +kernel
theorem dX5_isPlace_18 : decode cX5_isPlace 18 = .ok (.lconst 0, 1) := by decide +kernel
theorem dX5_isPlace_19 : decode cX5_isPlace 19 = .ok (.aload_n 0, 1) := by decide +kernel
theorem dX5_isPlace_20 : decode cX5_isPlace 20 = .ok (.getfield 13, 3) := by decide +kernel
theorem dX5_isPlace_23 : decode cX5_isPlace 23 = .ok (.iconst 1, 1) := by decide +kernel
theorem dX5_isPlace_24 : decode cX5_isPlace 24 = .ok (.isub, 1) := by decide +kernel
theorem dX5_isPlace_25 : decode cX5_isPlace 25 = .ok (.i2l, 1) := by decide +kernel
theorem dX5_isPlace_26 : decode cX5_isPlace 26 = .ok (.invokestatic 48, 3) := by decide +kernel
theorem dX5_isPlace_29 : decode cX5_isPlace 29 = .ok (.ifCond .eq 23, 3) := by decide +kernel
theorem dX5_isPlace_32 : decode cX5_isPlace 32 = .ok (.iload_n 3, 1) := by decide +kernel
theorem dX5_isPlace_33 : decode cX5_isPlace 33 = .ok (.i2l, 1) := by decide +kernel
theorem dX5_isPlace_34 : decode cX5_isPlace 34 = .ok (.lconst 0, 1) := by decide +kernel
theorem dX5_isPlace_35 : decode cX5_isPlace 35 = .ok (.aload_n 0, 1) := by decide +kernel
theorem dX5_isPlace_36 : decode cX5_isPlace 36 = .ok (.getfield 16, 3) := by decide +kernel
theorem dX5_isPlace_39 : decode cX5_isPlace 39 = .ok (.iconst 1, 1) := by decide +kernel
theorem dX5_isPlace_40 : decode cX5_isPlace 40 = .ok (.isub, 1) := by decide +kernel
theorem dX5_isPlace_41 : decode cX5_isPlace 41 = .ok (.i2l, 1) := by decide +kernel
theorem dX5_isPlace_42 : decode cX5_isPlace 42 = .ok (.invokestatic 48, 3) := by decide +kernel
theorem dX5_isPlace_45 : decode cX5_isPlace 45 = .ok (.ifCond .eq 7, 3) := by decide +kernel
theorem dX5_isPlace_48 : decode cX5_isPlace 48 = .ok (.iconst 1, 1) := by decide +kernel
theorem dX5_isPlace_49 : decode cX5_isPlace 49 = .ok (.goto 4, 3) := by decide +kernel
theorem dX5_isPlace_52 : decode cX5_isPlace 52 = .ok (.iconst 0, 1) := by decide +kernel
theorem dX5_isPlace_53 : decode cX5_isPlace 53 = .ok (.ireturn, 1) := by decide +kernel
set_option maxRecDepth 20000 in
theorem ggX5_space_X5_in : GoodIn wsX5_space wsX5_in := goodIn_r _ [11] (by decide +kernel) (by decide +kernel)
set_option maxRecDepth 20000 in
theorem gX5_space_X5_in : GoodIn wsX5_space (va_wsS RX5 48 yX5_in wsX5_in) := goodIn_app (goodIn_of _ (by decide +kernel)) ggX5_space_X5_in
theorem dX5_space_0 : decode cX5_space 0 = .ok (.iload_n 1, 1) := by decide +kernel
theorem dX5_space_1 : decode cX5_space 1 = .ok (.i2l, 1) := by decide +kernel
theorem dX5_space_2 : decode cX5_space 2 = .ok (.lconst 1, 1) := by decide +kernel
theorem dX5_space_3 : decode cX5_space 3 = .ok (.ldc2_w 52, 3) := by decide +kernel
theorem dX5_space_6 : decode cX5_space 6 = .ok (.invokestatic 48, 3) := by decide +kernel
theorem dX5_space_9 : decode cX5_space 9 = .ok (.ifCond .eq 27, 3) := by decide +kernel
theorem dX5_space_12 : decode cX5_space 12 = .ok (.iload_n 2, 1) := by decide +kernel
theorem dX5_space_13 : decode cX5_space 13 = .ok (.i2l, 1) := by decide +kernel
theorem dX5_space_14 : decode cX5_space 14 = .ok (.lconst 1, 1) := by decide +kernel
theorem dX5_space_15 : decode cX5_space 15 = .ok (.ldc2_w 52, 3) := by decide +kernel
theorem dX5_space_18 : decode cX5_space 18 = .ok (.invokestatic 48, 3) := by decide +kernel
theorem dX5_space_21 : decode cX5_space 21 = .ok (.ifCond .eq 15, 3) := by decide +kernel
theorem dX5_space_24 : decode cX5_space 24 = .ok (.iload_n 3, 1) := by decide +kernel
theorem dX5_space_25 : decode cX5_space 25 = .ok (.i2l, 1) := by decide +kernel
theorem dX5_space_26 : decode cX5_space 26 = .ok (.lconst 1, 1) := by decide +kernel
theorem dX5_space_27 : decode cX5_space 27 = .ok (.ldc2_w 52, 3) := by decide +kernel
theorem dX5_space_30 : decode cX5_space 30 = .ok (.invokestatic 48, 3) := by decide +kernel
theorem dX5_space_33 : decode cX5_space 33 = .ok (.ifCond .ne 6, 3) := by decide +kernel
theorem dX5_space_36 : decode cX5_space 36 = .ok (.bipush (-2), 2) := by decide +kernel
theorem dX5_space_38 : decode cX5_space 38 = .ok (.ireturn, 1) := by decide +kernel
theorem dX5_space_39 : decode cX5_space 39 = .ok (.aload_n 0, 1) := by decide +kernel
theorem dX5_space_40 : decode cX5_space 40 = .ok (.iload_n 1, 1) := by decide +kernel
theorem dX5_space_41 : decode cX5_space 41 = .ok (.putfield 7, 3) := by decide +kernel
theorem dX5_space_44 : decode cX5_space 44 = .ok (.aload_n 0, 1) := by decide +kernel
theorem dX5_space_45 : decode cX5_space 45 = .ok (.iload_n 2, 1) := by decide +kernel
theorem dX5_space_46 : decode cX5_space 46 = .ok (.putfield 13, 3) := by decide +kernel
theorem dX5_space_49 : decode cX5_space 49 = .ok (.aload_n 0, 1) := by decide +kernel
theorem dX5_space_50 : decode cX5_space 50 = .ok (.iload_n 3, 1) := by decide +kernel
theorem dX5_space_51 : decode cX5_space 51 = .ok (.putfield 16, 3) := by decide +kernel
theorem dX5_space_54 : decode cX5_space 54 = .ok (.iconst 0, 1) := by decide +kernel
theorem dX5_space_55 : decode cX5_space 55 = .ok (.istore 4, 2) := by decide +kernel
theorem dX5_space_57 : decode cX5_space 57 = .ok (.iload 4, 2) := by decide +kernel
theorem dX5_space_59 : decode cX5_space 59 = .ok (.sipush 512, 3) := by decide +kernel
theorem dX5_space_62 : decode cX5_space 62 = .ok (.if_icmp .ge 17, 3) := by decide +kernel
theorem dX5_space_65 : decode cX5_space 65 = .ok (.aload_n 0, 1) := by decide +kernel
theorem dX5_space_66 : decode cX5_space 66 = .ok (.getfield 19, 3) := by decide +kernel
theorem dX5_space_69 : decode cX5_space 69 = .ok (.iload 4, 2) := by decide +kernel
theorem dX5_space_71 : decode cX5_space 71 = .ok (.iconst 0, 1) := by decide +kernel
theorem dX5_space_72 : decode cX5_space 72 = .ok (.bastore, 1) := by decide +kernel
theorem dX5_space_73 : decode cX5_space 73 = .ok (.iinc 4 1, 3) := by decide +kernel
theorem dX5_space_76 : decode cX5_space 76 = .ok (.goto (-19), 3) := by decide +kernel
theorem dX5_space_79 : decode cX5_space 79 = .ok (.aload_n 0, 1) := by decide +kernel
theorem dX5_space_80 : decode cX5_space 80 = .ok (.getfield 23, 3) := by decide +kernel
theorem dX5_space_83 : decode cX5_space 83 = .ok (.iconst 0, 1) := by decide +kernel
theorem dX5_space_84 : decode cX5_space 84 = .ok (.iconst 0, 1) := by decide +kernel
theorem dX5_space_85 : decode cX5_space 85 = .ok (.iastore, 1) := by decide +kernel
theorem dX5_space_86 : decode cX5_space 86 = .ok (.aload_n 0, 1) := by decide +kernel
theorem dX5_space_87 : decode cX5_space 87 = .ok (.getfield 23, 3) := by decide +kernel
theorem dX5_space_90 : decode cX5_space 90 = .ok (.iconst 1, 1) := by decide +kernel
theorem dX5_space_91 : decode cX5_space 91 = .ok (.iconst 0, 1) := by decide +kernel
theorem dX5_space_92 : decode cX5_space 92 = .ok (.iastore, 1) := by decide +kernel
theorem dX5_space_93 : decode cX5_space 93 = .ok (.aload_n 0, 1) := by decide +kernel
theorem dX5_space_94 : decode cX5_space 94 = .ok (.iconst 0, 1) := by decide +kernel
theorem dX5_space_95 : decode cX5_space 95 = .ok (.putfield 54, 3) := by decide +kernel
theorem dX5_space_98 : decode cX5_space 98 = .ok (.iload_n 1, 1) := by decide +kernel
theorem dX5_space_99 : decode cX5_space 99 = .ok (.iload_n 2, 1) := by decide +kernel
theorem dX5_space_100 : decode cX5_space 100 = .ok (.imul, 1) := by decide +kernel
theorem dX5_space_101 : decode cX5_space 101 = .ok (.iload_n 3, 1) := by decide +kernel
theorem dX5_space_102 : decode cX5_space 102 = .ok (.imul, 1) := by decide +kernel
theorem dX5_space_103 : decode cX5_space 103 = .ok (.ireturn, 1) := by decide +kernel
set_option maxRecDepth 20000 in
theorem ggX5_box_X5_in : GoodIn wsX5_box wsX5_in := goodIn_r _ [8] (by decide +kernel) (by decide +kernel)
set_option maxRecDepth 20000 in
theorem gX5_box_X5_in : GoodIn wsX5_box (va_wsS RX5 48 yX5_in wsX5_in) := goodIn_app (goodIn_of _ (by decide +kernel)) ggX5_box_X5_in
set_option maxRecDepth 20000 in
theorem ggX5_box_X5_isPlace : GoodIn wsX5_box wsX5_isPlace := goodIn_r _ [12, 13, 14, 15, 5, 6, 7, 8, 20, 21, 22, 23, 24, 25, 26, 27, 28, 29, 30, 31, 32, 33, 34, 35, 36] (by decide +kernel) (by decide +kernel)
set_option maxRecDepth 20000 in
theorem gX5_box_X5_isPlace : GoodIn wsX5_box (wsV RX5 60 RX5 yX5_isPlace wsX5_isPlace) := goodIn_app (goodIn_of _ (by decide +kernel)) ggX5_box_X5_isPlace
set_option maxRecDepth 20000 in
theorem ggX5_box_X5_has : GoodIn wsX5_box wsX5_has := goodIn_r _ [19, 3, 20, 21, 22, 23, 24, 25, 26, 27, 28, 29, 30, 31, 32, 33, 34, 35, 36] (by decide +kernel) (by decide +kernel)
set_option maxRecDepth 20000 in
theorem gX5_box_X5_has : GoodIn wsX5_box (wsV RX5 64 RX5 yX5_has wsX5_has) := goodIn_app (goodIn_of _ (by decide +kernel)) ggX5_box_X5_has
theorem dX5_box_0 : decode cX5_box 0 = .ok (.iload_n 1, 1) := by decide +kernel
theorem dX5_box_1 : decode cX5_box 1 = .ok (.i2l, 1) := by decide +kernel
theorem dX5_box_2 : decode cX5_box 2 = .ok (.ldc2_w 58, 3) := by decide +kernel
theorem dX5_box_5 : decode cX5_box 5 = .ok (.ldc2_w 52, 3) := by decide +kernel
theorem dX5_box_8 : decode cX5_box 8 = .ok (.invokestatic 48, 3) := by decide +kernel
theorem dX5_box_11 : decode cX5_box 11 = .ok (.ifCond .eq 74, 3) := by decide +kernel
theorem dX5_box_14 : decode cX5_box 14 = .ok (.iload_n 2, 1) := by decide +kernel
theorem dX5_box_15 : decode cX5_box 15 = .ok (.i2l, 1) := by decide +kernel
theorem dX5_box_16 : decode cX5_box 16 = .ok (.ldc2_w 58, 3) := by decide +kernel
theorem dX5_box_19 : decode cX5_box 19 = .ok (.ldc2_w 52, 3) := by decide +kernel
theorem dX5_box_22 : decode cX5_box 22 = .ok (.invokestatic 48, 3) := by decide +kernel
theorem dX5_box_25 : decode cX5_box 25 = .ok (.ifCond .eq 60, 3) := by decide +kernel
theorem dX5_box_28 : decode cX5_box 28 = .ok (.iload_n 3, 1) := by decide +kernel
theorem dX5_box_29 : decode cX5_box 29 = .ok (.i2l, 1) := by decide +kernel
theorem dX5_box_30 : decode cX5_box 30 = .ok (.ldc2_w 58, 3) := by decide +kernel
theorem dX5_box_33 : decode cX5_box 33 = .ok (.ldc2_w 52, 3) := by decide +kernel
theorem dX5_box_36 : decode cX5_box 36 = .ok (.invokestatic 48, 3) := by decide +kernel
theorem dX5_box_39 : decode cX5_box 39 = .ok (.ifCond .eq 46, 3) := by decide +kernel
theorem dX5_box_42 : decode cX5_box 42 = .ok (.iload 4, 2) := by decide +kernel
theorem dX5_box_44 : decode cX5_box 44 = .ok (.i2l, 1) := by decide +kernel
theorem dX5_box_45 : decode cX5_box 45 = .ok (.lconst 1, 1) := by decide +kernel
theorem dX5_box_46 : decode cX5_box 46 = .ok (.ldc2_w 52, 3) := by decide +kernel
theorem dX5_box_49 : decode cX5_box 49 = .ok (.invokestatic 48, 3) := by decide +kernel
theorem dX5_box_52 : decode cX5_box 52 = .ok (.ifCond .eq 33, 3) := by decide +kernel
theorem dX5_box_55 : decode cX5_box 55 = .ok (.iload 5, 2) := by decide +kernel
theorem dX5_box_57 : decode cX5_box 57 = .ok (.i2l, 1) := by decide +kernel
theorem dX5_box_58 : decode cX5_box 58 = .ok (.lconst 1, 1) := by decide +kernel
theorem dX5_box_59 : decode cX5_box 59 = .ok (.ldc2_w 52, 3) := by decide +kernel
theorem dX5_box_62 : decode cX5_box 62 = .ok (.invokestatic 48, 3) := by decide +kernel
theorem dX5_box_65 : decode cX5_box 65 = .ok (.ifCond .eq 20, 3) := by decide +kernel
theorem dX5_box_68 : decode cX5_box 68 = .ok (.iload 6, 2) := by decide +kernel
theorem dX5_box_70 : decode cX5_box 70 = .ok (.i2l, 1) := by decide +kernel
theorem dX5_box_71 : decode cX5_box 71 = .ok (.lconst 1, 1) := by decide +kernel
theorem dX5_box_72 : decode cX5_box 72 = .ok (.ldc2_w 52, 3) := by decide +kernel
theorem dX5_box_75 : decode cX5_box 75 = .ok (.invokestatic 48, 3) := by decide +kernel
theorem dX5_box_78 : decode cX5_box 78 = .ok (.ifCond .eq 7, 3) := by decide +kernel
theorem dX5_box_81 : decode cX5_box 81 = .ok (.iconst 1, 1) := by decide +kernel
theorem dX5_box_82 : decode cX5_box 82 = .ok (.goto 4, 3) := by decide +kernel
theorem dX5_box_85 : decode cX5_box 85 = .ok (.iconst 0, 1) := by decide +kernel
theorem dX5_box_86 : decode cX5_box 86 = .ok (.istore 8, 2) := by decide +kernel
theorem dX5_box_88 : decode cX5_box 88 = .ok (.iload 8, 2) := by decide +kernel
theorem dX5_box_90 : decode cX5_box 90 = .ok (.ifCond .ne 6, 3) := by decide +kernel
theorem dX5_box_93 : decode cX5_box 93 = .ok (.bipush (-2), 2) := by decide +kernel
theorem dX5_box_95 : decode cX5_box 95 = .ok (.ireturn, 1) := by decide +kernel
theorem dX5_box_96 : decode cX5_box 96 = .ok (.iconst 0, 1) := by decide +kernel
theorem dX5_box_97 : decode cX5_box 97 = .ok (.istore 9, 2) := by decide +kernel
theorem dX5_box_99 : decode cX5_box 99 = .ok (.iload_n 1, 1) := by decide +kernel
theorem dX5_box_100 : decode cX5_box 100 = .ok (.istore 10, 2) := by decide +kernel
theorem dX5_box_102 : decode cX5_box 102 = .ok (.iload 10, 2) := by decide +kernel
theorem dX5_box_104 : decode cX5_box 104 = .ok (.iload_n 1, 1) := by decide +kernel
theorem dX5_box_105 : decode cX5_box 105 = .ok (.iload 4, 2) := by decide +kernel
theorem dX5_box_107 : decode cX5_box 107 = .ok (.iadd, 1) := by decide +kernel
theorem dX5_box_108 : decode cX5_box 108 = .ok (.if_icmp .ge 97, 3) := by decide +kernel
theorem dX5_box_111 : decode cX5_box 111 = .ok (.iload_n 2, 1) := by decide +kernel
theorem dX5_box_112 : decode cX5_box 112 = .ok (.istore 11, 2) := by decide +kernel
theorem dX5_box_114 : decode cX5_box 114 = .ok (.iload 11, 2) := by decide +kernel
theorem dX5_box_116 : decode cX5_box 116 = .ok (.iload_n 2, 1) := by decide +kernel
theorem dX5_box_117 : decode cX5_box 117 = .ok (.iload 5, 2) := by decide +kernel
theorem dX5_box_119 : decode cX5_box 119 = .ok (.iadd, 1) := by decide +kernel
theorem dX5_box_120 : decode cX5_box 120 = .ok (.if_icmp .ge 79, 3) := by decide +kernel
theorem dX5_box_123 : decode cX5_box 123 = .ok (.iload_n 3, 1) := by decide +kernel
theorem dX5_box_124 : decode cX5_box 124 = .ok (.istore 12, 2) := by decide +kernel
theorem dX5_box_126 : decode cX5_box 126 = .ok (.iload 12, 2) := by decide +kernel
theorem dX5_box_128 : decode cX5_box 128 = .ok (.iload_n 3, 1) := by decide +kernel
theorem dX5_box_129 : decode cX5_box 129 = .ok (.iload 6, 2) := by decide +kernel
theorem dX5_box_131 : decode cX5_box 131 = .ok (.iadd, 1) := by decide +kernel
theorem dX5_box_132 : decode cX5_box 132 = .ok (.if_icmp .ge 61, 3) := by decide +kernel
theorem dX5_box_135 : decode cX5_box 135 = .ok (.aload_n 0, 1) := by decide +kernel
theorem dX5_box_136 : decode cX5_box 136 = .ok (.iload 10, 2) := by decide +kernel
theorem dX5_box_138 : decode cX5_box 138 = .ok (.iload 11, 2) := by decide +kernel
theorem dX5_box_140 : decode cX5_box 140 = .ok (.iload 12, 2) := by decide +kernel
theorem dX5_box_142 : decode cX5_box 142 = .ok (.invokevirtual 60, 3) := by decide +kernel
theorem dX5_box_145 : decode cX5_box 145 = .ok (.ifCond .eq 42, 3) := by decide +kernel
theorem dX5_box_148 : decode cX5_box 148 = .ok (.aload_n 0, 1) := by decide +kernel
theorem dX5_box_149 : decode cX5_box 149 = .ok (.iload 10, 2) := by decide +kernel
theorem dX5_box_151 : decode cX5_box 151 = .ok (.iload 11, 2) := by decide +kernel
theorem dX5_box_153 : decode cX5_box 153 = .ok (.iload 12, 2) := by decide +kernel
theorem dX5_box_155 : decode cX5_box 155 = .ok (.invokevirtual 64, 3) := by decide +kernel
theorem dX5_box_158 : decode cX5_box 158 = .ok (.iload 7, 2) := by decide +kernel
theorem dX5_box_160 : decode cX5_box 160 = .ok (.if_icmp .eq 27, 3) := by decide +kernel
theorem dX5_box_163 : decode cX5_box 163 = .ok (.aload_n 0, 1) := by decide +kernel
theorem dX5_box_164 : decode cX5_box 164 = .ok (.getfield 19, 3) := by decide +kernel
theorem dX5_box_167 : decode cX5_box 167 = .ok (.bipush 64, 2) := by decide +kernel
theorem dX5_box_169 : decode cX5_box 169 = .ok (.iload 10, 2) := by decide +kernel
theorem dX5_box_171 : decode cX5_box 171 = .ok (.imul, 1) := by decide +kernel
theorem dX5_box_172 : decode cX5_box 172 = .ok (.bipush 8, 2) := by decide +kernel
theorem dX5_box_174 : decode cX5_box 174 = .ok (.iload 11, 2) := by decide +kernel
theorem dX5_box_176 : decode cX5_box 176 = .ok (.imul, 1) := by decide +kernel
theorem dX5_box_177 : decode cX5_box 177 = .ok (.iadd, 1) := by decide +kernel
theorem dX5_box_178 : decode cX5_box 178 = .ok (.iload 12, 2) := by decide +kernel
theorem dX5_box_180 : decode cX5_box 180 = .ok (.iadd, 1) := by decide +kernel
theorem dX5_box_181 : decode cX5_box 181 = .ok (.iload 7, 2) := by decide +kernel
theorem dX5_box_183 : decode cX5_box 183 = .ok (.bastore, 1) := by decide +kernel
theorem dX5_box_184 : decode cX5_box 184 = .ok (.iinc 9 1, 3) := by decide +kernel
theorem dX5_box_187 : decode cX5_box 187 = .ok (.iinc 12 1, 3) := by decide +kernel
theorem dX5_box_190 : decode cX5_box 190 = .ok (.goto (-64), 3) := by decide +kernel
theorem dX5_box_193 : decode cX5_box 193 = .ok (.iinc 11 1, 3) := by decide +kernel
theorem dX5_box_196 : decode cX5_box 196 = .ok (.goto (-82), 3) := by decide +kernel
theorem dX5_box_199 : decode cX5_box 199 = .ok (.iinc 10 1, 3) := by decide +kernel
theorem dX5_box_202 : decode cX5_box 202 = .ok (.goto (-100), 3) := by decide +kernel
theorem dX5_box_205 : decode cX5_box 205 = .ok (.aload_n 0, 1) := by decide +kernel
theorem dX5_box_206 : decode cX5_box 206 = .ok (.iconst 0, 1) := by decide +kernel
theorem dX5_box_207 : decode cX5_box 207 = .ok (.putfield 54, 3) := by decide +kernel
theorem dX5_box_210 : decode cX5_box 210 = .ok (.iload 9, 2) := by decide +kernel
theorem dX5_box_212 : decode cX5_box 212 = .ok (.ireturn, 1) := by decide +kernel
set_option maxRecDepth 20000 in
theorem ggX5_at_X5_isPlace : GoodIn wsX5_at wsX5_isPlace := goodIn_r _ [5, 6, 7, 8, 9, 10, 4, 11, 17, 18, 19, 20, 21, 22, 23, 24, 25, 26, 27, 28, 29, 30, 31, 32, 33] (by decide +kernel) (by decide +kernel)
set_option maxRecDepth 20000 in
theorem gX5_at_X5_isPlace : GoodIn wsX5_at (wsV RX5 60 RX5 yX5_isPlace wsX5_isPlace) := goodIn_app (goodIn_of _ (by decide +kernel)) ggX5_at_X5_isPlace
set_option maxRecDepth 20000 in
theorem ggX5_at_X5_has : GoodIn wsX5_at wsX5_has := goodIn_r _ [15, 16, 17, 18, 19, 20, 21, 22, 23, 24, 25, 26, 27, 28, 29, 30, 31, 32, 33] (by decide +kernel) (by decide +kernel)
set_option maxRecDepth 20000 in
theorem gX5_at_X5_has : GoodIn wsX5_at (wsV RX5 64 RX5 yX5_has wsX5_has) := goodIn_app (goodIn_of _ (by decide +kernel)) ggX5_at_X5_has
theorem dX5_at_0 : decode cX5_at 0 = .ok (.aload_n 0, 1) := by decide +kernel
theorem dX5_at_1 : decode cX5_at 1 = .ok (.iload_n 1, 1) := by decide +kernel
theorem dX5_at_2 : decode cX5_at 2 = .ok (.iload_n 2, 1) := by decide +kernel
theorem dX5_at_3 : decode cX5_at 3 = .ok (.iload_n 3, 1) := by decide +kernel
theorem dX5_at_4 : decode cX5_at 4 = .ok (.invokevirtual 60, 3) := by decide +kernel
theorem dX5_at_7 : decode cX5_at 7 = .ok (.ifCond .ne 7, 3) := by decide +kernel
theorem dX5_at_10 : decode cX5_at 10 = .ok (.iconst (-1), 1) := by decide +kernel
theorem dX5_at_11 : decode cX5_at 11 = .ok (.goto 18, 3) := by decide +kernel
theorem dX5_at_14 : decode cX5_at 14 = .ok (.aload_n 0, 1) := by decide +kernel
theorem dX5_at_15 : decode cX5_at 15 = .ok (.iload_n 1, 1) := by decide +kernel
theorem dX5_at_16 : decode cX5_at 16 = .ok (.iload_n 2, 1) := by decide +kernel
theorem dX5_at_17 : decode cX5_at 17 = .ok (.iload_n 3, 1) := by decide +kernel
theorem dX5_at_18 : decode cX5_at 18 = .ok (.invokevirtual 64, 3) := by decide +kernel
theorem dX5_at_21 : decode cX5_at 21 = .ok (.ifCond .eq 7, 3) := by decide +kernel
theorem dX5_at_24 : decode cX5_at 24 = .ok (.iconst 1, 1) := by decide +kernel
theorem dX5_at_25 : decode cX5_at 25 = .ok (.goto 4, 3) := by decide +kernel
theorem dX5_at_28 : decode cX5_at 28 = .ok (.iconst 0, 1) := by decide +kernel
theorem dX5_at_29 : decode cX5_at 29 = .ok (.ireturn, 1) := by decide +kernel
theorem dX5_places_0 : decode cX5_places 0 = .ok (.iload_n 1, 1) := by decide +kernel
theorem dX5_places_1 : decode cX5_places 1 = .ok (.ifCond .ne 10, 3) := by decide +kernel
theorem dX5_places_4 : decode cX5_places 4 = .ok (.aload_n 0, 1) := by decide +kernel
theorem dX5_places_5 : decode cX5_places 5 = .ok (.getfield 7, 3) := by decide +kernel
theorem dX5_places_8 : decode cX5_places 8 = .ok (.goto 7, 3) := by decide +kernel
theorem dX5_places_11 : decode cX5_places 11 = .ok (.aload_n 0, 1) := by decide +kernel
theorem dX5_places_12 : decode cX5_places 12 = .ok (.getfield 13, 3) := by decide +kernel
theorem dX5_places_15 : decode cX5_places 15 = .ok (.ireturn, 1) := by decide +kernel
set_option maxRecDepth 20000 in
theorem ggX5_isRib_X5_in : GoodIn wsX5_isRib wsX5_in := goodIn_r _ [4] (by decide +kernel) (by decide +kernel)
set_option maxRecDepth 20000 in
theorem gX5_isRib_X5_in : GoodIn wsX5_isRib (va_wsS RX5 48 yX5_in wsX5_in) := goodIn_app (goodIn_of _ (by decide +kernel)) ggX5_isRib_X5_in
set_option maxRecDepth 20000 in
theorem ggX5_isRib_X5_places : GoodIn wsX5_isRib wsX5_places := goodIn_r _ [8, 9, 10, 11, 12, 13, 14, 15, 16, 17, 18, 19, 20, 21, 22, 23, 24, 25, 26, 27] (by decide +kernel) (by decide +kernel)
set_option maxRecDepth 20000 in
theorem gX5_isRib_X5_places : GoodIn wsX5_isRib (wsV RX5 67 RX5 yX5_places wsX5_places) := goodIn_app (goodIn_of _ (by decide +kernel)) ggX5_isRib_X5_places
theorem dX5_isRib_0 : decode cX5_isRib 0 = .ok (.iload_n 1, 1) := by decide +kernel
theorem dX5_isRib_1 : decode cX5_isRib 1 = .ok (.i2l, 1) := by decide +kernel
theorem dX5_isRib_2 : decode cX5_isRib 2 = .ok (.lconst 0, 1) := by decide +kernel
theorem dX5_isRib_3 : decode cX5_isRib 3 = .ok (.lconst 1, 1) := by decide +kernel
theorem dX5_isRib_4 : decode cX5_isRib 4 = .ok (.invokestatic 48, 3) := by decide +kernel
theorem dX5_isRib_7 : decode cX5_isRib 7 = .ok (.ifCond .eq 24, 3) := by decide +kernel
theorem dX5_isRib_10 : decode cX5_isRib 10 = .ok (.iload_n 2, 1) := by decide +kernel
theorem dX5_isRib_11 : decode cX5_isRib 11 = .ok (.i2l, 1) := by decide +kernel
theorem dX5_isRib_12 : decode cX5_isRib 12 = .ok (.lconst 0, 1) := by decide +kernel
theorem dX5_isRib_13 : decode cX5_isRib 13 = .ok (.aload_n 0, 1) := by decide +kernel
theorem dX5_isRib_14 : decode cX5_isRib 14 = .ok (.iload_n 1, 1) := by decide +kernel
theorem dX5_isRib_15 : decode cX5_isRib 15 = .ok (.invokevirtual 67, 3) := by decide +kernel
theorem dX5_isRib_18 : decode cX5_isRib 18 = .ok (.iconst 1, 1) := by decide +kernel
theorem dX5_isRib_19 : decode cX5_isRib 19 = .ok (.isub, 1) := by decide +kernel
theorem dX5_isRib_20 : decode cX5_isRib 20 = .ok (.i2l, 1) := by decide +kernel
theorem dX5_isRib_21 : decode cX5_isRib 21 = .ok (.invokestatic 48, 3) := by decide +kernel
theorem dX5_isRib_24 : decode cX5_isRib 24 = .ok (.ifCond .eq 7, 3) := by decide +kernel
theorem dX5_isRib_27 : decode cX5_isRib 27 = .ok (.iconst 1, 1) := by decide +kernel
theorem dX5_isRib_28 : decode cX5_isRib 28 = .ok (.goto 4, 3) := by decide +kernel
theorem dX5_isRib_31 : decode cX5_isRib 31 = .ok (.iconst 0, 1) := by decide +kernel
theorem dX5_isRib_32 : decode cX5_isRib 32 = .ok (.ireturn, 1) := by decide +kernel
theorem dX5_isChosen_0 : decode cX5_isChosen 0 = .ok (.aload_n 0, 1) := by decide +kernel
theorem dX5_isChosen_1 : decode cX5_isChosen 1 = .ok (.getfield 23, 3) := by decide +kernel
theorem dX5_isChosen_4 : decode cX5_isChosen 4 = .ok (.iload_n 1, 1) := by decide +kernel
theorem dX5_isChosen_5 : decode cX5_isChosen 5 = .ok (.iaload, 1) := by decide +kernel
theorem dX5_isChosen_6 : decode cX5_isChosen 6 = .ok (.iload_n 2, 1) := by decide +kernel
theorem dX5_isChosen_7 : decode cX5_isChosen 7 = .ok (.ishr, 1) := by decide +kernel
theorem dX5_isChosen_8 : decode cX5_isChosen 8 = .ok (.iconst 1, 1) := by decide +kernel
theorem dX5_isChosen_9 : decode cX5_isChosen 9 = .ok (.iand, 1) := by decide +kernel
theorem dX5_isChosen_10 : decode cX5_isChosen 10 = .ok (.iconst 1, 1) := by decide +kernel
theorem dX5_isChosen_11 : decode cX5_isChosen 11 = .ok (.if_icmp .ne 7, 3) := by decide +kernel
theorem dX5_isChosen_14 : decode cX5_isChosen 14 = .ok (.iconst 1, 1) := by decide +kernel
theorem dX5_isChosen_15 : decode cX5_isChosen 15 = .ok (.goto 4, 3) := by decide +kernel
theorem dX5_isChosen_18 : decode cX5_isChosen 18 = .ok (.iconst 0, 1) := by decide +kernel
theorem dX5_isChosen_19 : decode cX5_isChosen 19 = .ok (.ireturn, 1) := by decide +kernel
set_option maxRecDepth 20000 in
theorem ggX5_rib_X5_isRib : GoodIn wsX5_rib wsX5_isRib := goodIn_r _ [7, 8, 9, 6, 10, 11, 12, 13, 14, 15, 16, 21, 22, 23, 24, 25, 26, 27, 28, 29, 30, 31, 32, 33, 34, 35, 36, 37] (by decide +kernel) (by decide +kernel)
set_option maxRecDepth 20000 in
theorem gX5_rib_X5_isRib : GoodIn wsX5_rib (wsV RX5 71 RX5 yX5_isRib wsX5_isRib) := goodIn_app (goodIn_of _ (by decide +kernel)) ggX5_rib_X5_isRib
set_option maxRecDepth 20000 in
theorem ggX5_rib_X5_isChosen : GoodIn wsX5_rib wsX5_isChosen := goodIn_r _ [20, 1, 21, 22, 23, 24, 25, 26, 27, 28, 29, 30, 31, 32, 33, 34, 35, 36, 37] (by decide +kernel) (by decide +kernel)
set_option maxRecDepth 20000 in
theorem gX5_rib_X5_isChosen : GoodIn wsX5_rib (wsV RX5 75 RX5 yX5_isChosen wsX5_isChosen) := goodIn_app (goodIn_of _ (by decide +kernel)) ggX5_rib_X5_isChosen
theorem dX5_rib_0 : decode cX5_rib 0 = .ok (.aload_n 0, 1) := by decide +kernel
theorem dX5_rib_1 : decode cX5_rib 1 = .ok (.iload_n 1, 1) := by decide +kernel
theorem dX5_rib_2 : decode cX5_rib 2 = .ok (.iload_n 2, 1) := by decide +kernel
theorem dX5_rib_3 : decode cX5_rib 3 = .ok (.invokevirtual 71, 3) := by decide +kernel
theorem dX5_rib_6 : decode cX5_rib 6 = .ok (.ifCond .ne 5, 3) := by decide +kernel
theorem dX5_rib_9 : decode cX5_rib 9 = .ok (.iconst (-1), 1) := by decide +kernel
theorem dX5_rib_10 : decode cX5_rib 10 = .ok (.ireturn, 1) := by decide +kernel
theorem dX5_rib_11 : decode cX5_rib 11 = .ok (.aload_n 0, 1) := by decide +kernel
theorem dX5_rib_12 : decode cX5_rib 12 = .ok (.iload_n 1, 1) := by decide +kernel
theorem dX5_rib_13 : decode cX5_rib 13 = .ok (.iload_n 2, 1) := by decide +kernel
theorem dX5_rib_14 : decode cX5_rib 14 = .ok (.invokevirtual 75, 3) := by decide +kernel
theorem dX5_rib_17 : decode cX5_rib 17 = .ok (.ifCond .eq 7, 3) := by decide +kernel
theorem dX5_rib_20 : decode cX5_rib 20 = .ok (.iconst 1, 1) := by decide +kernel
theorem dX5_rib_21 : decode cX5_rib 21 = .ok (.goto 4, 3) := by decide +kernel
theorem dX5_rib_24 : decode cX5_rib 24 = .ok (.iconst 0, 1) := by decide +kernel
theorem dX5_rib_25 : decode cX5_rib 25 = .ok (.istore 4, 2) := by decide +kernel
theorem dX5_rib_27 : decode cX5_rib 27 = .ok (.aload_n 0, 1) := by decide +kernel
theorem dX5_rib_28 : decode cX5_rib 28 = .ok (.getfield 23, 3) := by decide +kernel
theorem dX5_rib_31 : decode cX5_rib 31 = .ok (.iload_n 1, 1) := by decide +kernel
theorem dX5_rib_32 : decode cX5_rib 32 = .ok (.iload_n 3, 1) := by decide +kernel
theorem dX5_rib_33 : decode cX5_rib 33 = .ok (.ifCond .eq 16, 3) := by decide +kernel
theorem dX5_rib_36 : decode cX5_rib 36 = .ok (.aload_n 0, 1) := by decide +kernel
theorem dX5_rib_37 : decode cX5_rib 37 = .ok (.getfield 23, 3) := by decide +kernel
theorem dX5_rib_40 : decode cX5_rib 40 = .ok (.iload_n 1, 1) := by decide +kernel
theorem dX5_rib_41 : decode cX5_rib 41 = .ok (.iaload, 1) := by decide +kernel
theorem dX5_rib_42 : decode cX5_rib 42 = .ok (.iconst 1, 1) := by decide +kernel
theorem dX5_rib_43 : decode cX5_rib 43 = .ok (.iload_n 2, 1) := by decide +kernel
theorem dX5_rib_44 : decode cX5_rib 44 = .ok (.ishl, 1) := by decide +kernel
theorem dX5_rib_45 : decode cX5_rib 45 = .ok (.ior, 1) := by decide +kernel
theorem dX5_rib_46 : decode cX5_rib 46 = .ok (.goto 15, 3) := by decide +kernel
theorem dX5_rib_49 : decode cX5_rib 49 = .ok (.aload_n 0, 1) := by decide +kernel
theorem dX5_rib_50 : decode cX5_rib 50 = .ok (.getfield 23, 3) := by decide +kernel
theorem dX5_rib_53 : decode cX5_rib 53 = .ok (.iload_n 1, 1) := by decide +kernel
theorem dX5_rib_54 : decode cX5_rib 54 = .ok (.iaload, 1) := by decide +kernel
theorem dX5_rib_55 : decode cX5_rib 55 = .ok (.iconst 1, 1) := by decide +kernel
theorem dX5_rib_56 : decode cX5_rib 56 = .ok (.iload_n 2, 1) := by decide +kernel
theorem dX5_rib_57 : decode cX5_rib 57 = .ok (.ishl, 1) := by decide +kernel
theorem dX5_rib_58 : decode cX5_rib 58 = .ok (.iconst (-1), 1) := by decide +kernel
theorem dX5_rib_59 : decode cX5_rib 59 = .ok (.ixor, 1) := by decide +kernel
end
section
theorem dX5_rib_60 : decode cX5_rib 60 = .ok (.iand, 1) := by decide +kernel
theorem dX5_rib_61 : decode cX5_rib 61 = .ok (.iastore, 1) := by decide +kernel
theorem dX5_rib_62 : decode cX5_rib 62 = .ok (.aload_n 0, 1) := by decide +kernel
theorem dX5_rib_63 : decode cX5_rib 63 = .ok (.iconst 0, 1) := by decide +kernel
theorem dX5_rib_64 : decode cX5_rib 64 = .ok (.putfield 54, 3) := by decide +kernel
theorem dX5_rib_67 : decode cX5_rib 67 = .ok (.iload 4, 2) := by decide +kernel
theorem dX5_rib_69 : decode cX5_rib 69 = .ok (.ireturn, 1) := by decide +kernel
set_option maxRecDepth 20000 in
theorem ggX5_ribs_X5_in : GoodIn wsX5_ribs wsX5_in := goodIn_r _ [6] (by decide +kernel) (by decide +kernel)
set_option maxRecDepth 20000 in
theorem gX5_ribs_X5_in : GoodIn wsX5_ribs (va_wsS RX5 48 yX5_in wsX5_in) := goodIn_app (goodIn_of _ (by decide +kernel)) ggX5_ribs_X5_in
set_option maxRecDepth 20000 in
theorem ggX5_ribs_X5_places : GoodIn wsX5_ribs wsX5_places := goodIn_r _ [10, 11, 12, 13, 14, 15, 16, 17, 18, 19, 20, 21, 22, 23, 24, 25, 26, 27, 28, 29] (by decide +kernel) (by decide +kernel)
set_option maxRecDepth 20000 in
theorem gX5_ribs_X5_places : GoodIn wsX5_ribs (wsV RX5 67 RX5 yX5_places wsX5_places) := goodIn_app (goodIn_of _ (by decide +kernel)) ggX5_ribs_X5_places
theorem dX5_ribs_0 : decode cX5_ribs 0 = .ok (.iload_n 1, 1) := by decide +kernel
theorem dX5_ribs_1 : decode cX5_ribs 1 = .ok (.i2l, 1) := by decide +kernel
theorem dX5_ribs_2 : decode cX5_ribs 2 = .ok (.lconst 0, 1) := by decide +kernel
theorem dX5_ribs_3 : decode cX5_ribs 3 = .ok (.lconst 1, 1) := by decide +kernel
theorem dX5_ribs_4 : decode cX5_ribs 4 = .ok (.invokestatic 48, 3) := by decide +kernel
theorem dX5_ribs_7 : decode cX5_ribs 7 = .ok (.ifCond .eq 22, 3) := by decide +kernel
theorem dX5_ribs_10 : decode cX5_ribs 10 = .ok (.iload_n 2, 1) := by decide +kernel
theorem dX5_ribs_11 : decode cX5_ribs 11 = .ok (.i2l, 1) := by decide +kernel
theorem dX5_ribs_12 : decode cX5_ribs 12 = .ok (.lconst 0, 1) := by decide +kernel
theorem dX5_ribs_13 : decode cX5_ribs 13 = .ok (.iconst 1, 1) := by decide +kernel
theorem dX5_ribs_14 : decode cX5_ribs 14 = .ok (.aload_n 0, 1) := by decide +kernel
theorem dX5_ribs_15 : decode cX5_ribs 15 = .ok (.iload_n 1, 1) := by decide +kernel
theorem dX5_ribs_16 : decode cX5_ribs 16 = .ok (.invokevirtual 67, 3) := by decide +kernel
theorem dX5_ribs_19 : decode cX5_ribs 19 = .ok (.ishl, 1) := by decide +kernel
theorem dX5_ribs_20 : decode cX5_ribs 20 = .ok (.iconst 1, 1) := by decide +kernel
theorem dX5_ribs_21 : decode cX5_ribs 21 = .ok (.isub, 1) := by decide +kernel
theorem dX5_ribs_22 : decode cX5_ribs 22 = .ok (.i2l, 1) := by decide +kernel
theorem dX5_ribs_23 : decode cX5_ribs 23 = .ok (.invokestatic 48, 3) := by decide +kernel
theorem dX5_ribs_26 : decode cX5_ribs 26 = .ok (.ifCond .ne 6, 3) := by decide +kernel
theorem dX5_ribs_29 : decode cX5_ribs 29 = .ok (.bipush (-2), 2) := by decide +kernel
theorem dX5_ribs_31 : decode cX5_ribs 31 = .ok (.ireturn, 1) := by decide +kernel
theorem dX5_ribs_32 : decode cX5_ribs 32 = .ok (.aload_n 0, 1) := by decide +kernel
theorem dX5_ribs_33 : decode cX5_ribs 33 = .ok (.getfield 23, 3) := by decide +kernel
theorem dX5_ribs_36 : decode cX5_ribs 36 = .ok (.iload_n 1, 1) := by decide +kernel
theorem dX5_ribs_37 : decode cX5_ribs 37 = .ok (.iaload, 1) := by decide +kernel
theorem dX5_ribs_38 : decode cX5_ribs 38 = .ok (.istore_n 3, 1) := by decide +kernel
theorem dX5_ribs_39 : decode cX5_ribs 39 = .ok (.aload_n 0, 1) := by decide +kernel
theorem dX5_ribs_40 : decode cX5_ribs 40 = .ok (.getfield 23, 3) := by decide +kernel
theorem dX5_ribs_43 : decode cX5_ribs 43 = .ok (.iload_n 1, 1) := by decide +kernel
theorem dX5_ribs_44 : decode cX5_ribs 44 = .ok (.iload_n 2, 1) := by decide +kernel
theorem dX5_ribs_45 : decode cX5_ribs 45 = .ok (.iastore, 1) := by decide +kernel
theorem dX5_ribs_46 : decode cX5_ribs 46 = .ok (.aload_n 0, 1) := by decide +kernel
theorem dX5_ribs_47 : decode cX5_ribs 47 = .ok (.iconst 0, 1) := by decide +kernel
theorem dX5_ribs_48 : decode cX5_ribs 48 = .ok (.putfield 54, 3) := by decide +kernel
theorem dX5_ribs_51 : decode cX5_ribs 51 = .ok (.iload_n 3, 1) := by decide +kernel
theorem dX5_ribs_52 : decode cX5_ribs 52 = .ok (.ireturn, 1) := by decide +kernel
set_option maxRecDepth 20000 in
theorem ggX5_hasIn_X5_has : GoodIn wsX5_hasIn wsX5_has := goodIn_r _ [5, 6, 7, 8, 9, 10, 11, 12, 13, 14, 15, 16, 17, 18, 19, 20, 21, 22, 23] (by decide +kernel) (by decide +kernel)
set_option maxRecDepth 20000 in
theorem gX5_hasIn_X5_has : GoodIn wsX5_hasIn (wsV RX5 64 RX5 yX5_has wsX5_has) := goodIn_app (goodIn_of _ (by decide +kernel)) ggX5_hasIn_X5_has
theorem dX5_hasIn_0 : decode cX5_hasIn 0 = .ok (.iload_n 1, 1) := by decide +kernel
theorem dX5_hasIn_1 : decode cX5_hasIn 1 = .ok (.ifCond .ne 14, 3) := by decide +kernel
theorem dX5_hasIn_4 : decode cX5_hasIn 4 = .ok (.aload_n 0, 1) := by decide +kernel
theorem dX5_hasIn_5 : decode cX5_hasIn 5 = .ok (.iload_n 2, 1) := by decide +kernel
theorem dX5_hasIn_6 : decode cX5_hasIn 6 = .ok (.iload_n 3, 1) := by decide +kernel
theorem dX5_hasIn_7 : decode cX5_hasIn 7 = .ok (.iload 4, 2) := by decide +kernel
theorem dX5_hasIn_9 : decode cX5_hasIn 9 = .ok (.invokevirtual 64, 3) := by decide +kernel
theorem dX5_hasIn_12 : decode cX5_hasIn 12 = .ok (.goto 11, 3) := by decide +kernel
theorem dX5_hasIn_15 : decode cX5_hasIn 15 = .ok (.aload_n 0, 1) := by decide +kernel
theorem dX5_hasIn_16 : decode cX5_hasIn 16 = .ok (.iload_n 3, 1) := by decide +kernel
theorem dX5_hasIn_17 : decode cX5_hasIn 17 = .ok (.iload_n 2, 1) := by decide +kernel
theorem dX5_hasIn_18 : decode cX5_hasIn 18 = .ok (.iload 4, 2) := by decide +kernel
theorem dX5_hasIn_20 : decode cX5_hasIn 20 = .ok (.invokevirtual 64, 3) := by decide +kernel
theorem dX5_hasIn_23 : decode cX5_hasIn 23 = .ok (.ireturn, 1) := by decide +kernel
set_option maxRecDepth 20000 in
theorem ggX5_findRuns_X5_has : GoodIn wsX5_findRuns wsX5_has := goodIn_r _ [8, 9, 10, 11, 12, 13, 14, 15, 16, 17, 18, 19, 20, 21, 22, 23, 24, 25, 26] (by decide +kernel) (by decide +kernel)
set_option maxRecDepth 20000 in
theorem gX5_findRuns_X5_has : GoodIn wsX5_findRuns (wsV RX5 64 RX5 yX5_has wsX5_has) := goodIn_app (goodIn_of _ (by decide +kernel)) ggX5_findRuns_X5_has
theorem dX5_findRuns_0 : decode cX5_findRuns 0 = .ok (.iconst 0, 1) := by decide +kernel
theorem dX5_findRuns_1 : decode cX5_findRuns 1 = .ok (.istore_n 3, 1) := by decide +kernel
theorem dX5_findRuns_2 : decode cX5_findRuns 2 = .ok (.iconst 0, 1) := by decide +kernel
theorem dX5_findRuns_3 : decode cX5_findRuns 3 = .ok (.istore 4, 2) := by decide +kernel
theorem dX5_findRuns_5 : decode cX5_findRuns 5 = .ok (.iload 4, 2) := by decide +kernel
theorem dX5_findRuns_7 : decode cX5_findRuns 7 = .ok (.aload_n 0, 1) := by decide +kernel
theorem dX5_findRuns_8 : decode cX5_findRuns 8 = .ok (.getfield 16, 3) := by decide +kernel
theorem dX5_findRuns_11 : decode cX5_findRuns 11 = .ok (.if_icmp .ge 68, 3) := by decide +kernel
theorem dX5_findRuns_14 : decode cX5_findRuns 14 = .ok (.aload_n 0, 1) := by decide +kernel
theorem dX5_findRuns_15 : decode cX5_findRuns 15 = .ok (.iload_n 1, 1) := by decide +kernel
theorem dX5_findRuns_16 : decode cX5_findRuns 16 = .ok (.iload_n 2, 1) := by decide +kernel
theorem dX5_findRuns_17 : decode cX5_findRuns 17 = .ok (.iload 4, 2) := by decide +kernel
theorem dX5_findRuns_19 : decode cX5_findRuns 19 = .ok (.invokevirtual 64, 3) := by decide +kernel
theorem dX5_findRuns_22 : decode cX5_findRuns 22 = .ok (.ifCond .eq 51, 3) := by decide +kernel
theorem dX5_findRuns_25 : decode cX5_findRuns 25 = .ok (.iload 4, 2) := by decide +kernel
theorem dX5_findRuns_27 : decode cX5_findRuns 27 = .ok (.ifCond .eq 16, 3) := by decide +kernel
theorem dX5_findRuns_30 : decode cX5_findRuns 30 = .ok (.aload_n 0, 1) := by decide +kernel
theorem dX5_findRuns_31 : decode cX5_findRuns 31 = .ok (.iload_n 1, 1) := by decide +kernel
theorem dX5_findRuns_32 : decode cX5_findRuns 32 = .ok (.iload_n 2, 1) := by decide +kernel
theorem dX5_findRuns_33 : decode cX5_findRuns 33 = .ok (.iload 4, 2) := by decide +kernel
theorem dX5_findRuns_35 : decode cX5_findRuns 35 = .ok (.iconst 1, 1) := by decide +kernel
theorem dX5_findRuns_36 : decode cX5_findRuns 36 = .ok (.isub, 1) := by decide +kernel
theorem dX5_findRuns_37 : decode cX5_findRuns 37 = .ok (.invokevirtual 64, 3) := by decide +kernel
theorem dX5_findRuns_40 : decode cX5_findRuns 40 = .ok (.ifCond .ne 21, 3) := by decide +kernel
theorem dX5_findRuns_43 : decode cX5_findRuns 43 = .ok (.aload_n 0, 1) := by decide +kernel
theorem dX5_findRuns_44 : decode cX5_findRuns 44 = .ok (.getfield 27, 3) := by decide +kernel
theorem dX5_findRuns_47 : decode cX5_findRuns 47 = .ok (.iload_n 3, 1) := by decide +kernel
theorem dX5_findRuns_48 : decode cX5_findRuns 48 = .ok (.iload 4, 2) := by decide +kernel
theorem dX5_findRuns_50 : decode cX5_findRuns 50 = .ok (.iastore, 1) := by decide +kernel
theorem dX5_findRuns_51 : decode cX5_findRuns 51 = .ok (.aload_n 0, 1) := by decide +kernel
theorem dX5_findRuns_52 : decode cX5_findRuns 52 = .ok (.getfield 30, 3) := by decide +kernel
theorem dX5_findRuns_55 : decode cX5_findRuns 55 = .ok (.iload_n 3, 1) := by decide +kernel
theorem dX5_findRuns_56 : decode cX5_findRuns 56 = .ok (.iconst 0, 1) := by decide +kernel
theorem dX5_findRuns_57 : decode cX5_findRuns 57 = .ok (.iastore, 1) := by decide +kernel
theorem dX5_findRuns_58 : decode cX5_findRuns 58 = .ok (.iinc 3 1, 3) := by decide +kernel
theorem dX5_findRuns_61 : decode cX5_findRuns 61 = .ok (.aload_n 0, 1) := by decide +kernel
theorem dX5_findRuns_62 : decode cX5_findRuns 62 = .ok (.getfield 30, 3) := by decide +kernel
theorem dX5_findRuns_65 : decode cX5_findRuns 65 = .ok (.iload_n 3, 1) := by decide +kernel
theorem dX5_findRuns_66 : decode cX5_findRuns 66 = .ok (.iconst 1, 1) := by decide +kernel
theorem dX5_findRuns_67 : decode cX5_findRuns 67 = .ok (.isub, 1) := by decide +kernel
theorem dX5_findRuns_68 : decode cX5_findRuns 68 = .ok (.dup2, 1) := by decide +kernel
theorem dX5_findRuns_69 : decode cX5_findRuns 69 = .ok (.iaload, 1) := by decide +kernel
theorem dX5_findRuns_70 : decode cX5_findRuns 70 = .ok (.iconst 1, 1) := by decide +kernel
theorem dX5_findRuns_71 : decode cX5_findRuns 71 = .ok (.iadd, 1) := by decide +kernel
theorem dX5_findRuns_72 : decode cX5_findRuns 72 = .ok (.iastore, 1) := by decide +kernel
theorem dX5_findRuns_73 : decode cX5_findRuns 73 = .ok (.iinc 4 1, 3) := by decide +kernel
theorem dX5_findRuns_76 : decode cX5_findRuns 76 = .ok (.goto (-71), 3) := by decide +kernel
theorem dX5_findRuns_79 : decode cX5_findRuns 79 = .ok (.iload_n 3, 1) := by decide +kernel
theorem dX5_findRuns_80 : decode cX5_findRuns 80 = .ok (.ireturn, 1) := by decide +kernel
set_option maxRecDepth 20000 in
theorem ggX5_loses_X5_isChosen : GoodIn wsX5_loses wsX5_isChosen := goodIn_r _ [7, 8, 22, 23, 24, 25, 26, 27, 28, 29, 30, 31, 32, 33, 34, 35, 36, 37, 38] (by decide +kernel) (by decide +kernel)
set_option maxRecDepth 20000 in
theorem gX5_loses_X5_isChosen : GoodIn wsX5_loses (wsV RX5 75 RX5 yX5_isChosen wsX5_isChosen) := goodIn_app (goodIn_of _ (by decide +kernel)) ggX5_loses_X5_isChosen
set_option maxRecDepth 20000 in
theorem ggX5_loses_X5_findRuns : GoodIn wsX5_loses wsX5_findRuns := goodIn_r _ [12, 13, 1, 2, 14, 15, 16, 6, 17, 18, 22, 23, 24, 25, 26, 27, 28, 29, 30, 31, 32, 33, 34, 35, 36, 37, 38] (by decide +kernel) (by decide +kernel)
set_option maxRecDepth 20000 in
theorem gX5_loses_X5_findRuns : GoodIn wsX5_loses (wsV RX5 78 RX5 yX5_findRuns wsX5_findRuns) := goodIn_app (goodIn_of _ (by decide +kernel)) ggX5_loses_X5_findRuns
set_option maxRecDepth 20000 in
theorem ggX5_loses_X5_in : GoodIn wsX5_loses wsX5_in := goodIn_r _ [21] (by decide +kernel) (by decide +kernel)
set_option maxRecDepth 20000 in
theorem gX5_loses_X5_in : GoodIn wsX5_loses (va_wsS RX5 48 yX5_in wsX5_in) := goodIn_app (goodIn_of _ (by decide +kernel)) ggX5_loses_X5_in
theorem dX5_loses_0 : decode cX5_loses 0 = .ok (.aload_n 0, 1) := by decide +kernel
theorem dX5_loses_1 : decode cX5_loses 1 = .ok (.iload_n 1, 1) := by decide +kernel
theorem dX5_loses_2 : decode cX5_loses 2 = .ok (.iload_n 2, 1) := by decide +kernel
theorem dX5_loses_3 : decode cX5_loses 3 = .ok (.invokevirtual 75, 3) := by decide +kernel
theorem dX5_loses_6 : decode cX5_loses 6 = .ok (.ifCond .eq 14, 3) := by decide +kernel
theorem dX5_loses_9 : decode cX5_loses 9 = .ok (.aload_n 0, 1) := by decide +kernel
theorem dX5_loses_10 : decode cX5_loses 10 = .ok (.iconst 1, 1) := by decide +kernel
theorem dX5_loses_11 : decode cX5_loses 11 = .ok (.iload_n 1, 1) := by decide +kernel
theorem dX5_loses_12 : decode cX5_loses 12 = .ok (.isub, 1) := by decide +kernel
theorem dX5_loses_13 : decode cX5_loses 13 = .ok (.iload_n 3, 1) := by decide +kernel
theorem dX5_loses_14 : decode cX5_loses 14 = .ok (.invokevirtual 75, 3) := by decide +kernel
theorem dX5_loses_17 : decode cX5_loses 17 = .ok (.ifCond .ne 5, 3) := by decide +kernel
theorem dX5_loses_20 : decode cX5_loses 20 = .ok (.iconst 0, 1) := by decide +kernel
theorem dX5_loses_21 : decode cX5_loses 21 = .ok (.ireturn, 1) := by decide +kernel
theorem dX5_loses_22 : decode cX5_loses 22 = .ok (.iload_n 1, 1) := by decide +kernel
theorem dX5_loses_23 : decode cX5_loses 23 = .ok (.ifCond .ne 12, 3) := by decide +kernel
theorem dX5_loses_26 : decode cX5_loses 26 = .ok (.aload_n 0, 1) := by decide +kernel
theorem dX5_loses_27 : decode cX5_loses 27 = .ok (.iload_n 2, 1) := by decide +kernel
theorem dX5_loses_28 : decode cX5_loses 28 = .ok (.iload_n 3, 1) := by decide +kernel
theorem dX5_loses_29 : decode cX5_loses 29 = .ok (.invokevirtual 78, 3) := by decide +kernel
theorem dX5_loses_32 : decode cX5_loses 32 = .ok (.goto 9, 3) := by decide +kernel
theorem dX5_loses_35 : decode cX5_loses 35 = .ok (.aload_n 0, 1) := by decide +kernel
theorem dX5_loses_36 : decode cX5_loses 36 = .ok (.iload_n 3, 1) := by decide +kernel
theorem dX5_loses_37 : decode cX5_loses 37 = .ok (.iload_n 2, 1) := by decide +kernel
theorem dX5_loses_38 : decode cX5_loses 38 = .ok (.invokevirtual 78, 3) := by decide +kernel
theorem dX5_loses_41 : decode cX5_loses 41 = .ok (.istore 5, 2) := by decide +kernel
theorem dX5_loses_43 : decode cX5_loses 43 = .ok (.iconst 0, 1) := by decide +kernel
theorem dX5_loses_44 : decode cX5_loses 44 = .ok (.istore 6, 2) := by decide +kernel
theorem dX5_loses_46 : decode cX5_loses 46 = .ok (.iload 6, 2) := by decide +kernel
theorem dX5_loses_48 : decode cX5_loses 48 = .ok (.iload 5, 2) := by decide +kernel
theorem dX5_loses_50 : decode cX5_loses 50 = .ok (.if_icmp .ge 101, 3) := by decide +kernel
theorem dX5_loses_53 : decode cX5_loses 53 = .ok (.iload 4, 2) := by decide +kernel
theorem dX5_loses_55 : decode cX5_loses 55 = .ok (.i2l, 1) := by decide +kernel
theorem dX5_loses_56 : decode cX5_loses 56 = .ok (.aload_n 0, 1) := by decide +kernel
theorem dX5_loses_57 : decode cX5_loses 57 = .ok (.getfield 27, 3) := by decide +kernel
theorem dX5_loses_60 : decode cX5_loses 60 = .ok (.iload 6, 2) := by decide +kernel
theorem dX5_loses_62 : decode cX5_loses 62 = .ok (.iaload, 1) := by decide +kernel
theorem dX5_loses_63 : decode cX5_loses 63 = .ok (.i2l, 1) := by decide +kernel
theorem dX5_loses_64 : decode cX5_loses 64 = .ok (.aload_n 0, 1) := by decide +kernel
theorem dX5_loses_65 : decode cX5_loses 65 = .ok (.getfield 27, 3) := by decide +kernel
theorem dX5_loses_68 : decode cX5_loses 68 = .ok (.iload 6, 2) := by decide +kernel
theorem dX5_loses_70 : decode cX5_loses 70 = .ok (.iaload, 1) := by decide +kernel
theorem dX5_loses_71 : decode cX5_loses 71 = .ok (.aload_n 0, 1) := by decide +kernel
theorem dX5_loses_72 : decode cX5_loses 72 = .ok (.getfield 30, 3) := by decide +kernel
theorem dX5_loses_75 : decode cX5_loses 75 = .ok (.iload 6, 2) := by decide +kernel
theorem dX5_loses_77 : decode cX5_loses 77 = .ok (.iaload, 1) := by decide +kernel
theorem dX5_loses_78 : decode cX5_loses 78 = .ok (.iadd, 1) := by decide +kernel
theorem dX5_loses_79 : decode cX5_loses 79 = .ok (.iconst 1, 1) := by decide +kernel
theorem dX5_loses_80 : decode cX5_loses 80 = .ok (.isub, 1) := by decide +kernel
theorem dX5_loses_81 : decode cX5_loses 81 = .ok (.i2l, 1) := by decide +kernel
theorem dX5_loses_82 : decode cX5_loses 82 = .ok (.invokestatic 48, 3) := by decide +kernel
theorem dX5_loses_85 : decode cX5_loses 85 = .ok (.ifCond .eq 60, 3) := by decide +kernel
theorem dX5_loses_88 : decode cX5_loses 88 = .ok (.iload 4, 2) := by decide +kernel
theorem dX5_loses_90 : decode cX5_loses 90 = .ok (.aload_n 0, 1) := by decide +kernel
theorem dX5_loses_91 : decode cX5_loses 91 = .ok (.getfield 27, 3) := by decide +kernel
theorem dX5_loses_94 : decode cX5_loses 94 = .ok (.iload 6, 2) := by decide +kernel
theorem dX5_loses_96 : decode cX5_loses 96 = .ok (.iaload, 1) := by decide +kernel
theorem dX5_loses_97 : decode cX5_loses 97 = .ok (.aload_n 0, 1) := by decide +kernel
theorem dX5_loses_98 : decode cX5_loses 98 = .ok (.getfield 30, 3) := by decide +kernel
theorem dX5_loses_101 : decode cX5_loses 101 = .ok (.iload 6, 2) := by decide +kernel
theorem dX5_loses_103 : decode cX5_loses 103 = .ok (.iaload, 1) := by decide +kernel
theorem dX5_loses_104 : decode cX5_loses 104 = .ok (.iadd, 1) := by decide +kernel
theorem dX5_loses_105 : decode cX5_loses 105 = .ok (.aload_n 0, 1) := by decide +kernel
theorem dX5_loses_106 : decode cX5_loses 106 = .ok (.getfield 30, 3) := by decide +kernel
theorem dX5_loses_109 : decode cX5_loses 109 = .ok (.iload 6, 2) := by decide +kernel
theorem dX5_loses_111 : decode cX5_loses 111 = .ok (.iaload, 1) := by decide +kernel
theorem dX5_loses_112 : decode cX5_loses 112 = .ok (.iconst 2, 1) := by decide +kernel
theorem dX5_loses_113 : decode cX5_loses 113 = .ok (.idiv, 1) := by decide +kernel
theorem dX5_loses_114 : decode cX5_loses 114 = .ok (.isub, 1) := by decide +kernel
theorem dX5_loses_115 : decode cX5_loses 115 = .ok (.if_icmp .lt 7, 3) := by decide +kernel
theorem dX5_loses_118 : decode cX5_loses 118 = .ok (.iconst 1, 1) := by decide +kernel
theorem dX5_loses_119 : decode cX5_loses 119 = .ok (.goto 4, 3) := by decide +kernel
theorem dX5_loses_122 : decode cX5_loses 122 = .ok (.iconst 0, 1) := by decide +kernel
theorem dX5_loses_123 : decode cX5_loses 123 = .ok (.istore 7, 2) := by decide +kernel
theorem dX5_loses_125 : decode cX5_loses 125 = .ok (.iload_n 1, 1) := by decide +kernel
theorem dX5_loses_126 : decode cX5_loses 126 = .ok (.ifCond .ne 8, 3) := by decide +kernel
theorem dX5_loses_129 : decode cX5_loses 129 = .ok (.iload 7, 2) := by decide +kernel
theorem dX5_loses_131 : decode cX5_loses 131 = .ok (.goto 13, 3) := by decide +kernel
theorem dX5_loses_134 : decode cX5_loses 134 = .ok (.iload 7, 2) := by decide +kernel
theorem dX5_loses_136 : decode cX5_loses 136 = .ok (.ifCond .ne 7, 3) := by decide +kernel
theorem dX5_loses_139 : decode cX5_loses 139 = .ok (.iconst 1, 1) := by decide +kernel
theorem dX5_loses_140 : decode cX5_loses 140 = .ok (.goto 4, 3) := by decide +kernel
theorem dX5_loses_143 : decode cX5_loses 143 = .ok (.iconst 0, 1) := by decide +kernel
theorem dX5_loses_144 : decode cX5_loses 144 = .ok (.ireturn, 1) := by decide +kernel
theorem dX5_loses_145 : decode cX5_loses 145 = .ok (.iinc 6 1, 3) := by decide +kernel
theorem dX5_loses_148 : decode cX5_loses 148 = .ok (.goto (-102), 3) := by decide +kernel
theorem dX5_loses_151 : decode cX5_loses 151 = .ok (.iconst 0, 1) := by decide +kernel
theorem dX5_loses_152 : decode cX5_loses 152 = .ok (.ireturn, 1) := by decide +kernel
set_option maxRecDepth 20000 in
theorem ggX5_isIn_X5_hasIn : GoodIn wsX5_isIn wsX5_hasIn := goodIn_r _ [5, 6, 7, 8, 4, 9, 10, 30, 31, 32, 33, 34, 35, 36, 37, 38, 39, 40, 41, 42, 43, 44, 45, 46] (by decide +kernel) (by decide +kernel)
set_option maxRecDepth 20000 in
theorem gX5_isIn_X5_hasIn : GoodIn wsX5_isIn (wsV RX5 82 RX5 yX5_hasIn wsX5_hasIn) := goodIn_app (goodIn_of _ (by decide +kernel)) ggX5_isIn_X5_hasIn
set_option maxRecDepth 20000 in
theorem ggX5_isIn_X5_loses : GoodIn wsX5_isIn wsX5_loses := goodIn_r _ [14, 15, 16, 17, 18, 19, 4, 20, 21, 22, 23, 24, 25, 26, 6, 7, 8, 9, 10, 27, 28, 29, 30, 31, 32, 33, 34, 35, 36, 37, 38, 39, 40, 41, 42, 43, 44, 45, 46] (by decide +kernel) (by decide +kernel)
set_option maxRecDepth 20000 in
theorem gX5_isIn_X5_loses : GoodIn wsX5_isIn (wsV RX5 86 RX5 yX5_loses wsX5_loses) := goodIn_app (goodIn_of _ (by decide +kernel)) ggX5_isIn_X5_loses
theorem dX5_isIn_0 : decode cX5_isIn 0 = .ok (.aload_n 0, 1) := by decide +kernel
theorem dX5_isIn_1 : decode cX5_isIn 1 = .ok (.iload_n 1, 1) := by decide +kernel
theorem dX5_isIn_2 : decode cX5_isIn 2 = .ok (.iload_n 2, 1) := by decide +kernel
theorem dX5_isIn_3 : decode cX5_isIn 3 = .ok (.iload_n 3, 1) := by decide +kernel
theorem dX5_isIn_4 : decode cX5_isIn 4 = .ok (.iload 4, 2) := by decide +kernel
theorem dX5_isIn_6 : decode cX5_isIn 6 = .ok (.invokevirtual 82, 3) := by decide +kernel
theorem dX5_isIn_9 : decode cX5_isIn 9 = .ok (.ifCond .eq 24, 3) := by decide +kernel
theorem dX5_isIn_12 : decode cX5_isIn 12 = .ok (.iload 5, 2) := by decide +kernel
theorem dX5_isIn_14 : decode cX5_isIn 14 = .ok (.ifCond .eq 15, 3) := by decide +kernel
theorem dX5_isIn_17 : decode cX5_isIn 17 = .ok (.aload_n 0, 1) := by decide +kernel
theorem dX5_isIn_18 : decode cX5_isIn 18 = .ok (.iload_n 1, 1) := by decide +kernel
theorem dX5_isIn_19 : decode cX5_isIn 19 = .ok (.iload_n 2, 1) := by decide +kernel
theorem dX5_isIn_20 : decode cX5_isIn 20 = .ok (.iload_n 3, 1) := by decide +kernel
theorem dX5_isIn_21 : decode cX5_isIn 21 = .ok (.iload 4, 2) := by decide +kernel
theorem dX5_isIn_23 : decode cX5_isIn 23 = .ok (.invokevirtual 86, 3) := by decide +kernel
theorem dX5_isIn_26 : decode cX5_isIn 26 = .ok (.ifCond .ne 7, 3) := by decide +kernel
theorem dX5_isIn_29 : decode cX5_isIn 29 = .ok (.iconst 1, 1) := by decide +kernel
theorem dX5_isIn_30 : decode cX5_isIn 30 = .ok (.goto 4, 3) := by decide +kernel
theorem dX5_isIn_33 : decode cX5_isIn 33 = .ok (.iconst 0, 1) := by decide +kernel
theorem dX5_isIn_34 : decode cX5_isIn 34 = .ok (.ireturn, 1) := by decide +kernel
set_option maxRecDepth 20000 in
theorem ggX5_figure_X5_isRib : GoodIn wsX5_figure wsX5_isRib := goodIn_r _ [6, 7, 8, 5, 9, 10, 11, 12, 13, 14, 15, 44, 45, 46, 47, 48, 49, 50, 51, 52, 53, 54, 55, 56, 57, 58, 59, 60] (by decide +kernel) (by decide +kernel)
set_option maxRecDepth 20000 in
theorem gX5_figure_X5_isRib : GoodIn wsX5_figure (wsV RX5 71 RX5 yX5_isRib wsX5_isRib) := goodIn_app (goodIn_of _ (by decide +kernel)) ggX5_figure_X5_isRib
set_option maxRecDepth 20000 in
theorem ggX5_figure_X5_places : GoodIn wsX5_figure wsX5_places := goodIn_r _ [13, 14, 15, 44, 45, 46, 47, 48, 49, 50, 51, 52, 53, 54, 55, 56, 57, 58, 59, 60] (by decide +kernel) (by decide +kernel)
set_option maxRecDepth 20000 in
theorem gX5_figure_X5_places : GoodIn wsX5_figure (wsV RX5 67 RX5 yX5_places wsX5_places) := goodIn_app (goodIn_of _ (by decide +kernel)) ggX5_figure_X5_places
set_option maxRecDepth 20000 in
theorem ggX5_figure_X5_in : GoodIn wsX5_figure wsX5_in := goodIn_r _ [9] (by decide +kernel) (by decide +kernel)
set_option maxRecDepth 20000 in
theorem gX5_figure_X5_in : GoodIn wsX5_figure (va_wsS RX5 48 yX5_in wsX5_in) := goodIn_app (goodIn_of _ (by decide +kernel)) ggX5_figure_X5_in
set_option maxRecDepth 20000 in
theorem ggX5_figure_X5_isIn : GoodIn wsX5_figure wsX5_isIn := goodIn_r _ [19, 20, 21, 22, 5, 23, 24, 25, 26, 27, 28, 29, 30, 31, 32, 33, 34, 35, 36, 37, 38, 39, 40, 41, 42, 43, 1, 7, 8, 9, 44, 45, 46, 47, 48, 49, 50, 51, 52, 53, 54, 55, 56, 57, 58, 59, 60] (by decide +kernel) (by decide +kernel)
set_option maxRecDepth 20000 in
theorem gX5_figure_X5_isIn : GoodIn wsX5_figure (wsV RX5 89 RX5 yX5_isIn wsX5_isIn) := goodIn_app (goodIn_of _ (by decide +kernel)) ggX5_figure_X5_isIn
theorem dX5_figure_0 : decode cX5_figure 0 = .ok (.aload_n 0, 1) := by decide +kernel
theorem dX5_figure_1 : decode cX5_figure 1 = .ok (.iload_n 1, 1) := by decide +kernel
theorem dX5_figure_2 : decode cX5_figure 2 = .ok (.iload_n 2, 1) := by decide +kernel
theorem dX5_figure_3 : decode cX5_figure 3 = .ok (.invokevirtual 71, 3) := by decide +kernel
theorem dX5_figure_6 : decode cX5_figure 6 = .ok (.ifCond .eq 39, 3) := by decide +kernel
theorem dX5_figure_9 : decode cX5_figure 9 = .ok (.iload_n 3, 1) := by decide +kernel
theorem dX5_figure_10 : decode cX5_figure 10 = .ok (.i2l, 1) := by decide +kernel
theorem dX5_figure_11 : decode cX5_figure 11 = .ok (.lconst 0, 1) := by decide +kernel
theorem dX5_figure_12 : decode cX5_figure 12 = .ok (.aload_n 0, 1) := by decide +kernel
theorem dX5_figure_13 : decode cX5_figure 13 = .ok (.iconst 1, 1) := by decide +kernel
theorem dX5_figure_14 : decode cX5_figure 14 = .ok (.iload_n 1, 1) := by decide +kernel
theorem dX5_figure_15 : decode cX5_figure 15 = .ok (.isub, 1) := by decide +kernel
theorem dX5_figure_16 : decode cX5_figure 16 = .ok (.invokevirtual 67, 3) := by decide +kernel
theorem dX5_figure_19 : decode cX5_figure 19 = .ok (.iconst 1, 1) := by decide +kernel
theorem dX5_figure_20 : decode cX5_figure 20 = .ok (.isub, 1) := by decide +kernel
theorem dX5_figure_21 : decode cX5_figure 21 = .ok (.i2l, 1) := by decide +kernel
theorem dX5_figure_22 : decode cX5_figure 22 = .ok (.invokestatic 48, 3) := by decide +kernel
theorem dX5_figure_25 : decode cX5_figure 25 = .ok (.ifCond .eq 20, 3) := by decide +kernel
theorem dX5_figure_28 : decode cX5_figure 28 = .ok (.iload 4, 2) := by decide +kernel
theorem dX5_figure_30 : decode cX5_figure 30 = .ok (.i2l, 1) := by decide +kernel
theorem dX5_figure_31 : decode cX5_figure 31 = .ok (.lconst 0, 1) := by decide +kernel
theorem dX5_figure_32 : decode cX5_figure 32 = .ok (.aload_n 0, 1) := by decide +kernel
theorem dX5_figure_33 : decode cX5_figure 33 = .ok (.getfield 16, 3) := by decide +kernel
theorem dX5_figure_36 : decode cX5_figure 36 = .ok (.iconst 1, 1) := by decide +kernel
theorem dX5_figure_37 : decode cX5_figure 37 = .ok (.isub, 1) := by decide +kernel
theorem dX5_figure_38 : decode cX5_figure 38 = .ok (.i2l, 1) := by decide +kernel
theorem dX5_figure_39 : decode cX5_figure 39 = .ok (.invokestatic 48, 3) := by decide +kernel
theorem dX5_figure_42 : decode cX5_figure 42 = .ok (.ifCond .ne 5, 3) := by decide +kernel
theorem dX5_figure_45 : decode cX5_figure 45 = .ok (.iconst (-1), 1) := by decide +kernel
theorem dX5_figure_46 : decode cX5_figure 46 = .ok (.ireturn, 1) := by decide +kernel
theorem dX5_figure_47 : decode cX5_figure 47 = .ok (.aload_n 0, 1) := by decide +kernel
theorem dX5_figure_48 : decode cX5_figure 48 = .ok (.iload_n 1, 1) := by decide +kernel
theorem dX5_figure_49 : decode cX5_figure 49 = .ok (.iload_n 2, 1) := by decide +kernel
theorem dX5_figure_50 : decode cX5_figure 50 = .ok (.iload_n 3, 1) := by decide +kernel
theorem dX5_figure_51 : decode cX5_figure 51 = .ok (.iload 4, 2) := by decide +kernel
theorem dX5_figure_53 : decode cX5_figure 53 = .ok (.iload 5, 2) := by decide +kernel
theorem dX5_figure_55 : decode cX5_figure 55 = .ok (.invokevirtual 89, 3) := by decide +kernel
theorem dX5_figure_58 : decode cX5_figure 58 = .ok (.ifCond .eq 7, 3) := by decide +kernel
theorem dX5_figure_61 : decode cX5_figure 61 = .ok (.iconst 1, 1) := by decide +kernel
theorem dX5_figure_62 : decode cX5_figure 62 = .ok (.goto 4, 3) := by decide +kernel
theorem dX5_figure_65 : decode cX5_figure 65 = .ok (.iconst 0, 1) := by decide +kernel
theorem dX5_figure_66 : decode cX5_figure 66 = .ok (.ireturn, 1) := by decide +kernel
set_option maxRecDepth 20000 in
theorem ggX5_findParts_X5_places : GoodIn wsX5_findParts wsX5_places := goodIn_r _ [9, 10, 11, 47, 48, 49, 50, 51, 52, 53, 54, 55, 56, 57, 58, 59, 60, 61, 62, 63] (by decide +kernel) (by decide +kernel)
set_option maxRecDepth 20000 in
theorem gX5_findParts_X5_places : GoodIn wsX5_findParts (wsV RX5 67 RX5 yX5_places wsX5_places) := goodIn_app (goodIn_of _ (by decide +kernel)) ggX5_findParts_X5_places
set_option maxRecDepth 20000 in
theorem ggX5_findParts_X5_isIn : GoodIn wsX5_findParts wsX5_isIn := goodIn_r _ [15, 16, 17, 18, 8, 19, 20, 21, 22, 23, 24, 25, 26, 27, 28, 29, 30, 31, 32, 33, 34, 35, 36, 37, 38, 39, 2, 40, 41, 42, 47, 48, 49, 50, 51, 52, 53, 54, 55, 56, 57, 58, 59, 60, 61, 62, 63] (by decide +kernel) (by decide +kernel)
set_option maxRecDepth 20000 in
theorem gX5_findParts_X5_isIn : GoodIn wsX5_findParts (wsV RX5 89 RX5 yX5_isIn wsX5_isIn) := goodIn_app (goodIn_of _ (by decide +kernel)) ggX5_findParts_X5_isIn
set_option maxRecDepth 20000 in
theorem ggX5_findParts_X5_meet : GoodIn wsX5_findParts wsX5_meet := goodIn_r _ [46, 3, 47, 48, 49, 50, 51, 52, 53, 54, 55, 56, 57, 58, 59, 60, 61, 62, 63] (by decide +kernel) (by decide +kernel)
set_option maxRecDepth 20000 in
theorem gX5_findParts_X5_meet : GoodIn wsX5_findParts (wsV RX5 96 RX5 yX5_meet wsX5_meet) := goodIn_app (goodIn_of _ (by decide +kernel)) ggX5_findParts_X5_meet
theorem dX5_findParts_0 : decode cX5_findParts 0 = .ok (.aload_n 0, 1) := by decide +kernel
theorem dX5_findParts_1 : decode cX5_findParts 1 = .ok (.iconst 0, 1) := by decide +kernel
theorem dX5_findParts_2 : decode cX5_findParts 2 = .ok (.putfield 93, 3) := by decide +kernel
theorem dX5_findParts_5 : decode cX5_findParts 5 = .ok (.iconst 0, 1) := by decide +kernel
theorem dX5_findParts_6 : decode cX5_findParts 6 = .ok (.istore 4, 2) := by decide +kernel
theorem dX5_findParts_8 : decode cX5_findParts 8 = .ok (.iload 4, 2) := by decide +kernel
theorem dX5_findParts_10 : decode cX5_findParts 10 = .ok (.bipush 8, 2) := by decide +kernel
theorem dX5_findParts_12 : decode cX5_findParts 12 = .ok (.if_icmp .ge 118, 3) := by decide +kernel
theorem dX5_findParts_15 : decode cX5_findParts 15 = .ok (.iconst 0, 1) := by decide +kernel
theorem dX5_findParts_16 : decode cX5_findParts 16 = .ok (.istore 5, 2) := by decide +kernel
theorem dX5_findParts_18 : decode cX5_findParts 18 = .ok (.iload 5, 2) := by decide +kernel
theorem dX5_findParts_20 : decode cX5_findParts 20 = .ok (.bipush 8, 2) := by decide +kernel
theorem dX5_findParts_22 : decode cX5_findParts 22 = .ok (.if_icmp .ge 102, 3) := by decide +kernel
theorem dX5_findParts_25 : decode cX5_findParts 25 = .ok (.iload 4, 2) := by decide +kernel
theorem dX5_findParts_27 : decode cX5_findParts 27 = .ok (.aload_n 0, 1) := by decide +kernel
theorem dX5_findParts_28 : decode cX5_findParts 28 = .ok (.iconst 1, 1) := by decide +kernel
theorem dX5_findParts_29 : decode cX5_findParts 29 = .ok (.iload_n 1, 1) := by decide +kernel
theorem dX5_findParts_30 : decode cX5_findParts 30 = .ok (.isub, 1) := by decide +kernel
theorem dX5_findParts_31 : decode cX5_findParts 31 = .ok (.invokevirtual 67, 3) := by decide +kernel
theorem dX5_findParts_34 : decode cX5_findParts 34 = .ok (.if_icmp .ge 30, 3) := by decide +kernel
theorem dX5_findParts_37 : decode cX5_findParts 37 = .ok (.iload 5, 2) := by decide +kernel
theorem dX5_findParts_39 : decode cX5_findParts 39 = .ok (.aload_n 0, 1) := by decide +kernel
theorem dX5_findParts_40 : decode cX5_findParts 40 = .ok (.getfield 16, 3) := by decide +kernel
theorem dX5_findParts_43 : decode cX5_findParts 43 = .ok (.if_icmp .ge 21, 3) := by decide +kernel
theorem dX5_findParts_46 : decode cX5_findParts 46 = .ok (.aload_n 0, 1) := by decide +kernel
theorem dX5_findParts_47 : decode cX5_findParts 47 = .ok (.iload_n 1, 1) := by decide +kernel
theorem dX5_findParts_48 : decode cX5_findParts 48 = .ok (.iload_n 2, 1) := by decide +kernel
theorem dX5_findParts_49 : decode cX5_findParts 49 = .ok (.iload 4, 2) := by decide +kernel
theorem dX5_findParts_51 : decode cX5_findParts 51 = .ok (.iload 5, 2) := by decide +kernel
theorem dX5_findParts_53 : decode cX5_findParts 53 = .ok (.iload_n 3, 1) := by decide +kernel
theorem dX5_findParts_54 : decode cX5_findParts 54 = .ok (.invokevirtual 89, 3) := by decide +kernel
theorem dX5_findParts_57 : decode cX5_findParts 57 = .ok (.ifCond .eq 7, 3) := by decide +kernel
theorem dX5_findParts_60 : decode cX5_findParts 60 = .ok (.iconst 1, 1) := by decide +kernel
theorem dX5_findParts_61 : decode cX5_findParts 61 = .ok (.goto 4, 3) := by decide +kernel
theorem dX5_findParts_64 : decode cX5_findParts 64 = .ok (.iconst 0, 1) := by decide +kernel
theorem dX5_findParts_65 : decode cX5_findParts 65 = .ok (.istore 6, 2) := by decide +kernel
theorem dX5_findParts_67 : decode cX5_findParts 67 = .ok (.aload_n 0, 1) := by decide +kernel
theorem dX5_findParts_68 : decode cX5_findParts 68 = .ok (.getfield 33, 3) := by decide +kernel
theorem dX5_findParts_71 : decode cX5_findParts 71 = .ok (.bipush 8, 2) := by decide +kernel
theorem dX5_findParts_73 : decode cX5_findParts 73 = .ok (.iload 4, 2) := by decide +kernel
theorem dX5_findParts_75 : decode cX5_findParts 75 = .ok (.imul, 1) := by decide +kernel
theorem dX5_findParts_76 : decode cX5_findParts 76 = .ok (.iload 5, 2) := by decide +kernel
theorem dX5_findParts_78 : decode cX5_findParts 78 = .ok (.iadd, 1) := by decide +kernel
theorem dX5_findParts_79 : decode cX5_findParts 79 = .ok (.iload 6, 2) := by decide +kernel
theorem dX5_findParts_81 : decode cX5_findParts 81 = .ok (.ifCond .eq 16, 3) := by decide +kernel
theorem dX5_findParts_84 : decode cX5_findParts 84 = .ok (.bipush 8, 2) := by decide +kernel
theorem dX5_findParts_86 : decode cX5_findParts 86 = .ok (.iload 4, 2) := by decide +kernel
theorem dX5_findParts_88 : decode cX5_findParts 88 = .ok (.imul, 1) := by decide +kernel
theorem dX5_findParts_89 : decode cX5_findParts 89 = .ok (.iload 5, 2) := by decide +kernel
theorem dX5_findParts_91 : decode cX5_findParts 91 = .ok (.iadd, 1) := by decide +kernel
theorem dX5_findParts_92 : decode cX5_findParts 92 = .ok (.iconst 1, 1) := by decide +kernel
theorem dX5_findParts_93 : decode cX5_findParts 93 = .ok (.iadd, 1) := by decide +kernel
theorem dX5_findParts_94 : decode cX5_findParts 94 = .ok (.goto 4, 3) := by decide +kernel
theorem dX5_findParts_97 : decode cX5_findParts 97 = .ok (.iconst 0, 1) := by decide +kernel
theorem dX5_findParts_98 : decode cX5_findParts 98 = .ok (.iastore, 1) := by decide +kernel
theorem dX5_findParts_99 : decode cX5_findParts 99 = .ok (.aload_n 0, 1) := by decide +kernel
theorem dX5_findParts_100 : decode cX5_findParts 100 = .ok (.dup, 1) := by decide +kernel
theorem dX5_findParts_101 : decode cX5_findParts 101 = .ok (.getfield 93, 3) := by decide +kernel
theorem dX5_findParts_104 : decode cX5_findParts 104 = .ok (.iload 6, 2) := by decide +kernel
theorem dX5_findParts_106 : decode cX5_findParts 106 = .ok (.ifCond .eq 7, 3) := by decide +kernel
theorem dX5_findParts_109 : decode cX5_findParts 109 = .ok (.iconst 1, 1) := by decide +kernel
theorem dX5_findParts_110 : decode cX5_findParts 110 = .ok (.goto 4, 3) := by decide +kernel
theorem dX5_findParts_113 : decode cX5_findParts 113 = .ok (.iconst 0, 1) := by decide +kernel
theorem dX5_findParts_114 : decode cX5_findParts 114 = .ok (.iadd, 1) := by decide +kernel
theorem dX5_findParts_115 : decode cX5_findParts 115 = .ok (.putfield 93, 3) := by decide +kernel
theorem dX5_findParts_118 : decode cX5_findParts 118 = .ok (.iinc 5 1, 3) := by decide +kernel
theorem dX5_findParts_121 : decode cX5_findParts 121 = .ok (.goto (-103), 3) := by decide +kernel
theorem dX5_findParts_124 : decode cX5_findParts 124 = .ok (.iinc 4 1, 3) := by decide +kernel
theorem dX5_findParts_127 : decode cX5_findParts 127 = .ok (.goto (-119), 3) := by decide +kernel
theorem dX5_findParts_130 : decode cX5_findParts 130 = .ok (.iconst 1, 1) := by decide +kernel
theorem dX5_findParts_131 : decode cX5_findParts 131 = .ok (.istore 4, 2) := by decide +kernel
theorem dX5_findParts_133 : decode cX5_findParts 133 = .ok (.iload 4, 2) := by decide +kernel
theorem dX5_findParts_135 : decode cX5_findParts 135 = .ok (.ifCond .eq 93, 3) := by decide +kernel
theorem dX5_findParts_138 : decode cX5_findParts 138 = .ok (.iconst 0, 1) := by decide +kernel
theorem dX5_findParts_139 : decode cX5_findParts 139 = .ok (.istore 4, 2) := by decide +kernel
theorem dX5_findParts_141 : decode cX5_findParts 141 = .ok (.iconst 0, 1) := by decide +kernel
theorem dX5_findParts_142 : decode cX5_findParts 142 = .ok (.istore 5, 2) := by decide +kernel
theorem dX5_findParts_144 : decode cX5_findParts 144 = .ok (.iload 5, 2) := by decide +kernel
theorem dX5_findParts_146 : decode cX5_findParts 146 = .ok (.bipush 64, 2) := by decide +kernel
theorem dX5_findParts_148 : decode cX5_findParts 148 = .ok (.if_icmp .ge 77, 3) := by decide +kernel
theorem dX5_findParts_151 : decode cX5_findParts 151 = .ok (.iload 5, 2) := by decide +kernel
theorem dX5_findParts_153 : decode cX5_findParts 153 = .ok (.bipush 8, 2) := by decide +kernel
theorem dX5_findParts_155 : decode cX5_findParts 155 = .ok (.irem, 1) := by decide +kernel
theorem dX5_findParts_156 : decode cX5_findParts 156 = .ok (.bipush 7, 2) := by decide +kernel
theorem dX5_findParts_158 : decode cX5_findParts 158 = .ok (.if_icmp .ge 16, 3) := by decide +kernel
theorem dX5_findParts_161 : decode cX5_findParts 161 = .ok (.aload_n 0, 1) := by decide +kernel
theorem dX5_findParts_162 : decode cX5_findParts 162 = .ok (.iload 5, 2) := by decide +kernel
theorem dX5_findParts_164 : decode cX5_findParts 164 = .ok (.iload 5, 2) := by decide +kernel
theorem dX5_findParts_166 : decode cX5_findParts 166 = .ok (.iconst 1, 1) := by decide +kernel
theorem dX5_findParts_167 : decode cX5_findParts 167 = .ok (.iadd, 1) := by decide +kernel
theorem dX5_findParts_168 : decode cX5_findParts 168 = .ok (.invokevirtual 96, 3) := by decide +kernel
theorem dX5_findParts_171 : decode cX5_findParts 171 = .ok (.ifCond .ne 8, 3) := by decide +kernel
theorem dX5_findParts_174 : decode cX5_findParts 174 = .ok (.iload 4, 2) := by decide +kernel
theorem dX5_findParts_176 : decode cX5_findParts 176 = .ok (.ifCond .eq 7, 3) := by decide +kernel
theorem dX5_findParts_179 : decode cX5_findParts 179 = .ok (.iconst 1, 1) := by decide +kernel
theorem dX5_findParts_180 : decode cX5_findParts 180 = .ok (.goto 4, 3) := by decide +kernel
theorem dX5_findParts_183 : decode cX5_findParts 183 = .ok (.iconst 0, 1) := by decide +kernel
theorem dX5_findParts_184 : decode cX5_findParts 184 = .ok (.istore 4, 2) := by decide +kernel
theorem dX5_findParts_186 : decode cX5_findParts 186 = .ok (.iload 5, 2) := by decide +kernel
theorem dX5_findParts_188 : decode cX5_findParts 188 = .ok (.bipush 56, 2) := by decide +kernel
theorem dX5_findParts_190 : decode cX5_findParts 190 = .ok (.if_icmp .ge 17, 3) := by decide +kernel
theorem dX5_findParts_193 : decode cX5_findParts 193 = .ok (.aload_n 0, 1) := by decide +kernel
theorem dX5_findParts_194 : decode cX5_findParts 194 = .ok (.iload 5, 2) := by decide +kernel
theorem dX5_findParts_196 : decode cX5_findParts 196 = .ok (.iload 5, 2) := by decide +kernel
theorem dX5_findParts_198 : decode cX5_findParts 198 = .ok (.bipush 8, 2) := by decide +kernel
theorem dX5_findParts_200 : decode cX5_findParts 200 = .ok (.iadd, 1) := by decide +kernel
theorem dX5_findParts_201 : decode cX5_findParts 201 = .ok (.invokevirtual 96, 3) := by decide +kernel
theorem dX5_findParts_204 : decode cX5_findParts 204 = .ok (.ifCond .ne 8, 3) := by decide +kernel
theorem dX5_findParts_207 : decode cX5_findParts 207 = .ok (.iload 4, 2) := by decide +kernel
theorem dX5_findParts_209 : decode cX5_findParts 209 = .ok (.ifCond .eq 7, 3) := by decide +kernel
theorem dX5_findParts_212 : decode cX5_findParts 212 = .ok (.iconst 1, 1) := by decide +kernel
theorem dX5_findParts_213 : decode cX5_findParts 213 = .ok (.goto 4, 3) := by decide +kernel
theorem dX5_findParts_216 : decode cX5_findParts 216 = .ok (.iconst 0, 1) := by decide +kernel
theorem dX5_findParts_217 : decode cX5_findParts 217 = .ok (.istore 4, 2) := by decide +kernel
theorem dX5_findParts_219 : decode cX5_findParts 219 = .ok (.iinc 5 1, 3) := by decide +kernel
theorem dX5_findParts_222 : decode cX5_findParts 222 = .ok (.goto (-78), 3) := by decide +kernel
theorem dX5_findParts_225 : decode cX5_findParts 225 = .ok (.goto (-92), 3) := by decide +kernel
theorem dX5_findParts_228 : decode cX5_findParts 228 = .ok (.aload_n 0, 1) := by decide +kernel
theorem dX5_findParts_229 : decode cX5_findParts 229 = .ok (.iconst 0, 1) := by decide +kernel
theorem dX5_findParts_230 : decode cX5_findParts 230 = .ok (.putfield 99, 3) := by decide +kernel
theorem dX5_findParts_233 : decode cX5_findParts 233 = .ok (.iconst 0, 1) := by decide +kernel
theorem dX5_findParts_234 : decode cX5_findParts 234 = .ok (.istore 5, 2) := by decide +kernel
theorem dX5_findParts_236 : decode cX5_findParts 236 = .ok (.iload 5, 2) := by decide +kernel
theorem dX5_findParts_238 : decode cX5_findParts 238 = .ok (.bipush 64, 2) := by decide +kernel
theorem dX5_findParts_240 : decode cX5_findParts 240 = .ok (.if_icmp .ge 37, 3) := by decide +kernel
theorem dX5_findParts_243 : decode cX5_findParts 243 = .ok (.aload_n 0, 1) := by decide +kernel
theorem dX5_findParts_244 : decode cX5_findParts 244 = .ok (.dup, 1) := by decide +kernel
theorem dX5_findParts_245 : decode cX5_findParts 245 = .ok (.getfield 99, 3) := by decide +kernel
theorem dX5_findParts_248 : decode cX5_findParts 248 = .ok (.aload_n 0, 1) := by decide +kernel
theorem dX5_findParts_249 : decode cX5_findParts 249 = .ok (.getfield 33, 3) := by decide +kernel
theorem dX5_findParts_252 : decode cX5_findParts 252 = .ok (.iload 5, 2) := by decide +kernel
theorem dX5_findParts_254 : decode cX5_findParts 254 = .ok (.iaload, 1) := by decide +kernel
theorem dX5_findParts_255 : decode cX5_findParts 255 = .ok (.iload 5, 2) := by decide +kernel
theorem dX5_findParts_257 : decode cX5_findParts 257 = .ok (.iconst 1, 1) := by decide +kernel
theorem dX5_findParts_258 : decode cX5_findParts 258 = .ok (.iadd, 1) := by decide +kernel
theorem dX5_findParts_259 : decode cX5_findParts 259 = .ok (.if_icmp .ne 7, 3) := by decide +kernel
theorem dX5_findParts_262 : decode cX5_findParts 262 = .ok (.iconst 1, 1) := by decide +kernel
theorem dX5_findParts_263 : decode cX5_findParts 263 = .ok (.goto 4, 3) := by decide +kernel
theorem dX5_findParts_266 : decode cX5_findParts 266 = .ok (.iconst 0, 1) := by decide +kernel
theorem dX5_findParts_267 : decode cX5_findParts 267 = .ok (.iadd, 1) := by decide +kernel
theorem dX5_findParts_268 : decode cX5_findParts 268 = .ok (.putfield 99, 3) := by decide +kernel
theorem dX5_findParts_271 : decode cX5_findParts 271 = .ok (.iinc 5 1, 3) := by decide +kernel
theorem dX5_findParts_274 : decode cX5_findParts 274 = .ok (.goto (-38), 3) := by decide +kernel
theorem dX5_findParts_277 : decode cX5_findParts 277 = .ok (.return_, 1) := by decide +kernel
theorem dX5_meet_0 : decode cX5_meet 0 = .ok (.aload_n 0, 1) := by decide +kernel
theorem dX5_meet_1 : decode cX5_meet 1 = .ok (.getfield 33, 3) := by decide +kernel
theorem dX5_meet_4 : decode cX5_meet 4 = .ok (.iload_n 1, 1) := by decide +kernel
theorem dX5_meet_5 : decode cX5_meet 5 = .ok (.iaload, 1) := by decide +kernel
theorem dX5_meet_6 : decode cX5_meet 6 = .ok (.ifCond .eq 27, 3) := by decide +kernel
theorem dX5_meet_9 : decode cX5_meet 9 = .ok (.aload_n 0, 1) := by decide +kernel
theorem dX5_meet_10 : decode cX5_meet 10 = .ok (.getfield 33, 3) := by decide +kernel
theorem dX5_meet_13 : decode cX5_meet 13 = .ok (.iload_n 2, 1) := by decide +kernel
theorem dX5_meet_14 : decode cX5_meet 14 = .ok (.iaload, 1) := by decide +kernel
theorem dX5_meet_15 : decode cX5_meet 15 = .ok (.ifCond .eq 18, 3) := by decide +kernel
theorem dX5_meet_18 : decode cX5_meet 18 = .ok (.aload_n 0, 1) := by decide +kernel
theorem dX5_meet_19 : decode cX5_meet 19 = .ok (.getfield 33, 3) := by decide +kernel
theorem dX5_meet_22 : decode cX5_meet 22 = .ok (.iload_n 1, 1) := by decide +kernel
theorem dX5_meet_23 : decode cX5_meet 23 = .ok (.iaload, 1) := by decide +kernel
theorem dX5_meet_24 : decode cX5_meet 24 = .ok (.aload_n 0, 1) := by decide +kernel
theorem dX5_meet_25 : decode cX5_meet 25 = .ok (.getfield 33, 3) := by decide +kernel
theorem dX5_meet_28 : decode cX5_meet 28 = .ok (.iload_n 2, 1) := by decide +kernel
theorem dX5_meet_29 : decode cX5_meet 29 = .ok (.iaload, 1) := by decide +kernel
theorem dX5_meet_30 : decode cX5_meet 30 = .ok (.if_icmp .ne 5, 3) := by decide +kernel
theorem dX5_meet_33 : decode cX5_meet 33 = .ok (.iconst 0, 1) := by decide +kernel
theorem dX5_meet_34 : decode cX5_meet 34 = .ok (.ireturn, 1) := by decide +kernel
theorem dX5_meet_35 : decode cX5_meet 35 = .ok (.aload_n 0, 1) := by decide +kernel
theorem dX5_meet_36 : decode cX5_meet 36 = .ok (.getfield 33, 3) := by decide +kernel
theorem dX5_meet_39 : decode cX5_meet 39 = .ok (.iload_n 1, 1) := by decide +kernel
theorem dX5_meet_40 : decode cX5_meet 40 = .ok (.iaload, 1) := by decide +kernel
theorem dX5_meet_41 : decode cX5_meet 41 = .ok (.aload_n 0, 1) := by decide +kernel
theorem dX5_meet_42 : decode cX5_meet 42 = .ok (.getfield 33, 3) := by decide +kernel
theorem dX5_meet_45 : decode cX5_meet 45 = .ok (.iload_n 2, 1) := by decide +kernel
theorem dX5_meet_46 : decode cX5_meet 46 = .ok (.iaload, 1) := by decide +kernel
theorem dX5_meet_47 : decode cX5_meet 47 = .ok (.if_icmp .ge 12, 3) := by decide +kernel
theorem dX5_meet_50 : decode cX5_meet 50 = .ok (.aload_n 0, 1) := by decide +kernel
theorem dX5_meet_51 : decode cX5_meet 51 = .ok (.getfield 33, 3) := by decide +kernel
theorem dX5_meet_54 : decode cX5_meet 54 = .ok (.iload_n 1, 1) := by decide +kernel
theorem dX5_meet_55 : decode cX5_meet 55 = .ok (.iaload, 1) := by decide +kernel
theorem dX5_meet_56 : decode cX5_meet 56 = .ok (.goto 9, 3) := by decide +kernel
theorem dX5_meet_59 : decode cX5_meet 59 = .ok (.aload_n 0, 1) := by decide +kernel
theorem dX5_meet_60 : decode cX5_meet 60 = .ok (.getfield 33, 3) := by decide +kernel
theorem dX5_meet_63 : decode cX5_meet 63 = .ok (.iload_n 2, 1) := by decide +kernel
theorem dX5_meet_64 : decode cX5_meet 64 = .ok (.iaload, 1) := by decide +kernel
theorem dX5_meet_65 : decode cX5_meet 65 = .ok (.istore_n 3, 1) := by decide +kernel
theorem dX5_meet_66 : decode cX5_meet 66 = .ok (.aload_n 0, 1) := by decide +kernel
theorem dX5_meet_67 : decode cX5_meet 67 = .ok (.getfield 33, 3) := by decide +kernel
theorem dX5_meet_70 : decode cX5_meet 70 = .ok (.iload_n 1, 1) := by decide +kernel
theorem dX5_meet_71 : decode cX5_meet 71 = .ok (.iload_n 3, 1) := by decide +kernel
theorem dX5_meet_72 : decode cX5_meet 72 = .ok (.iastore, 1) := by decide +kernel
theorem dX5_meet_73 : decode cX5_meet 73 = .ok (.aload_n 0, 1) := by decide +kernel
theorem dX5_meet_74 : decode cX5_meet 74 = .ok (.getfield 33, 3) := by decide +kernel
theorem dX5_meet_77 : decode cX5_meet 77 = .ok (.iload_n 2, 1) := by decide +kernel
theorem dX5_meet_78 : decode cX5_meet 78 = .ok (.iload_n 3, 1) := by decide +kernel
theorem dX5_meet_79 : decode cX5_meet 79 = .ok (.iastore, 1) := by decide +kernel
theorem dX5_meet_80 : decode cX5_meet 80 = .ok (.iconst 1, 1) := by decide +kernel
theorem dX5_meet_81 : decode cX5_meet 81 = .ok (.ireturn, 1) := by decide +kernel
set_option maxRecDepth 20000 in
theorem ggX5_looseOf_X5_findParts : GoodIn wsX5_looseOf wsX5_findParts := goodIn_r _ [6, 7, 8, 1, 9, 10, 11, 12, 5, 13, 14, 15, 16, 17, 18, 19, 20, 21, 22, 23, 24, 25, 26, 27, 28, 29, 30, 31, 32, 33, 34, 35, 36, 37, 38, 39, 40, 41, 42, 43, 44, 45, 46, 47, 48, 49, 50, 51, 52, 53, 54, 55, 56, 57, 58, 59, 60, 61, 62, 63, 64, 65, 66, 67] (by decide +kernel) (by decide +kernel)
set_option maxRecDepth 20000 in
theorem gX5_looseOf_X5_findParts : GoodIn wsX5_looseOf (wsV RX5 102 RX5 yX5_findParts wsX5_findParts) := goodIn_app (goodIn_of _ (by decide +kernel)) ggX5_looseOf_X5_findParts
set_option maxRecDepth 20000 in
theorem ggX5_looseOf_X5_isChosen : GoodIn wsX5_looseOf wsX5_isChosen := goodIn_r _ [38, 39, 51, 52, 53, 54, 55, 56, 57, 58, 59, 60, 61, 62, 63, 64, 65, 66, 67] (by decide +kernel) (by decide +kernel)
set_option maxRecDepth 20000 in
theorem gX5_looseOf_X5_isChosen : GoodIn wsX5_looseOf (wsV RX5 75 RX5 yX5_isChosen wsX5_isChosen) := goodIn_app (goodIn_of _ (by decide +kernel)) ggX5_looseOf_X5_isChosen
theorem dX5_looseOf_0 : decode cX5_looseOf 0 = .ok (.aload_n 0, 1) := by decide +kernel
theorem dX5_looseOf_1 : decode cX5_looseOf 1 = .ok (.iload_n 1, 1) := by decide +kernel
theorem dX5_looseOf_2 : decode cX5_looseOf 2 = .ok (.iload_n 2, 1) := by decide +kernel
theorem dX5_looseOf_3 : decode cX5_looseOf 3 = .ok (.iconst 1, 1) := by decide +kernel
theorem dX5_looseOf_4 : decode cX5_looseOf 4 = .ok (.invokevirtual 102, 3) := by decide +kernel
theorem dX5_looseOf_7 : decode cX5_looseOf 7 = .ok (.iconst 0, 1) := by decide +kernel
theorem dX5_looseOf_8 : decode cX5_looseOf 8 = .ok (.istore_n 3, 1) := by decide +kernel
theorem dX5_looseOf_9 : decode cX5_looseOf 9 = .ok (.iconst 0, 1) := by decide +kernel
theorem dX5_looseOf_10 : decode cX5_looseOf 10 = .ok (.istore 4, 2) := by decide +kernel
theorem dX5_looseOf_12 : decode cX5_looseOf 12 = .ok (.iload 4, 2) := by decide +kernel
theorem dX5_looseOf_14 : decode cX5_looseOf 14 = .ok (.bipush 64, 2) := by decide +kernel
theorem dX5_looseOf_16 : decode cX5_looseOf 16 = .ok (.if_icmp .ge 105, 3) := by decide +kernel
theorem dX5_looseOf_19 : decode cX5_looseOf 19 = .ok (.aload_n 0, 1) := by decide +kernel
theorem dX5_looseOf_20 : decode cX5_looseOf 20 = .ok (.getfield 33, 3) := by decide +kernel
theorem dX5_looseOf_23 : decode cX5_looseOf 23 = .ok (.iload 4, 2) := by decide +kernel
theorem dX5_looseOf_25 : decode cX5_looseOf 25 = .ok (.iaload, 1) := by decide +kernel
theorem dX5_looseOf_26 : decode cX5_looseOf 26 = .ok (.iload 4, 2) := by decide +kernel
theorem dX5_looseOf_28 : decode cX5_looseOf 28 = .ok (.iconst 1, 1) := by decide +kernel
theorem dX5_looseOf_29 : decode cX5_looseOf 29 = .ok (.iadd, 1) := by decide +kernel
theorem dX5_looseOf_30 : decode cX5_looseOf 30 = .ok (.if_icmp .ne 85, 3) := by decide +kernel
theorem dX5_looseOf_33 : decode cX5_looseOf 33 = .ok (.iconst 0, 1) := by decide +kernel
theorem dX5_looseOf_34 : decode cX5_looseOf 34 = .ok (.istore 5, 2) := by decide +kernel
theorem dX5_looseOf_36 : decode cX5_looseOf 36 = .ok (.iconst 0, 1) := by decide +kernel
theorem dX5_looseOf_37 : decode cX5_looseOf 37 = .ok (.istore 6, 2) := by decide +kernel
theorem dX5_looseOf_39 : decode cX5_looseOf 39 = .ok (.iload 6, 2) := by decide +kernel
theorem dX5_looseOf_41 : decode cX5_looseOf 41 = .ok (.bipush 64, 2) := by decide +kernel
theorem dX5_looseOf_43 : decode cX5_looseOf 43 = .ok (.if_icmp .ge 59, 3) := by decide +kernel
theorem dX5_looseOf_46 : decode cX5_looseOf 46 = .ok (.iload 5, 2) := by decide +kernel
theorem dX5_looseOf_48 : decode cX5_looseOf 48 = .ok (.ifCond .ne 41, 3) := by decide +kernel
theorem dX5_looseOf_51 : decode cX5_looseOf 51 = .ok (.aload_n 0, 1) := by decide +kernel
theorem dX5_looseOf_52 : decode cX5_looseOf 52 = .ok (.getfield 33, 3) := by decide +kernel
theorem dX5_looseOf_55 : decode cX5_looseOf 55 = .ok (.iload 6, 2) := by decide +kernel
theorem dX5_looseOf_57 : decode cX5_looseOf 57 = .ok (.iaload, 1) := by decide +kernel
theorem dX5_looseOf_58 : decode cX5_looseOf 58 = .ok (.iload 4, 2) := by decide +kernel
theorem dX5_looseOf_60 : decode cX5_looseOf 60 = .ok (.iconst 1, 1) := by decide +kernel
theorem dX5_looseOf_61 : decode cX5_looseOf 61 = .ok (.iadd, 1) := by decide +kernel
theorem dX5_looseOf_62 : decode cX5_looseOf 62 = .ok (.if_icmp .ne 31, 3) := by decide +kernel
theorem dX5_looseOf_65 : decode cX5_looseOf 65 = .ok (.aload_n 0, 1) := by decide +kernel
theorem dX5_looseOf_66 : decode cX5_looseOf 66 = .ok (.iload_n 1, 1) := by decide +kernel
theorem dX5_looseOf_67 : decode cX5_looseOf 67 = .ok (.iload_n 2, 1) := by decide +kernel
theorem dX5_looseOf_68 : decode cX5_looseOf 68 = .ok (.invokevirtual 75, 3) := by decide +kernel
theorem dX5_looseOf_71 : decode cX5_looseOf 71 = .ok (.ifCond .eq 22, 3) := by decide +kernel
theorem dX5_looseOf_74 : decode cX5_looseOf 74 = .ok (.aload_n 0, 1) := by decide +kernel
theorem dX5_looseOf_75 : decode cX5_looseOf 75 = .ok (.iconst 1, 1) := by decide +kernel
theorem dX5_looseOf_76 : decode cX5_looseOf 76 = .ok (.iload_n 1, 1) := by decide +kernel
theorem dX5_looseOf_77 : decode cX5_looseOf 77 = .ok (.isub, 1) := by decide +kernel
theorem dX5_looseOf_78 : decode cX5_looseOf 78 = .ok (.iload 6, 2) := by decide +kernel
theorem dX5_looseOf_80 : decode cX5_looseOf 80 = .ok (.bipush 8, 2) := by decide +kernel
theorem dX5_looseOf_82 : decode cX5_looseOf 82 = .ok (.idiv, 1) := by decide +kernel
theorem dX5_looseOf_83 : decode cX5_looseOf 83 = .ok (.invokevirtual 75, 3) := by decide +kernel
theorem dX5_looseOf_86 : decode cX5_looseOf 86 = .ok (.ifCond .eq 7, 3) := by decide +kernel
theorem dX5_looseOf_89 : decode cX5_looseOf 89 = .ok (.iconst 1, 1) := by decide +kernel
theorem dX5_looseOf_90 : decode cX5_looseOf 90 = .ok (.goto 4, 3) := by decide +kernel
theorem dX5_looseOf_93 : decode cX5_looseOf 93 = .ok (.iconst 0, 1) := by decide +kernel
theorem dX5_looseOf_94 : decode cX5_looseOf 94 = .ok (.istore 5, 2) := by decide +kernel
theorem dX5_looseOf_96 : decode cX5_looseOf 96 = .ok (.iinc 6 1, 3) := by decide +kernel
theorem dX5_looseOf_99 : decode cX5_looseOf 99 = .ok (.goto (-60), 3) := by decide +kernel
theorem dX5_looseOf_102 : decode cX5_looseOf 102 = .ok (.iload_n 3, 1) := by decide +kernel
theorem dX5_looseOf_103 : decode cX5_looseOf 103 = .ok (.iload 5, 2) := by decide +kernel
theorem dX5_looseOf_105 : decode cX5_looseOf 105 = .ok (.ifCond .eq 7, 3) := by decide +kernel
theorem dX5_looseOf_108 : decode cX5_looseOf 108 = .ok (.iconst 0, 1) := by decide +kernel
theorem dX5_looseOf_109 : decode cX5_looseOf 109 = .ok (.goto 4, 3) := by decide +kernel
theorem dX5_looseOf_112 : decode cX5_looseOf 112 = .ok (.iconst 1, 1) := by decide +kernel
theorem dX5_looseOf_113 : decode cX5_looseOf 113 = .ok (.iadd, 1) := by decide +kernel
theorem dX5_looseOf_114 : decode cX5_looseOf 114 = .ok (.istore_n 3, 1) := by decide +kernel
theorem dX5_looseOf_115 : decode cX5_looseOf 115 = .ok (.iinc 4 1, 3) := by decide +kernel
theorem dX5_looseOf_118 : decode cX5_looseOf 118 = .ok (.goto (-106), 3) := by decide +kernel
theorem dX5_looseOf_121 : decode cX5_looseOf 121 = .ok (.iload_n 3, 1) := by decide +kernel
theorem dX5_looseOf_122 : decode cX5_looseOf 122 = .ok (.ireturn, 1) := by decide +kernel
set_option maxRecDepth 20000 in
theorem ggX5_crossings_X5_places : GoodIn wsX5_crossings wsX5_places := goodIn_r _ [5, 6, 7, 25, 26, 27, 28, 29, 30, 31, 32, 33, 34, 35, 36, 37, 38, 39, 40, 41] (by decide +kernel) (by decide +kernel)
set_option maxRecDepth 20000 in
theorem gX5_crossings_X5_places : GoodIn wsX5_crossings (wsV RX5 67 RX5 yX5_places wsX5_places) := goodIn_app (goodIn_of _ (by decide +kernel)) ggX5_crossings_X5_places
set_option maxRecDepth 20000 in
theorem ggX5_crossings_X5_isChosen : GoodIn wsX5_crossings wsX5_isChosen := goodIn_r _ [11, 12, 25, 26, 27, 28, 29, 30, 31, 32, 33, 34, 35, 36, 37, 38, 39, 40, 41] (by decide +kernel) (by decide +kernel)
set_option maxRecDepth 20000 in
theorem gX5_crossings_X5_isChosen : GoodIn wsX5_crossings (wsV RX5 75 RX5 yX5_isChosen wsX5_isChosen) := goodIn_app (goodIn_of _ (by decide +kernel)) ggX5_crossings_X5_isChosen
set_option maxRecDepth 20000 in
theorem ggX5_crossings_X5_findRuns : GoodIn wsX5_crossings wsX5_findRuns := goodIn_r _ [16, 17, 18, 19, 20, 21, 22, 4, 23, 24, 25, 26, 27, 28, 29, 30, 31, 32, 33, 34, 35, 36, 37, 38, 39, 40, 41] (by decide +kernel) (by decide +kernel)
set_option maxRecDepth 20000 in
theorem gX5_crossings_X5_findRuns : GoodIn wsX5_crossings (wsV RX5 78 RX5 yX5_findRuns wsX5_findRuns) := goodIn_app (goodIn_of _ (by decide +kernel)) ggX5_crossings_X5_findRuns
theorem dX5_crossings_0 : decode cX5_crossings 0 = .ok (.iconst 0, 1) := by decide +kernel
theorem dX5_crossings_1 : decode cX5_crossings 1 = .ok (.istore 4, 2) := by decide +kernel
theorem dX5_crossings_3 : decode cX5_crossings 3 = .ok (.iconst 0, 1) := by decide +kernel
theorem dX5_crossings_4 : decode cX5_crossings 4 = .ok (.istore 5, 2) := by decide +kernel
theorem dX5_crossings_6 : decode cX5_crossings 6 = .ok (.iload 5, 2) := by decide +kernel
theorem dX5_crossings_8 : decode cX5_crossings 8 = .ok (.aload_n 0, 1) := by decide +kernel
theorem dX5_crossings_9 : decode cX5_crossings 9 = .ok (.iconst 1, 1) := by decide +kernel
theorem dX5_crossings_10 : decode cX5_crossings 10 = .ok (.iload_n 1, 1) := by decide +kernel
theorem dX5_crossings_11 : decode cX5_crossings 11 = .ok (.isub, 1) := by decide +kernel
theorem dX5_crossings_12 : decode cX5_crossings 12 = .ok (.invokevirtual 67, 3) := by decide +kernel
theorem dX5_crossings_15 : decode cX5_crossings 15 = .ok (.if_icmp .ge 77, 3) := by decide +kernel
theorem dX5_crossings_18 : decode cX5_crossings 18 = .ok (.aload_n 0, 1) := by decide +kernel
theorem dX5_crossings_19 : decode cX5_crossings 19 = .ok (.iload_n 1, 1) := by decide +kernel
theorem dX5_crossings_20 : decode cX5_crossings 20 = .ok (.iload_n 2, 1) := by decide +kernel
theorem dX5_crossings_21 : decode cX5_crossings 21 = .ok (.invokevirtual 75, 3) := by decide +kernel
theorem dX5_crossings_24 : decode cX5_crossings 24 = .ok (.ifCond .eq 68, 3) := by decide +kernel
theorem dX5_crossings_27 : decode cX5_crossings 27 = .ok (.aload_n 0, 1) := by decide +kernel
theorem dX5_crossings_28 : decode cX5_crossings 28 = .ok (.iconst 1, 1) := by decide +kernel
theorem dX5_crossings_29 : decode cX5_crossings 29 = .ok (.iload_n 1, 1) := by decide +kernel
theorem dX5_crossings_30 : decode cX5_crossings 30 = .ok (.isub, 1) := by decide +kernel
theorem dX5_crossings_31 : decode cX5_crossings 31 = .ok (.iload 5, 2) := by decide +kernel
theorem dX5_crossings_33 : decode cX5_crossings 33 = .ok (.invokevirtual 75, 3) := by decide +kernel
theorem dX5_crossings_36 : decode cX5_crossings 36 = .ok (.ifCond .eq 50, 3) := by decide +kernel
theorem dX5_crossings_39 : decode cX5_crossings 39 = .ok (.iload_n 1, 1) := by decide +kernel
theorem dX5_crossings_40 : decode cX5_crossings 40 = .ok (.ifCond .ne 13, 3) := by decide +kernel
theorem dX5_crossings_43 : decode cX5_crossings 43 = .ok (.aload_n 0, 1) := by decide +kernel
theorem dX5_crossings_44 : decode cX5_crossings 44 = .ok (.iload_n 2, 1) := by decide +kernel
theorem dX5_crossings_45 : decode cX5_crossings 45 = .ok (.iload 5, 2) := by decide +kernel
theorem dX5_crossings_47 : decode cX5_crossings 47 = .ok (.invokevirtual 78, 3) := by decide +kernel
theorem dX5_crossings_50 : decode cX5_crossings 50 = .ok (.goto 10, 3) := by decide +kernel
theorem dX5_crossings_53 : decode cX5_crossings 53 = .ok (.aload_n 0, 1) := by decide +kernel
theorem dX5_crossings_54 : decode cX5_crossings 54 = .ok (.iload 5, 2) := by decide +kernel
theorem dX5_crossings_56 : decode cX5_crossings 56 = .ok (.iload_n 2, 1) := by decide +kernel
theorem dX5_crossings_57 : decode cX5_crossings 57 = .ok (.invokevirtual 78, 3) := by decide +kernel
theorem dX5_crossings_60 : decode cX5_crossings 60 = .ok (.istore 6, 2) := by decide +kernel
theorem dX5_crossings_62 : decode cX5_crossings 62 = .ok (.iload 4, 2) := by decide +kernel
theorem dX5_crossings_64 : decode cX5_crossings 64 = .ok (.iload_n 3, 1) := by decide +kernel
theorem dX5_crossings_65 : decode cX5_crossings 65 = .ok (.ifCond .eq 8, 3) := by decide +kernel
theorem dX5_crossings_68 : decode cX5_crossings 68 = .ok (.iload 6, 2) := by decide +kernel
theorem dX5_crossings_70 : decode cX5_crossings 70 = .ok (.goto 13, 3) := by decide +kernel
theorem dX5_crossings_73 : decode cX5_crossings 73 = .ok (.iload 6, 2) := by decide +kernel
theorem dX5_crossings_75 : decode cX5_crossings 75 = .ok (.ifCond .le 7, 3) := by decide +kernel
theorem dX5_crossings_78 : decode cX5_crossings 78 = .ok (.iconst 1, 1) := by decide +kernel
theorem dX5_crossings_79 : decode cX5_crossings 79 = .ok (.goto 4, 3) := by decide +kernel
theorem dX5_crossings_82 : decode cX5_crossings 82 = .ok (.iconst 0, 1) := by decide +kernel
theorem dX5_crossings_83 : decode cX5_crossings 83 = .ok (.iadd, 1) := by decide +kernel
theorem dX5_crossings_84 : decode cX5_crossings 84 = .ok (.istore 4, 2) := by decide +kernel
theorem dX5_crossings_86 : decode cX5_crossings 86 = .ok (.iinc 5 1, 3) := by decide +kernel
theorem dX5_crossings_89 : decode cX5_crossings 89 = .ok (.goto (-83), 3) := by decide +kernel
theorem dX5_crossings_92 : decode cX5_crossings 92 = .ok (.iload 4, 2) := by decide +kernel
theorem dX5_crossings_94 : decode cX5_crossings 94 = .ok (.ireturn, 1) := by decide +kernel
set_option maxRecDepth 20000 in
theorem ggX5_spanOf_X5_places : GoodIn wsX5_spanOf wsX5_places := goodIn_r _ [6, 7, 8, 18, 19, 20, 21, 22, 23, 24, 25, 26, 27, 28, 29, 30, 31, 32, 33, 34] (by decide +kernel) (by decide +kernel)
set_option maxRecDepth 20000 in
theorem gX5_spanOf_X5_places : GoodIn wsX5_spanOf (wsV RX5 67 RX5 yX5_places wsX5_places) := goodIn_app (goodIn_of _ (by decide +kernel)) ggX5_spanOf_X5_places
set_option maxRecDepth 20000 in
theorem ggX5_spanOf_X5_hasIn : GoodIn wsX5_spanOf wsX5_hasIn := goodIn_r _ [12, 13, 14, 15, 5, 16, 17, 18, 19, 20, 21, 22, 23, 24, 25, 26, 27, 28, 29, 30, 31, 32, 33, 34] (by decide +kernel) (by decide +kernel)
set_option maxRecDepth 20000 in
theorem gX5_spanOf_X5_hasIn : GoodIn wsX5_spanOf (wsV RX5 82 RX5 yX5_hasIn wsX5_hasIn) := goodIn_app (goodIn_of _ (by decide +kernel)) ggX5_spanOf_X5_hasIn
theorem dX5_spanOf_0 : decode cX5_spanOf 0 = .ok (.bipush 8, 2) := by decide +kernel
theorem dX5_spanOf_2 : decode cX5_spanOf 2 = .ok (.istore 4, 2) := by decide +kernel
theorem dX5_spanOf_4 : decode cX5_spanOf 4 = .ok (.iconst (-1), 1) := by decide +kernel
theorem dX5_spanOf_5 : decode cX5_spanOf 5 = .ok (.istore 5, 2) := by decide +kernel
theorem dX5_spanOf_7 : decode cX5_spanOf 7 = .ok (.iconst 0, 1) := by decide +kernel
theorem dX5_spanOf_8 : decode cX5_spanOf 8 = .ok (.istore 6, 2) := by decide +kernel
theorem dX5_spanOf_10 : decode cX5_spanOf 10 = .ok (.iload 6, 2) := by decide +kernel
theorem dX5_spanOf_12 : decode cX5_spanOf 12 = .ok (.aload_n 0, 1) := by decide +kernel
theorem dX5_spanOf_13 : decode cX5_spanOf 13 = .ok (.iconst 1, 1) := by decide +kernel
theorem dX5_spanOf_14 : decode cX5_spanOf 14 = .ok (.iload_n 1, 1) := by decide +kernel
theorem dX5_spanOf_15 : decode cX5_spanOf 15 = .ok (.isub, 1) := by decide +kernel
theorem dX5_spanOf_16 : decode cX5_spanOf 16 = .ok (.invokevirtual 67, 3) := by decide +kernel
theorem dX5_spanOf_19 : decode cX5_spanOf 19 = .ok (.if_icmp .ge 85, 3) := by decide +kernel
theorem dX5_spanOf_22 : decode cX5_spanOf 22 = .ok (.iconst 0, 1) := by decide +kernel
theorem dX5_spanOf_23 : decode cX5_spanOf 23 = .ok (.istore 7, 2) := by decide +kernel
theorem dX5_spanOf_25 : decode cX5_spanOf 25 = .ok (.iload 7, 2) := by decide +kernel
theorem dX5_spanOf_27 : decode cX5_spanOf 27 = .ok (.aload_n 0, 1) := by decide +kernel
theorem dX5_spanOf_28 : decode cX5_spanOf 28 = .ok (.getfield 16, 3) := by decide +kernel
theorem dX5_spanOf_31 : decode cX5_spanOf 31 = .ok (.if_icmp .ge 67, 3) := by decide +kernel
theorem dX5_spanOf_34 : decode cX5_spanOf 34 = .ok (.aload_n 0, 1) := by decide +kernel
theorem dX5_spanOf_35 : decode cX5_spanOf 35 = .ok (.iload_n 1, 1) := by decide +kernel
theorem dX5_spanOf_36 : decode cX5_spanOf 36 = .ok (.iload_n 2, 1) := by decide +kernel
theorem dX5_spanOf_37 : decode cX5_spanOf 37 = .ok (.iload 6, 2) := by decide +kernel
theorem dX5_spanOf_39 : decode cX5_spanOf 39 = .ok (.iload 7, 2) := by decide +kernel
theorem dX5_spanOf_41 : decode cX5_spanOf 41 = .ok (.invokevirtual 82, 3) := by decide +kernel
theorem dX5_spanOf_44 : decode cX5_spanOf 44 = .ok (.ifCond .eq 48, 3) := by decide +kernel
theorem dX5_spanOf_47 : decode cX5_spanOf 47 = .ok (.iload_n 3, 1) := by decide +kernel
theorem dX5_spanOf_48 : decode cX5_spanOf 48 = .ok (.ifCond .ne 8, 3) := by decide +kernel
theorem dX5_spanOf_51 : decode cX5_spanOf 51 = .ok (.iload 6, 2) := by decide +kernel
theorem dX5_spanOf_53 : decode cX5_spanOf 53 = .ok (.goto 5, 3) := by decide +kernel
theorem dX5_spanOf_56 : decode cX5_spanOf 56 = .ok (.iload 7, 2) := by decide +kernel
theorem dX5_spanOf_58 : decode cX5_spanOf 58 = .ok (.istore 8, 2) := by decide +kernel
theorem dX5_spanOf_60 : decode cX5_spanOf 60 = .ok (.iload 8, 2) := by decide +kernel
theorem dX5_spanOf_62 : decode cX5_spanOf 62 = .ok (.iload 4, 2) := by decide +kernel
theorem dX5_spanOf_64 : decode cX5_spanOf 64 = .ok (.if_icmp .ge 8, 3) := by decide +kernel
theorem dX5_spanOf_67 : decode cX5_spanOf 67 = .ok (.iload 8, 2) := by decide +kernel
theorem dX5_spanOf_69 : decode cX5_spanOf 69 = .ok (.goto 5, 3) := by decide +kernel
theorem dX5_spanOf_72 : decode cX5_spanOf 72 = .ok (.iload 4, 2) := by decide +kernel
theorem dX5_spanOf_74 : decode cX5_spanOf 74 = .ok (.istore 4, 2) := by decide +kernel
theorem dX5_spanOf_76 : decode cX5_spanOf 76 = .ok (.iload 8, 2) := by decide +kernel
theorem dX5_spanOf_78 : decode cX5_spanOf 78 = .ok (.iload 5, 2) := by decide +kernel
theorem dX5_spanOf_80 : decode cX5_spanOf 80 = .ok (.if_icmp .le 8, 3) := by decide +kernel
theorem dX5_spanOf_83 : decode cX5_spanOf 83 = .ok (.iload 8, 2) := by decide +kernel
theorem dX5_spanOf_85 : decode cX5_spanOf 85 = .ok (.goto 5, 3) := by decide +kernel
theorem dX5_spanOf_88 : decode cX5_spanOf 88 = .ok (.iload 5, 2) := by decide +kernel
theorem dX5_spanOf_90 : decode cX5_spanOf 90 = .ok (.istore 5, 2) := by decide +kernel
theorem dX5_spanOf_92 : decode cX5_spanOf 92 = .ok (.iinc 7 1, 3) := by decide +kernel
theorem dX5_spanOf_95 : decode cX5_spanOf 95 = .ok (.goto (-70), 3) := by decide +kernel
theorem dX5_spanOf_98 : decode cX5_spanOf 98 = .ok (.iinc 6 1, 3) := by decide +kernel
theorem dX5_spanOf_101 : decode cX5_spanOf 101 = .ok (.goto (-91), 3) := by decide +kernel
theorem dX5_spanOf_104 : decode cX5_spanOf 104 = .ok (.iload 5, 2) := by decide +kernel
theorem dX5_spanOf_106 : decode cX5_spanOf 106 = .ok (.ifCond .ge 7, 3) := by decide +kernel
theorem dX5_spanOf_109 : decode cX5_spanOf 109 = .ok (.iconst 0, 1) := by decide +kernel
theorem dX5_spanOf_110 : decode cX5_spanOf 110 = .ok (.goto 10, 3) := by decide +kernel
theorem dX5_spanOf_113 : decode cX5_spanOf 113 = .ok (.iload 5, 2) := by decide +kernel
theorem dX5_spanOf_115 : decode cX5_spanOf 115 = .ok (.iload 4, 2) := by decide +kernel
theorem dX5_spanOf_117 : decode cX5_spanOf 117 = .ok (.isub, 1) := by decide +kernel
theorem dX5_spanOf_118 : decode cX5_spanOf 118 = .ok (.iconst 1, 1) := by decide +kernel
theorem dX5_spanOf_119 : decode cX5_spanOf 119 = .ok (.iadd, 1) := by decide +kernel
theorem dX5_spanOf_120 : decode cX5_spanOf 120 = .ok (.ireturn, 1) := by decide +kernel
set_option maxRecDepth 20000 in
theorem ggX5_about_X5_isRib : GoodIn wsX5_about wsX5_isRib := goodIn_r _ [7, 8, 9, 6, 10, 11, 12, 13, 14, 15, 16, 67, 68, 69, 70, 71, 72, 73, 74, 75, 76, 77, 78, 79, 80, 81, 82, 83] (by decide +kernel) (by decide +kernel)
set_option maxRecDepth 20000 in
theorem gX5_about_X5_isRib : GoodIn wsX5_about (wsV RX5 71 RX5 yX5_isRib wsX5_isRib) := goodIn_app (goodIn_of _ (by decide +kernel)) ggX5_about_X5_isRib
set_option maxRecDepth 20000 in
theorem ggX5_about_X5_findParts : GoodIn wsX5_about wsX5_findParts := goodIn_r _ [20, 1, 21, 22, 2, 11, 12, 13, 6, 14, 15, 16, 23, 24, 25, 26, 27, 28, 29, 30, 31, 32, 33, 34, 35, 36, 37, 38, 39, 40, 41, 42, 43, 44, 45, 46, 47, 48, 49, 50, 8, 9, 10, 51, 52, 53, 54, 67, 68, 69, 70, 71, 72, 73, 74, 75, 76, 77, 78, 79, 80, 81, 82, 83] (by decide +kernel) (by decide +kernel)
set_option maxRecDepth 20000 in
theorem gX5_about_X5_findParts : GoodIn wsX5_about (wsV RX5 102 RX5 yX5_findParts wsX5_findParts) := goodIn_app (goodIn_of _ (by decide +kernel)) ggX5_about_X5_findParts
set_option maxRecDepth 20000 in
theorem ggX5_about_X5_looseOf : GoodIn wsX5_about wsX5_looseOf := goodIn_r _ [58, 22, 17, 18, 19, 6, 20, 1, 21, 2, 11, 12, 13, 14, 15, 16, 23, 24, 25, 26, 27, 28, 29, 30, 31, 32, 33, 34, 35, 36, 37, 38, 39, 40, 41, 42, 43, 44, 45, 46, 47, 48, 49, 50, 8, 9, 10, 51, 52, 53, 54, 67, 68, 69, 70, 71, 72, 73, 74, 75, 76, 77, 78, 79, 80, 81, 82, 83] (by decide +kernel) (by decide +kernel)
set_option maxRecDepth 20000 in
theorem gX5_about_X5_looseOf : GoodIn wsX5_about (wsV RX5 106 RX5 yX5_looseOf wsX5_looseOf) := goodIn_app (goodIn_of _ (by decide +kernel)) ggX5_about_X5_looseOf
set_option maxRecDepth 20000 in
theorem ggX5_about_X5_crossings : GoodIn wsX5_about wsX5_crossings := goodIn_r _ [62, 11, 12, 13, 6, 14, 15, 16, 42, 43, 44, 45, 46, 47, 48, 49, 50, 21, 40, 41, 31, 32, 33, 34, 35, 67, 68, 69, 70, 71, 72, 73, 74, 75, 76, 77, 78, 79, 80, 81, 82, 83] (by decide +kernel) (by decide +kernel)
set_option maxRecDepth 20000 in
theorem gX5_about_X5_crossings : GoodIn wsX5_about (wsV RX5 109 RX5 yX5_crossings wsX5_crossings) := goodIn_app (goodIn_of _ (by decide +kernel)) ggX5_about_X5_crossings
set_option maxRecDepth 20000 in
theorem ggX5_about_X5_spanOf : GoodIn wsX5_about wsX5_spanOf := goodIn_r _ [66, 21, 11, 12, 13, 6, 14, 15, 16, 27, 28, 29, 30, 31, 32, 33, 34, 35, 67, 68, 69, 70, 71, 72, 73, 74, 75, 76, 77, 78, 79, 80, 81, 82, 83] (by decide +kernel) (by decide +kernel)
set_option maxRecDepth 20000 in
theorem gX5_about_X5_spanOf : GoodIn wsX5_about (wsV RX5 113 RX5 yX5_spanOf wsX5_spanOf) := goodIn_app (goodIn_of _ (by decide +kernel)) ggX5_about_X5_spanOf
theorem dX5_about_0 : decode cX5_about 0 = .ok (.aload_n 0, 1) := by decide +kernel
theorem dX5_about_1 : decode cX5_about 1 = .ok (.iload_n 1, 1) := by decide +kernel
theorem dX5_about_2 : decode cX5_about 2 = .ok (.iload_n 2, 1) := by decide +kernel
theorem dX5_about_3 : decode cX5_about 3 = .ok (.invokevirtual 71, 3) := by decide +kernel
theorem dX5_about_6 : decode cX5_about 6 = .ok (.ifCond .ne 5, 3) := by decide +kernel
theorem dX5_about_9 : decode cX5_about 9 = .ok (.iconst (-1), 1) := by decide +kernel
theorem dX5_about_10 : decode cX5_about 10 = .ok (.ireturn, 1) := by decide +kernel
theorem dX5_about_11 : decode cX5_about 11 = .ok (.iload_n 3, 1) := by decide +kernel
theorem dX5_about_12 : decode cX5_about 12 = .ok (.tableswitch 139 0 8 #[52, 64, 76, 88, 100, 107, 115, 123, 131], 52) := by decide +kernel
theorem dX5_about_64 : decode cX5_about 64 = .ok (.aload_n 0, 1) := by decide +kernel
theorem dX5_about_65 : decode cX5_about 65 = .ok (.iload_n 1, 1) := by decide +kernel
theorem dX5_about_66 : decode cX5_about 66 = .ok (.iload_n 2, 1) := by decide +kernel
theorem dX5_about_67 : decode cX5_about 67 = .ok (.iconst 0, 1) := by decide +kernel
theorem dX5_about_68 : decode cX5_about 68 = .ok (.invokevirtual 102, 3) := by decide +kernel
theorem dX5_about_71 : decode cX5_about 71 = .ok (.aload_n 0, 1) := by decide +kernel
theorem dX5_about_72 : decode cX5_about 72 = .ok (.getfield 93, 3) := by decide +kernel
theorem dX5_about_75 : decode cX5_about 75 = .ok (.ireturn, 1) := by decide +kernel
theorem dX5_about_76 : decode cX5_about 76 = .ok (.aload_n 0, 1) := by decide +kernel
theorem dX5_about_77 : decode cX5_about 77 = .ok (.iload_n 1, 1) := by decide +kernel
theorem dX5_about_78 : decode cX5_about 78 = .ok (.iload_n 2, 1) := by decide +kernel
theorem dX5_about_79 : decode cX5_about 79 = .ok (.iconst 1, 1) := by decide +kernel
theorem dX5_about_80 : decode cX5_about 80 = .ok (.invokevirtual 102, 3) := by decide +kernel
theorem dX5_about_83 : decode cX5_about 83 = .ok (.aload_n 0, 1) := by decide +kernel
theorem dX5_about_84 : decode cX5_about 84 = .ok (.getfield 93, 3) := by decide +kernel
theorem dX5_about_87 : decode cX5_about 87 = .ok (.ireturn, 1) := by decide +kernel
theorem dX5_about_88 : decode cX5_about 88 = .ok (.aload_n 0, 1) := by decide +kernel
theorem dX5_about_89 : decode cX5_about 89 = .ok (.iload_n 1, 1) := by decide +kernel
theorem dX5_about_90 : decode cX5_about 90 = .ok (.iload_n 2, 1) := by decide +kernel
theorem dX5_about_91 : decode cX5_about 91 = .ok (.iconst 0, 1) := by decide +kernel
theorem dX5_about_92 : decode cX5_about 92 = .ok (.invokevirtual 102, 3) := by decide +kernel
theorem dX5_about_95 : decode cX5_about 95 = .ok (.aload_n 0, 1) := by decide +kernel
theorem dX5_about_96 : decode cX5_about 96 = .ok (.getfield 99, 3) := by decide +kernel
theorem dX5_about_99 : decode cX5_about 99 = .ok (.ireturn, 1) := by decide +kernel
theorem dX5_about_100 : decode cX5_about 100 = .ok (.aload_n 0, 1) := by decide +kernel
theorem dX5_about_101 : decode cX5_about 101 = .ok (.iload_n 1, 1) := by decide +kernel
theorem dX5_about_102 : decode cX5_about 102 = .ok (.iload_n 2, 1) := by decide +kernel
theorem dX5_about_103 : decode cX5_about 103 = .ok (.iconst 1, 1) := by decide +kernel
theorem dX5_about_104 : decode cX5_about 104 = .ok (.invokevirtual 102, 3) := by decide +kernel
theorem dX5_about_107 : decode cX5_about 107 = .ok (.aload_n 0, 1) := by decide +kernel
theorem dX5_about_108 : decode cX5_about 108 = .ok (.getfield 99, 3) := by decide +kernel
theorem dX5_about_111 : decode cX5_about 111 = .ok (.ireturn, 1) := by decide +kernel
theorem dX5_about_112 : decode cX5_about 112 = .ok (.aload_n 0, 1) := by decide +kernel
theorem dX5_about_113 : decode cX5_about 113 = .ok (.iload_n 1, 1) := by decide +kernel
theorem dX5_about_114 : decode cX5_about 114 = .ok (.iload_n 2, 1) := by decide +kernel
theorem dX5_about_115 : decode cX5_about 115 = .ok (.invokevirtual 106, 3) := by decide +kernel
theorem dX5_about_118 : decode cX5_about 118 = .ok (.ireturn, 1) := by decide +kernel
theorem dX5_about_119 : decode cX5_about 119 = .ok (.aload_n 0, 1) := by decide +kernel
theorem dX5_about_120 : decode cX5_about 120 = .ok (.iload_n 1, 1) := by decide +kernel
theorem dX5_about_121 : decode cX5_about 121 = .ok (.iload_n 2, 1) := by decide +kernel
theorem dX5_about_122 : decode cX5_about 122 = .ok (.iconst 0, 1) := by decide +kernel
theorem dX5_about_123 : decode cX5_about 123 = .ok (.invokevirtual 109, 3) := by decide +kernel
theorem dX5_about_126 : decode cX5_about 126 = .ok (.ireturn, 1) := by decide +kernel
theorem dX5_about_127 : decode cX5_about 127 = .ok (.aload_n 0, 1) := by decide +kernel
theorem dX5_about_128 : decode cX5_about 128 = .ok (.iload_n 1, 1) := by decide +kernel
theorem dX5_about_129 : decode cX5_about 129 = .ok (.iload_n 2, 1) := by decide +kernel
theorem dX5_about_130 : decode cX5_about 130 = .ok (.iconst 1, 1) := by decide +kernel
theorem dX5_about_131 : decode cX5_about 131 = .ok (.invokevirtual 109, 3) := by decide +kernel
theorem dX5_about_134 : decode cX5_about 134 = .ok (.ireturn, 1) := by decide +kernel
theorem dX5_about_135 : decode cX5_about 135 = .ok (.aload_n 0, 1) := by decide +kernel
theorem dX5_about_136 : decode cX5_about 136 = .ok (.iload_n 1, 1) := by decide +kernel
theorem dX5_about_137 : decode cX5_about 137 = .ok (.iload_n 2, 1) := by decide +kernel
theorem dX5_about_138 : decode cX5_about 138 = .ok (.iconst 0, 1) := by decide +kernel
theorem dX5_about_139 : decode cX5_about 139 = .ok (.invokevirtual 113, 3) := by decide +kernel
theorem dX5_about_142 : decode cX5_about 142 = .ok (.ireturn, 1) := by decide +kernel
theorem dX5_about_143 : decode cX5_about 143 = .ok (.aload_n 0, 1) := by decide +kernel
theorem dX5_about_144 : decode cX5_about 144 = .ok (.iload_n 1, 1) := by decide +kernel
theorem dX5_about_145 : decode cX5_about 145 = .ok (.iload_n 2, 1) := by decide +kernel
theorem dX5_about_146 : decode cX5_about 146 = .ok (.iconst 1, 1) := by decide +kernel
theorem dX5_about_147 : decode cX5_about 147 = .ok (.invokevirtual 113, 3) := by decide +kernel
theorem dX5_about_150 : decode cX5_about 150 = .ok (.ireturn, 1) := by decide +kernel
theorem dX5_about_151 : decode cX5_about 151 = .ok (.bipush (-2), 2) := by decide +kernel
theorem dX5_about_153 : decode cX5_about 153 = .ok (.ireturn, 1) := by decide +kernel
set_option maxRecDepth 20000 in
theorem ggX5_caught_X5_isChosen : GoodIn wsX5_caught wsX5_isChosen := goodIn_r _ [7, 8, 21, 22, 23, 24, 25, 26, 27, 28, 29, 30, 31, 32, 33, 34, 35, 36, 37] (by decide +kernel) (by decide +kernel)
set_option maxRecDepth 20000 in
theorem gX5_caught_X5_isChosen : GoodIn wsX5_caught (wsV RX5 75 RX5 yX5_isChosen wsX5_isChosen) := goodIn_app (goodIn_of _ (by decide +kernel)) ggX5_caught_X5_isChosen
set_option maxRecDepth 20000 in
theorem ggX5_caught_X5_findRuns : GoodIn wsX5_caught wsX5_findRuns := goodIn_r _ [12, 13, 14, 15, 16, 17, 18, 6, 19, 20, 21, 22, 23, 24, 25, 26, 27, 28, 29, 30, 31, 32, 33, 34, 35, 36, 37] (by decide +kernel) (by decide +kernel)
set_option maxRecDepth 20000 in
theorem gX5_caught_X5_findRuns : GoodIn wsX5_caught (wsV RX5 78 RX5 yX5_findRuns wsX5_findRuns) := goodIn_app (goodIn_of _ (by decide +kernel)) ggX5_caught_X5_findRuns
theorem dX5_caught_0 : decode cX5_caught 0 = .ok (.iconst 0, 1) := by decide +kernel
theorem dX5_caught_1 : decode cX5_caught 1 = .ok (.istore_n 2, 1) := by decide +kernel
theorem dX5_caught_2 : decode cX5_caught 2 = .ok (.iconst 0, 1) := by decide +kernel
theorem dX5_caught_3 : decode cX5_caught 3 = .ok (.istore_n 3, 1) := by decide +kernel
theorem dX5_caught_4 : decode cX5_caught 4 = .ok (.iload_n 3, 1) := by decide +kernel
theorem dX5_caught_5 : decode cX5_caught 5 = .ok (.aload_n 0, 1) := by decide +kernel
theorem dX5_caught_6 : decode cX5_caught 6 = .ok (.getfield 7, 3) := by decide +kernel
theorem dX5_caught_9 : decode cX5_caught 9 = .ok (.if_icmp .ge 73, 3) := by decide +kernel
theorem dX5_caught_12 : decode cX5_caught 12 = .ok (.iconst 0, 1) := by decide +kernel
theorem dX5_caught_13 : decode cX5_caught 13 = .ok (.istore 4, 2) := by decide +kernel
theorem dX5_caught_15 : decode cX5_caught 15 = .ok (.iload 4, 2) := by decide +kernel
theorem dX5_caught_17 : decode cX5_caught 17 = .ok (.aload_n 0, 1) := by decide +kernel
theorem dX5_caught_18 : decode cX5_caught 18 = .ok (.getfield 13, 3) := by decide +kernel
theorem dX5_caught_21 : decode cX5_caught 21 = .ok (.if_icmp .ge 55, 3) := by decide +kernel
theorem dX5_caught_24 : decode cX5_caught 24 = .ok (.aload_n 0, 1) := by decide +kernel
theorem dX5_caught_25 : decode cX5_caught 25 = .ok (.iconst 0, 1) := by decide +kernel
theorem dX5_caught_26 : decode cX5_caught 26 = .ok (.iload_n 3, 1) := by decide +kernel
theorem dX5_caught_27 : decode cX5_caught 27 = .ok (.invokevirtual 75, 3) := by decide +kernel
theorem dX5_caught_30 : decode cX5_caught 30 = .ok (.ifCond .eq 40, 3) := by decide +kernel
theorem dX5_caught_33 : decode cX5_caught 33 = .ok (.aload_n 0, 1) := by decide +kernel
theorem dX5_caught_34 : decode cX5_caught 34 = .ok (.iconst 1, 1) := by decide +kernel
theorem dX5_caught_35 : decode cX5_caught 35 = .ok (.iload 4, 2) := by decide +kernel
theorem dX5_caught_37 : decode cX5_caught 37 = .ok (.invokevirtual 75, 3) := by decide +kernel
theorem dX5_caught_40 : decode cX5_caught 40 = .ok (.ifCond .eq 30, 3) := by decide +kernel
theorem dX5_caught_43 : decode cX5_caught 43 = .ok (.aload_n 0, 1) := by decide +kernel
theorem dX5_caught_44 : decode cX5_caught 44 = .ok (.iload_n 3, 1) := by decide +kernel
theorem dX5_caught_45 : decode cX5_caught 45 = .ok (.iload 4, 2) := by decide +kernel
theorem dX5_caught_47 : decode cX5_caught 47 = .ok (.invokevirtual 78, 3) := by decide +kernel
theorem dX5_caught_50 : decode cX5_caught 50 = .ok (.iconst 1, 1) := by decide +kernel
theorem dX5_caught_51 : decode cX5_caught 51 = .ok (.if_icmp .le 19, 3) := by decide +kernel
theorem dX5_caught_54 : decode cX5_caught 54 = .ok (.iload_n 2, 1) := by decide +kernel
theorem dX5_caught_55 : decode cX5_caught 55 = .ok (.iload_n 1, 1) := by decide +kernel
theorem dX5_caught_56 : decode cX5_caught 56 = .ok (.if_icmp .ne 11, 3) := by decide +kernel
theorem dX5_caught_59 : decode cX5_caught 59 = .ok (.bipush 10, 2) := by decide +kernel
theorem dX5_caught_61 : decode cX5_caught 61 = .ok (.iload_n 3, 1) := by decide +kernel
theorem dX5_caught_62 : decode cX5_caught 62 = .ok (.imul, 1) := by decide +kernel
theorem dX5_caught_63 : decode cX5_caught 63 = .ok (.iload 4, 2) := by decide +kernel
theorem dX5_caught_65 : decode cX5_caught 65 = .ok (.iadd, 1) := by decide +kernel
theorem dX5_caught_66 : decode cX5_caught 66 = .ok (.ireturn, 1) := by decide +kernel
theorem dX5_caught_67 : decode cX5_caught 67 = .ok (.iinc 2 1, 3) := by decide +kernel
theorem dX5_caught_70 : decode cX5_caught 70 = .ok (.iinc 4 1, 3) := by decide +kernel
theorem dX5_caught_73 : decode cX5_caught 73 = .ok (.goto (-58), 3) := by decide +kernel
theorem dX5_caught_76 : decode cX5_caught 76 = .ok (.iinc 3 1, 3) := by decide +kernel
theorem dX5_caught_79 : decode cX5_caught 79 = .ok (.goto (-75), 3) := by decide +kernel
theorem dX5_caught_82 : decode cX5_caught 82 = .ok (.iload_n 1, 1) := by decide +kernel
theorem dX5_caught_83 : decode cX5_caught 83 = .ok (.iconst (-1), 1) := by decide +kernel
theorem dX5_caught_84 : decode cX5_caught 84 = .ok (.if_icmp .ne 7, 3) := by decide +kernel
theorem dX5_caught_87 : decode cX5_caught 87 = .ok (.iload_n 2, 1) := by decide +kernel
theorem dX5_caught_88 : decode cX5_caught 88 = .ok (.goto 5, 3) := by decide +kernel
theorem dX5_caught_91 : decode cX5_caught 91 = .ok (.bipush (-6), 2) := by decide +kernel
theorem dX5_caught_93 : decode cX5_caught 93 = .ok (.ireturn, 1) := by decide +kernel
set_option maxRecDepth 20000 in
theorem ggX5_run_X5_in : GoodIn wsX5_run wsX5_in := goodIn_r _ [8] (by decide +kernel) (by decide +kernel)
set_option maxRecDepth 20000 in
theorem gX5_run_X5_in : GoodIn wsX5_run (va_wsS RX5 48 yX5_in wsX5_in) := goodIn_app (goodIn_of _ (by decide +kernel)) ggX5_run_X5_in
set_option maxRecDepth 20000 in
theorem ggX5_run_X5_findRuns : GoodIn wsX5_run wsX5_findRuns := goodIn_r _ [12, 13, 3, 4, 14, 15, 16, 7, 17, 18, 19, 20, 21, 22, 23, 24, 25, 26, 27, 28, 29, 30, 31, 32, 33, 34, 35] (by decide +kernel) (by decide +kernel)
set_option maxRecDepth 20000 in
theorem gX5_run_X5_findRuns : GoodIn wsX5_run (wsV RX5 78 RX5 yX5_findRuns wsX5_findRuns) := goodIn_app (goodIn_of _ (by decide +kernel)) ggX5_run_X5_findRuns
theorem dX5_run_0 : decode cX5_run 0 = .ok (.iload_n 1, 1) := by decide +kernel
theorem dX5_run_1 : decode cX5_run 1 = .ok (.i2l, 1) := by decide +kernel
theorem dX5_run_2 : decode cX5_run 2 = .ok (.lconst 0, 1) := by decide +kernel
theorem dX5_run_3 : decode cX5_run 3 = .ok (.aload_n 0, 1) := by decide +kernel
theorem dX5_run_4 : decode cX5_run 4 = .ok (.getfield 7, 3) := by decide +kernel
theorem dX5_run_7 : decode cX5_run 7 = .ok (.iconst 1, 1) := by decide +kernel
theorem dX5_run_8 : decode cX5_run 8 = .ok (.isub, 1) := by decide +kernel
theorem dX5_run_9 : decode cX5_run 9 = .ok (.i2l, 1) := by decide +kernel
theorem dX5_run_10 : decode cX5_run 10 = .ok (.invokestatic 48, 3) := by decide +kernel
theorem dX5_run_13 : decode cX5_run 13 = .ok (.ifCond .eq 19, 3) := by decide +kernel
theorem dX5_run_16 : decode cX5_run 16 = .ok (.iload_n 2, 1) := by decide +kernel
theorem dX5_run_17 : decode cX5_run 17 = .ok (.i2l, 1) := by decide +kernel
theorem dX5_run_18 : decode cX5_run 18 = .ok (.lconst 0, 1) := by decide +kernel
theorem dX5_run_19 : decode cX5_run 19 = .ok (.aload_n 0, 1) := by decide +kernel
theorem dX5_run_20 : decode cX5_run 20 = .ok (.getfield 13, 3) := by decide +kernel
theorem dX5_run_23 : decode cX5_run 23 = .ok (.iconst 1, 1) := by decide +kernel
theorem dX5_run_24 : decode cX5_run 24 = .ok (.isub, 1) := by decide +kernel
theorem dX5_run_25 : decode cX5_run 25 = .ok (.i2l, 1) := by decide +kernel
theorem dX5_run_26 : decode cX5_run 26 = .ok (.invokestatic 48, 3) := by decide +kernel
theorem dX5_run_29 : decode cX5_run 29 = .ok (.ifCond .ne 5, 3) := by decide +kernel
theorem dX5_run_32 : decode cX5_run 32 = .ok (.iconst (-1), 1) := by decide +kernel
theorem dX5_run_33 : decode cX5_run 33 = .ok (.ireturn, 1) := by decide +kernel
theorem dX5_run_34 : decode cX5_run 34 = .ok (.aload_n 0, 1) := by decide +kernel
theorem dX5_run_35 : decode cX5_run 35 = .ok (.iload_n 1, 1) := by decide +kernel
theorem dX5_run_36 : decode cX5_run 36 = .ok (.iload_n 2, 1) := by decide +kernel
theorem dX5_run_37 : decode cX5_run 37 = .ok (.invokevirtual 78, 3) := by decide +kernel
theorem dX5_run_40 : decode cX5_run 40 = .ok (.istore 4, 2) := by decide +kernel
theorem dX5_run_42 : decode cX5_run 42 = .ok (.iload_n 3, 1) := by decide +kernel
theorem dX5_run_43 : decode cX5_run 43 = .ok (.iconst (-1), 1) := by decide +kernel
theorem dX5_run_44 : decode cX5_run 44 = .ok (.if_icmp .ne 6, 3) := by decide +kernel
theorem dX5_run_47 : decode cX5_run 47 = .ok (.iload 4, 2) := by decide +kernel
theorem dX5_run_49 : decode cX5_run 49 = .ok (.ireturn, 1) := by decide +kernel
theorem dX5_run_50 : decode cX5_run 50 = .ok (.iload_n 3, 1) := by decide +kernel
theorem dX5_run_51 : decode cX5_run 51 = .ok (.i2l, 1) := by decide +kernel
theorem dX5_run_52 : decode cX5_run 52 = .ok (.lconst 0, 1) := by decide +kernel
theorem dX5_run_53 : decode cX5_run 53 = .ok (.iload 4, 2) := by decide +kernel
theorem dX5_run_55 : decode cX5_run 55 = .ok (.iconst 1, 1) := by decide +kernel
theorem dX5_run_56 : decode cX5_run 56 = .ok (.isub, 1) := by decide +kernel
theorem dX5_run_57 : decode cX5_run 57 = .ok (.i2l, 1) := by decide +kernel
theorem dX5_run_58 : decode cX5_run 58 = .ok (.invokestatic 48, 3) := by decide +kernel
theorem dX5_run_61 : decode cX5_run 61 = .ok (.ifCond .eq 22, 3) := by decide +kernel
theorem dX5_run_64 : decode cX5_run 64 = .ok (.bipush 10, 2) := by decide +kernel
theorem dX5_run_66 : decode cX5_run 66 = .ok (.aload_n 0, 1) := by decide +kernel
theorem dX5_run_67 : decode cX5_run 67 = .ok (.getfield 27, 3) := by decide +kernel
theorem dX5_run_70 : decode cX5_run 70 = .ok (.iload_n 3, 1) := by decide +kernel
theorem dX5_run_71 : decode cX5_run 71 = .ok (.iaload, 1) := by decide +kernel
theorem dX5_run_72 : decode cX5_run 72 = .ok (.imul, 1) := by decide +kernel
theorem dX5_run_73 : decode cX5_run 73 = .ok (.aload_n 0, 1) := by decide +kernel
theorem dX5_run_74 : decode cX5_run 74 = .ok (.getfield 30, 3) := by decide +kernel
theorem dX5_run_77 : decode cX5_run 77 = .ok (.iload_n 3, 1) := by decide +kernel
theorem dX5_run_78 : decode cX5_run 78 = .ok (.iaload, 1) := by decide +kernel
theorem dX5_run_79 : decode cX5_run 79 = .ok (.iadd, 1) := by decide +kernel
theorem dX5_run_80 : decode cX5_run 80 = .ok (.goto 5, 3) := by decide +kernel
theorem dX5_run_83 : decode cX5_run 83 = .ok (.bipush (-6), 2) := by decide +kernel
theorem dX5_run_85 : decode cX5_run 85 = .ok (.ireturn, 1) := by decide +kernel
set_option maxRecDepth 20000 in
theorem ggX5_highOf_X5_has : GoodIn wsX5_highOf wsX5_has := goodIn_r _ [6, 7, 8, 9, 10, 11, 12, 13, 14, 15, 16, 17, 18, 19, 20, 21, 22, 23, 24] (by decide +kernel) (by decide +kernel)
set_option maxRecDepth 20000 in
theorem gX5_highOf_X5_has : GoodIn wsX5_highOf (wsV RX5 64 RX5 yX5_has wsX5_has) := goodIn_app (goodIn_of _ (by decide +kernel)) ggX5_highOf_X5_has
theorem dX5_highOf_0 : decode cX5_highOf 0 = .ok (.iconst 0, 1) := by decide +kernel
theorem dX5_highOf_1 : decode cX5_highOf 1 = .ok (.istore_n 3, 1) := by decide +kernel
theorem dX5_highOf_2 : decode cX5_highOf 2 = .ok (.iconst 0, 1) := by decide +kernel
theorem dX5_highOf_3 : decode cX5_highOf 3 = .ok (.istore 4, 2) := by decide +kernel
theorem dX5_highOf_5 : decode cX5_highOf 5 = .ok (.iload 4, 2) := by decide +kernel
theorem dX5_highOf_7 : decode cX5_highOf 7 = .ok (.aload_n 0, 1) := by decide +kernel
theorem dX5_highOf_8 : decode cX5_highOf 8 = .ok (.getfield 16, 3) := by decide +kernel
theorem dX5_highOf_11 : decode cX5_highOf 11 = .ok (.if_icmp .ge 28, 3) := by decide +kernel
theorem dX5_highOf_14 : decode cX5_highOf 14 = .ok (.iload_n 3, 1) := by decide +kernel
theorem dX5_highOf_15 : decode cX5_highOf 15 = .ok (.aload_n 0, 1) := by decide +kernel
theorem dX5_highOf_16 : decode cX5_highOf 16 = .ok (.iload_n 1, 1) := by decide +kernel
theorem dX5_highOf_17 : decode cX5_highOf 17 = .ok (.iload_n 2, 1) := by decide +kernel
theorem dX5_highOf_18 : decode cX5_highOf 18 = .ok (.iload 4, 2) := by decide +kernel
theorem dX5_highOf_20 : decode cX5_highOf 20 = .ok (.invokevirtual 64, 3) := by decide +kernel
theorem dX5_highOf_23 : decode cX5_highOf 23 = .ok (.ifCond .eq 7, 3) := by decide +kernel
theorem dX5_highOf_26 : decode cX5_highOf 26 = .ok (.iconst 1, 1) := by decide +kernel
theorem dX5_highOf_27 : decode cX5_highOf 27 = .ok (.goto 4, 3) := by decide +kernel
theorem dX5_highOf_30 : decode cX5_highOf 30 = .ok (.iconst 0, 1) := by decide +kernel
theorem dX5_highOf_31 : decode cX5_highOf 31 = .ok (.iadd, 1) := by decide +kernel
theorem dX5_highOf_32 : decode cX5_highOf 32 = .ok (.istore_n 3, 1) := by decide +kernel
theorem dX5_highOf_33 : decode cX5_highOf 33 = .ok (.iinc 4 1, 3) := by decide +kernel
theorem dX5_highOf_36 : decode cX5_highOf 36 = .ok (.goto (-31), 3) := by decide +kernel
theorem dX5_highOf_39 : decode cX5_highOf 39 = .ok (.iload_n 3, 1) := by decide +kernel
theorem dX5_highOf_40 : decode cX5_highOf 40 = .ok (.ireturn, 1) := by decide +kernel
theorem dX5_coverOf_0 : decode cX5_coverOf 0 = .ok (.iconst 0, 1) := by decide +kernel
theorem dX5_coverOf_1 : decode cX5_coverOf 1 = .ok (.istore_n 3, 1) := by decide +kernel
theorem dX5_coverOf_2 : decode cX5_coverOf 2 = .ok (.iconst 0, 1) := by decide +kernel
theorem dX5_coverOf_3 : decode cX5_coverOf 3 = .ok (.istore 4, 2) := by decide +kernel
theorem dX5_coverOf_5 : decode cX5_coverOf 5 = .ok (.iload 4, 2) := by decide +kernel
theorem dX5_coverOf_7 : decode cX5_coverOf 7 = .ok (.aload_n 0, 1) := by decide +kernel
theorem dX5_coverOf_8 : decode cX5_coverOf 8 = .ok (.getfield 7, 3) := by decide +kernel
theorem dX5_coverOf_11 : decode cX5_coverOf 11 = .ok (.if_icmp .ge 67, 3) := by decide +kernel
theorem dX5_coverOf_14 : decode cX5_coverOf 14 = .ok (.iconst 0, 1) := by decide +kernel
theorem dX5_coverOf_15 : decode cX5_coverOf 15 = .ok (.istore 5, 2) := by decide +kernel
theorem dX5_coverOf_17 : decode cX5_coverOf 17 = .ok (.iload 5, 2) := by decide +kernel
theorem dX5_coverOf_19 : decode cX5_coverOf 19 = .ok (.aload_n 0, 1) := by decide +kernel
theorem dX5_coverOf_20 : decode cX5_coverOf 20 = .ok (.getfield 13, 3) := by decide +kernel
theorem dX5_coverOf_23 : decode cX5_coverOf 23 = .ok (.if_icmp .ge 49, 3) := by decide +kernel
theorem dX5_coverOf_26 : decode cX5_coverOf 26 = .ok (.iload_n 3, 1) := by decide +kernel
theorem dX5_coverOf_27 : decode cX5_coverOf 27 = .ok (.iload_n 1, 1) := by decide +kernel
theorem dX5_coverOf_28 : decode cX5_coverOf 28 = .ok (.iload 4, 2) := by decide +kernel
theorem dX5_coverOf_30 : decode cX5_coverOf 30 = .ok (.ishr, 1) := by decide +kernel
theorem dX5_coverOf_31 : decode cX5_coverOf 31 = .ok (.iconst 1, 1) := by decide +kernel
theorem dX5_coverOf_32 : decode cX5_coverOf 32 = .ok (.iand, 1) := by decide +kernel
theorem dX5_coverOf_33 : decode cX5_coverOf 33 = .ok (.iconst 1, 1) := by decide +kernel
theorem dX5_coverOf_34 : decode cX5_coverOf 34 = .ok (.if_icmp .eq 13, 3) := by decide +kernel
theorem dX5_coverOf_37 : decode cX5_coverOf 37 = .ok (.iload_n 2, 1) := by decide +kernel
theorem dX5_coverOf_38 : decode cX5_coverOf 38 = .ok (.iload 5, 2) := by decide +kernel
theorem dX5_coverOf_40 : decode cX5_coverOf 40 = .ok (.ishr, 1) := by decide +kernel
theorem dX5_coverOf_41 : decode cX5_coverOf 41 = .ok (.iconst 1, 1) := by decide +kernel
theorem dX5_coverOf_42 : decode cX5_coverOf 42 = .ok (.iand, 1) := by decide +kernel
theorem dX5_coverOf_43 : decode cX5_coverOf 43 = .ok (.iconst 1, 1) := by decide +kernel
theorem dX5_coverOf_44 : decode cX5_coverOf 44 = .ok (.if_icmp .ne 19, 3) := by decide +kernel
theorem dX5_coverOf_47 : decode cX5_coverOf 47 = .ok (.aload_n 0, 1) := by decide +kernel
theorem dX5_coverOf_48 : decode cX5_coverOf 48 = .ok (.getfield 36, 3) := by decide +kernel
theorem dX5_coverOf_51 : decode cX5_coverOf 51 = .ok (.bipush 8, 2) := by decide +kernel
theorem dX5_coverOf_53 : decode cX5_coverOf 53 = .ok (.iload 4, 2) := by decide +kernel
theorem dX5_coverOf_55 : decode cX5_coverOf 55 = .ok (.imul, 1) := by decide +kernel
end
section
theorem dX5_coverOf_56 : decode cX5_coverOf 56 = .ok (.iload 5, 2) := by decide +kernel
theorem dX5_coverOf_58 : decode cX5_coverOf 58 = .ok (.iadd, 1) := by decide +kernel
theorem dX5_coverOf_59 : decode cX5_coverOf 59 = .ok (.iaload, 1) := by decide +kernel
theorem dX5_coverOf_60 : decode cX5_coverOf 60 = .ok (.goto 4, 3) := by decide +kernel
theorem dX5_coverOf_63 : decode cX5_coverOf 63 = .ok (.iconst 0, 1) := by decide +kernel
theorem dX5_coverOf_64 : decode cX5_coverOf 64 = .ok (.iadd, 1) := by decide +kernel
theorem dX5_coverOf_65 : decode cX5_coverOf 65 = .ok (.istore_n 3, 1) := by decide +kernel
theorem dX5_coverOf_66 : decode cX5_coverOf 66 = .ok (.iinc 5 1, 3) := by decide +kernel
theorem dX5_coverOf_69 : decode cX5_coverOf 69 = .ok (.goto (-52), 3) := by decide +kernel
theorem dX5_coverOf_72 : decode cX5_coverOf 72 = .ok (.iinc 4 1, 3) := by decide +kernel
theorem dX5_coverOf_75 : decode cX5_coverOf 75 = .ok (.goto (-70), 3) := by decide +kernel
theorem dX5_coverOf_78 : decode cX5_coverOf 78 = .ok (.iload_n 3, 1) := by decide +kernel
theorem dX5_coverOf_79 : decode cX5_coverOf 79 = .ok (.ireturn, 1) := by decide +kernel
theorem dX5_caughtOf_0 : decode cX5_caughtOf 0 = .ok (.iconst 0, 1) := by decide +kernel
theorem dX5_caughtOf_1 : decode cX5_caughtOf 1 = .ok (.istore_n 3, 1) := by decide +kernel
theorem dX5_caughtOf_2 : decode cX5_caughtOf 2 = .ok (.iconst 0, 1) := by decide +kernel
theorem dX5_caughtOf_3 : decode cX5_caughtOf 3 = .ok (.istore 4, 2) := by decide +kernel
theorem dX5_caughtOf_5 : decode cX5_caughtOf 5 = .ok (.iload 4, 2) := by decide +kernel
theorem dX5_caughtOf_7 : decode cX5_caughtOf 7 = .ok (.aload_n 0, 1) := by decide +kernel
theorem dX5_caughtOf_8 : decode cX5_caughtOf 8 = .ok (.getfield 7, 3) := by decide +kernel
theorem dX5_caughtOf_11 : decode cX5_caughtOf 11 = .ok (.if_icmp .ge 72, 3) := by decide +kernel
theorem dX5_caughtOf_14 : decode cX5_caughtOf 14 = .ok (.iconst 0, 1) := by decide +kernel
theorem dX5_caughtOf_15 : decode cX5_caughtOf 15 = .ok (.istore 5, 2) := by decide +kernel
theorem dX5_caughtOf_17 : decode cX5_caughtOf 17 = .ok (.iload 5, 2) := by decide +kernel
theorem dX5_caughtOf_19 : decode cX5_caughtOf 19 = .ok (.aload_n 0, 1) := by decide +kernel
theorem dX5_caughtOf_20 : decode cX5_caughtOf 20 = .ok (.getfield 13, 3) := by decide +kernel
theorem dX5_caughtOf_23 : decode cX5_caughtOf 23 = .ok (.if_icmp .ge 54, 3) := by decide +kernel
theorem dX5_caughtOf_26 : decode cX5_caughtOf 26 = .ok (.iload_n 3, 1) := by decide +kernel
theorem dX5_caughtOf_27 : decode cX5_caughtOf 27 = .ok (.iload_n 1, 1) := by decide +kernel
theorem dX5_caughtOf_28 : decode cX5_caughtOf 28 = .ok (.iload 4, 2) := by decide +kernel
theorem dX5_caughtOf_30 : decode cX5_caughtOf 30 = .ok (.ishr, 1) := by decide +kernel
theorem dX5_caughtOf_31 : decode cX5_caughtOf 31 = .ok (.iconst 1, 1) := by decide +kernel
theorem dX5_caughtOf_32 : decode cX5_caughtOf 32 = .ok (.iand, 1) := by decide +kernel
theorem dX5_caughtOf_33 : decode cX5_caughtOf 33 = .ok (.iconst 1, 1) := by decide +kernel
theorem dX5_caughtOf_34 : decode cX5_caughtOf 34 = .ok (.if_icmp .ne 34, 3) := by decide +kernel
theorem dX5_caughtOf_37 : decode cX5_caughtOf 37 = .ok (.iload_n 2, 1) := by decide +kernel
theorem dX5_caughtOf_38 : decode cX5_caughtOf 38 = .ok (.iload 5, 2) := by decide +kernel
theorem dX5_caughtOf_40 : decode cX5_caughtOf 40 = .ok (.ishr, 1) := by decide +kernel
theorem dX5_caughtOf_41 : decode cX5_caughtOf 41 = .ok (.iconst 1, 1) := by decide +kernel
theorem dX5_caughtOf_42 : decode cX5_caughtOf 42 = .ok (.iand, 1) := by decide +kernel
theorem dX5_caughtOf_43 : decode cX5_caughtOf 43 = .ok (.iconst 1, 1) := by decide +kernel
theorem dX5_caughtOf_44 : decode cX5_caughtOf 44 = .ok (.if_icmp .ne 24, 3) := by decide +kernel
theorem dX5_caughtOf_47 : decode cX5_caughtOf 47 = .ok (.aload_n 0, 1) := by decide +kernel
theorem dX5_caughtOf_48 : decode cX5_caughtOf 48 = .ok (.getfield 39, 3) := by decide +kernel
theorem dX5_caughtOf_51 : decode cX5_caughtOf 51 = .ok (.bipush 8, 2) := by decide +kernel
theorem dX5_caughtOf_53 : decode cX5_caughtOf 53 = .ok (.iload 4, 2) := by decide +kernel
theorem dX5_caughtOf_55 : decode cX5_caughtOf 55 = .ok (.imul, 1) := by decide +kernel
theorem dX5_caughtOf_56 : decode cX5_caughtOf 56 = .ok (.iload 5, 2) := by decide +kernel
theorem dX5_caughtOf_58 : decode cX5_caughtOf 58 = .ok (.iadd, 1) := by decide +kernel
theorem dX5_caughtOf_59 : decode cX5_caughtOf 59 = .ok (.iaload, 1) := by decide +kernel
theorem dX5_caughtOf_60 : decode cX5_caughtOf 60 = .ok (.iconst 1, 1) := by decide +kernel
theorem dX5_caughtOf_61 : decode cX5_caughtOf 61 = .ok (.if_icmp .le 7, 3) := by decide +kernel
theorem dX5_caughtOf_64 : decode cX5_caughtOf 64 = .ok (.iconst 1, 1) := by decide +kernel
theorem dX5_caughtOf_65 : decode cX5_caughtOf 65 = .ok (.goto 4, 3) := by decide +kernel
theorem dX5_caughtOf_68 : decode cX5_caughtOf 68 = .ok (.iconst 0, 1) := by decide +kernel
theorem dX5_caughtOf_69 : decode cX5_caughtOf 69 = .ok (.iadd, 1) := by decide +kernel
theorem dX5_caughtOf_70 : decode cX5_caughtOf 70 = .ok (.istore_n 3, 1) := by decide +kernel
theorem dX5_caughtOf_71 : decode cX5_caughtOf 71 = .ok (.iinc 5 1, 3) := by decide +kernel
theorem dX5_caughtOf_74 : decode cX5_caughtOf 74 = .ok (.goto (-57), 3) := by decide +kernel
theorem dX5_caughtOf_77 : decode cX5_caughtOf 77 = .ok (.iinc 4 1, 3) := by decide +kernel
theorem dX5_caughtOf_80 : decode cX5_caughtOf 80 = .ok (.goto (-75), 3) := by decide +kernel
theorem dX5_caughtOf_83 : decode cX5_caughtOf 83 = .ok (.iload_n 3, 1) := by decide +kernel
theorem dX5_caughtOf_84 : decode cX5_caughtOf 84 = .ok (.ireturn, 1) := by decide +kernel
set_option maxRecDepth 20000 in
theorem ggX5_lookAtColumns_X5_highOf : GoodIn wsX5_lookAtColumns wsX5_highOf := goodIn_r _ [9, 10, 11, 12, 13, 8, 14, 15, 22, 23, 24, 25, 26, 27, 28, 29, 30, 31, 32, 33, 34, 35, 36, 37, 38] (by decide +kernel) (by decide +kernel)
set_option maxRecDepth 20000 in
theorem gX5_lookAtColumns_X5_highOf : GoodIn wsX5_lookAtColumns (wsV RX5 117 RX5 yX5_highOf wsX5_highOf) := goodIn_app (goodIn_of _ (by decide +kernel)) ggX5_lookAtColumns_X5_highOf
set_option maxRecDepth 20000 in
theorem ggX5_lookAtColumns_X5_findRuns : GoodIn wsX5_lookAtColumns wsX5_findRuns := goodIn_r _ [19, 10, 20, 21, 11, 12, 13, 8, 14, 15, 22, 23, 24, 25, 26, 27, 28, 29, 30, 31, 32, 33, 34, 35, 36, 37, 38] (by decide +kernel) (by decide +kernel)
set_option maxRecDepth 20000 in
theorem gX5_lookAtColumns_X5_findRuns : GoodIn wsX5_lookAtColumns (wsV RX5 78 RX5 yX5_findRuns wsX5_findRuns) := goodIn_app (goodIn_of _ (by decide +kernel)) ggX5_lookAtColumns_X5_findRuns
theorem dX5_lookAtColumns_0 : decode cX5_lookAtColumns 0 = .ok (.iconst 0, 1) := by decide +kernel
theorem dX5_lookAtColumns_1 : decode cX5_lookAtColumns 1 = .ok (.istore_n 1, 1) := by decide +kernel
theorem dX5_lookAtColumns_2 : decode cX5_lookAtColumns 2 = .ok (.iload_n 1, 1) := by decide +kernel
theorem dX5_lookAtColumns_3 : decode cX5_lookAtColumns 3 = .ok (.aload_n 0, 1) := by decide +kernel
theorem dX5_lookAtColumns_4 : decode cX5_lookAtColumns 4 = .ok (.getfield 7, 3) := by decide +kernel
theorem dX5_lookAtColumns_7 : decode cX5_lookAtColumns 7 = .ok (.if_icmp .ge 59, 3) := by decide +kernel
theorem dX5_lookAtColumns_10 : decode cX5_lookAtColumns 10 = .ok (.iconst 0, 1) := by decide +kernel
theorem dX5_lookAtColumns_11 : decode cX5_lookAtColumns 11 = .ok (.istore_n 2, 1) := by decide +kernel
theorem dX5_lookAtColumns_12 : decode cX5_lookAtColumns 12 = .ok (.iload_n 2, 1) := by decide +kernel
theorem dX5_lookAtColumns_13 : decode cX5_lookAtColumns 13 = .ok (.aload_n 0, 1) := by decide +kernel
theorem dX5_lookAtColumns_14 : decode cX5_lookAtColumns 14 = .ok (.getfield 13, 3) := by decide +kernel
theorem dX5_lookAtColumns_17 : decode cX5_lookAtColumns 17 = .ok (.if_icmp .ge 43, 3) := by decide +kernel
theorem dX5_lookAtColumns_20 : decode cX5_lookAtColumns 20 = .ok (.aload_n 0, 1) := by decide +kernel
theorem dX5_lookAtColumns_21 : decode cX5_lookAtColumns 21 = .ok (.getfield 36, 3) := by decide +kernel
theorem dX5_lookAtColumns_24 : decode cX5_lookAtColumns 24 = .ok (.bipush 8, 2) := by decide +kernel
theorem dX5_lookAtColumns_26 : decode cX5_lookAtColumns 26 = .ok (.iload_n 1, 1) := by decide +kernel
theorem dX5_lookAtColumns_27 : decode cX5_lookAtColumns 27 = .ok (.imul, 1) := by decide +kernel
theorem dX5_lookAtColumns_28 : decode cX5_lookAtColumns 28 = .ok (.iload_n 2, 1) := by decide +kernel
theorem dX5_lookAtColumns_29 : decode cX5_lookAtColumns 29 = .ok (.iadd, 1) := by decide +kernel
theorem dX5_lookAtColumns_30 : decode cX5_lookAtColumns 30 = .ok (.aload_n 0, 1) := by decide +kernel
theorem dX5_lookAtColumns_31 : decode cX5_lookAtColumns 31 = .ok (.iload_n 1, 1) := by decide +kernel
theorem dX5_lookAtColumns_32 : decode cX5_lookAtColumns 32 = .ok (.iload_n 2, 1) := by decide +kernel
theorem dX5_lookAtColumns_33 : decode cX5_lookAtColumns 33 = .ok (.invokevirtual 117, 3) := by decide +kernel
theorem dX5_lookAtColumns_36 : decode cX5_lookAtColumns 36 = .ok (.iastore, 1) := by decide +kernel
theorem dX5_lookAtColumns_37 : decode cX5_lookAtColumns 37 = .ok (.aload_n 0, 1) := by decide +kernel
theorem dX5_lookAtColumns_38 : decode cX5_lookAtColumns 38 = .ok (.getfield 39, 3) := by decide +kernel
theorem dX5_lookAtColumns_41 : decode cX5_lookAtColumns 41 = .ok (.bipush 8, 2) := by decide +kernel
theorem dX5_lookAtColumns_43 : decode cX5_lookAtColumns 43 = .ok (.iload_n 1, 1) := by decide +kernel
theorem dX5_lookAtColumns_44 : decode cX5_lookAtColumns 44 = .ok (.imul, 1) := by decide +kernel
theorem dX5_lookAtColumns_45 : decode cX5_lookAtColumns 45 = .ok (.iload_n 2, 1) := by decide +kernel
theorem dX5_lookAtColumns_46 : decode cX5_lookAtColumns 46 = .ok (.iadd, 1) := by decide +kernel
theorem dX5_lookAtColumns_47 : decode cX5_lookAtColumns 47 = .ok (.aload_n 0, 1) := by decide +kernel
theorem dX5_lookAtColumns_48 : decode cX5_lookAtColumns 48 = .ok (.iload_n 1, 1) := by decide +kernel
theorem dX5_lookAtColumns_49 : decode cX5_lookAtColumns 49 = .ok (.iload_n 2, 1) := by decide +kernel
theorem dX5_lookAtColumns_50 : decode cX5_lookAtColumns 50 = .ok (.invokevirtual 78, 3) := by decide +kernel
theorem dX5_lookAtColumns_53 : decode cX5_lookAtColumns 53 = .ok (.iastore, 1) := by decide +kernel
theorem dX5_lookAtColumns_54 : decode cX5_lookAtColumns 54 = .ok (.iinc 2 1, 3) := by decide +kernel
theorem dX5_lookAtColumns_57 : decode cX5_lookAtColumns 57 = .ok (.goto (-45), 3) := by decide +kernel
theorem dX5_lookAtColumns_60 : decode cX5_lookAtColumns 60 = .ok (.iinc 1 1, 3) := by decide +kernel
theorem dX5_lookAtColumns_63 : decode cX5_lookAtColumns 63 = .ok (.goto (-61), 3) := by decide +kernel
theorem dX5_lookAtColumns_66 : decode cX5_lookAtColumns 66 = .ok (.return_, 1) := by decide +kernel
set_option maxRecDepth 20000 in
theorem ggX5_cover_X5_lookAtColumns : GoodIn wsX5_cover wsX5_lookAtColumns := goodIn_r _ [6, 7, 8, 9, 10, 11, 12, 13, 5, 14, 15, 16, 17, 18, 19, 20, 21, 22, 23, 24, 25, 26, 31, 32, 33, 34, 35, 36, 37, 38, 39, 40, 41, 42, 43, 44, 45, 46, 47] (by decide +kernel) (by decide +kernel)
set_option maxRecDepth 20000 in
theorem gX5_cover_X5_lookAtColumns : GoodIn wsX5_cover (wsV RX5 120 RX5 yX5_lookAtColumns wsX5_lookAtColumns) := goodIn_app (goodIn_of _ (by decide +kernel)) ggX5_cover_X5_lookAtColumns
set_option maxRecDepth 20000 in
theorem ggX5_cover_X5_coverOf : GoodIn wsX5_cover wsX5_coverOf := goodIn_r _ [30, 7, 8, 9, 31, 32, 33, 34, 35, 36, 37, 38, 39, 40, 41, 42, 43, 44, 45, 46, 47] (by decide +kernel) (by decide +kernel)
set_option maxRecDepth 20000 in
theorem gX5_cover_X5_coverOf : GoodIn wsX5_cover (wsV RX5 123 RX5 yX5_coverOf wsX5_coverOf) := goodIn_app (goodIn_of _ (by decide +kernel)) ggX5_cover_X5_coverOf
theorem dX5_cover_0 : decode cX5_cover 0 = .ok (.aload_n 0, 1) := by decide +kernel
theorem dX5_cover_1 : decode cX5_cover 1 = .ok (.invokevirtual 120, 3) := by decide +kernel
theorem dX5_cover_4 : decode cX5_cover 4 = .ok (.aload_n 0, 1) := by decide +kernel
theorem dX5_cover_5 : decode cX5_cover 5 = .ok (.aload_n 0, 1) := by decide +kernel
theorem dX5_cover_6 : decode cX5_cover 6 = .ok (.getfield 23, 3) := by decide +kernel
theorem dX5_cover_9 : decode cX5_cover 9 = .ok (.iconst 0, 1) := by decide +kernel
theorem dX5_cover_10 : decode cX5_cover 10 = .ok (.iaload, 1) := by decide +kernel
theorem dX5_cover_11 : decode cX5_cover 11 = .ok (.aload_n 0, 1) := by decide +kernel
theorem dX5_cover_12 : decode cX5_cover 12 = .ok (.getfield 23, 3) := by decide +kernel
theorem dX5_cover_15 : decode cX5_cover 15 = .ok (.iconst 1, 1) := by decide +kernel
theorem dX5_cover_16 : decode cX5_cover 16 = .ok (.iaload, 1) := by decide +kernel
theorem dX5_cover_17 : decode cX5_cover 17 = .ok (.invokevirtual 123, 3) := by decide +kernel
theorem dX5_cover_20 : decode cX5_cover 20 = .ok (.ireturn, 1) := by decide +kernel
theorem dX5_ones_0 : decode cX5_ones 0 = .ok (.iconst 0, 1) := by decide +kernel
theorem dX5_ones_1 : decode cX5_ones 1 = .ok (.istore_n 1, 1) := by decide +kernel
theorem dX5_ones_2 : decode cX5_ones 2 = .ok (.iconst 0, 1) := by decide +kernel
theorem dX5_ones_3 : decode cX5_ones 3 = .ok (.istore_n 2, 1) := by decide +kernel
theorem dX5_ones_4 : decode cX5_ones 4 = .ok (.iload_n 2, 1) := by decide +kernel
theorem dX5_ones_5 : decode cX5_ones 5 = .ok (.bipush 8, 2) := by decide +kernel
theorem dX5_ones_7 : decode cX5_ones 7 = .ok (.if_icmp .ge 17, 3) := by decide +kernel
theorem dX5_ones_10 : decode cX5_ones 10 = .ok (.iload_n 1, 1) := by decide +kernel
theorem dX5_ones_11 : decode cX5_ones 11 = .ok (.iload_n 0, 1) := by decide +kernel
theorem dX5_ones_12 : decode cX5_ones 12 = .ok (.iload_n 2, 1) := by decide +kernel
theorem dX5_ones_13 : decode cX5_ones 13 = .ok (.ishr, 1) := by decide +kernel
theorem dX5_ones_14 : decode cX5_ones 14 = .ok (.iconst 1, 1) := by decide +kernel
theorem dX5_ones_15 : decode cX5_ones 15 = .ok (.iand, 1) := by decide +kernel
theorem dX5_ones_16 : decode cX5_ones 16 = .ok (.iadd, 1) := by decide +kernel
theorem dX5_ones_17 : decode cX5_ones 17 = .ok (.istore_n 1, 1) := by decide +kernel
theorem dX5_ones_18 : decode cX5_ones 18 = .ok (.iinc 2 1, 3) := by decide +kernel
theorem dX5_ones_21 : decode cX5_ones 21 = .ok (.goto (-17), 3) := by decide +kernel
theorem dX5_ones_24 : decode cX5_ones 24 = .ok (.iload_n 1, 1) := by decide +kernel
theorem dX5_ones_25 : decode cX5_ones 25 = .ok (.ireturn, 1) := by decide +kernel
set_option maxRecDepth 20000 in
theorem ggX5_best_X5_in : GoodIn wsX5_best wsX5_in := goodIn_r _ [8] (by decide +kernel) (by decide +kernel)
set_option maxRecDepth 20000 in
theorem gX5_best_X5_in : GoodIn wsX5_best (va_wsS RX5 48 yX5_in wsX5_in) := goodIn_app (goodIn_of _ (by decide +kernel)) ggX5_best_X5_in
set_option maxRecDepth 20000 in
theorem ggX5_best_X5_lookAtColumns : GoodIn wsX5_best wsX5_lookAtColumns := goodIn_r _ [12, 1, 2, 13, 14, 15, 16, 17, 7, 18, 19, 20, 21, 22, 23, 24, 25, 26, 27, 28, 29, 30, 42, 43, 44, 45, 46, 47, 48, 49, 50, 51, 52, 53, 54, 55, 56, 57, 58] (by decide +kernel) (by decide +kernel)
set_option maxRecDepth 20000 in
theorem gX5_best_X5_lookAtColumns : GoodIn wsX5_best (wsV RX5 120 RX5 yX5_lookAtColumns wsX5_lookAtColumns) := goodIn_app (goodIn_of _ (by decide +kernel)) ggX5_best_X5_lookAtColumns
set_option maxRecDepth 20000 in
theorem ggX5_best_X5_ones : GoodIn wsX5_best wsX5_ones := goodIn_r _ [33] (by decide +kernel) (by decide +kernel)
set_option maxRecDepth 20000 in
theorem gX5_best_X5_ones : GoodIn wsX5_best (va_wsS RX5 126 yX5_ones wsX5_ones) := goodIn_app (goodIn_of _ (by decide +kernel)) ggX5_best_X5_ones
set_option maxRecDepth 20000 in
theorem ggX5_best_X5_coverOf : GoodIn wsX5_best wsX5_coverOf := goodIn_r _ [37, 1, 2, 13, 42, 43, 44, 45, 46, 47, 48, 49, 50, 51, 52, 53, 54, 55, 56, 57, 58] (by decide +kernel) (by decide +kernel)
set_option maxRecDepth 20000 in
theorem gX5_best_X5_coverOf : GoodIn wsX5_best (wsV RX5 123 RX5 yX5_coverOf wsX5_coverOf) := goodIn_app (goodIn_of _ (by decide +kernel)) ggX5_best_X5_coverOf
set_option maxRecDepth 20000 in
theorem ggX5_best_X5_caughtOf : GoodIn wsX5_best wsX5_caughtOf := goodIn_r _ [41, 1, 2, 14, 42, 43, 44, 45, 46, 47, 48, 49, 50, 51, 52, 53, 54, 55, 56, 57, 58] (by decide +kernel) (by decide +kernel)
set_option maxRecDepth 20000 in
theorem gX5_best_X5_caughtOf : GoodIn wsX5_best (wsV RX5 129 RX5 yX5_caughtOf wsX5_caughtOf) := goodIn_app (goodIn_of _ (by decide +kernel)) ggX5_best_X5_caughtOf
theorem dX5_best_0 : decode cX5_best 0 = .ok (.iload_n 1, 1) := by decide +kernel
theorem dX5_best_1 : decode cX5_best 1 = .ok (.i2l, 1) := by decide +kernel
theorem dX5_best_2 : decode cX5_best 2 = .ok (.lconst 0, 1) := by decide +kernel
theorem dX5_best_3 : decode cX5_best 3 = .ok (.aload_n 0, 1) := by decide +kernel
theorem dX5_best_4 : decode cX5_best 4 = .ok (.getfield 7, 3) := by decide +kernel
theorem dX5_best_7 : decode cX5_best 7 = .ok (.i2l, 1) := by decide +kernel
theorem dX5_best_8 : decode cX5_best 8 = .ok (.invokestatic 48, 3) := by decide +kernel
theorem dX5_best_11 : decode cX5_best 11 = .ok (.ifCond .eq 17, 3) := by decide +kernel
theorem dX5_best_14 : decode cX5_best 14 = .ok (.iload_n 2, 1) := by decide +kernel
theorem dX5_best_15 : decode cX5_best 15 = .ok (.i2l, 1) := by decide +kernel
theorem dX5_best_16 : decode cX5_best 16 = .ok (.lconst 0, 1) := by decide +kernel
theorem dX5_best_17 : decode cX5_best 17 = .ok (.aload_n 0, 1) := by decide +kernel
theorem dX5_best_18 : decode cX5_best 18 = .ok (.getfield 13, 3) := by decide +kernel
theorem dX5_best_21 : decode cX5_best 21 = .ok (.i2l, 1) := by decide +kernel
theorem dX5_best_22 : decode cX5_best 22 = .ok (.invokestatic 48, 3) := by decide +kernel
theorem dX5_best_25 : decode cX5_best 25 = .ok (.ifCond .ne 6, 3) := by decide +kernel
theorem dX5_best_28 : decode cX5_best 28 = .ok (.bipush (-2), 2) := by decide +kernel
theorem dX5_best_30 : decode cX5_best 30 = .ok (.ireturn, 1) := by decide +kernel
theorem dX5_best_31 : decode cX5_best 31 = .ok (.aload_n 0, 1) := by decide +kernel
theorem dX5_best_32 : decode cX5_best 32 = .ok (.invokevirtual 120, 3) := by decide +kernel
theorem dX5_best_35 : decode cX5_best 35 = .ok (.iconst (-1), 1) := by decide +kernel
theorem dX5_best_36 : decode cX5_best 36 = .ok (.istore_n 3, 1) := by decide +kernel
theorem dX5_best_37 : decode cX5_best 37 = .ok (.iconst 0, 1) := by decide +kernel
theorem dX5_best_38 : decode cX5_best 38 = .ok (.istore 4, 2) := by decide +kernel
theorem dX5_best_40 : decode cX5_best 40 = .ok (.iconst 0, 1) := by decide +kernel
theorem dX5_best_41 : decode cX5_best 41 = .ok (.istore 5, 2) := by decide +kernel
theorem dX5_best_43 : decode cX5_best 43 = .ok (.iconst 0, 1) := by decide +kernel
theorem dX5_best_44 : decode cX5_best 44 = .ok (.istore 6, 2) := by decide +kernel
theorem dX5_best_46 : decode cX5_best 46 = .ok (.iconst 0, 1) := by decide +kernel
theorem dX5_best_47 : decode cX5_best 47 = .ok (.istore 7, 2) := by decide +kernel
theorem dX5_best_49 : decode cX5_best 49 = .ok (.iload 7, 2) := by decide +kernel
theorem dX5_best_51 : decode cX5_best 51 = .ok (.iconst 1, 1) := by decide +kernel
theorem dX5_best_52 : decode cX5_best 52 = .ok (.aload_n 0, 1) := by decide +kernel
theorem dX5_best_53 : decode cX5_best 53 = .ok (.getfield 7, 3) := by decide +kernel
theorem dX5_best_56 : decode cX5_best 56 = .ok (.ishl, 1) := by decide +kernel
theorem dX5_best_57 : decode cX5_best 57 = .ok (.if_icmp .ge 103, 3) := by decide +kernel
theorem dX5_best_60 : decode cX5_best 60 = .ok (.iconst 0, 1) := by decide +kernel
theorem dX5_best_61 : decode cX5_best 61 = .ok (.istore 8, 2) := by decide +kernel
theorem dX5_best_63 : decode cX5_best 63 = .ok (.iload 8, 2) := by decide +kernel
theorem dX5_best_65 : decode cX5_best 65 = .ok (.iconst 1, 1) := by decide +kernel
theorem dX5_best_66 : decode cX5_best 66 = .ok (.aload_n 0, 1) := by decide +kernel
theorem dX5_best_67 : decode cX5_best 67 = .ok (.getfield 13, 3) := by decide +kernel
theorem dX5_best_70 : decode cX5_best 70 = .ok (.ishl, 1) := by decide +kernel
theorem dX5_best_71 : decode cX5_best 71 = .ok (.if_icmp .ge 83, 3) := by decide +kernel
theorem dX5_best_74 : decode cX5_best 74 = .ok (.iload 7, 2) := by decide +kernel
theorem dX5_best_76 : decode cX5_best 76 = .ok (.invokestatic 126, 3) := by decide +kernel
theorem dX5_best_79 : decode cX5_best 79 = .ok (.iload_n 1, 1) := by decide +kernel
theorem dX5_best_80 : decode cX5_best 80 = .ok (.if_icmp .ne 74, 3) := by decide +kernel
theorem dX5_best_83 : decode cX5_best 83 = .ok (.iload 8, 2) := by decide +kernel
theorem dX5_best_85 : decode cX5_best 85 = .ok (.invokestatic 126, 3) := by decide +kernel
theorem dX5_best_88 : decode cX5_best 88 = .ok (.iload_n 2, 1) := by decide +kernel
theorem dX5_best_89 : decode cX5_best 89 = .ok (.if_icmp .ne 59, 3) := by decide +kernel
theorem dX5_best_92 : decode cX5_best 92 = .ok (.aload_n 0, 1) := by decide +kernel
theorem dX5_best_93 : decode cX5_best 93 = .ok (.iload 7, 2) := by decide +kernel
theorem dX5_best_95 : decode cX5_best 95 = .ok (.iload 8, 2) := by decide +kernel
theorem dX5_best_97 : decode cX5_best 97 = .ok (.invokevirtual 123, 3) := by decide +kernel
theorem dX5_best_100 : decode cX5_best 100 = .ok (.istore 9, 2) := by decide +kernel
theorem dX5_best_102 : decode cX5_best 102 = .ok (.iload 9, 2) := by decide +kernel
theorem dX5_best_104 : decode cX5_best 104 = .ok (.iload_n 3, 1) := by decide +kernel
theorem dX5_best_105 : decode cX5_best 105 = .ok (.if_icmp .gt 22, 3) := by decide +kernel
theorem dX5_best_108 : decode cX5_best 108 = .ok (.iload 9, 2) := by decide +kernel
theorem dX5_best_110 : decode cX5_best 110 = .ok (.iload_n 3, 1) := by decide +kernel
theorem dX5_best_111 : decode cX5_best 111 = .ok (.if_icmp .ne 37, 3) := by decide +kernel
theorem dX5_best_114 : decode cX5_best 114 = .ok (.aload_n 0, 1) := by decide +kernel
theorem dX5_best_115 : decode cX5_best 115 = .ok (.iload 7, 2) := by decide +kernel
theorem dX5_best_117 : decode cX5_best 117 = .ok (.iload 8, 2) := by decide +kernel
theorem dX5_best_119 : decode cX5_best 119 = .ok (.invokevirtual 129, 3) := by decide +kernel
theorem dX5_best_122 : decode cX5_best 122 = .ok (.iload 4, 2) := by decide +kernel
theorem dX5_best_124 : decode cX5_best 124 = .ok (.if_icmp .ge 24, 3) := by decide +kernel
theorem dX5_best_127 : decode cX5_best 127 = .ok (.iload 9, 2) := by decide +kernel
theorem dX5_best_129 : decode cX5_best 129 = .ok (.istore_n 3, 1) := by decide +kernel
theorem dX5_best_130 : decode cX5_best 130 = .ok (.aload_n 0, 1) := by decide +kernel
theorem dX5_best_131 : decode cX5_best 131 = .ok (.iload 7, 2) := by decide +kernel
theorem dX5_best_133 : decode cX5_best 133 = .ok (.iload 8, 2) := by decide +kernel
theorem dX5_best_135 : decode cX5_best 135 = .ok (.invokevirtual 129, 3) := by decide +kernel
theorem dX5_best_138 : decode cX5_best 138 = .ok (.istore 4, 2) := by decide +kernel
theorem dX5_best_140 : decode cX5_best 140 = .ok (.iload 7, 2) := by decide +kernel
theorem dX5_best_142 : decode cX5_best 142 = .ok (.istore 5, 2) := by decide +kernel
theorem dX5_best_144 : decode cX5_best 144 = .ok (.iload 8, 2) := by decide +kernel
theorem dX5_best_146 : decode cX5_best 146 = .ok (.istore 6, 2) := by decide +kernel
theorem dX5_best_148 : decode cX5_best 148 = .ok (.iinc 8 1, 3) := by decide +kernel
theorem dX5_best_151 : decode cX5_best 151 = .ok (.goto (-88), 3) := by decide +kernel
theorem dX5_best_154 : decode cX5_best 154 = .ok (.iinc 7 1, 3) := by decide +kernel
theorem dX5_best_157 : decode cX5_best 157 = .ok (.goto (-108), 3) := by decide +kernel
theorem dX5_best_160 : decode cX5_best 160 = .ok (.aload_n 0, 1) := by decide +kernel
theorem dX5_best_161 : decode cX5_best 161 = .ok (.getfield 23, 3) := by decide +kernel
theorem dX5_best_164 : decode cX5_best 164 = .ok (.iconst 0, 1) := by decide +kernel
theorem dX5_best_165 : decode cX5_best 165 = .ok (.iload 5, 2) := by decide +kernel
theorem dX5_best_167 : decode cX5_best 167 = .ok (.iastore, 1) := by decide +kernel
theorem dX5_best_168 : decode cX5_best 168 = .ok (.aload_n 0, 1) := by decide +kernel
theorem dX5_best_169 : decode cX5_best 169 = .ok (.getfield 23, 3) := by decide +kernel
theorem dX5_best_172 : decode cX5_best 172 = .ok (.iconst 1, 1) := by decide +kernel
theorem dX5_best_173 : decode cX5_best 173 = .ok (.iload 6, 2) := by decide +kernel
theorem dX5_best_175 : decode cX5_best 175 = .ok (.iastore, 1) := by decide +kernel
theorem dX5_best_176 : decode cX5_best 176 = .ok (.aload_n 0, 1) := by decide +kernel
theorem dX5_best_177 : decode cX5_best 177 = .ok (.iconst 0, 1) := by decide +kernel
theorem dX5_best_178 : decode cX5_best 178 = .ok (.putfield 54, 3) := by decide +kernel
theorem dX5_best_181 : decode cX5_best 181 = .ok (.iload_n 3, 1) := by decide +kernel
theorem dX5_best_182 : decode cX5_best 182 = .ok (.ireturn, 1) := by decide +kernel
set_option maxRecDepth 20000 in
theorem ggX5_told_X5_isChosen : GoodIn wsX5_told wsX5_isChosen := goodIn_r _ [11, 5, 55, 56, 57, 58, 59, 60, 61, 62, 63, 64, 65, 66, 67, 68, 69, 70, 71] (by decide +kernel) (by decide +kernel)
set_option maxRecDepth 20000 in
theorem gX5_told_X5_isChosen : GoodIn wsX5_told (wsV RX5 75 RX5 yX5_isChosen wsX5_isChosen) := goodIn_app (goodIn_of _ (by decide +kernel)) ggX5_told_X5_isChosen
set_option maxRecDepth 20000 in
theorem ggX5_told_X5_findParts : GoodIn wsX5_told wsX5_findParts := goodIn_r _ [15, 6, 3, 16, 17, 18, 19, 20, 10, 21, 1, 2, 22, 23, 24, 25, 26, 27, 28, 29, 30, 31, 32, 33, 4, 34, 35, 36, 37, 38, 39, 7, 8, 9, 11, 5, 40, 41, 42, 43, 44, 45, 46, 47, 48, 49, 50, 55, 56, 57, 58, 59, 60, 61, 62, 63, 64, 65, 66, 67, 68, 69, 70, 71] (by decide +kernel) (by decide +kernel)
set_option maxRecDepth 20000 in
theorem gX5_told_X5_findParts : GoodIn wsX5_told (wsV RX5 102 RX5 yX5_findParts wsX5_findParts) := goodIn_app (goodIn_of _ (by decide +kernel)) ggX5_told_X5_findParts
set_option maxRecDepth 20000 in
theorem ggX5_told_X5_looseOf : GoodIn wsX5_told wsX5_looseOf := goodIn_r _ [54, 16, 12, 13, 14, 10, 15, 6, 3, 17, 18, 19, 20, 21, 1, 2, 22, 23, 24, 25, 26, 27, 28, 29, 30, 31, 32, 33, 4, 34, 35, 36, 37, 38, 39, 7, 8, 9, 11, 5, 40, 41, 42, 43, 44, 45, 46, 47, 48, 49, 50, 55, 56, 57, 58, 59, 60, 61, 62, 63, 64, 65, 66, 67, 68, 69, 70, 71] (by decide +kernel) (by decide +kernel)
set_option maxRecDepth 20000 in
theorem gX5_told_X5_looseOf : GoodIn wsX5_told (wsV RX5 106 RX5 yX5_looseOf wsX5_looseOf) := goodIn_app (goodIn_of _ (by decide +kernel)) ggX5_told_X5_looseOf
theorem dX5_told_0 : decode cX5_told 0 = .ok (.iconst 0, 1) := by decide +kernel
theorem dX5_told_1 : decode cX5_told 1 = .ok (.istore_n 2, 1) := by decide +kernel
theorem dX5_told_2 : decode cX5_told 2 = .ok (.iload_n 1, 1) := by decide +kernel
theorem dX5_told_3 : decode cX5_told 3 = .ok (.tableswitch 209 0 7 #[45, 50, 55, 60, 94, 101, 108, 159], 45) := by decide +kernel
theorem dX5_told_48 : decode cX5_told 48 = .ok (.aload_n 0, 1) := by decide +kernel
theorem dX5_told_49 : decode cX5_told 49 = .ok (.getfield 7, 3) := by decide +kernel
theorem dX5_told_52 : decode cX5_told 52 = .ok (.ireturn, 1) := by decide +kernel
theorem dX5_told_53 : decode cX5_told 53 = .ok (.aload_n 0, 1) := by decide +kernel
theorem dX5_told_54 : decode cX5_told 54 = .ok (.getfield 13, 3) := by decide +kernel
theorem dX5_told_57 : decode cX5_told 57 = .ok (.ireturn, 1) := by decide +kernel
theorem dX5_told_58 : decode cX5_told 58 = .ok (.aload_n 0, 1) := by decide +kernel
theorem dX5_told_59 : decode cX5_told 59 = .ok (.getfield 16, 3) := by decide +kernel
theorem dX5_told_62 : decode cX5_told 62 = .ok (.ireturn, 1) := by decide +kernel
theorem dX5_told_63 : decode cX5_told 63 = .ok (.iconst 0, 1) := by decide +kernel
theorem dX5_told_64 : decode cX5_told 64 = .ok (.istore_n 3, 1) := by decide +kernel
theorem dX5_told_65 : decode cX5_told 65 = .ok (.iload_n 3, 1) := by decide +kernel
theorem dX5_told_66 : decode cX5_told 66 = .ok (.sipush 512, 3) := by decide +kernel
theorem dX5_told_69 : decode cX5_told 69 = .ok (.if_icmp .ge 26, 3) := by decide +kernel
theorem dX5_told_72 : decode cX5_told 72 = .ok (.iload_n 2, 1) := by decide +kernel
theorem dX5_told_73 : decode cX5_told 73 = .ok (.aload_n 0, 1) := by decide +kernel
theorem dX5_told_74 : decode cX5_told 74 = .ok (.getfield 19, 3) := by decide +kernel
theorem dX5_told_77 : decode cX5_told 77 = .ok (.iload_n 3, 1) := by decide +kernel
theorem dX5_told_78 : decode cX5_told 78 = .ok (.baload, 1) := by decide +kernel
theorem dX5_told_79 : decode cX5_told 79 = .ok (.ifCond .eq 7, 3) := by decide +kernel
theorem dX5_told_82 : decode cX5_told 82 = .ok (.iconst 1, 1) := by decide +kernel
theorem dX5_told_83 : decode cX5_told 83 = .ok (.goto 4, 3) := by decide +kernel
theorem dX5_told_86 : decode cX5_told 86 = .ok (.iconst 0, 1) := by decide +kernel
theorem dX5_told_87 : decode cX5_told 87 = .ok (.iadd, 1) := by decide +kernel
theorem dX5_told_88 : decode cX5_told 88 = .ok (.istore_n 2, 1) := by decide +kernel
theorem dX5_told_89 : decode cX5_told 89 = .ok (.iinc 3 1, 3) := by decide +kernel
theorem dX5_told_92 : decode cX5_told 92 = .ok (.goto (-27), 3) := by decide +kernel
theorem dX5_told_95 : decode cX5_told 95 = .ok (.iload_n 2, 1) := by decide +kernel
theorem dX5_told_96 : decode cX5_told 96 = .ok (.ireturn, 1) := by decide +kernel
theorem dX5_told_97 : decode cX5_told 97 = .ok (.aload_n 0, 1) := by decide +kernel
theorem dX5_told_98 : decode cX5_told 98 = .ok (.getfield 23, 3) := by decide +kernel
theorem dX5_told_101 : decode cX5_told 101 = .ok (.iconst 0, 1) := by decide +kernel
theorem dX5_told_102 : decode cX5_told 102 = .ok (.iaload, 1) := by decide +kernel
theorem dX5_told_103 : decode cX5_told 103 = .ok (.ireturn, 1) := by decide +kernel
theorem dX5_told_104 : decode cX5_told 104 = .ok (.aload_n 0, 1) := by decide +kernel
theorem dX5_told_105 : decode cX5_told 105 = .ok (.getfield 23, 3) := by decide +kernel
theorem dX5_told_108 : decode cX5_told 108 = .ok (.iconst 1, 1) := by decide +kernel
theorem dX5_told_109 : decode cX5_told 109 = .ok (.iaload, 1) := by decide +kernel
theorem dX5_told_110 : decode cX5_told 110 = .ok (.ireturn, 1) := by decide +kernel
theorem dX5_told_111 : decode cX5_told 111 = .ok (.iconst 0, 1) := by decide +kernel
theorem dX5_told_112 : decode cX5_told 112 = .ok (.istore_n 3, 1) := by decide +kernel
theorem dX5_told_113 : decode cX5_told 113 = .ok (.iload_n 3, 1) := by decide +kernel
theorem dX5_told_114 : decode cX5_told 114 = .ok (.bipush 16, 2) := by decide +kernel
theorem dX5_told_116 : decode cX5_told 116 = .ok (.if_icmp .ge 44, 3) := by decide +kernel
theorem dX5_told_119 : decode cX5_told 119 = .ok (.aload_n 0, 1) := by decide +kernel
theorem dX5_told_120 : decode cX5_told 120 = .ok (.iload_n 3, 1) := by decide +kernel
theorem dX5_told_121 : decode cX5_told 121 = .ok (.bipush 8, 2) := by decide +kernel
theorem dX5_told_123 : decode cX5_told 123 = .ok (.idiv, 1) := by decide +kernel
theorem dX5_told_124 : decode cX5_told 124 = .ok (.iload_n 3, 1) := by decide +kernel
theorem dX5_told_125 : decode cX5_told 125 = .ok (.bipush 8, 2) := by decide +kernel
theorem dX5_told_127 : decode cX5_told 127 = .ok (.irem, 1) := by decide +kernel
theorem dX5_told_128 : decode cX5_told 128 = .ok (.invokevirtual 75, 3) := by decide +kernel
theorem dX5_told_131 : decode cX5_told 131 = .ok (.ifCond .eq 23, 3) := by decide +kernel
theorem dX5_told_134 : decode cX5_told 134 = .ok (.aload_n 0, 1) := by decide +kernel
theorem dX5_told_135 : decode cX5_told 135 = .ok (.iload_n 3, 1) := by decide +kernel
theorem dX5_told_136 : decode cX5_told 136 = .ok (.bipush 8, 2) := by decide +kernel
theorem dX5_told_138 : decode cX5_told 138 = .ok (.idiv, 1) := by decide +kernel
theorem dX5_told_139 : decode cX5_told 139 = .ok (.iload_n 3, 1) := by decide +kernel
theorem dX5_told_140 : decode cX5_told 140 = .ok (.bipush 8, 2) := by decide +kernel
theorem dX5_told_142 : decode cX5_told 142 = .ok (.irem, 1) := by decide +kernel
theorem dX5_told_143 : decode cX5_told 143 = .ok (.iconst 1, 1) := by decide +kernel
theorem dX5_told_144 : decode cX5_told 144 = .ok (.invokevirtual 102, 3) := by decide +kernel
theorem dX5_told_147 : decode cX5_told 147 = .ok (.iload_n 2, 1) := by decide +kernel
theorem dX5_told_148 : decode cX5_told 148 = .ok (.aload_n 0, 1) := by decide +kernel
theorem dX5_told_149 : decode cX5_told 149 = .ok (.getfield 93, 3) := by decide +kernel
theorem dX5_told_152 : decode cX5_told 152 = .ok (.iadd, 1) := by decide +kernel
theorem dX5_told_153 : decode cX5_told 153 = .ok (.istore_n 2, 1) := by decide +kernel
theorem dX5_told_154 : decode cX5_told 154 = .ok (.iinc 3 1, 3) := by decide +kernel
theorem dX5_told_157 : decode cX5_told 157 = .ok (.goto (-44), 3) := by decide +kernel
theorem dX5_told_160 : decode cX5_told 160 = .ok (.iload_n 2, 1) := by decide +kernel
theorem dX5_told_161 : decode cX5_told 161 = .ok (.ireturn, 1) := by decide +kernel
theorem dX5_told_162 : decode cX5_told 162 = .ok (.iconst 0, 1) := by decide +kernel
theorem dX5_told_163 : decode cX5_told 163 = .ok (.istore_n 3, 1) := by decide +kernel
theorem dX5_told_164 : decode cX5_told 164 = .ok (.iload_n 3, 1) := by decide +kernel
theorem dX5_told_165 : decode cX5_told 165 = .ok (.bipush 16, 2) := by decide +kernel
theorem dX5_told_167 : decode cX5_told 167 = .ok (.if_icmp .ge 43, 3) := by decide +kernel
theorem dX5_told_170 : decode cX5_told 170 = .ok (.iload_n 2, 1) := by decide +kernel
theorem dX5_told_171 : decode cX5_told 171 = .ok (.aload_n 0, 1) := by decide +kernel
theorem dX5_told_172 : decode cX5_told 172 = .ok (.iload_n 3, 1) := by decide +kernel
theorem dX5_told_173 : decode cX5_told 173 = .ok (.bipush 8, 2) := by decide +kernel
theorem dX5_told_175 : decode cX5_told 175 = .ok (.idiv, 1) := by decide +kernel
theorem dX5_told_176 : decode cX5_told 176 = .ok (.iload_n 3, 1) := by decide +kernel
theorem dX5_told_177 : decode cX5_told 177 = .ok (.bipush 8, 2) := by decide +kernel
theorem dX5_told_179 : decode cX5_told 179 = .ok (.irem, 1) := by decide +kernel
theorem dX5_told_180 : decode cX5_told 180 = .ok (.invokevirtual 75, 3) := by decide +kernel
theorem dX5_told_183 : decode cX5_told 183 = .ok (.ifCond .eq 18, 3) := by decide +kernel
theorem dX5_told_186 : decode cX5_told 186 = .ok (.aload_n 0, 1) := by decide +kernel
theorem dX5_told_187 : decode cX5_told 187 = .ok (.iload_n 3, 1) := by decide +kernel
theorem dX5_told_188 : decode cX5_told 188 = .ok (.bipush 8, 2) := by decide +kernel
theorem dX5_told_190 : decode cX5_told 190 = .ok (.idiv, 1) := by decide +kernel
theorem dX5_told_191 : decode cX5_told 191 = .ok (.iload_n 3, 1) := by decide +kernel
theorem dX5_told_192 : decode cX5_told 192 = .ok (.bipush 8, 2) := by decide +kernel
theorem dX5_told_194 : decode cX5_told 194 = .ok (.irem, 1) := by decide +kernel
theorem dX5_told_195 : decode cX5_told 195 = .ok (.invokevirtual 106, 3) := by decide +kernel
theorem dX5_told_198 : decode cX5_told 198 = .ok (.goto 4, 3) := by decide +kernel
theorem dX5_told_201 : decode cX5_told 201 = .ok (.iconst 0, 1) := by decide +kernel
theorem dX5_told_202 : decode cX5_told 202 = .ok (.iadd, 1) := by decide +kernel
theorem dX5_told_203 : decode cX5_told 203 = .ok (.istore_n 2, 1) := by decide +kernel
theorem dX5_told_204 : decode cX5_told 204 = .ok (.iinc 3 1, 3) := by decide +kernel
theorem dX5_told_207 : decode cX5_told 207 = .ok (.goto (-43), 3) := by decide +kernel
theorem dX5_told_210 : decode cX5_told 210 = .ok (.iload_n 2, 1) := by decide +kernel
theorem dX5_told_211 : decode cX5_told 211 = .ok (.ireturn, 1) := by decide +kernel
theorem dX5_told_212 : decode cX5_told 212 = .ok (.bipush (-2), 2) := by decide +kernel
theorem dX5_told_214 : decode cX5_told 214 = .ok (.ireturn, 1) := by decide +kernel
theorem dX5_isAhead_0 : decode cX5_isAhead 0 = .ok (.aload_n 0, 1) := by decide +kernel
theorem dX5_isAhead_1 : decode cX5_isAhead 1 = .ok (.getfield 45, 3) := by decide +kernel
theorem dX5_isAhead_4 : decode cX5_isAhead 4 = .ok (.bipush 7, 2) := by decide +kernel
theorem dX5_isAhead_6 : decode cX5_isAhead 6 = .ok (.iload_n 1, 1) := by decide +kernel
theorem dX5_isAhead_7 : decode cX5_isAhead 7 = .ok (.imul, 1) := by decide +kernel
theorem dX5_isAhead_8 : decode cX5_isAhead 8 = .ok (.bipush 6, 2) := by decide +kernel
theorem dX5_isAhead_10 : decode cX5_isAhead 10 = .ok (.iadd, 1) := by decide +kernel
theorem dX5_isAhead_11 : decode cX5_isAhead 11 = .ok (.iaload, 1) := by decide +kernel
theorem dX5_isAhead_12 : decode cX5_isAhead 12 = .ok (.aload_n 0, 1) := by decide +kernel
theorem dX5_isAhead_13 : decode cX5_isAhead 13 = .ok (.getfield 45, 3) := by decide +kernel
theorem dX5_isAhead_16 : decode cX5_isAhead 16 = .ok (.bipush 7, 2) := by decide +kernel
theorem dX5_isAhead_18 : decode cX5_isAhead 18 = .ok (.iload_n 2, 1) := by decide +kernel
theorem dX5_isAhead_19 : decode cX5_isAhead 19 = .ok (.imul, 1) := by decide +kernel
theorem dX5_isAhead_20 : decode cX5_isAhead 20 = .ok (.bipush 6, 2) := by decide +kernel
theorem dX5_isAhead_22 : decode cX5_isAhead 22 = .ok (.iadd, 1) := by decide +kernel
theorem dX5_isAhead_23 : decode cX5_isAhead 23 = .ok (.iaload, 1) := by decide +kernel
theorem dX5_isAhead_24 : decode cX5_isAhead 24 = .ok (.if_icmp .eq 36, 3) := by decide +kernel
theorem dX5_isAhead_27 : decode cX5_isAhead 27 = .ok (.aload_n 0, 1) := by decide +kernel
theorem dX5_isAhead_28 : decode cX5_isAhead 28 = .ok (.getfield 45, 3) := by decide +kernel
theorem dX5_isAhead_31 : decode cX5_isAhead 31 = .ok (.bipush 7, 2) := by decide +kernel
theorem dX5_isAhead_33 : decode cX5_isAhead 33 = .ok (.iload_n 1, 1) := by decide +kernel
theorem dX5_isAhead_34 : decode cX5_isAhead 34 = .ok (.imul, 1) := by decide +kernel
theorem dX5_isAhead_35 : decode cX5_isAhead 35 = .ok (.bipush 6, 2) := by decide +kernel
theorem dX5_isAhead_37 : decode cX5_isAhead 37 = .ok (.iadd, 1) := by decide +kernel
theorem dX5_isAhead_38 : decode cX5_isAhead 38 = .ok (.iaload, 1) := by decide +kernel
theorem dX5_isAhead_39 : decode cX5_isAhead 39 = .ok (.aload_n 0, 1) := by decide +kernel
theorem dX5_isAhead_40 : decode cX5_isAhead 40 = .ok (.getfield 45, 3) := by decide +kernel
theorem dX5_isAhead_43 : decode cX5_isAhead 43 = .ok (.bipush 7, 2) := by decide +kernel
theorem dX5_isAhead_45 : decode cX5_isAhead 45 = .ok (.iload_n 2, 1) := by decide +kernel
theorem dX5_isAhead_46 : decode cX5_isAhead 46 = .ok (.imul, 1) := by decide +kernel
theorem dX5_isAhead_47 : decode cX5_isAhead 47 = .ok (.bipush 6, 2) := by decide +kernel
theorem dX5_isAhead_49 : decode cX5_isAhead 49 = .ok (.iadd, 1) := by decide +kernel
theorem dX5_isAhead_50 : decode cX5_isAhead 50 = .ok (.iaload, 1) := by decide +kernel
theorem dX5_isAhead_51 : decode cX5_isAhead 51 = .ok (.if_icmp .le 7, 3) := by decide +kernel
theorem dX5_isAhead_54 : decode cX5_isAhead 54 = .ok (.iconst 1, 1) := by decide +kernel
theorem dX5_isAhead_55 : decode cX5_isAhead 55 = .ok (.goto 4, 3) := by decide +kernel
theorem dX5_isAhead_58 : decode cX5_isAhead 58 = .ok (.iconst 0, 1) := by decide +kernel
theorem dX5_isAhead_59 : decode cX5_isAhead 59 = .ok (.ireturn, 1) := by decide +kernel
theorem dX5_isAhead_60 : decode cX5_isAhead 60 = .ok (.aload_n 0, 1) := by decide +kernel
theorem dX5_isAhead_61 : decode cX5_isAhead 61 = .ok (.getfield 45, 3) := by decide +kernel
theorem dX5_isAhead_64 : decode cX5_isAhead 64 = .ok (.bipush 7, 2) := by decide +kernel
theorem dX5_isAhead_66 : decode cX5_isAhead 66 = .ok (.iload_n 1, 1) := by decide +kernel
theorem dX5_isAhead_67 : decode cX5_isAhead 67 = .ok (.imul, 1) := by decide +kernel
theorem dX5_isAhead_68 : decode cX5_isAhead 68 = .ok (.iconst 5, 1) := by decide +kernel
theorem dX5_isAhead_69 : decode cX5_isAhead 69 = .ok (.iadd, 1) := by decide +kernel
theorem dX5_isAhead_70 : decode cX5_isAhead 70 = .ok (.iaload, 1) := by decide +kernel
theorem dX5_isAhead_71 : decode cX5_isAhead 71 = .ok (.aload_n 0, 1) := by decide +kernel
theorem dX5_isAhead_72 : decode cX5_isAhead 72 = .ok (.getfield 45, 3) := by decide +kernel
theorem dX5_isAhead_75 : decode cX5_isAhead 75 = .ok (.bipush 7, 2) := by decide +kernel
theorem dX5_isAhead_77 : decode cX5_isAhead 77 = .ok (.iload_n 2, 1) := by decide +kernel
theorem dX5_isAhead_78 : decode cX5_isAhead 78 = .ok (.imul, 1) := by decide +kernel
theorem dX5_isAhead_79 : decode cX5_isAhead 79 = .ok (.iconst 5, 1) := by decide +kernel
theorem dX5_isAhead_80 : decode cX5_isAhead 80 = .ok (.iadd, 1) := by decide +kernel
theorem dX5_isAhead_81 : decode cX5_isAhead 81 = .ok (.iaload, 1) := by decide +kernel
theorem dX5_isAhead_82 : decode cX5_isAhead 82 = .ok (.if_icmp .le 7, 3) := by decide +kernel
theorem dX5_isAhead_85 : decode cX5_isAhead 85 = .ok (.iconst 1, 1) := by decide +kernel
theorem dX5_isAhead_86 : decode cX5_isAhead 86 = .ok (.goto 4, 3) := by decide +kernel
theorem dX5_isAhead_89 : decode cX5_isAhead 89 = .ok (.iconst 0, 1) := by decide +kernel
theorem dX5_isAhead_90 : decode cX5_isAhead 90 = .ok (.ireturn, 1) := by decide +kernel
theorem dX5_exchange_0 : decode cX5_exchange 0 = .ok (.iconst 0, 1) := by decide +kernel
theorem dX5_exchange_1 : decode cX5_exchange 1 = .ok (.istore_n 3, 1) := by decide +kernel
theorem dX5_exchange_2 : decode cX5_exchange 2 = .ok (.iload_n 3, 1) := by decide +kernel
theorem dX5_exchange_3 : decode cX5_exchange 3 = .ok (.bipush 7, 2) := by decide +kernel
theorem dX5_exchange_5 : decode cX5_exchange 5 = .ok (.if_icmp .ge 57, 3) := by decide +kernel
theorem dX5_exchange_8 : decode cX5_exchange 8 = .ok (.aload_n 0, 1) := by decide +kernel
theorem dX5_exchange_9 : decode cX5_exchange 9 = .ok (.getfield 45, 3) := by decide +kernel
theorem dX5_exchange_12 : decode cX5_exchange 12 = .ok (.bipush 7, 2) := by decide +kernel
theorem dX5_exchange_14 : decode cX5_exchange 14 = .ok (.iload_n 1, 1) := by decide +kernel
theorem dX5_exchange_15 : decode cX5_exchange 15 = .ok (.imul, 1) := by decide +kernel
theorem dX5_exchange_16 : decode cX5_exchange 16 = .ok (.iload_n 3, 1) := by decide +kernel
theorem dX5_exchange_17 : decode cX5_exchange 17 = .ok (.iadd, 1) := by decide +kernel
theorem dX5_exchange_18 : decode cX5_exchange 18 = .ok (.iaload, 1) := by decide +kernel
theorem dX5_exchange_19 : decode cX5_exchange 19 = .ok (.istore 4, 2) := by decide +kernel
theorem dX5_exchange_21 : decode cX5_exchange 21 = .ok (.aload_n 0, 1) := by decide +kernel
theorem dX5_exchange_22 : decode cX5_exchange 22 = .ok (.getfield 45, 3) := by decide +kernel
theorem dX5_exchange_25 : decode cX5_exchange 25 = .ok (.bipush 7, 2) := by decide +kernel
theorem dX5_exchange_27 : decode cX5_exchange 27 = .ok (.iload_n 1, 1) := by decide +kernel
theorem dX5_exchange_28 : decode cX5_exchange 28 = .ok (.imul, 1) := by decide +kernel
theorem dX5_exchange_29 : decode cX5_exchange 29 = .ok (.iload_n 3, 1) := by decide +kernel
theorem dX5_exchange_30 : decode cX5_exchange 30 = .ok (.iadd, 1) := by decide +kernel
theorem dX5_exchange_31 : decode cX5_exchange 31 = .ok (.aload_n 0, 1) := by decide +kernel
theorem dX5_exchange_32 : decode cX5_exchange 32 = .ok (.getfield 45, 3) := by decide +kernel
theorem dX5_exchange_35 : decode cX5_exchange 35 = .ok (.bipush 7, 2) := by decide +kernel
theorem dX5_exchange_37 : decode cX5_exchange 37 = .ok (.iload_n 2, 1) := by decide +kernel
theorem dX5_exchange_38 : decode cX5_exchange 38 = .ok (.imul, 1) := by decide +kernel
theorem dX5_exchange_39 : decode cX5_exchange 39 = .ok (.iload_n 3, 1) := by decide +kernel
theorem dX5_exchange_40 : decode cX5_exchange 40 = .ok (.iadd, 1) := by decide +kernel
theorem dX5_exchange_41 : decode cX5_exchange 41 = .ok (.iaload, 1) := by decide +kernel
theorem dX5_exchange_42 : decode cX5_exchange 42 = .ok (.iastore, 1) := by decide +kernel
theorem dX5_exchange_43 : decode cX5_exchange 43 = .ok (.aload_n 0, 1) := by decide +kernel
theorem dX5_exchange_44 : decode cX5_exchange 44 = .ok (.getfield 45, 3) := by decide +kernel
theorem dX5_exchange_47 : decode cX5_exchange 47 = .ok (.bipush 7, 2) := by decide +kernel
theorem dX5_exchange_49 : decode cX5_exchange 49 = .ok (.iload_n 2, 1) := by decide +kernel
theorem dX5_exchange_50 : decode cX5_exchange 50 = .ok (.imul, 1) := by decide +kernel
theorem dX5_exchange_51 : decode cX5_exchange 51 = .ok (.iload_n 3, 1) := by decide +kernel
theorem dX5_exchange_52 : decode cX5_exchange 52 = .ok (.iadd, 1) := by decide +kernel
theorem dX5_exchange_53 : decode cX5_exchange 53 = .ok (.iload 4, 2) := by decide +kernel
theorem dX5_exchange_55 : decode cX5_exchange 55 = .ok (.iastore, 1) := by decide +kernel
theorem dX5_exchange_56 : decode cX5_exchange 56 = .ok (.iinc 3 1, 3) := by decide +kernel
theorem dX5_exchange_59 : decode cX5_exchange 59 = .ok (.goto (-57), 3) := by decide +kernel
theorem dX5_exchange_62 : decode cX5_exchange 62 = .ok (.return_, 1) := by decide +kernel
set_option maxRecDepth 20000 in
theorem ggX5_gather_X5_isChosen : GoodIn wsX5_gather wsX5_isChosen := goodIn_r _ [6, 7, 36, 37, 38, 39, 40, 41, 42, 43, 44, 45, 46, 47, 48, 49, 50, 51, 52] (by decide +kernel) (by decide +kernel)
set_option maxRecDepth 20000 in
theorem gX5_gather_X5_isChosen : GoodIn wsX5_gather (wsV RX5 75 RX5 yX5_isChosen wsX5_isChosen) := goodIn_app (goodIn_of _ (by decide +kernel)) ggX5_gather_X5_isChosen
set_option maxRecDepth 20000 in
theorem ggX5_gather_X5_spanOf : GoodIn wsX5_gather wsX5_spanOf := goodIn_r _ [11, 12, 13, 14, 15, 5, 16, 17, 18, 19, 20, 21, 22, 23, 24, 25, 26, 27, 36, 37, 38, 39, 40, 41, 42, 43, 44, 45, 46, 47, 48, 49, 50, 51, 52] (by decide +kernel) (by decide +kernel)
set_option maxRecDepth 20000 in
theorem gX5_gather_X5_spanOf : GoodIn wsX5_gather (wsV RX5 113 RX5 yX5_spanOf wsX5_spanOf) := goodIn_app (goodIn_of _ (by decide +kernel)) ggX5_gather_X5_spanOf
set_option maxRecDepth 20000 in
theorem ggX5_gather_X5_isAhead : GoodIn wsX5_gather wsX5_isAhead := goodIn_r _ [31, 1, 36, 37, 38, 39, 40, 41, 42, 43, 44, 45, 46, 47, 48, 49, 50, 51, 52] (by decide +kernel) (by decide +kernel)
set_option maxRecDepth 20000 in
theorem gX5_gather_X5_isAhead : GoodIn wsX5_gather (wsV RX5 132 RX5 yX5_isAhead wsX5_isAhead) := goodIn_app (goodIn_of _ (by decide +kernel)) ggX5_gather_X5_isAhead
set_option maxRecDepth 20000 in
theorem ggX5_gather_X5_exchange : GoodIn wsX5_gather wsX5_exchange := goodIn_r _ [35, 1, 36, 37, 38, 39, 40, 41, 42, 43, 44, 45, 46, 47, 48, 49, 50, 51, 52] (by decide +kernel) (by decide +kernel)
set_option maxRecDepth 20000 in
theorem gX5_gather_X5_exchange : GoodIn wsX5_gather (wsV RX5 135 RX5 yX5_exchange wsX5_exchange) := goodIn_app (goodIn_of _ (by decide +kernel)) ggX5_gather_X5_exchange
theorem dX5_gather_0 : decode cX5_gather 0 = .ok (.iconst 0, 1) := by decide +kernel
theorem dX5_gather_1 : decode cX5_gather 1 = .ok (.istore_n 2, 1) := by decide +kernel
theorem dX5_gather_2 : decode cX5_gather 2 = .ok (.iconst 0, 1) := by decide +kernel
theorem dX5_gather_3 : decode cX5_gather 3 = .ok (.istore_n 3, 1) := by decide +kernel
theorem dX5_gather_4 : decode cX5_gather 4 = .ok (.iload_n 3, 1) := by decide +kernel
theorem dX5_gather_5 : decode cX5_gather 5 = .ok (.bipush 16, 2) := by decide +kernel
theorem dX5_gather_7 : decode cX5_gather 7 = .ok (.if_icmp .ge 161, 3) := by decide +kernel
theorem dX5_gather_10 : decode cX5_gather 10 = .ok (.aload_n 0, 1) := by decide +kernel
theorem dX5_gather_11 : decode cX5_gather 11 = .ok (.iload_n 3, 1) := by decide +kernel
theorem dX5_gather_12 : decode cX5_gather 12 = .ok (.bipush 8, 2) := by decide +kernel
theorem dX5_gather_14 : decode cX5_gather 14 = .ok (.idiv, 1) := by decide +kernel
theorem dX5_gather_15 : decode cX5_gather 15 = .ok (.iload_n 3, 1) := by decide +kernel
theorem dX5_gather_16 : decode cX5_gather 16 = .ok (.bipush 8, 2) := by decide +kernel
theorem dX5_gather_18 : decode cX5_gather 18 = .ok (.irem, 1) := by decide +kernel
theorem dX5_gather_19 : decode cX5_gather 19 = .ok (.invokevirtual 75, 3) := by decide +kernel
theorem dX5_gather_22 : decode cX5_gather 22 = .ok (.ifCond .eq 140, 3) := by decide +kernel
theorem dX5_gather_25 : decode cX5_gather 25 = .ok (.aload_n 0, 1) := by decide +kernel
theorem dX5_gather_26 : decode cX5_gather 26 = .ok (.iload_n 3, 1) := by decide +kernel
theorem dX5_gather_27 : decode cX5_gather 27 = .ok (.bipush 8, 2) := by decide +kernel
theorem dX5_gather_29 : decode cX5_gather 29 = .ok (.idiv, 1) := by decide +kernel
theorem dX5_gather_30 : decode cX5_gather 30 = .ok (.iload_n 3, 1) := by decide +kernel
theorem dX5_gather_31 : decode cX5_gather 31 = .ok (.bipush 8, 2) := by decide +kernel
theorem dX5_gather_33 : decode cX5_gather 33 = .ok (.irem, 1) := by decide +kernel
theorem dX5_gather_34 : decode cX5_gather 34 = .ok (.iconst 0, 1) := by decide +kernel
theorem dX5_gather_35 : decode cX5_gather 35 = .ok (.invokevirtual 113, 3) := by decide +kernel
theorem dX5_gather_38 : decode cX5_gather 38 = .ok (.ifCond .le 124, 3) := by decide +kernel
theorem dX5_gather_41 : decode cX5_gather 41 = .ok (.aload_n 0, 1) := by decide +kernel
theorem dX5_gather_42 : decode cX5_gather 42 = .ok (.getfield 45, 3) := by decide +kernel
theorem dX5_gather_45 : decode cX5_gather 45 = .ok (.bipush 7, 2) := by decide +kernel
theorem dX5_gather_47 : decode cX5_gather 47 = .ok (.iload_n 2, 1) := by decide +kernel
theorem dX5_gather_48 : decode cX5_gather 48 = .ok (.imul, 1) := by decide +kernel
theorem dX5_gather_49 : decode cX5_gather 49 = .ok (.iload_n 3, 1) := by decide +kernel
theorem dX5_gather_50 : decode cX5_gather 50 = .ok (.bipush 8, 2) := by decide +kernel
theorem dX5_gather_52 : decode cX5_gather 52 = .ok (.idiv, 1) := by decide +kernel
theorem dX5_gather_53 : decode cX5_gather 53 = .ok (.iastore, 1) := by decide +kernel
theorem dX5_gather_54 : decode cX5_gather 54 = .ok (.aload_n 0, 1) := by decide +kernel
theorem dX5_gather_55 : decode cX5_gather 55 = .ok (.getfield 45, 3) := by decide +kernel
theorem dX5_gather_58 : decode cX5_gather 58 = .ok (.bipush 7, 2) := by decide +kernel
theorem dX5_gather_60 : decode cX5_gather 60 = .ok (.iload_n 2, 1) := by decide +kernel
theorem dX5_gather_61 : decode cX5_gather 61 = .ok (.imul, 1) := by decide +kernel
theorem dX5_gather_62 : decode cX5_gather 62 = .ok (.iconst 1, 1) := by decide +kernel
theorem dX5_gather_63 : decode cX5_gather 63 = .ok (.iadd, 1) := by decide +kernel
theorem dX5_gather_64 : decode cX5_gather 64 = .ok (.iload_n 3, 1) := by decide +kernel
theorem dX5_gather_65 : decode cX5_gather 65 = .ok (.bipush 8, 2) := by decide +kernel
theorem dX5_gather_67 : decode cX5_gather 67 = .ok (.irem, 1) := by decide +kernel
theorem dX5_gather_68 : decode cX5_gather 68 = .ok (.iastore, 1) := by decide +kernel
theorem dX5_gather_69 : decode cX5_gather 69 = .ok (.aload_n 0, 1) := by decide +kernel
theorem dX5_gather_70 : decode cX5_gather 70 = .ok (.getfield 45, 3) := by decide +kernel
theorem dX5_gather_73 : decode cX5_gather 73 = .ok (.bipush 7, 2) := by decide +kernel
theorem dX5_gather_75 : decode cX5_gather 75 = .ok (.iload_n 2, 1) := by decide +kernel
theorem dX5_gather_76 : decode cX5_gather 76 = .ok (.imul, 1) := by decide +kernel
theorem dX5_gather_77 : decode cX5_gather 77 = .ok (.iconst 5, 1) := by decide +kernel
theorem dX5_gather_78 : decode cX5_gather 78 = .ok (.iadd, 1) := by decide +kernel
theorem dX5_gather_79 : decode cX5_gather 79 = .ok (.aload_n 0, 1) := by decide +kernel
theorem dX5_gather_80 : decode cX5_gather 80 = .ok (.iload_n 3, 1) := by decide +kernel
theorem dX5_gather_81 : decode cX5_gather 81 = .ok (.bipush 8, 2) := by decide +kernel
theorem dX5_gather_83 : decode cX5_gather 83 = .ok (.idiv, 1) := by decide +kernel
theorem dX5_gather_84 : decode cX5_gather 84 = .ok (.iload_n 3, 1) := by decide +kernel
theorem dX5_gather_85 : decode cX5_gather 85 = .ok (.bipush 8, 2) := by decide +kernel
theorem dX5_gather_87 : decode cX5_gather 87 = .ok (.irem, 1) := by decide +kernel
theorem dX5_gather_88 : decode cX5_gather 88 = .ok (.iconst 0, 1) := by decide +kernel
theorem dX5_gather_89 : decode cX5_gather 89 = .ok (.invokevirtual 113, 3) := by decide +kernel
theorem dX5_gather_92 : decode cX5_gather 92 = .ok (.iload_n 1, 1) := by decide +kernel
theorem dX5_gather_93 : decode cX5_gather 93 = .ok (.iadd, 1) := by decide +kernel
theorem dX5_gather_94 : decode cX5_gather 94 = .ok (.iastore, 1) := by decide +kernel
theorem dX5_gather_95 : decode cX5_gather 95 = .ok (.aload_n 0, 1) := by decide +kernel
theorem dX5_gather_96 : decode cX5_gather 96 = .ok (.getfield 45, 3) := by decide +kernel
theorem dX5_gather_99 : decode cX5_gather 99 = .ok (.bipush 7, 2) := by decide +kernel
theorem dX5_gather_101 : decode cX5_gather 101 = .ok (.iload_n 2, 1) := by decide +kernel
theorem dX5_gather_102 : decode cX5_gather 102 = .ok (.imul, 1) := by decide +kernel
theorem dX5_gather_103 : decode cX5_gather 103 = .ok (.bipush 6, 2) := by decide +kernel
theorem dX5_gather_105 : decode cX5_gather 105 = .ok (.iadd, 1) := by decide +kernel
theorem dX5_gather_106 : decode cX5_gather 106 = .ok (.aload_n 0, 1) := by decide +kernel
theorem dX5_gather_107 : decode cX5_gather 107 = .ok (.iload_n 3, 1) := by decide +kernel
theorem dX5_gather_108 : decode cX5_gather 108 = .ok (.bipush 8, 2) := by decide +kernel
theorem dX5_gather_110 : decode cX5_gather 110 = .ok (.idiv, 1) := by decide +kernel
theorem dX5_gather_111 : decode cX5_gather 111 = .ok (.iload_n 3, 1) := by decide +kernel
theorem dX5_gather_112 : decode cX5_gather 112 = .ok (.bipush 8, 2) := by decide +kernel
theorem dX5_gather_114 : decode cX5_gather 114 = .ok (.irem, 1) := by decide +kernel
theorem dX5_gather_115 : decode cX5_gather 115 = .ok (.iconst 1, 1) := by decide +kernel
theorem dX5_gather_116 : decode cX5_gather 116 = .ok (.invokevirtual 113, 3) := by decide +kernel
theorem dX5_gather_119 : decode cX5_gather 119 = .ok (.iload_n 1, 1) := by decide +kernel
theorem dX5_gather_120 : decode cX5_gather 120 = .ok (.iadd, 1) := by decide +kernel
theorem dX5_gather_121 : decode cX5_gather 121 = .ok (.iastore, 1) := by decide +kernel
theorem dX5_gather_122 : decode cX5_gather 122 = .ok (.iload_n 2, 1) := by decide +kernel
theorem dX5_gather_123 : decode cX5_gather 123 = .ok (.istore 4, 2) := by decide +kernel
theorem dX5_gather_125 : decode cX5_gather 125 = .ok (.iload 4, 2) := by decide +kernel
theorem dX5_gather_127 : decode cX5_gather 127 = .ok (.ifCond .le 32, 3) := by decide +kernel
theorem dX5_gather_130 : decode cX5_gather 130 = .ok (.aload_n 0, 1) := by decide +kernel
theorem dX5_gather_131 : decode cX5_gather 131 = .ok (.iload 4, 2) := by decide +kernel
theorem dX5_gather_133 : decode cX5_gather 133 = .ok (.iload 4, 2) := by decide +kernel
theorem dX5_gather_135 : decode cX5_gather 135 = .ok (.iconst 1, 1) := by decide +kernel
theorem dX5_gather_136 : decode cX5_gather 136 = .ok (.isub, 1) := by decide +kernel
theorem dX5_gather_137 : decode cX5_gather 137 = .ok (.invokevirtual 132, 3) := by decide +kernel
theorem dX5_gather_140 : decode cX5_gather 140 = .ok (.ifCond .eq 19, 3) := by decide +kernel
theorem dX5_gather_143 : decode cX5_gather 143 = .ok (.aload_n 0, 1) := by decide +kernel
theorem dX5_gather_144 : decode cX5_gather 144 = .ok (.iload 4, 2) := by decide +kernel
theorem dX5_gather_146 : decode cX5_gather 146 = .ok (.iload 4, 2) := by decide +kernel
theorem dX5_gather_148 : decode cX5_gather 148 = .ok (.iconst 1, 1) := by decide +kernel
theorem dX5_gather_149 : decode cX5_gather 149 = .ok (.isub, 1) := by decide +kernel
theorem dX5_gather_150 : decode cX5_gather 150 = .ok (.invokevirtual 135, 3) := by decide +kernel
theorem dX5_gather_153 : decode cX5_gather 153 = .ok (.iinc 4 (-1), 3) := by decide +kernel
theorem dX5_gather_156 : decode cX5_gather 156 = .ok (.goto (-31), 3) := by decide +kernel
theorem dX5_gather_159 : decode cX5_gather 159 = .ok (.iinc 2 1, 3) := by decide +kernel
theorem dX5_gather_162 : decode cX5_gather 162 = .ok (.iinc 3 1, 3) := by decide +kernel
theorem dX5_gather_165 : decode cX5_gather 165 = .ok (.goto (-161), 3) := by decide +kernel
theorem dX5_gather_168 : decode cX5_gather 168 = .ok (.iload_n 2, 1) := by decide +kernel
theorem dX5_gather_169 : decode cX5_gather 169 = .ok (.ireturn, 1) := by decide +kernel
set_option maxRecDepth 20000 in
theorem ggX5_lay_X5_in : GoodIn wsX5_lay wsX5_in := goodIn_r _ [11] (by decide +kernel) (by decide +kernel)
set_option maxRecDepth 20000 in
theorem gX5_lay_X5_in : GoodIn wsX5_lay (va_wsS RX5 48 yX5_in wsX5_in) := goodIn_app (goodIn_of _ (by decide +kernel)) ggX5_lay_X5_in
set_option maxRecDepth 20000 in
theorem ggX5_lay_X5_gather : GoodIn wsX5_lay wsX5_gather := goodIn_r _ [15, 3, 16, 17, 18, 10, 19, 20, 21, 22, 23, 24, 25, 26, 27, 28, 29, 30, 31, 32, 33, 34, 35, 36, 37, 38, 39, 40, 41, 42, 43, 44, 45, 46, 47, 48, 49, 50, 51, 52, 53, 54, 55, 56, 57, 58, 59, 60, 61, 62, 63, 64, 65] (by decide +kernel) (by decide +kernel)
set_option maxRecDepth 20000 in
theorem gX5_lay_X5_gather : GoodIn wsX5_lay (wsV RX5 143 RX5 yX5_gather wsX5_gather) := goodIn_app (goodIn_of _ (by decide +kernel)) ggX5_lay_X5_gather
theorem dX5_lay_0 : decode cX5_lay 0 = .ok (.iload_n 1, 1) := by decide +kernel
theorem dX5_lay_1 : decode cX5_lay 1 = .ok (.i2l, 1) := by decide +kernel
theorem dX5_lay_2 : decode cX5_lay 2 = .ok (.lconst 1, 1) := by decide +kernel
theorem dX5_lay_3 : decode cX5_lay 3 = .ok (.ldc2_w 139, 3) := by decide +kernel
theorem dX5_lay_6 : decode cX5_lay 6 = .ok (.invokestatic 48, 3) := by decide +kernel
theorem dX5_lay_9 : decode cX5_lay 9 = .ok (.ifCond .eq 27, 3) := by decide +kernel
theorem dX5_lay_12 : decode cX5_lay 12 = .ok (.iload_n 2, 1) := by decide +kernel
theorem dX5_lay_13 : decode cX5_lay 13 = .ok (.i2l, 1) := by decide +kernel
theorem dX5_lay_14 : decode cX5_lay 14 = .ok (.lconst 1, 1) := by decide +kernel
theorem dX5_lay_15 : decode cX5_lay 15 = .ok (.ldc2_w 139, 3) := by decide +kernel
theorem dX5_lay_18 : decode cX5_lay 18 = .ok (.invokestatic 48, 3) := by decide +kernel
theorem dX5_lay_21 : decode cX5_lay 21 = .ok (.ifCond .eq 15, 3) := by decide +kernel
theorem dX5_lay_24 : decode cX5_lay 24 = .ok (.iload_n 3, 1) := by decide +kernel
theorem dX5_lay_25 : decode cX5_lay 25 = .ok (.i2l, 1) := by decide +kernel
theorem dX5_lay_26 : decode cX5_lay 26 = .ok (.lconst 0, 1) := by decide +kernel
theorem dX5_lay_27 : decode cX5_lay 27 = .ok (.ldc2_w 141, 3) := by decide +kernel
theorem dX5_lay_30 : decode cX5_lay 30 = .ok (.invokestatic 48, 3) := by decide +kernel
theorem dX5_lay_33 : decode cX5_lay 33 = .ok (.ifCond .ne 6, 3) := by decide +kernel
theorem dX5_lay_36 : decode cX5_lay 36 = .ok (.bipush (-2), 2) := by decide +kernel
theorem dX5_lay_38 : decode cX5_lay 38 = .ok (.ireturn, 1) := by decide +kernel
theorem dX5_lay_39 : decode cX5_lay 39 = .ok (.aload_n 0, 1) := by decide +kernel
theorem dX5_lay_40 : decode cX5_lay 40 = .ok (.iload_n 3, 1) := by decide +kernel
theorem dX5_lay_41 : decode cX5_lay 41 = .ok (.invokevirtual 143, 3) := by decide +kernel
theorem dX5_lay_44 : decode cX5_lay 44 = .ok (.istore 4, 2) := by decide +kernel
theorem dX5_lay_46 : decode cX5_lay 46 = .ok (.iconst 0, 1) := by decide +kernel
theorem dX5_lay_47 : decode cX5_lay 47 = .ok (.istore 5, 2) := by decide +kernel
theorem dX5_lay_49 : decode cX5_lay 49 = .ok (.iload 5, 2) := by decide +kernel
theorem dX5_lay_51 : decode cX5_lay 51 = .ok (.iload 4, 2) := by decide +kernel
theorem dX5_lay_53 : decode cX5_lay 53 = .ok (.if_icmp .ge 45, 3) := by decide +kernel
theorem dX5_lay_56 : decode cX5_lay 56 = .ok (.aload_n 0, 1) := by decide +kernel
theorem dX5_lay_57 : decode cX5_lay 57 = .ok (.getfield 45, 3) := by decide +kernel
theorem dX5_lay_60 : decode cX5_lay 60 = .ok (.bipush 7, 2) := by decide +kernel
theorem dX5_lay_62 : decode cX5_lay 62 = .ok (.iload 5, 2) := by decide +kernel
theorem dX5_lay_64 : decode cX5_lay 64 = .ok (.imul, 1) := by decide +kernel
theorem dX5_lay_65 : decode cX5_lay 65 = .ok (.iconst 5, 1) := by decide +kernel
theorem dX5_lay_66 : decode cX5_lay 66 = .ok (.iadd, 1) := by decide +kernel
theorem dX5_lay_67 : decode cX5_lay 67 = .ok (.iaload, 1) := by decide +kernel
theorem dX5_lay_68 : decode cX5_lay 68 = .ok (.iload_n 1, 1) := by decide +kernel
theorem dX5_lay_69 : decode cX5_lay 69 = .ok (.if_icmp .gt 20, 3) := by decide +kernel
theorem dX5_lay_72 : decode cX5_lay 72 = .ok (.aload_n 0, 1) := by decide +kernel
theorem dX5_lay_73 : decode cX5_lay 73 = .ok (.getfield 45, 3) := by decide +kernel
theorem dX5_lay_76 : decode cX5_lay 76 = .ok (.bipush 7, 2) := by decide +kernel
theorem dX5_lay_78 : decode cX5_lay 78 = .ok (.iload 5, 2) := by decide +kernel
theorem dX5_lay_80 : decode cX5_lay 80 = .ok (.imul, 1) := by decide +kernel
theorem dX5_lay_81 : decode cX5_lay 81 = .ok (.bipush 6, 2) := by decide +kernel
theorem dX5_lay_83 : decode cX5_lay 83 = .ok (.iadd, 1) := by decide +kernel
theorem dX5_lay_84 : decode cX5_lay 84 = .ok (.iaload, 1) := by decide +kernel
theorem dX5_lay_85 : decode cX5_lay 85 = .ok (.iload_n 2, 1) := by decide +kernel
theorem dX5_lay_86 : decode cX5_lay 86 = .ok (.if_icmp .le 6, 3) := by decide +kernel
theorem dX5_lay_89 : decode cX5_lay 89 = .ok (.bipush (-5), 2) := by decide +kernel
theorem dX5_lay_91 : decode cX5_lay 91 = .ok (.ireturn, 1) := by decide +kernel
theorem dX5_lay_92 : decode cX5_lay 92 = .ok (.iinc 5 1, 3) := by decide +kernel
theorem dX5_lay_95 : decode cX5_lay 95 = .ok (.goto (-46), 3) := by decide +kernel
theorem dX5_lay_98 : decode cX5_lay 98 = .ok (.iconst 0, 1) := by decide +kernel
theorem dX5_lay_99 : decode cX5_lay 99 = .ok (.istore 5, 2) := by decide +kernel
theorem dX5_lay_101 : decode cX5_lay 101 = .ok (.iconst 0, 1) := by decide +kernel
theorem dX5_lay_102 : decode cX5_lay 102 = .ok (.istore 6, 2) := by decide +kernel
theorem dX5_lay_104 : decode cX5_lay 104 = .ok (.iconst 0, 1) := by decide +kernel
theorem dX5_lay_105 : decode cX5_lay 105 = .ok (.istore 7, 2) := by decide +kernel
theorem dX5_lay_107 : decode cX5_lay 107 = .ok (.iconst 0, 1) := by decide +kernel
theorem dX5_lay_108 : decode cX5_lay 108 = .ok (.istore 8, 2) := by decide +kernel
theorem dX5_lay_110 : decode cX5_lay 110 = .ok (.iconst 0, 1) := by decide +kernel
theorem dX5_lay_111 : decode cX5_lay 111 = .ok (.istore 9, 2) := by decide +kernel
theorem dX5_lay_113 : decode cX5_lay 113 = .ok (.iconst 0, 1) := by decide +kernel
theorem dX5_lay_114 : decode cX5_lay 114 = .ok (.istore 10, 2) := by decide +kernel
theorem dX5_lay_116 : decode cX5_lay 116 = .ok (.iload 10, 2) := by decide +kernel
theorem dX5_lay_118 : decode cX5_lay 118 = .ok (.iload 4, 2) := by decide +kernel
theorem dX5_lay_120 : decode cX5_lay 120 = .ok (.if_icmp .ge 153, 3) := by decide +kernel
theorem dX5_lay_123 : decode cX5_lay 123 = .ok (.aload_n 0, 1) := by decide +kernel
theorem dX5_lay_124 : decode cX5_lay 124 = .ok (.getfield 45, 3) := by decide +kernel
theorem dX5_lay_127 : decode cX5_lay 127 = .ok (.bipush 7, 2) := by decide +kernel
theorem dX5_lay_129 : decode cX5_lay 129 = .ok (.iload 10, 2) := by decide +kernel
theorem dX5_lay_131 : decode cX5_lay 131 = .ok (.imul, 1) := by decide +kernel
theorem dX5_lay_132 : decode cX5_lay 132 = .ok (.iconst 5, 1) := by decide +kernel
theorem dX5_lay_133 : decode cX5_lay 133 = .ok (.iadd, 1) := by decide +kernel
theorem dX5_lay_134 : decode cX5_lay 134 = .ok (.iaload, 1) := by decide +kernel
theorem dX5_lay_135 : decode cX5_lay 135 = .ok (.istore 11, 2) := by decide +kernel
theorem dX5_lay_137 : decode cX5_lay 137 = .ok (.aload_n 0, 1) := by decide +kernel
theorem dX5_lay_138 : decode cX5_lay 138 = .ok (.getfield 45, 3) := by decide +kernel
theorem dX5_lay_141 : decode cX5_lay 141 = .ok (.bipush 7, 2) := by decide +kernel
theorem dX5_lay_143 : decode cX5_lay 143 = .ok (.iload 10, 2) := by decide +kernel
theorem dX5_lay_145 : decode cX5_lay 145 = .ok (.imul, 1) := by decide +kernel
theorem dX5_lay_146 : decode cX5_lay 146 = .ok (.bipush 6, 2) := by decide +kernel
theorem dX5_lay_148 : decode cX5_lay 148 = .ok (.iadd, 1) := by decide +kernel
theorem dX5_lay_149 : decode cX5_lay 149 = .ok (.iaload, 1) := by decide +kernel
theorem dX5_lay_150 : decode cX5_lay 150 = .ok (.istore 12, 2) := by decide +kernel
theorem dX5_lay_152 : decode cX5_lay 152 = .ok (.iload 10, 2) := by decide +kernel
theorem dX5_lay_154 : decode cX5_lay 154 = .ok (.ifCond .le 40, 3) := by decide +kernel
theorem dX5_lay_157 : decode cX5_lay 157 = .ok (.iload 6, 2) := by decide +kernel
theorem dX5_lay_159 : decode cX5_lay 159 = .ok (.iload 11, 2) := by decide +kernel
theorem dX5_lay_161 : decode cX5_lay 161 = .ok (.iadd, 1) := by decide +kernel
theorem dX5_lay_162 : decode cX5_lay 162 = .ok (.iload_n 1, 1) := by decide +kernel
theorem dX5_lay_163 : decode cX5_lay 163 = .ok (.if_icmp .le 31, 3) := by decide +kernel
theorem dX5_lay_166 : decode cX5_lay 166 = .ok (.iconst 0, 1) := by decide +kernel
theorem dX5_lay_167 : decode cX5_lay 167 = .ok (.istore 6, 2) := by decide +kernel
theorem dX5_lay_169 : decode cX5_lay 169 = .ok (.iload 7, 2) := by decide +kernel
theorem dX5_lay_171 : decode cX5_lay 171 = .ok (.iload 8, 2) := by decide +kernel
theorem dX5_lay_173 : decode cX5_lay 173 = .ok (.iadd, 1) := by decide +kernel
theorem dX5_lay_174 : decode cX5_lay 174 = .ok (.istore 7, 2) := by decide +kernel
theorem dX5_lay_176 : decode cX5_lay 176 = .ok (.iconst 0, 1) := by decide +kernel
theorem dX5_lay_177 : decode cX5_lay 177 = .ok (.istore 8, 2) := by decide +kernel
theorem dX5_lay_179 : decode cX5_lay 179 = .ok (.iload 7, 2) := by decide +kernel
theorem dX5_lay_181 : decode cX5_lay 181 = .ok (.iload 12, 2) := by decide +kernel
theorem dX5_lay_183 : decode cX5_lay 183 = .ok (.iadd, 1) := by decide +kernel
theorem dX5_lay_184 : decode cX5_lay 184 = .ok (.iload_n 2, 1) := by decide +kernel
theorem dX5_lay_185 : decode cX5_lay 185 = .ok (.if_icmp .le 9, 3) := by decide +kernel
theorem dX5_lay_188 : decode cX5_lay 188 = .ok (.iinc 5 1, 3) := by decide +kernel
theorem dX5_lay_191 : decode cX5_lay 191 = .ok (.iconst 0, 1) := by decide +kernel
theorem dX5_lay_192 : decode cX5_lay 192 = .ok (.istore 7, 2) := by decide +kernel
theorem dX5_lay_194 : decode cX5_lay 194 = .ok (.iload 6, 2) := by decide +kernel
theorem dX5_lay_196 : decode cX5_lay 196 = .ok (.ifCond .ne 8, 3) := by decide +kernel
theorem dX5_lay_199 : decode cX5_lay 199 = .ok (.iload 12, 2) := by decide +kernel
theorem dX5_lay_201 : decode cX5_lay 201 = .ok (.goto 5, 3) := by decide +kernel
theorem dX5_lay_204 : decode cX5_lay 204 = .ok (.iload 8, 2) := by decide +kernel
theorem dX5_lay_206 : decode cX5_lay 206 = .ok (.istore 8, 2) := by decide +kernel
theorem dX5_lay_208 : decode cX5_lay 208 = .ok (.aload_n 0, 1) := by decide +kernel
theorem dX5_lay_209 : decode cX5_lay 209 = .ok (.getfield 45, 3) := by decide +kernel
theorem dX5_lay_212 : decode cX5_lay 212 = .ok (.bipush 7, 2) := by decide +kernel
theorem dX5_lay_214 : decode cX5_lay 214 = .ok (.iload 10, 2) := by decide +kernel
theorem dX5_lay_216 : decode cX5_lay 216 = .ok (.imul, 1) := by decide +kernel
theorem dX5_lay_217 : decode cX5_lay 217 = .ok (.iconst 2, 1) := by decide +kernel
theorem dX5_lay_218 : decode cX5_lay 218 = .ok (.iadd, 1) := by decide +kernel
theorem dX5_lay_219 : decode cX5_lay 219 = .ok (.iload 5, 2) := by decide +kernel
theorem dX5_lay_221 : decode cX5_lay 221 = .ok (.iastore, 1) := by decide +kernel
theorem dX5_lay_222 : decode cX5_lay 222 = .ok (.aload_n 0, 1) := by decide +kernel
theorem dX5_lay_223 : decode cX5_lay 223 = .ok (.getfield 45, 3) := by decide +kernel
theorem dX5_lay_226 : decode cX5_lay 226 = .ok (.bipush 7, 2) := by decide +kernel
theorem dX5_lay_228 : decode cX5_lay 228 = .ok (.iload 10, 2) := by decide +kernel
theorem dX5_lay_230 : decode cX5_lay 230 = .ok (.imul, 1) := by decide +kernel
theorem dX5_lay_231 : decode cX5_lay 231 = .ok (.iconst 3, 1) := by decide +kernel
theorem dX5_lay_232 : decode cX5_lay 232 = .ok (.iadd, 1) := by decide +kernel
theorem dX5_lay_233 : decode cX5_lay 233 = .ok (.iload 6, 2) := by decide +kernel
theorem dX5_lay_235 : decode cX5_lay 235 = .ok (.iastore, 1) := by decide +kernel
theorem dX5_lay_236 : decode cX5_lay 236 = .ok (.aload_n 0, 1) := by decide +kernel
theorem dX5_lay_237 : decode cX5_lay 237 = .ok (.getfield 45, 3) := by decide +kernel
theorem dX5_lay_240 : decode cX5_lay 240 = .ok (.bipush 7, 2) := by decide +kernel
theorem dX5_lay_242 : decode cX5_lay 242 = .ok (.iload 10, 2) := by decide +kernel
theorem dX5_lay_244 : decode cX5_lay 244 = .ok (.imul, 1) := by decide +kernel
theorem dX5_lay_245 : decode cX5_lay 245 = .ok (.iconst 4, 1) := by decide +kernel
theorem dX5_lay_246 : decode cX5_lay 246 = .ok (.iadd, 1) := by decide +kernel
theorem dX5_lay_247 : decode cX5_lay 247 = .ok (.iload 7, 2) := by decide +kernel
theorem dX5_lay_249 : decode cX5_lay 249 = .ok (.iastore, 1) := by decide +kernel
theorem dX5_lay_250 : decode cX5_lay 250 = .ok (.iload 6, 2) := by decide +kernel
theorem dX5_lay_252 : decode cX5_lay 252 = .ok (.iload 11, 2) := by decide +kernel
theorem dX5_lay_254 : decode cX5_lay 254 = .ok (.iadd, 1) := by decide +kernel
theorem dX5_lay_255 : decode cX5_lay 255 = .ok (.istore 6, 2) := by decide +kernel
theorem dX5_lay_257 : decode cX5_lay 257 = .ok (.iload 9, 2) := by decide +kernel
theorem dX5_lay_259 : decode cX5_lay 259 = .ok (.iload 11, 2) := by decide +kernel
theorem dX5_lay_261 : decode cX5_lay 261 = .ok (.iload 12, 2) := by decide +kernel
theorem dX5_lay_263 : decode cX5_lay 263 = .ok (.imul, 1) := by decide +kernel
theorem dX5_lay_264 : decode cX5_lay 264 = .ok (.iadd, 1) := by decide +kernel
theorem dX5_lay_265 : decode cX5_lay 265 = .ok (.istore 9, 2) := by decide +kernel
theorem dX5_lay_267 : decode cX5_lay 267 = .ok (.iinc 10 1, 3) := by decide +kernel
theorem dX5_lay_270 : decode cX5_lay 270 = .ok (.goto (-154), 3) := by decide +kernel
theorem dX5_lay_273 : decode cX5_lay 273 = .ok (.iconst 0, 1) := by decide +kernel
theorem dX5_lay_274 : decode cX5_lay 274 = .ok (.istore 10, 2) := by decide +kernel
theorem dX5_lay_276 : decode cX5_lay 276 = .ok (.iload 10, 2) := by decide +kernel
theorem dX5_lay_278 : decode cX5_lay 278 = .ok (.bipush 7, 2) := by decide +kernel
theorem dX5_lay_280 : decode cX5_lay 280 = .ok (.iload 4, 2) := by decide +kernel
theorem dX5_lay_282 : decode cX5_lay 282 = .ok (.imul, 1) := by decide +kernel
theorem dX5_lay_283 : decode cX5_lay 283 = .ok (.if_icmp .ge 23, 3) := by decide +kernel
theorem dX5_lay_286 : decode cX5_lay 286 = .ok (.aload_n 0, 1) := by decide +kernel
theorem dX5_lay_287 : decode cX5_lay 287 = .ok (.getfield 42, 3) := by decide +kernel
theorem dX5_lay_290 : decode cX5_lay 290 = .ok (.iload 10, 2) := by decide +kernel
theorem dX5_lay_292 : decode cX5_lay 292 = .ok (.aload_n 0, 1) := by decide +kernel
theorem dX5_lay_293 : decode cX5_lay 293 = .ok (.getfield 45, 3) := by decide +kernel
theorem dX5_lay_296 : decode cX5_lay 296 = .ok (.iload 10, 2) := by decide +kernel
theorem dX5_lay_298 : decode cX5_lay 298 = .ok (.iaload, 1) := by decide +kernel
theorem dX5_lay_299 : decode cX5_lay 299 = .ok (.iastore, 1) := by decide +kernel
theorem dX5_lay_300 : decode cX5_lay 300 = .ok (.iinc 10 1, 3) := by decide +kernel
theorem dX5_lay_303 : decode cX5_lay 303 = .ok (.goto (-27), 3) := by decide +kernel
theorem dX5_lay_306 : decode cX5_lay 306 = .ok (.aload_n 0, 1) := by decide +kernel
theorem dX5_lay_307 : decode cX5_lay 307 = .ok (.iload 4, 2) := by decide +kernel
theorem dX5_lay_309 : decode cX5_lay 309 = .ok (.putfield 146, 3) := by decide +kernel
theorem dX5_lay_312 : decode cX5_lay 312 = .ok (.aload_n 0, 1) := by decide +kernel
theorem dX5_lay_313 : decode cX5_lay 313 = .ok (.iload 9, 2) := by decide +kernel
theorem dX5_lay_315 : decode cX5_lay 315 = .ok (.iload_n 1, 1) := by decide +kernel
theorem dX5_lay_316 : decode cX5_lay 316 = .ok (.iload_n 2, 1) := by decide +kernel
theorem dX5_lay_317 : decode cX5_lay 317 = .ok (.imul, 1) := by decide +kernel
theorem dX5_lay_318 : decode cX5_lay 318 = .ok (.iadd, 1) := by decide +kernel
theorem dX5_lay_319 : decode cX5_lay 319 = .ok (.iconst 1, 1) := by decide +kernel
theorem dX5_lay_320 : decode cX5_lay 320 = .ok (.isub, 1) := by decide +kernel
theorem dX5_lay_321 : decode cX5_lay 321 = .ok (.iload_n 1, 1) := by decide +kernel
theorem dX5_lay_322 : decode cX5_lay 322 = .ok (.iload_n 2, 1) := by decide +kernel
theorem dX5_lay_323 : decode cX5_lay 323 = .ok (.imul, 1) := by decide +kernel
theorem dX5_lay_324 : decode cX5_lay 324 = .ok (.idiv, 1) := by decide +kernel
theorem dX5_lay_325 : decode cX5_lay 325 = .ok (.putfield 149, 3) := by decide +kernel
theorem dX5_lay_328 : decode cX5_lay 328 = .ok (.aload_n 0, 1) := by decide +kernel
theorem dX5_lay_329 : decode cX5_lay 329 = .ok (.iconst 1, 1) := by decide +kernel
theorem dX5_lay_330 : decode cX5_lay 330 = .ok (.putfield 54, 3) := by decide +kernel
theorem dX5_lay_333 : decode cX5_lay 333 = .ok (.iload 4, 2) := by decide +kernel
theorem dX5_lay_335 : decode cX5_lay 335 = .ok (.ifCond .ne 7, 3) := by decide +kernel
theorem dX5_lay_338 : decode cX5_lay 338 = .ok (.iconst 0, 1) := by decide +kernel
theorem dX5_lay_339 : decode cX5_lay 339 = .ok (.goto 7, 3) := by decide +kernel
theorem dX5_lay_342 : decode cX5_lay 342 = .ok (.iload 5, 2) := by decide +kernel
theorem dX5_lay_344 : decode cX5_lay 344 = .ok (.iconst 1, 1) := by decide +kernel
theorem dX5_lay_345 : decode cX5_lay 345 = .ok (.iadd, 1) := by decide +kernel
theorem dX5_lay_346 : decode cX5_lay 346 = .ok (.ireturn, 1) := by decide +kernel
set_option maxRecDepth 20000 in
theorem ggX5_laid_X5_in : GoodIn wsX5_laid wsX5_in := goodIn_r _ [8] (by decide +kernel) (by decide +kernel)
set_option maxRecDepth 20000 in
theorem gX5_laid_X5_in : GoodIn wsX5_laid (va_wsS RX5 48 yX5_in wsX5_in) := goodIn_app (goodIn_of _ (by decide +kernel)) ggX5_laid_X5_in
theorem dX5_laid_0 : decode cX5_laid 0 = .ok (.aload_n 0, 1) := by decide +kernel
theorem dX5_laid_1 : decode cX5_laid 1 = .ok (.getfield 54, 3) := by decide +kernel
theorem dX5_laid_4 : decode cX5_laid 4 = .ok (.ifCond .ne 6, 3) := by decide +kernel
theorem dX5_laid_7 : decode cX5_laid 7 = .ok (.bipush (-3), 2) := by decide +kernel
theorem dX5_laid_9 : decode cX5_laid 9 = .ok (.ireturn, 1) := by decide +kernel
theorem dX5_laid_10 : decode cX5_laid 10 = .ok (.iload_n 2, 1) := by decide +kernel
theorem dX5_laid_11 : decode cX5_laid 11 = .ok (.i2l, 1) := by decide +kernel
theorem dX5_laid_12 : decode cX5_laid 12 = .ok (.lconst 0, 1) := by decide +kernel
theorem dX5_laid_13 : decode cX5_laid 13 = .ok (.ldc2_w 152, 3) := by decide +kernel
theorem dX5_laid_16 : decode cX5_laid 16 = .ok (.invokestatic 48, 3) := by decide +kernel
theorem dX5_laid_19 : decode cX5_laid 19 = .ok (.ifCond .ne 6, 3) := by decide +kernel
theorem dX5_laid_22 : decode cX5_laid 22 = .ok (.bipush (-2), 2) := by decide +kernel
theorem dX5_laid_24 : decode cX5_laid 24 = .ok (.ireturn, 1) := by decide +kernel
theorem dX5_laid_25 : decode cX5_laid 25 = .ok (.iload_n 1, 1) := by decide +kernel
theorem dX5_laid_26 : decode cX5_laid 26 = .ok (.i2l, 1) := by decide +kernel
theorem dX5_laid_27 : decode cX5_laid 27 = .ok (.lconst 0, 1) := by decide +kernel
theorem dX5_laid_28 : decode cX5_laid 28 = .ok (.aload_n 0, 1) := by decide +kernel
theorem dX5_laid_29 : decode cX5_laid 29 = .ok (.getfield 146, 3) := by decide +kernel
theorem dX5_laid_32 : decode cX5_laid 32 = .ok (.iconst 1, 1) := by decide +kernel
theorem dX5_laid_33 : decode cX5_laid 33 = .ok (.isub, 1) := by decide +kernel
theorem dX5_laid_34 : decode cX5_laid 34 = .ok (.i2l, 1) := by decide +kernel
theorem dX5_laid_35 : decode cX5_laid 35 = .ok (.invokestatic 48, 3) := by decide +kernel
theorem dX5_laid_38 : decode cX5_laid 38 = .ok (.ifCond .eq 17, 3) := by decide +kernel
theorem dX5_laid_41 : decode cX5_laid 41 = .ok (.aload_n 0, 1) := by decide +kernel
theorem dX5_laid_42 : decode cX5_laid 42 = .ok (.getfield 42, 3) := by decide +kernel
theorem dX5_laid_45 : decode cX5_laid 45 = .ok (.bipush 7, 2) := by decide +kernel
theorem dX5_laid_47 : decode cX5_laid 47 = .ok (.iload_n 1, 1) := by decide +kernel
theorem dX5_laid_48 : decode cX5_laid 48 = .ok (.imul, 1) := by decide +kernel
theorem dX5_laid_49 : decode cX5_laid 49 = .ok (.iload_n 2, 1) := by decide +kernel
theorem dX5_laid_50 : decode cX5_laid 50 = .ok (.iadd, 1) := by decide +kernel
theorem dX5_laid_51 : decode cX5_laid 51 = .ok (.iaload, 1) := by decide +kernel
theorem dX5_laid_52 : decode cX5_laid 52 = .ok (.goto 5, 3) := by decide +kernel
theorem dX5_laid_55 : decode cX5_laid 55 = .ok (.bipush (-6), 2) := by decide +kernel
theorem dX5_laid_57 : decode cX5_laid 57 = .ok (.ireturn, 1) := by decide +kernel
theorem dX5_least_0 : decode cX5_least 0 = .ok (.aload_n 0, 1) := by decide +kernel
theorem dX5_least_1 : decode cX5_least 1 = .ok (.getfield 54, 3) := by decide +kernel
theorem dX5_least_4 : decode cX5_least 4 = .ok (.ifCond .eq 10, 3) := by decide +kernel
theorem dX5_least_7 : decode cX5_least 7 = .ok (.aload_n 0, 1) := by decide +kernel
theorem dX5_least_8 : decode cX5_least 8 = .ok (.getfield 149, 3) := by decide +kernel
theorem dX5_least_11 : decode cX5_least 11 = .ok (.goto 5, 3) := by decide +kernel
theorem dX5_least_14 : decode cX5_least 14 = .ok (.bipush (-3), 2) := by decide +kernel
theorem dX5_least_16 : decode cX5_least 16 = .ok (.ireturn, 1) := by decide +kernel
theorem dJ6_bitCount_0f7a4_0 : decode cJ6_bitCount_0f7a4 0 = .ok (.iload_n 0, 1) := by decide +kernel
theorem dJ6_bitCount_0f7a4_1 : decode cJ6_bitCount_0f7a4 1 = .ok (.iload_n 0, 1) := by decide +kernel
theorem dJ6_bitCount_0f7a4_2 : decode cJ6_bitCount_0f7a4 2 = .ok (.iconst 1, 1) := by decide +kernel
theorem dJ6_bitCount_0f7a4_3 : decode cJ6_bitCount_0f7a4 3 = .ok (.iushr, 1) := by decide +kernel
theorem dJ6_bitCount_0f7a4_4 : decode cJ6_bitCount_0f7a4 4 = .ok (.ldc_w 265, 3) := by decide +kernel
theorem dJ6_bitCount_0f7a4_7 : decode cJ6_bitCount_0f7a4 7 = .ok (.iand, 1) := by decide +kernel
theorem dJ6_bitCount_0f7a4_8 : decode cJ6_bitCount_0f7a4 8 = .ok (.isub, 1) := by decide +kernel
theorem dJ6_bitCount_0f7a4_9 : decode cJ6_bitCount_0f7a4 9 = .ok (.istore_n 0, 1) := by decide +kernel
theorem dJ6_bitCount_0f7a4_10 : decode cJ6_bitCount_0f7a4 10 = .ok (.iload_n 0, 1) := by decide +kernel
theorem dJ6_bitCount_0f7a4_11 : decode cJ6_bitCount_0f7a4 11 = .ok (.ldc_w 266, 3) := by decide +kernel
theorem dJ6_bitCount_0f7a4_14 : decode cJ6_bitCount_0f7a4 14 = .ok (.iand, 1) := by decide +kernel
theorem dJ6_bitCount_0f7a4_15 : decode cJ6_bitCount_0f7a4 15 = .ok (.iload_n 0, 1) := by decide +kernel
theorem dJ6_bitCount_0f7a4_16 : decode cJ6_bitCount_0f7a4 16 = .ok (.iconst 2, 1) := by decide +kernel
theorem dJ6_bitCount_0f7a4_17 : decode cJ6_bitCount_0f7a4 17 = .ok (.iushr, 1) := by decide +kernel
theorem dJ6_bitCount_0f7a4_18 : decode cJ6_bitCount_0f7a4 18 = .ok (.ldc_w 266, 3) := by decide +kernel
theorem dJ6_bitCount_0f7a4_21 : decode cJ6_bitCount_0f7a4 21 = .ok (.iand, 1) := by decide +kernel
theorem dJ6_bitCount_0f7a4_22 : decode cJ6_bitCount_0f7a4 22 = .ok (.iadd, 1) := by decide +kernel
theorem dJ6_bitCount_0f7a4_23 : decode cJ6_bitCount_0f7a4 23 = .ok (.istore_n 0, 1) := by decide +kernel
theorem dJ6_bitCount_0f7a4_24 : decode cJ6_bitCount_0f7a4 24 = .ok (.iload_n 0, 1) := by decide +kernel
theorem dJ6_bitCount_0f7a4_25 : decode cJ6_bitCount_0f7a4 25 = .ok (.iload_n 0, 1) := by decide +kernel
theorem dJ6_bitCount_0f7a4_26 : decode cJ6_bitCount_0f7a4 26 = .ok (.iconst 4, 1) := by decide +kernel
theorem dJ6_bitCount_0f7a4_27 : decode cJ6_bitCount_0f7a4 27 = .ok (.iushr, 1) := by decide +kernel
theorem dJ6_bitCount_0f7a4_28 : decode cJ6_bitCount_0f7a4 28 = .ok (.iadd, 1) := by decide +kernel
theorem dJ6_bitCount_0f7a4_29 : decode cJ6_bitCount_0f7a4 29 = .ok (.ldc_w 267, 3) := by decide +kernel
theorem dJ6_bitCount_0f7a4_32 : decode cJ6_bitCount_0f7a4 32 = .ok (.iand, 1) := by decide +kernel
theorem dJ6_bitCount_0f7a4_33 : decode cJ6_bitCount_0f7a4 33 = .ok (.istore_n 0, 1) := by decide +kernel
theorem dJ6_bitCount_0f7a4_34 : decode cJ6_bitCount_0f7a4 34 = .ok (.iload_n 0, 1) := by decide +kernel
theorem dJ6_bitCount_0f7a4_35 : decode cJ6_bitCount_0f7a4 35 = .ok (.iload_n 0, 1) := by decide +kernel
theorem dJ6_bitCount_0f7a4_36 : decode cJ6_bitCount_0f7a4 36 = .ok (.bipush 8, 2) := by decide +kernel
theorem dJ6_bitCount_0f7a4_38 : decode cJ6_bitCount_0f7a4 38 = .ok (.iushr, 1) := by decide +kernel
theorem dJ6_bitCount_0f7a4_39 : decode cJ6_bitCount_0f7a4 39 = .ok (.iadd, 1) := by decide +kernel
theorem dJ6_bitCount_0f7a4_40 : decode cJ6_bitCount_0f7a4 40 = .ok (.istore_n 0, 1) := by decide +kernel
theorem dJ6_bitCount_0f7a4_41 : decode cJ6_bitCount_0f7a4 41 = .ok (.iload_n 0, 1) := by decide +kernel
theorem dJ6_bitCount_0f7a4_42 : decode cJ6_bitCount_0f7a4 42 = .ok (.iload_n 0, 1) := by decide +kernel
theorem dJ6_bitCount_0f7a4_43 : decode cJ6_bitCount_0f7a4 43 = .ok (.bipush 16, 2) := by decide +kernel
theorem dJ6_bitCount_0f7a4_45 : decode cJ6_bitCount_0f7a4 45 = .ok (.iushr, 1) := by decide +kernel
theorem dJ6_bitCount_0f7a4_46 : decode cJ6_bitCount_0f7a4 46 = .ok (.iadd, 1) := by decide +kernel
theorem dJ6_bitCount_0f7a4_47 : decode cJ6_bitCount_0f7a4 47 = .ok (.istore_n 0, 1) := by decide +kernel
theorem dJ6_bitCount_0f7a4_48 : decode cJ6_bitCount_0f7a4 48 = .ok (.iload_n 0, 1) := by decide +kernel
theorem dJ6_bitCount_0f7a4_49 : decode cJ6_bitCount_0f7a4 49 = .ok (.bipush 63, 2) := by decide +kernel
theorem dJ6_bitCount_0f7a4_51 : decode cJ6_bitCount_0f7a4 51 = .ok (.iand, 1) := by decide +kernel
theorem dJ6_bitCount_0f7a4_52 : decode cJ6_bitCount_0f7a4 52 = .ok (.ireturn, 1) := by decide +kernel
theorem dJ13_bitCount_95d88_0 : decode cJ13_bitCount_95d88 0 = .ok (.lload_n 0, 1) := by decide +kernel
theorem dJ13_bitCount_95d88_1 : decode cJ13_bitCount_95d88 1 = .ok (.lload_n 0, 1) := by decide +kernel
theorem dJ13_bitCount_95d88_2 : decode cJ13_bitCount_95d88 2 = .ok (.iconst 1, 1) := by decide +kernel
theorem dJ13_bitCount_95d88_3 : decode cJ13_bitCount_95d88 3 = .ok (.lushr, 1) := by decide +kernel
theorem dJ13_bitCount_95d88_4 : decode cJ13_bitCount_95d88 4 = .ok (.ldc2_w 314, 3) := by decide +kernel
theorem dJ13_bitCount_95d88_7 : decode cJ13_bitCount_95d88 7 = .ok (.land, 1) := by decide +kernel
theorem dJ13_bitCount_95d88_8 : decode cJ13_bitCount_95d88 8 = .ok (.lsub, 1) := by decide +kernel
theorem dJ13_bitCount_95d88_9 : decode cJ13_bitCount_95d88 9 = .ok (.lstore_n 0, 1) := by decide +kernel
theorem dJ13_bitCount_95d88_10 : decode cJ13_bitCount_95d88 10 = .ok (.lload_n 0, 1) := by decide +kernel
theorem dJ13_bitCount_95d88_11 : decode cJ13_bitCount_95d88 11 = .ok (.ldc2_w 316, 3) := by decide +kernel
theorem dJ13_bitCount_95d88_14 : decode cJ13_bitCount_95d88 14 = .ok (.land, 1) := by decide +kernel
theorem dJ13_bitCount_95d88_15 : decode cJ13_bitCount_95d88 15 = .ok (.lload_n 0, 1) := by decide +kernel
theorem dJ13_bitCount_95d88_16 : decode cJ13_bitCount_95d88 16 = .ok (.iconst 2, 1) := by decide +kernel
theorem dJ13_bitCount_95d88_17 : decode cJ13_bitCount_95d88 17 = .ok (.lushr, 1) := by decide +kernel
theorem dJ13_bitCount_95d88_18 : decode cJ13_bitCount_95d88 18 = .ok (.ldc2_w 316, 3) := by decide +kernel
theorem dJ13_bitCount_95d88_21 : decode cJ13_bitCount_95d88 21 = .ok (.land, 1) := by decide +kernel
theorem dJ13_bitCount_95d88_22 : decode cJ13_bitCount_95d88 22 = .ok (.ladd, 1) := by decide +kernel
theorem dJ13_bitCount_95d88_23 : decode cJ13_bitCount_95d88 23 = .ok (.lstore_n 0, 1) := by decide +kernel
theorem dJ13_bitCount_95d88_24 : decode cJ13_bitCount_95d88 24 = .ok (.lload_n 0, 1) := by decide +kernel
theorem dJ13_bitCount_95d88_25 : decode cJ13_bitCount_95d88 25 = .ok (.lload_n 0, 1) := by decide +kernel
theorem dJ13_bitCount_95d88_26 : decode cJ13_bitCount_95d88 26 = .ok (.iconst 4, 1) := by decide +kernel
theorem dJ13_bitCount_95d88_27 : decode cJ13_bitCount_95d88 27 = .ok (.lushr, 1) := by decide +kernel
theorem dJ13_bitCount_95d88_28 : decode cJ13_bitCount_95d88 28 = .ok (.ladd, 1) := by decide +kernel
theorem dJ13_bitCount_95d88_29 : decode cJ13_bitCount_95d88 29 = .ok (.ldc2_w 318, 3) := by decide +kernel
theorem dJ13_bitCount_95d88_32 : decode cJ13_bitCount_95d88 32 = .ok (.land, 1) := by decide +kernel
theorem dJ13_bitCount_95d88_33 : decode cJ13_bitCount_95d88 33 = .ok (.lstore_n 0, 1) := by decide +kernel
theorem dJ13_bitCount_95d88_34 : decode cJ13_bitCount_95d88 34 = .ok (.lload_n 0, 1) := by decide +kernel
theorem dJ13_bitCount_95d88_35 : decode cJ13_bitCount_95d88 35 = .ok (.lload_n 0, 1) := by decide +kernel
theorem dJ13_bitCount_95d88_36 : decode cJ13_bitCount_95d88 36 = .ok (.bipush 8, 2) := by decide +kernel
theorem dJ13_bitCount_95d88_38 : decode cJ13_bitCount_95d88 38 = .ok (.lushr, 1) := by decide +kernel
theorem dJ13_bitCount_95d88_39 : decode cJ13_bitCount_95d88 39 = .ok (.ladd, 1) := by decide +kernel
theorem dJ13_bitCount_95d88_40 : decode cJ13_bitCount_95d88 40 = .ok (.lstore_n 0, 1) := by decide +kernel
theorem dJ13_bitCount_95d88_41 : decode cJ13_bitCount_95d88 41 = .ok (.lload_n 0, 1) := by decide +kernel
theorem dJ13_bitCount_95d88_42 : decode cJ13_bitCount_95d88 42 = .ok (.lload_n 0, 1) := by decide +kernel
theorem dJ13_bitCount_95d88_43 : decode cJ13_bitCount_95d88 43 = .ok (.bipush 16, 2) := by decide +kernel
theorem dJ13_bitCount_95d88_45 : decode cJ13_bitCount_95d88 45 = .ok (.lushr, 1) := by decide +kernel
theorem dJ13_bitCount_95d88_46 : decode cJ13_bitCount_95d88 46 = .ok (.ladd, 1) := by decide +kernel
theorem dJ13_bitCount_95d88_47 : decode cJ13_bitCount_95d88 47 = .ok (.lstore_n 0, 1) := by decide +kernel
theorem dJ13_bitCount_95d88_48 : decode cJ13_bitCount_95d88 48 = .ok (.lload_n 0, 1) := by decide +kernel
theorem dJ13_bitCount_95d88_49 : decode cJ13_bitCount_95d88 49 = .ok (.lload_n 0, 1) := by decide +kernel
theorem dJ13_bitCount_95d88_50 : decode cJ13_bitCount_95d88 50 = .ok (.bipush 32, 2) := by decide +kernel
theorem dJ13_bitCount_95d88_52 : decode cJ13_bitCount_95d88 52 = .ok (.lushr, 1) := by decide +kernel
theorem dJ13_bitCount_95d88_53 : decode cJ13_bitCount_95d88 53 = .ok (.ladd, 1) := by decide +kernel
theorem dJ13_bitCount_95d88_54 : decode cJ13_bitCount_95d88 54 = .ok (.lstore_n 0, 1) := by decide +kernel
theorem dJ13_bitCount_95d88_55 : decode cJ13_bitCount_95d88 55 = .ok (.lload_n 0, 1) := by decide +kernel
theorem dJ13_bitCount_95d88_56 : decode cJ13_bitCount_95d88 56 = .ok (.l2i, 1) := by decide +kernel
theorem dJ13_bitCount_95d88_57 : decode cJ13_bitCount_95d88 57 = .ok (.bipush 127, 2) := by decide +kernel
theorem dJ13_bitCount_95d88_59 : decode cJ13_bitCount_95d88 59 = .ok (.iand, 1) := by decide +kernel
theorem dJ13_bitCount_95d88_60 : decode cJ13_bitCount_95d88 60 = .ok (.ireturn, 1) := by decide +kernel
theorem dJ9_max_7cf53_0 : decode cJ9_max_7cf53 0 = .ok (.iload_n 0, 1) := by decide +kernel
theorem dJ9_max_7cf53_1 : decode cJ9_max_7cf53 1 = .ok (.iload_n 1, 1) := by decide +kernel
theorem dJ9_max_7cf53_2 : decode cJ9_max_7cf53 2 = .ok (.if_icmp .lt 7, 3) := by decide +kernel
theorem dJ9_max_7cf53_5 : decode cJ9_max_7cf53 5 = .ok (.iload_n 0, 1) := by decide +kernel
theorem dJ9_max_7cf53_6 : decode cJ9_max_7cf53 6 = .ok (.goto 4, 3) := by decide +kernel
theorem dJ9_max_7cf53_9 : decode cJ9_max_7cf53 9 = .ok (.iload_n 1, 1) := by decide +kernel
theorem dJ9_max_7cf53_10 : decode cJ9_max_7cf53 10 = .ok (.ireturn, 1) := by decide +kernel
theorem dJ9_min_7cf53_0 : decode cJ9_min_7cf53 0 = .ok (.iload_n 0, 1) := by decide +kernel
theorem dJ9_min_7cf53_1 : decode cJ9_min_7cf53 1 = .ok (.iload_n 1, 1) := by decide +kernel
theorem dJ9_min_7cf53_2 : decode cJ9_min_7cf53 2 = .ok (.if_icmp .gt 7, 3) := by decide +kernel
theorem dJ9_min_7cf53_5 : decode cJ9_min_7cf53 5 = .ok (.iload_n 0, 1) := by decide +kernel
theorem dJ9_min_7cf53_6 : decode cJ9_min_7cf53 6 = .ok (.goto 4, 3) := by decide +kernel
theorem dJ9_min_7cf53_9 : decode cJ9_min_7cf53 9 = .ok (.iload_n 1, 1) := by decide +kernel
theorem dJ9_min_7cf53_10 : decode cJ9_min_7cf53 10 = .ok (.ireturn, 1) := by decide +kernel
set_option maxRecDepth 20000 in
theorem ggL_law_X4_init : GoodIn wsL_law wsX4_init := goodIn_r _ [8, 9, 10, 11, 12, 13, 14, 15, 16, 17, 18, 19, 20, 21, 22, 23, 24, 25, 26, 27, 28, 29, 30, 31, 32, 33, 34, 561, 562, 563, 564, 565, 566, 567, 542, 543, 568, 569, 570, 571, 572] (by decide +kernel) (by decide +kernel)
set_option maxRecDepth 20000 in
theorem gL_law_X4_init : GoodIn wsL_law (wsX4_init) := ggL_law_X4_init
set_option maxRecDepth 20000 in
theorem ggL_law_X5_init : GoodIn wsL_law wsX5_init := goodIn_r _ [37, 38, 10, 11, 39, 40, 41, 42, 43, 24, 44, 45, 46, 47, 48, 49, 50, 51, 544, 545, 546, 547, 548, 549, 550, 551, 552, 553, 554, 555, 556, 557, 558, 559, 560] (by decide +kernel) (by decide +kernel)
set_option maxRecDepth 20000 in
theorem gL_law_X5_init : GoodIn wsL_law (wsX5_init) := ggL_law_X5_init
set_option maxRecDepth 20000 in
theorem ggL_law_X4_space : GoodIn wsL_law wsX4_space := goodIn_r _ [55, 15, 19, 56, 57, 2, 58, 59, 60, 61, 14, 62, 25, 27, 28, 29, 63, 64, 65, 66, 67, 18, 68, 69, 542, 543, 561, 562, 563, 564, 565, 566, 567, 568, 569, 570, 571, 572] (by decide +kernel) (by decide +kernel)
set_option maxRecDepth 20000 in
theorem gL_law_X4_space : GoodIn wsL_law (wsV RL 13 RX4 yX4_space wsX4_space) := goodIn_app (goodIn_of _ (by decide +kernel)) ggL_law_X4_space
set_option maxRecDepth 20000 in
theorem ggL_law_X5_space : GoodIn wsL_law wsX5_space := goodIn_r _ [73, 74, 39, 40, 41, 43, 44, 75, 76, 77, 5, 78, 544, 545, 546, 547, 548, 549, 550, 551, 552, 553, 554, 555, 556, 557, 558, 559, 560] (by decide +kernel) (by decide +kernel)
set_option maxRecDepth 20000 in
theorem gL_law_X5_space : GoodIn wsL_law (wsV RL 17 RX5 yX5_space wsX5_space) := goodIn_app (goodIn_of _ (by decide +kernel)) ggL_law_X5_space
set_option maxRecDepth 20000 in
theorem ggL_law_X4_box : GoodIn wsL_law wsX4_box := goodIn_r _ [82, 15, 83, 84, 85, 86, 87, 88, 89, 90, 91, 92, 19, 93, 94, 2, 95, 56, 57, 58, 96, 97, 98, 99, 100, 101, 102, 103, 104, 14, 105, 25, 106, 107, 108, 109, 27, 28, 110, 111, 112, 113, 114, 115, 116, 117, 118, 119, 120, 65, 66, 67, 18, 68, 69, 542, 543, 561, 562, 563, 564, 565, 566, 567, 568, 569, 570, 571, 572] (by decide +kernel) (by decide +kernel)
set_option maxRecDepth 20000 in
theorem gL_law_X4_box : GoodIn wsL_law (wsV RL 18 RX4 yX4_box wsX4_box) := goodIn_app (goodIn_of _ (by decide +kernel)) ggL_law_X4_box
set_option maxRecDepth 20000 in
theorem ggL_law_X5_box : GoodIn wsL_law wsX5_box := goodIn_r _ [124, 125, 74, 43, 75, 76, 77, 5, 78, 126, 127, 128, 129, 39, 40, 41, 130, 131, 132, 133, 544, 545, 546, 547, 548, 549, 550, 551, 552, 553, 554, 555, 556, 557, 558, 559, 560] (by decide +kernel) (by decide +kernel)
set_option maxRecDepth 20000 in
theorem gL_law_X5_box : GoodIn wsL_law (wsV RL 22 RX5 yX5_box wsX5_box) := goodIn_app (goodIn_of _ (by decide +kernel)) ggL_law_X5_box
set_option maxRecDepth 20000 in
theorem ggL_law_X4_at : GoodIn wsL_law wsX4_at := goodIn_r _ [137, 15, 138, 107, 108, 14, 109, 27, 28, 139, 140, 141, 142, 29, 143, 111, 112, 113, 25, 106, 144, 145, 98, 146, 147, 148, 2, 149, 542, 543, 561, 562, 563, 564, 565, 566, 567] (by decide +kernel) (by decide +kernel)
set_option maxRecDepth 20000 in
theorem gL_law_X4_at : GoodIn wsL_law (wsV RL 23 RX4 yX4_at wsX4_at) := goodIn_app (goodIn_of _ (by decide +kernel)) ggL_law_X4_at
set_option maxRecDepth 20000 in
theorem ggL_law_X5_at : GoodIn wsL_law wsX5_at := goodIn_r _ [153, 126, 127, 128, 5, 129, 39, 40, 41, 76, 77, 78, 130, 131, 132, 133, 43, 544, 545, 546, 547, 548, 549, 550, 551, 552, 553, 554, 555, 556, 557, 558, 559, 560] (by decide +kernel) (by decide +kernel)
set_option maxRecDepth 20000 in
theorem gL_law_X5_at : GoodIn wsL_law (wsV RL 26 RX5 yX5_at wsX5_at) := goodIn_app (goodIn_of _ (by decide +kernel)) ggL_law_X5_at
set_option maxRecDepth 20000 in
theorem ggL_law_X4_rib : GoodIn wsL_law wsX4_rib := goodIn_r _ [157, 15, 19, 158, 159, 160, 14, 161, 162, 163, 164, 165, 27, 28, 166, 167, 168, 169, 170, 171, 172, 173, 63, 64, 174, 145, 98, 146, 175, 176, 177, 178, 179, 65, 66, 67, 18, 68, 69, 147, 148, 2, 149, 542, 543, 561, 562, 563, 564, 565, 566, 567, 568, 569, 570, 571, 572] (by decide +kernel) (by decide +kernel)
set_option maxRecDepth 20000 in
theorem gL_law_X4_rib : GoodIn wsL_law (wsV RL 27 RX4 yX4_rib wsX4_rib) := goodIn_app (goodIn_of _ (by decide +kernel)) ggL_law_X4_rib
set_option maxRecDepth 20000 in
theorem ggL_law_X5_rib : GoodIn wsL_law wsX5_rib := goodIn_r _ [183, 44, 75, 184, 185, 186, 5, 187, 76, 77, 78, 188, 189, 190, 191, 39, 40, 192, 193, 194, 195, 544, 545, 546, 547, 548, 549, 550, 551, 552, 553, 554, 555, 556, 557, 558, 559, 560] (by decide +kernel) (by decide +kernel)
set_option maxRecDepth 20000 in
theorem gL_law_X5_rib : GoodIn wsL_law (wsV RL 31 RX5 yX5_rib wsX5_rib) := goodIn_app (goodIn_of _ (by decide +kernel)) ggL_law_X5_rib
set_option maxRecDepth 20000 in
theorem ggL_law_X4_ribs : GoodIn wsL_law wsX4_ribs := goodIn_r _ [199, 15, 19, 200, 163, 164, 14, 165, 27, 28, 175, 171, 172, 173, 63, 64, 176, 177, 178, 179, 65, 66, 67, 18, 68, 69, 542, 543, 561, 562, 563, 564, 565, 566, 567, 568, 569, 570, 571, 572] (by decide +kernel) (by decide +kernel)
set_option maxRecDepth 20000 in
theorem gL_law_X4_ribs : GoodIn wsL_law (wsV RL 32 RX4 yX4_ribs wsX4_ribs) := goodIn_app (goodIn_of _ (by decide +kernel)) ggL_law_X4_ribs
set_option maxRecDepth 20000 in
theorem ggL_law_X5_ribs : GoodIn wsL_law wsX5_ribs := goodIn_r _ [204, 44, 75, 76, 77, 5, 78, 188, 189, 190, 191, 39, 40, 544, 545, 546, 547, 548, 549, 550, 551, 552, 553, 554, 555, 556, 557, 558, 559, 560] (by decide +kernel) (by decide +kernel)
set_option maxRecDepth 20000 in
theorem gL_law_X5_ribs : GoodIn wsL_law (wsV RL 36 RX5 yX5_ribs wsX5_ribs) := goodIn_app (goodIn_of _ (by decide +kernel)) ggL_law_X5_ribs
set_option maxRecDepth 20000 in
theorem ggL_law_X4_figure : GoodIn wsL_law wsX4_figure := goodIn_r _ [208, 15, 158, 159, 160, 14, 161, 162, 163, 164, 165, 27, 28, 139, 140, 141, 142, 29, 209, 210, 211, 212, 213, 214, 215, 216, 217, 167, 168, 169, 170, 171, 172, 173, 63, 64, 174, 145, 98, 146, 218, 219, 220, 221, 110, 111, 112, 113, 25, 106, 107, 108, 109, 222, 223, 224, 225, 226, 227, 228, 229, 230, 231, 232, 97, 99, 100, 91, 86, 92, 101, 85, 87, 233, 234, 235, 236, 237, 238, 239, 240, 241, 242, 243, 144, 147, 148, 2, 149, 542, 543, 561, 562, 563, 564, 565, 566, 567] (by decide +kernel) (by decide +kernel)
set_option maxRecDepth 20000 in
theorem gL_law_X4_figure : GoodIn wsL_law (wsV RL 37 RX4 yX4_figure wsX4_figure) := goodIn_app (goodIn_of _ (by decide +kernel)) ggL_law_X4_figure
set_option maxRecDepth 20000 in
theorem ggL_law_X5_figure : GoodIn wsL_law wsX5_figure := goodIn_r _ [247, 41, 184, 185, 186, 5, 187, 76, 77, 78, 188, 189, 190, 191, 39, 40, 248, 249, 250, 251, 252, 253, 254, 255, 130, 131, 132, 133, 43, 256, 257, 258, 259, 45, 46, 192, 193, 194, 195, 44, 260, 261, 262, 263, 544, 545, 546, 547, 548, 549, 550, 551, 552, 553, 554, 555, 556, 557, 558, 559, 560] (by decide +kernel) (by decide +kernel)
set_option maxRecDepth 20000 in
theorem gL_law_X5_figure : GoodIn wsL_law (wsV RL 41 RX5 yX5_figure wsX5_figure) := goodIn_app (goodIn_of _ (by decide +kernel)) ggL_law_X5_figure
set_option maxRecDepth 20000 in
theorem ggL_law_X4_about : GoodIn wsL_law wsX4_about := goodIn_r _ [267, 15, 158, 159, 160, 14, 161, 162, 163, 164, 165, 27, 28, 237, 238, 239, 240, 218, 219, 220, 221, 110, 111, 112, 113, 25, 106, 107, 108, 109, 233, 234, 235, 236, 268, 269, 270, 271, 272, 273, 274, 209, 210, 211, 212, 213, 214, 215, 216, 217, 167, 168, 169, 170, 171, 172, 173, 63, 64, 174, 145, 98, 146, 222, 223, 224, 225, 226, 227, 228, 229, 230, 231, 232, 97, 99, 100, 91, 86, 92, 101, 85, 87, 275, 276, 277, 278, 279, 280, 281, 282, 283, 284, 285, 286, 287, 288, 289, 290, 291, 292, 293, 294, 295, 296, 297, 298, 299, 300, 301, 302, 303, 304, 305, 306, 307, 115, 116, 117, 118, 119, 120, 308, 309, 310, 311, 242, 243, 312, 313, 314, 315, 316, 317, 542, 543, 561, 562, 563, 564, 565, 566, 567] (by decide +kernel) (by decide +kernel)
set_option maxRecDepth 20000 in
theorem gL_law_X4_about : GoodIn wsL_law (wsV RL 42 RX4 yX4_about wsX4_about) := goodIn_app (goodIn_of _ (by decide +kernel)) ggL_law_X4_about
set_option maxRecDepth 20000 in
theorem ggL_law_X5_about : GoodIn wsL_law wsX5_about := goodIn_r _ [321, 322, 323, 184, 185, 186, 5, 187, 76, 77, 78, 188, 189, 190, 191, 39, 40, 324, 325, 326, 327, 41, 47, 248, 249, 250, 251, 252, 253, 254, 255, 130, 131, 132, 133, 43, 256, 257, 258, 259, 45, 46, 192, 193, 194, 195, 44, 260, 261, 262, 263, 328, 329, 330, 331, 332, 333, 334, 335, 336, 337, 338, 339, 340, 341, 342, 343, 544, 545, 546, 547, 548, 549, 550, 551, 552, 553, 554, 555, 556, 557, 558, 559, 560] (by decide +kernel) (by decide +kernel)
set_option maxRecDepth 20000 in
theorem gL_law_X5_about : GoodIn wsL_law (wsV RL 45 RX5 yX5_about wsX5_about) := goodIn_app (goodIn_of _ (by decide +kernel)) ggL_law_X5_about
set_option maxRecDepth 20000 in
theorem ggL_law_X4_caught : GoodIn wsL_law wsX4_caught := goodIn_r _ [347, 15, 88, 89, 348, 214, 215, 14, 216, 217, 167, 168, 169, 170, 171, 172, 173, 63, 64, 174, 145, 98, 146, 144, 349, 350, 351, 352, 110, 111, 112, 113, 25, 106, 107, 108, 109, 27, 28, 304, 305, 306, 307, 115, 116, 117, 118, 119, 120, 542, 543, 561, 562, 563, 564, 565, 566, 567] (by decide +kernel) (by decide +kernel)
set_option maxRecDepth 20000 in
theorem gL_law_X4_caught : GoodIn wsL_law (wsV RL 46 RX4 yX4_caught wsX4_caught) := goodIn_app (goodIn_of _ (by decide +kernel)) ggL_law_X4_caught
set_option maxRecDepth 20000 in
theorem ggL_law_X5_caught : GoodIn wsL_law wsX5_caught := goodIn_r _ [356, 39, 40, 192, 193, 194, 5, 195, 44, 260, 261, 262, 263, 41, 45, 46, 130, 131, 132, 133, 43, 544, 545, 546, 547, 548, 549, 550, 551, 552, 553, 554, 555, 556, 557, 558, 559, 560] (by decide +kernel) (by decide +kernel)
set_option maxRecDepth 20000 in
theorem gL_law_X5_caught : GoodIn wsL_law (wsV RL 50 RX5 yX5_caught wsX5_caught) := goodIn_app (goodIn_of _ (by decide +kernel)) ggL_law_X5_caught
set_option maxRecDepth 20000 in
theorem ggL_law_X4_run : GoodIn wsL_law wsX4_run := goodIn_r _ [360, 15, 83, 138, 107, 108, 14, 109, 27, 28, 143, 111, 112, 113, 25, 106, 361, 226, 98, 227, 228, 145, 146, 362, 230, 231, 542, 543, 561, 562, 563, 564, 565, 566, 567] (by decide +kernel) (by decide +kernel)
set_option maxRecDepth 20000 in
theorem gL_law_X4_run : GoodIn wsL_law (wsV RL 51 RX4 yX4_run wsX4_run) := goodIn_app (goodIn_of _ (by decide +kernel)) ggL_law_X4_run
set_option maxRecDepth 20000 in
theorem ggL_law_X5_run : GoodIn wsL_law wsX5_run := goodIn_r _ [366, 39, 40, 45, 46, 76, 77, 5, 78, 260, 261, 262, 263, 41, 130, 131, 132, 133, 43, 544, 545, 546, 547, 548, 549, 550, 551, 552, 553, 554, 555, 556, 557, 558, 559, 560] (by decide +kernel) (by decide +kernel)
set_option maxRecDepth 20000 in
theorem gL_law_X5_run : GoodIn wsL_law (wsV RL 54 RX5 yX5_run wsX5_run) := goodIn_app (goodIn_of _ (by decide +kernel)) ggL_law_X5_run
set_option maxRecDepth 20000 in
theorem ggL_law_X4_cover : GoodIn wsL_law wsX4_cover := goodIn_r _ [370, 15, 371, 372, 373, 14, 374, 27, 28, 217, 167, 168, 169, 170, 171, 172, 173, 63, 64, 174, 145, 98, 146, 110, 111, 112, 113, 25, 106, 107, 108, 109, 114, 115, 116, 117, 118, 119, 120, 542, 543, 561, 562, 563, 564, 565, 566, 567] (by decide +kernel) (by decide +kernel)
set_option maxRecDepth 20000 in
theorem gL_law_X4_cover : GoodIn wsL_law (wsV RL 55 RX4 yX4_cover wsX4_cover) := goodIn_app (goodIn_of _ (by decide +kernel)) ggL_law_X4_cover
set_option maxRecDepth 20000 in
theorem ggL_law_X5_cover : GoodIn wsL_law wsX5_cover := goodIn_r _ [378, 44, 379, 380, 381, 5, 382, 39, 40, 48, 49, 383, 384, 385, 386, 41, 130, 131, 132, 133, 43, 260, 261, 262, 263, 45, 46, 387, 388, 389, 390, 544, 545, 546, 547, 548, 549, 550, 551, 552, 553, 554, 555, 556, 557, 558, 559, 560] (by decide +kernel) (by decide +kernel)
set_option maxRecDepth 20000 in
theorem gL_law_X5_cover : GoodIn wsL_law (wsV RL 59 RX5 yX5_cover wsX5_cover) := goodIn_app (goodIn_of _ (by decide +kernel)) ggL_law_X5_cover
set_option maxRecDepth 20000 in
theorem ggL_law_X4_best : GoodIn wsL_law wsX4_best := goodIn_r _ [394, 15, 88, 89, 19, 395, 396, 397, 14, 398, 399, 27, 63, 64, 114, 115, 116, 117, 118, 119, 120, 400, 401, 402, 403, 28, 26, 174, 145, 98, 146, 110, 111, 112, 113, 25, 106, 107, 108, 109, 404, 350, 351, 352, 304, 305, 306, 307, 405, 406, 407, 408, 409, 410, 411, 412, 413, 238, 239, 240, 162, 163, 164, 165, 218, 219, 220, 221, 233, 234, 235, 236, 414, 269, 270, 271, 272, 273, 274, 415, 416, 417, 418, 65, 66, 67, 18, 68, 69, 371, 372, 373, 374, 217, 167, 168, 169, 170, 171, 172, 173, 542, 543, 561, 562, 563, 564, 565, 566, 567, 568, 569, 570, 571, 572] (by decide +kernel) (by decide +kernel)
set_option maxRecDepth 20000 in
theorem gL_law_X4_best : GoodIn wsL_law (wsV RL 60 RX4 yX4_best wsX4_best) := goodIn_app (goodIn_of _ (by decide +kernel)) ggL_law_X4_best
set_option maxRecDepth 20000 in
theorem ggL_law_X5_best : GoodIn wsL_law wsX5_best := goodIn_r _ [422, 39, 40, 44, 75, 76, 77, 5, 78, 379, 380, 381, 382, 48, 49, 383, 384, 385, 386, 41, 130, 131, 132, 133, 43, 260, 261, 262, 263, 45, 46, 423, 424, 425, 387, 388, 389, 390, 426, 427, 428, 429, 544, 545, 546, 547, 548, 549, 550, 551, 552, 553, 554, 555, 556, 557, 558, 559, 560] (by decide +kernel) (by decide +kernel)
set_option maxRecDepth 20000 in
theorem gL_law_X5_best : GoodIn wsL_law (wsV RL 63 RX5 yX5_best wsX5_best) := goodIn_app (goodIn_of _ (by decide +kernel)) ggL_law_X5_best
set_option maxRecDepth 20000 in
theorem ggL_law_X4_told : GoodIn wsL_law wsX4_told := goodIn_r _ [433, 15, 88, 89, 83, 434, 435, 436, 14, 437, 25, 114, 115, 116, 117, 118, 119, 120, 175, 171, 172, 173, 63, 64, 438, 439, 440, 441, 162, 163, 164, 165, 27, 28, 217, 167, 168, 169, 170, 174, 145, 98, 146, 294, 210, 211, 212, 213, 214, 215, 216, 218, 219, 220, 221, 110, 111, 112, 113, 106, 107, 108, 109, 222, 223, 224, 225, 226, 227, 228, 229, 230, 231, 232, 97, 99, 100, 91, 86, 92, 101, 85, 87, 233, 234, 235, 236, 414, 269, 270, 271, 272, 273, 274, 442, 443, 444, 445, 446, 291, 292, 293, 295, 279, 280, 281, 282, 283, 284, 285, 286, 287, 288, 289, 542, 543, 561, 562, 563, 564, 565, 566, 567] (by decide +kernel) (by decide +kernel)
set_option maxRecDepth 20000 in
theorem gL_law_X4_told : GoodIn wsL_law (wsV RL 64 RX4 yX4_told wsX4_told) := goodIn_app (goodIn_of _ (by decide +kernel)) ggL_law_X4_told
set_option maxRecDepth 20000 in
theorem ggL_law_X5_told : GoodIn wsL_law wsX5_told := goodIn_r _ [450, 39, 40, 41, 43, 44, 322, 192, 193, 194, 5, 195, 324, 325, 326, 327, 47, 323, 188, 189, 190, 191, 248, 249, 250, 251, 252, 253, 254, 255, 130, 131, 132, 133, 256, 257, 258, 259, 45, 46, 260, 261, 262, 263, 76, 77, 78, 328, 329, 330, 331, 332, 333, 334, 335, 544, 545, 546, 547, 548, 549, 550, 551, 552, 553, 554, 555, 556, 557, 558, 559, 560] (by decide +kernel) (by decide +kernel)
set_option maxRecDepth 20000 in
theorem gL_law_X5_told : GoodIn wsL_law (wsV RL 67 RX5 yX5_told wsX5_told) := goodIn_app (goodIn_of _ (by decide +kernel)) ggL_law_X5_told
set_option maxRecDepth 20000 in
theorem ggL_law_X4_lay : GoodIn wsL_law wsX4_lay := goodIn_r _ [454, 19, 15, 455, 456, 457, 458, 2, 459, 200, 163, 164, 14, 165, 27, 28, 460, 461, 462, 463, 217, 167, 168, 169, 170, 171, 172, 173, 63, 64, 174, 145, 98, 146, 413, 238, 239, 240, 162, 218, 219, 220, 221, 110, 111, 112, 113, 25, 106, 107, 108, 109, 233, 234, 235, 236, 308, 309, 310, 311, 242, 243, 312, 313, 314, 228, 315, 316, 317, 464, 465, 466, 18, 467, 468, 469, 470, 471, 472, 34, 473, 474, 475, 476, 477, 478, 479, 480, 481, 482, 483, 484, 485, 486, 487, 488, 489, 490, 491, 492, 493, 494, 495, 496, 497, 69, 498, 499, 500, 542, 543, 568, 569, 570, 571, 572, 561, 562, 563, 564, 565, 566, 567] (by decide +kernel) (by decide +kernel)
set_option maxRecDepth 20000 in
theorem gL_law_X4_lay : GoodIn wsL_law (wsV RL 68 RX4 yX4_lay wsX4_lay) := goodIn_app (goodIn_of _ (by decide +kernel)) ggL_law_X4_lay
set_option maxRecDepth 20000 in
theorem ggL_law_X5_lay : GoodIn wsL_law wsX5_lay := goodIn_r _ [504, 505, 506, 51, 50, 507, 508, 75, 76, 77, 5, 78, 509, 510, 511, 512, 192, 193, 194, 195, 44, 340, 341, 342, 343, 41, 188, 189, 190, 191, 39, 40, 252, 253, 254, 255, 130, 131, 132, 133, 43, 513, 514, 515, 516, 517, 518, 519, 520, 544, 545, 546, 547, 548, 549, 550, 551, 552, 553, 554, 555, 556, 557, 558, 559, 560] (by decide +kernel) (by decide +kernel)
set_option maxRecDepth 20000 in
theorem gL_law_X5_lay : GoodIn wsL_law (wsV RL 71 RX5 yX5_lay wsX5_lay) := goodIn_app (goodIn_of _ (by decide +kernel)) ggL_law_X5_lay
set_option maxRecDepth 20000 in
theorem ggL_law_X4_laid : GoodIn wsL_law wsX4_laid := goodIn_r _ [524, 19, 525, 526, 527, 482, 483, 18, 484, 34, 485, 486, 487, 542, 543, 568, 569, 570, 571, 572] (by decide +kernel) (by decide +kernel)
set_option maxRecDepth 20000 in
theorem gL_law_X4_laid : GoodIn wsL_law (wsV RL 72 RX4 yX4_laid wsX4_laid) := goodIn_app (goodIn_of _ (by decide +kernel)) ggL_law_X4_laid
set_option maxRecDepth 20000 in
theorem ggL_law_X5_laid : GoodIn wsL_law wsX5_laid := goodIn_r _ [531, 75, 532, 507, 50, 76, 77, 5, 78, 544, 545, 546, 547, 548, 549, 550, 551, 552, 553, 554, 555, 556, 557, 558, 559, 560] (by decide +kernel) (by decide +kernel)
set_option maxRecDepth 20000 in
theorem gL_law_X5_laid : GoodIn wsL_law (wsV RL 75 RX5 yX5_laid wsX5_laid) := goodIn_app (goodIn_of _ (by decide +kernel)) ggL_law_X5_laid
set_option maxRecDepth 20000 in
theorem ggL_law_X4_least : GoodIn wsL_law wsX4_least := goodIn_r _ [536, 19, 525, 537, 542, 543, 568, 569, 570, 571, 572] (by decide +kernel) (by decide +kernel)
set_option maxRecDepth 20000 in
theorem gL_law_X4_least : GoodIn wsL_law (wsV RL 76 RX4 yX4_least wsX4_least) := goodIn_app (goodIn_of _ (by decide +kernel)) ggL_law_X4_least
set_option maxRecDepth 20000 in
theorem ggL_law_X5_least : GoodIn wsL_law wsX5_least := goodIn_r _ [541, 75, 508, 544, 545, 546, 547, 548, 549, 550, 551, 552, 553, 554, 555, 556, 557, 558, 559, 560] (by decide +kernel) (by decide +kernel)
set_option maxRecDepth 20000 in
theorem gL_law_X5_least : GoodIn wsL_law (wsV RL 79 RX5 yX5_least wsX5_least) := goodIn_app (goodIn_of _ (by decide +kernel)) ggL_law_X5_least
end
section
theorem dL_law_0 : decode cL_law 0 = .ok (.new 7, 3) := by decide +kernel
theorem dL_law_3 : decode cL_law 3 = .ok (.dup, 1) := by decide +kernel
theorem dL_law_4 : decode cL_law 4 = .ok (.invokespecial 9, 3) := by decide +kernel
theorem dL_law_7 : decode cL_law 7 = .ok (.astore_n 1, 1) := by decide +kernel
theorem dL_law_8 : decode cL_law 8 = .ok (.new 10, 3) := by decide +kernel
theorem dL_law_11 : decode cL_law 11 = .ok (.dup, 1) := by decide +kernel
theorem dL_law_12 : decode cL_law 12 = .ok (.invokespecial 12, 3) := by decide +kernel
theorem dL_law_15 : decode cL_law 15 = .ok (.astore_n 2, 1) := by decide +kernel
theorem dL_law_16 : decode cL_law 16 = .ok (.iconst 0, 1) := by decide +kernel
theorem dL_law_17 : decode cL_law 17 = .ok (.istore_n 3, 1) := by decide +kernel
theorem dL_law_18 : decode cL_law 18 = .ok (.iload_n 3, 1) := by decide +kernel
theorem dL_law_19 : decode cL_law 19 = .ok (.aload_n 0, 1) := by decide +kernel
theorem dL_law_20 : decode cL_law 20 = .ok (.arraylength, 1) := by decide +kernel
theorem dL_law_21 : decode cL_law 21 = .ok (.bipush 8, 2) := by decide +kernel
theorem dL_law_23 : decode cL_law 23 = .ok (.isub, 1) := by decide +kernel
theorem dL_law_24 : decode cL_law 24 = .ok (.if_icmp .gt 717, 3) := by decide +kernel
theorem dL_law_27 : decode cL_law 27 = .ok (.aload_n 0, 1) := by decide +kernel
theorem dL_law_28 : decode cL_law 28 = .ok (.iload_n 3, 1) := by decide +kernel
theorem dL_law_29 : decode cL_law 29 = .ok (.iaload, 1) := by decide +kernel
theorem dL_law_30 : decode cL_law 30 = .ok (.bipush 15, 2) := by decide +kernel
theorem dL_law_32 : decode cL_law 32 = .ok (.iand, 1) := by decide +kernel
theorem dL_law_33 : decode cL_law 33 = .ok (.tableswitch 702 0 14 #[75, 118, 221, 264, 323, 356, 435, 478, 501, 544, 557, 590, 613, 656, 689], 75) := by decide +kernel
theorem dL_law_108 : decode cL_law 108 = .ok (.aload_n 1, 1) := by decide +kernel
theorem dL_law_109 : decode cL_law 109 = .ok (.aload_n 0, 1) := by decide +kernel
theorem dL_law_110 : decode cL_law 110 = .ok (.iload_n 3, 1) := by decide +kernel
theorem dL_law_111 : decode cL_law 111 = .ok (.iconst 1, 1) := by decide +kernel
theorem dL_law_112 : decode cL_law 112 = .ok (.iadd, 1) := by decide +kernel
theorem dL_law_113 : decode cL_law 113 = .ok (.iaload, 1) := by decide +kernel
theorem dL_law_114 : decode cL_law 114 = .ok (.aload_n 0, 1) := by decide +kernel
theorem dL_law_115 : decode cL_law 115 = .ok (.iload_n 3, 1) := by decide +kernel
theorem dL_law_116 : decode cL_law 116 = .ok (.iconst 2, 1) := by decide +kernel
theorem dL_law_117 : decode cL_law 117 = .ok (.iadd, 1) := by decide +kernel
theorem dL_law_118 : decode cL_law 118 = .ok (.iaload, 1) := by decide +kernel
theorem dL_law_119 : decode cL_law 119 = .ok (.aload_n 0, 1) := by decide +kernel
theorem dL_law_120 : decode cL_law 120 = .ok (.iload_n 3, 1) := by decide +kernel
theorem dL_law_121 : decode cL_law 121 = .ok (.iconst 3, 1) := by decide +kernel
theorem dL_law_122 : decode cL_law 122 = .ok (.iadd, 1) := by decide +kernel
theorem dL_law_123 : decode cL_law 123 = .ok (.iaload, 1) := by decide +kernel
theorem dL_law_124 : decode cL_law 124 = .ok (.invokevirtual 13, 3) := by decide +kernel
theorem dL_law_127 : decode cL_law 127 = .ok (.aload_n 2, 1) := by decide +kernel
theorem dL_law_128 : decode cL_law 128 = .ok (.aload_n 0, 1) := by decide +kernel
theorem dL_law_129 : decode cL_law 129 = .ok (.iload_n 3, 1) := by decide +kernel
theorem dL_law_130 : decode cL_law 130 = .ok (.iconst 1, 1) := by decide +kernel
theorem dL_law_131 : decode cL_law 131 = .ok (.iadd, 1) := by decide +kernel
theorem dL_law_132 : decode cL_law 132 = .ok (.iaload, 1) := by decide +kernel
theorem dL_law_133 : decode cL_law 133 = .ok (.aload_n 0, 1) := by decide +kernel
theorem dL_law_134 : decode cL_law 134 = .ok (.iload_n 3, 1) := by decide +kernel
theorem dL_law_135 : decode cL_law 135 = .ok (.iconst 2, 1) := by decide +kernel
theorem dL_law_136 : decode cL_law 136 = .ok (.iadd, 1) := by decide +kernel
theorem dL_law_137 : decode cL_law 137 = .ok (.iaload, 1) := by decide +kernel
theorem dL_law_138 : decode cL_law 138 = .ok (.aload_n 0, 1) := by decide +kernel
theorem dL_law_139 : decode cL_law 139 = .ok (.iload_n 3, 1) := by decide +kernel
theorem dL_law_140 : decode cL_law 140 = .ok (.iconst 3, 1) := by decide +kernel
theorem dL_law_141 : decode cL_law 141 = .ok (.iadd, 1) := by decide +kernel
theorem dL_law_142 : decode cL_law 142 = .ok (.iaload, 1) := by decide +kernel
theorem dL_law_143 : decode cL_law 143 = .ok (.invokevirtual 17, 3) := by decide +kernel
theorem dL_law_146 : decode cL_law 146 = .ok (.if_icmp .eq 589, 3) := by decide +kernel
theorem dL_law_149 : decode cL_law 149 = .ok (.iconst 0, 1) := by decide +kernel
theorem dL_law_150 : decode cL_law 150 = .ok (.ireturn, 1) := by decide +kernel
theorem dL_law_151 : decode cL_law 151 = .ok (.aload_n 1, 1) := by decide +kernel
theorem dL_law_152 : decode cL_law 152 = .ok (.aload_n 0, 1) := by decide +kernel
theorem dL_law_153 : decode cL_law 153 = .ok (.iload_n 3, 1) := by decide +kernel
theorem dL_law_154 : decode cL_law 154 = .ok (.iconst 1, 1) := by decide +kernel
theorem dL_law_155 : decode cL_law 155 = .ok (.iadd, 1) := by decide +kernel
theorem dL_law_156 : decode cL_law 156 = .ok (.iaload, 1) := by decide +kernel
theorem dL_law_157 : decode cL_law 157 = .ok (.aload_n 0, 1) := by decide +kernel
theorem dL_law_158 : decode cL_law 158 = .ok (.iload_n 3, 1) := by decide +kernel
theorem dL_law_159 : decode cL_law 159 = .ok (.iconst 2, 1) := by decide +kernel
theorem dL_law_160 : decode cL_law 160 = .ok (.iadd, 1) := by decide +kernel
theorem dL_law_161 : decode cL_law 161 = .ok (.iaload, 1) := by decide +kernel
theorem dL_law_162 : decode cL_law 162 = .ok (.aload_n 0, 1) := by decide +kernel
theorem dL_law_163 : decode cL_law 163 = .ok (.iload_n 3, 1) := by decide +kernel
theorem dL_law_164 : decode cL_law 164 = .ok (.iconst 3, 1) := by decide +kernel
theorem dL_law_165 : decode cL_law 165 = .ok (.iadd, 1) := by decide +kernel
theorem dL_law_166 : decode cL_law 166 = .ok (.iaload, 1) := by decide +kernel
theorem dL_law_167 : decode cL_law 167 = .ok (.aload_n 0, 1) := by decide +kernel
theorem dL_law_168 : decode cL_law 168 = .ok (.iload_n 3, 1) := by decide +kernel
theorem dL_law_169 : decode cL_law 169 = .ok (.iconst 4, 1) := by decide +kernel
theorem dL_law_170 : decode cL_law 170 = .ok (.iadd, 1) := by decide +kernel
theorem dL_law_171 : decode cL_law 171 = .ok (.iaload, 1) := by decide +kernel
theorem dL_law_172 : decode cL_law 172 = .ok (.aload_n 0, 1) := by decide +kernel
theorem dL_law_173 : decode cL_law 173 = .ok (.iload_n 3, 1) := by decide +kernel
theorem dL_law_174 : decode cL_law 174 = .ok (.iconst 5, 1) := by decide +kernel
theorem dL_law_175 : decode cL_law 175 = .ok (.iadd, 1) := by decide +kernel
theorem dL_law_176 : decode cL_law 176 = .ok (.iaload, 1) := by decide +kernel
theorem dL_law_177 : decode cL_law 177 = .ok (.aload_n 0, 1) := by decide +kernel
theorem dL_law_178 : decode cL_law 178 = .ok (.iload_n 3, 1) := by decide +kernel
theorem dL_law_179 : decode cL_law 179 = .ok (.bipush 6, 2) := by decide +kernel
theorem dL_law_181 : decode cL_law 181 = .ok (.iadd, 1) := by decide +kernel
theorem dL_law_182 : decode cL_law 182 = .ok (.iaload, 1) := by decide +kernel
theorem dL_law_183 : decode cL_law 183 = .ok (.aload_n 0, 1) := by decide +kernel
theorem dL_law_184 : decode cL_law 184 = .ok (.iload_n 3, 1) := by decide +kernel
theorem dL_law_185 : decode cL_law 185 = .ok (.bipush 7, 2) := by decide +kernel
theorem dL_law_187 : decode cL_law 187 = .ok (.iadd, 1) := by decide +kernel
theorem dL_law_188 : decode cL_law 188 = .ok (.iaload, 1) := by decide +kernel
theorem dL_law_189 : decode cL_law 189 = .ok (.ifCond .eq 7, 3) := by decide +kernel
theorem dL_law_192 : decode cL_law 192 = .ok (.iconst 1, 1) := by decide +kernel
theorem dL_law_193 : decode cL_law 193 = .ok (.goto 4, 3) := by decide +kernel
theorem dL_law_196 : decode cL_law 196 = .ok (.iconst 0, 1) := by decide +kernel
theorem dL_law_197 : decode cL_law 197 = .ok (.invokevirtual 18, 3) := by decide +kernel
theorem dL_law_200 : decode cL_law 200 = .ok (.aload_n 2, 1) := by decide +kernel
theorem dL_law_201 : decode cL_law 201 = .ok (.aload_n 0, 1) := by decide +kernel
theorem dL_law_202 : decode cL_law 202 = .ok (.iload_n 3, 1) := by decide +kernel
theorem dL_law_203 : decode cL_law 203 = .ok (.iconst 1, 1) := by decide +kernel
theorem dL_law_204 : decode cL_law 204 = .ok (.iadd, 1) := by decide +kernel
theorem dL_law_205 : decode cL_law 205 = .ok (.iaload, 1) := by decide +kernel
theorem dL_law_206 : decode cL_law 206 = .ok (.aload_n 0, 1) := by decide +kernel
theorem dL_law_207 : decode cL_law 207 = .ok (.iload_n 3, 1) := by decide +kernel
theorem dL_law_208 : decode cL_law 208 = .ok (.iconst 2, 1) := by decide +kernel
theorem dL_law_209 : decode cL_law 209 = .ok (.iadd, 1) := by decide +kernel
theorem dL_law_210 : decode cL_law 210 = .ok (.iaload, 1) := by decide +kernel
theorem dL_law_211 : decode cL_law 211 = .ok (.aload_n 0, 1) := by decide +kernel
theorem dL_law_212 : decode cL_law 212 = .ok (.iload_n 3, 1) := by decide +kernel
theorem dL_law_213 : decode cL_law 213 = .ok (.iconst 3, 1) := by decide +kernel
theorem dL_law_214 : decode cL_law 214 = .ok (.iadd, 1) := by decide +kernel
theorem dL_law_215 : decode cL_law 215 = .ok (.iaload, 1) := by decide +kernel
theorem dL_law_216 : decode cL_law 216 = .ok (.aload_n 0, 1) := by decide +kernel
theorem dL_law_217 : decode cL_law 217 = .ok (.iload_n 3, 1) := by decide +kernel
theorem dL_law_218 : decode cL_law 218 = .ok (.iconst 4, 1) := by decide +kernel
theorem dL_law_219 : decode cL_law 219 = .ok (.iadd, 1) := by decide +kernel
theorem dL_law_220 : decode cL_law 220 = .ok (.iaload, 1) := by decide +kernel
theorem dL_law_221 : decode cL_law 221 = .ok (.aload_n 0, 1) := by decide +kernel
theorem dL_law_222 : decode cL_law 222 = .ok (.iload_n 3, 1) := by decide +kernel
theorem dL_law_223 : decode cL_law 223 = .ok (.iconst 5, 1) := by decide +kernel
theorem dL_law_224 : decode cL_law 224 = .ok (.iadd, 1) := by decide +kernel
theorem dL_law_225 : decode cL_law 225 = .ok (.iaload, 1) := by decide +kernel
theorem dL_law_226 : decode cL_law 226 = .ok (.aload_n 0, 1) := by decide +kernel
theorem dL_law_227 : decode cL_law 227 = .ok (.iload_n 3, 1) := by decide +kernel
theorem dL_law_228 : decode cL_law 228 = .ok (.bipush 6, 2) := by decide +kernel
theorem dL_law_230 : decode cL_law 230 = .ok (.iadd, 1) := by decide +kernel
theorem dL_law_231 : decode cL_law 231 = .ok (.iaload, 1) := by decide +kernel
theorem dL_law_232 : decode cL_law 232 = .ok (.aload_n 0, 1) := by decide +kernel
theorem dL_law_233 : decode cL_law 233 = .ok (.iload_n 3, 1) := by decide +kernel
theorem dL_law_234 : decode cL_law 234 = .ok (.bipush 7, 2) := by decide +kernel
theorem dL_law_236 : decode cL_law 236 = .ok (.iadd, 1) := by decide +kernel
theorem dL_law_237 : decode cL_law 237 = .ok (.iaload, 1) := by decide +kernel
theorem dL_law_238 : decode cL_law 238 = .ok (.ifCond .eq 7, 3) := by decide +kernel
theorem dL_law_241 : decode cL_law 241 = .ok (.iconst 1, 1) := by decide +kernel
theorem dL_law_242 : decode cL_law 242 = .ok (.goto 4, 3) := by decide +kernel
theorem dL_law_245 : decode cL_law 245 = .ok (.iconst 0, 1) := by decide +kernel
theorem dL_law_246 : decode cL_law 246 = .ok (.invokevirtual 22, 3) := by decide +kernel
theorem dL_law_249 : decode cL_law 249 = .ok (.if_icmp .eq 486, 3) := by decide +kernel
theorem dL_law_252 : decode cL_law 252 = .ok (.iconst 0, 1) := by decide +kernel
theorem dL_law_253 : decode cL_law 253 = .ok (.ireturn, 1) := by decide +kernel
theorem dL_law_254 : decode cL_law 254 = .ok (.aload_n 1, 1) := by decide +kernel
theorem dL_law_255 : decode cL_law 255 = .ok (.aload_n 0, 1) := by decide +kernel
theorem dL_law_256 : decode cL_law 256 = .ok (.iload_n 3, 1) := by decide +kernel
theorem dL_law_257 : decode cL_law 257 = .ok (.iconst 1, 1) := by decide +kernel
theorem dL_law_258 : decode cL_law 258 = .ok (.iadd, 1) := by decide +kernel
theorem dL_law_259 : decode cL_law 259 = .ok (.iaload, 1) := by decide +kernel
theorem dL_law_260 : decode cL_law 260 = .ok (.aload_n 0, 1) := by decide +kernel
theorem dL_law_261 : decode cL_law 261 = .ok (.iload_n 3, 1) := by decide +kernel
theorem dL_law_262 : decode cL_law 262 = .ok (.iconst 2, 1) := by decide +kernel
theorem dL_law_263 : decode cL_law 263 = .ok (.iadd, 1) := by decide +kernel
theorem dL_law_264 : decode cL_law 264 = .ok (.iaload, 1) := by decide +kernel
theorem dL_law_265 : decode cL_law 265 = .ok (.aload_n 0, 1) := by decide +kernel
theorem dL_law_266 : decode cL_law 266 = .ok (.iload_n 3, 1) := by decide +kernel
theorem dL_law_267 : decode cL_law 267 = .ok (.iconst 3, 1) := by decide +kernel
theorem dL_law_268 : decode cL_law 268 = .ok (.iadd, 1) := by decide +kernel
theorem dL_law_269 : decode cL_law 269 = .ok (.iaload, 1) := by decide +kernel
theorem dL_law_270 : decode cL_law 270 = .ok (.invokevirtual 23, 3) := by decide +kernel
theorem dL_law_273 : decode cL_law 273 = .ok (.aload_n 2, 1) := by decide +kernel
theorem dL_law_274 : decode cL_law 274 = .ok (.aload_n 0, 1) := by decide +kernel
theorem dL_law_275 : decode cL_law 275 = .ok (.iload_n 3, 1) := by decide +kernel
theorem dL_law_276 : decode cL_law 276 = .ok (.iconst 1, 1) := by decide +kernel
theorem dL_law_277 : decode cL_law 277 = .ok (.iadd, 1) := by decide +kernel
theorem dL_law_278 : decode cL_law 278 = .ok (.iaload, 1) := by decide +kernel
theorem dL_law_279 : decode cL_law 279 = .ok (.aload_n 0, 1) := by decide +kernel
theorem dL_law_280 : decode cL_law 280 = .ok (.iload_n 3, 1) := by decide +kernel
theorem dL_law_281 : decode cL_law 281 = .ok (.iconst 2, 1) := by decide +kernel
theorem dL_law_282 : decode cL_law 282 = .ok (.iadd, 1) := by decide +kernel
theorem dL_law_283 : decode cL_law 283 = .ok (.iaload, 1) := by decide +kernel
theorem dL_law_284 : decode cL_law 284 = .ok (.aload_n 0, 1) := by decide +kernel
theorem dL_law_285 : decode cL_law 285 = .ok (.iload_n 3, 1) := by decide +kernel
theorem dL_law_286 : decode cL_law 286 = .ok (.iconst 3, 1) := by decide +kernel
theorem dL_law_287 : decode cL_law 287 = .ok (.iadd, 1) := by decide +kernel
theorem dL_law_288 : decode cL_law 288 = .ok (.iaload, 1) := by decide +kernel
theorem dL_law_289 : decode cL_law 289 = .ok (.invokevirtual 26, 3) := by decide +kernel
theorem dL_law_292 : decode cL_law 292 = .ok (.if_icmp .eq 443, 3) := by decide +kernel
theorem dL_law_295 : decode cL_law 295 = .ok (.iconst 0, 1) := by decide +kernel
theorem dL_law_296 : decode cL_law 296 = .ok (.ireturn, 1) := by decide +kernel
theorem dL_law_297 : decode cL_law 297 = .ok (.aload_n 1, 1) := by decide +kernel
theorem dL_law_298 : decode cL_law 298 = .ok (.aload_n 0, 1) := by decide +kernel
theorem dL_law_299 : decode cL_law 299 = .ok (.iload_n 3, 1) := by decide +kernel
theorem dL_law_300 : decode cL_law 300 = .ok (.iconst 1, 1) := by decide +kernel
theorem dL_law_301 : decode cL_law 301 = .ok (.iadd, 1) := by decide +kernel
theorem dL_law_302 : decode cL_law 302 = .ok (.iaload, 1) := by decide +kernel
theorem dL_law_303 : decode cL_law 303 = .ok (.aload_n 0, 1) := by decide +kernel
theorem dL_law_304 : decode cL_law 304 = .ok (.iload_n 3, 1) := by decide +kernel
theorem dL_law_305 : decode cL_law 305 = .ok (.iconst 2, 1) := by decide +kernel
theorem dL_law_306 : decode cL_law 306 = .ok (.iadd, 1) := by decide +kernel
theorem dL_law_307 : decode cL_law 307 = .ok (.iaload, 1) := by decide +kernel
theorem dL_law_308 : decode cL_law 308 = .ok (.aload_n 0, 1) := by decide +kernel
theorem dL_law_309 : decode cL_law 309 = .ok (.iload_n 3, 1) := by decide +kernel
theorem dL_law_310 : decode cL_law 310 = .ok (.iconst 3, 1) := by decide +kernel
theorem dL_law_311 : decode cL_law 311 = .ok (.iadd, 1) := by decide +kernel
theorem dL_law_312 : decode cL_law 312 = .ok (.iaload, 1) := by decide +kernel
theorem dL_law_313 : decode cL_law 313 = .ok (.ifCond .eq 7, 3) := by decide +kernel
theorem dL_law_316 : decode cL_law 316 = .ok (.iconst 1, 1) := by decide +kernel
theorem dL_law_317 : decode cL_law 317 = .ok (.goto 4, 3) := by decide +kernel
theorem dL_law_320 : decode cL_law 320 = .ok (.iconst 0, 1) := by decide +kernel
theorem dL_law_321 : decode cL_law 321 = .ok (.invokevirtual 27, 3) := by decide +kernel
theorem dL_law_324 : decode cL_law 324 = .ok (.aload_n 2, 1) := by decide +kernel
theorem dL_law_325 : decode cL_law 325 = .ok (.aload_n 0, 1) := by decide +kernel
theorem dL_law_326 : decode cL_law 326 = .ok (.iload_n 3, 1) := by decide +kernel
theorem dL_law_327 : decode cL_law 327 = .ok (.iconst 1, 1) := by decide +kernel
theorem dL_law_328 : decode cL_law 328 = .ok (.iadd, 1) := by decide +kernel
theorem dL_law_329 : decode cL_law 329 = .ok (.iaload, 1) := by decide +kernel
theorem dL_law_330 : decode cL_law 330 = .ok (.aload_n 0, 1) := by decide +kernel
theorem dL_law_331 : decode cL_law 331 = .ok (.iload_n 3, 1) := by decide +kernel
theorem dL_law_332 : decode cL_law 332 = .ok (.iconst 2, 1) := by decide +kernel
theorem dL_law_333 : decode cL_law 333 = .ok (.iadd, 1) := by decide +kernel
theorem dL_law_334 : decode cL_law 334 = .ok (.iaload, 1) := by decide +kernel
theorem dL_law_335 : decode cL_law 335 = .ok (.aload_n 0, 1) := by decide +kernel
theorem dL_law_336 : decode cL_law 336 = .ok (.iload_n 3, 1) := by decide +kernel
theorem dL_law_337 : decode cL_law 337 = .ok (.iconst 3, 1) := by decide +kernel
theorem dL_law_338 : decode cL_law 338 = .ok (.iadd, 1) := by decide +kernel
theorem dL_law_339 : decode cL_law 339 = .ok (.iaload, 1) := by decide +kernel
theorem dL_law_340 : decode cL_law 340 = .ok (.ifCond .eq 7, 3) := by decide +kernel
theorem dL_law_343 : decode cL_law 343 = .ok (.iconst 1, 1) := by decide +kernel
theorem dL_law_344 : decode cL_law 344 = .ok (.goto 4, 3) := by decide +kernel
theorem dL_law_347 : decode cL_law 347 = .ok (.iconst 0, 1) := by decide +kernel
theorem dL_law_348 : decode cL_law 348 = .ok (.invokevirtual 31, 3) := by decide +kernel
theorem dL_law_351 : decode cL_law 351 = .ok (.if_icmp .eq 384, 3) := by decide +kernel
theorem dL_law_354 : decode cL_law 354 = .ok (.iconst 0, 1) := by decide +kernel
theorem dL_law_355 : decode cL_law 355 = .ok (.ireturn, 1) := by decide +kernel
theorem dL_law_356 : decode cL_law 356 = .ok (.aload_n 1, 1) := by decide +kernel
theorem dL_law_357 : decode cL_law 357 = .ok (.aload_n 0, 1) := by decide +kernel
theorem dL_law_358 : decode cL_law 358 = .ok (.iload_n 3, 1) := by decide +kernel
theorem dL_law_359 : decode cL_law 359 = .ok (.iconst 1, 1) := by decide +kernel
theorem dL_law_360 : decode cL_law 360 = .ok (.iadd, 1) := by decide +kernel
theorem dL_law_361 : decode cL_law 361 = .ok (.iaload, 1) := by decide +kernel
theorem dL_law_362 : decode cL_law 362 = .ok (.aload_n 0, 1) := by decide +kernel
theorem dL_law_363 : decode cL_law 363 = .ok (.iload_n 3, 1) := by decide +kernel
theorem dL_law_364 : decode cL_law 364 = .ok (.iconst 2, 1) := by decide +kernel
theorem dL_law_365 : decode cL_law 365 = .ok (.iadd, 1) := by decide +kernel
theorem dL_law_366 : decode cL_law 366 = .ok (.iaload, 1) := by decide +kernel
theorem dL_law_367 : decode cL_law 367 = .ok (.invokevirtual 32, 3) := by decide +kernel
theorem dL_law_370 : decode cL_law 370 = .ok (.aload_n 2, 1) := by decide +kernel
theorem dL_law_371 : decode cL_law 371 = .ok (.aload_n 0, 1) := by decide +kernel
theorem dL_law_372 : decode cL_law 372 = .ok (.iload_n 3, 1) := by decide +kernel
theorem dL_law_373 : decode cL_law 373 = .ok (.iconst 1, 1) := by decide +kernel
theorem dL_law_374 : decode cL_law 374 = .ok (.iadd, 1) := by decide +kernel
theorem dL_law_375 : decode cL_law 375 = .ok (.iaload, 1) := by decide +kernel
theorem dL_law_376 : decode cL_law 376 = .ok (.aload_n 0, 1) := by decide +kernel
theorem dL_law_377 : decode cL_law 377 = .ok (.iload_n 3, 1) := by decide +kernel
theorem dL_law_378 : decode cL_law 378 = .ok (.iconst 2, 1) := by decide +kernel
theorem dL_law_379 : decode cL_law 379 = .ok (.iadd, 1) := by decide +kernel
theorem dL_law_380 : decode cL_law 380 = .ok (.iaload, 1) := by decide +kernel
theorem dL_law_381 : decode cL_law 381 = .ok (.invokevirtual 36, 3) := by decide +kernel
theorem dL_law_384 : decode cL_law 384 = .ok (.if_icmp .eq 351, 3) := by decide +kernel
theorem dL_law_387 : decode cL_law 387 = .ok (.iconst 0, 1) := by decide +kernel
theorem dL_law_388 : decode cL_law 388 = .ok (.ireturn, 1) := by decide +kernel
theorem dL_law_389 : decode cL_law 389 = .ok (.aload_n 1, 1) := by decide +kernel
theorem dL_law_390 : decode cL_law 390 = .ok (.aload_n 0, 1) := by decide +kernel
theorem dL_law_391 : decode cL_law 391 = .ok (.iload_n 3, 1) := by decide +kernel
theorem dL_law_392 : decode cL_law 392 = .ok (.iconst 1, 1) := by decide +kernel
theorem dL_law_393 : decode cL_law 393 = .ok (.iadd, 1) := by decide +kernel
theorem dL_law_394 : decode cL_law 394 = .ok (.iaload, 1) := by decide +kernel
theorem dL_law_395 : decode cL_law 395 = .ok (.aload_n 0, 1) := by decide +kernel
theorem dL_law_396 : decode cL_law 396 = .ok (.iload_n 3, 1) := by decide +kernel
theorem dL_law_397 : decode cL_law 397 = .ok (.iconst 2, 1) := by decide +kernel
theorem dL_law_398 : decode cL_law 398 = .ok (.iadd, 1) := by decide +kernel
theorem dL_law_399 : decode cL_law 399 = .ok (.iaload, 1) := by decide +kernel
theorem dL_law_400 : decode cL_law 400 = .ok (.aload_n 0, 1) := by decide +kernel
theorem dL_law_401 : decode cL_law 401 = .ok (.iload_n 3, 1) := by decide +kernel
theorem dL_law_402 : decode cL_law 402 = .ok (.iconst 3, 1) := by decide +kernel
theorem dL_law_403 : decode cL_law 403 = .ok (.iadd, 1) := by decide +kernel
theorem dL_law_404 : decode cL_law 404 = .ok (.iaload, 1) := by decide +kernel
theorem dL_law_405 : decode cL_law 405 = .ok (.aload_n 0, 1) := by decide +kernel
theorem dL_law_406 : decode cL_law 406 = .ok (.iload_n 3, 1) := by decide +kernel
theorem dL_law_407 : decode cL_law 407 = .ok (.iconst 4, 1) := by decide +kernel
theorem dL_law_408 : decode cL_law 408 = .ok (.iadd, 1) := by decide +kernel
theorem dL_law_409 : decode cL_law 409 = .ok (.iaload, 1) := by decide +kernel
theorem dL_law_410 : decode cL_law 410 = .ok (.aload_n 0, 1) := by decide +kernel
theorem dL_law_411 : decode cL_law 411 = .ok (.iload_n 3, 1) := by decide +kernel
theorem dL_law_412 : decode cL_law 412 = .ok (.iconst 5, 1) := by decide +kernel
theorem dL_law_413 : decode cL_law 413 = .ok (.iadd, 1) := by decide +kernel
theorem dL_law_414 : decode cL_law 414 = .ok (.iaload, 1) := by decide +kernel
theorem dL_law_415 : decode cL_law 415 = .ok (.ifCond .eq 7, 3) := by decide +kernel
theorem dL_law_418 : decode cL_law 418 = .ok (.iconst 1, 1) := by decide +kernel
theorem dL_law_419 : decode cL_law 419 = .ok (.goto 4, 3) := by decide +kernel
theorem dL_law_422 : decode cL_law 422 = .ok (.iconst 0, 1) := by decide +kernel
theorem dL_law_423 : decode cL_law 423 = .ok (.invokevirtual 37, 3) := by decide +kernel
theorem dL_law_426 : decode cL_law 426 = .ok (.aload_n 2, 1) := by decide +kernel
theorem dL_law_427 : decode cL_law 427 = .ok (.aload_n 0, 1) := by decide +kernel
theorem dL_law_428 : decode cL_law 428 = .ok (.iload_n 3, 1) := by decide +kernel
theorem dL_law_429 : decode cL_law 429 = .ok (.iconst 1, 1) := by decide +kernel
theorem dL_law_430 : decode cL_law 430 = .ok (.iadd, 1) := by decide +kernel
theorem dL_law_431 : decode cL_law 431 = .ok (.iaload, 1) := by decide +kernel
theorem dL_law_432 : decode cL_law 432 = .ok (.aload_n 0, 1) := by decide +kernel
theorem dL_law_433 : decode cL_law 433 = .ok (.iload_n 3, 1) := by decide +kernel
theorem dL_law_434 : decode cL_law 434 = .ok (.iconst 2, 1) := by decide +kernel
theorem dL_law_435 : decode cL_law 435 = .ok (.iadd, 1) := by decide +kernel
theorem dL_law_436 : decode cL_law 436 = .ok (.iaload, 1) := by decide +kernel
theorem dL_law_437 : decode cL_law 437 = .ok (.aload_n 0, 1) := by decide +kernel
theorem dL_law_438 : decode cL_law 438 = .ok (.iload_n 3, 1) := by decide +kernel
theorem dL_law_439 : decode cL_law 439 = .ok (.iconst 3, 1) := by decide +kernel
theorem dL_law_440 : decode cL_law 440 = .ok (.iadd, 1) := by decide +kernel
theorem dL_law_441 : decode cL_law 441 = .ok (.iaload, 1) := by decide +kernel
theorem dL_law_442 : decode cL_law 442 = .ok (.aload_n 0, 1) := by decide +kernel
theorem dL_law_443 : decode cL_law 443 = .ok (.iload_n 3, 1) := by decide +kernel
theorem dL_law_444 : decode cL_law 444 = .ok (.iconst 4, 1) := by decide +kernel
theorem dL_law_445 : decode cL_law 445 = .ok (.iadd, 1) := by decide +kernel
theorem dL_law_446 : decode cL_law 446 = .ok (.iaload, 1) := by decide +kernel
theorem dL_law_447 : decode cL_law 447 = .ok (.aload_n 0, 1) := by decide +kernel
theorem dL_law_448 : decode cL_law 448 = .ok (.iload_n 3, 1) := by decide +kernel
theorem dL_law_449 : decode cL_law 449 = .ok (.iconst 5, 1) := by decide +kernel
theorem dL_law_450 : decode cL_law 450 = .ok (.iadd, 1) := by decide +kernel
theorem dL_law_451 : decode cL_law 451 = .ok (.iaload, 1) := by decide +kernel
theorem dL_law_452 : decode cL_law 452 = .ok (.ifCond .eq 7, 3) := by decide +kernel
theorem dL_law_455 : decode cL_law 455 = .ok (.iconst 1, 1) := by decide +kernel
theorem dL_law_456 : decode cL_law 456 = .ok (.goto 4, 3) := by decide +kernel
theorem dL_law_459 : decode cL_law 459 = .ok (.iconst 0, 1) := by decide +kernel
theorem dL_law_460 : decode cL_law 460 = .ok (.invokevirtual 41, 3) := by decide +kernel
theorem dL_law_463 : decode cL_law 463 = .ok (.if_icmp .eq 272, 3) := by decide +kernel
theorem dL_law_466 : decode cL_law 466 = .ok (.iconst 0, 1) := by decide +kernel
theorem dL_law_467 : decode cL_law 467 = .ok (.ireturn, 1) := by decide +kernel
theorem dL_law_468 : decode cL_law 468 = .ok (.aload_n 1, 1) := by decide +kernel
theorem dL_law_469 : decode cL_law 469 = .ok (.aload_n 0, 1) := by decide +kernel
theorem dL_law_470 : decode cL_law 470 = .ok (.iload_n 3, 1) := by decide +kernel
theorem dL_law_471 : decode cL_law 471 = .ok (.iconst 1, 1) := by decide +kernel
theorem dL_law_472 : decode cL_law 472 = .ok (.iadd, 1) := by decide +kernel
theorem dL_law_473 : decode cL_law 473 = .ok (.iaload, 1) := by decide +kernel
theorem dL_law_474 : decode cL_law 474 = .ok (.aload_n 0, 1) := by decide +kernel
theorem dL_law_475 : decode cL_law 475 = .ok (.iload_n 3, 1) := by decide +kernel
theorem dL_law_476 : decode cL_law 476 = .ok (.iconst 2, 1) := by decide +kernel
theorem dL_law_477 : decode cL_law 477 = .ok (.iadd, 1) := by decide +kernel
theorem dL_law_478 : decode cL_law 478 = .ok (.iaload, 1) := by decide +kernel
theorem dL_law_479 : decode cL_law 479 = .ok (.aload_n 0, 1) := by decide +kernel
theorem dL_law_480 : decode cL_law 480 = .ok (.iload_n 3, 1) := by decide +kernel
theorem dL_law_481 : decode cL_law 481 = .ok (.iconst 3, 1) := by decide +kernel
theorem dL_law_482 : decode cL_law 482 = .ok (.iadd, 1) := by decide +kernel
theorem dL_law_483 : decode cL_law 483 = .ok (.iaload, 1) := by decide +kernel
theorem dL_law_484 : decode cL_law 484 = .ok (.invokevirtual 42, 3) := by decide +kernel
theorem dL_law_487 : decode cL_law 487 = .ok (.aload_n 2, 1) := by decide +kernel
theorem dL_law_488 : decode cL_law 488 = .ok (.aload_n 0, 1) := by decide +kernel
theorem dL_law_489 : decode cL_law 489 = .ok (.iload_n 3, 1) := by decide +kernel
theorem dL_law_490 : decode cL_law 490 = .ok (.iconst 1, 1) := by decide +kernel
theorem dL_law_491 : decode cL_law 491 = .ok (.iadd, 1) := by decide +kernel
theorem dL_law_492 : decode cL_law 492 = .ok (.iaload, 1) := by decide +kernel
theorem dL_law_493 : decode cL_law 493 = .ok (.aload_n 0, 1) := by decide +kernel
theorem dL_law_494 : decode cL_law 494 = .ok (.iload_n 3, 1) := by decide +kernel
theorem dL_law_495 : decode cL_law 495 = .ok (.iconst 2, 1) := by decide +kernel
theorem dL_law_496 : decode cL_law 496 = .ok (.iadd, 1) := by decide +kernel
theorem dL_law_497 : decode cL_law 497 = .ok (.iaload, 1) := by decide +kernel
theorem dL_law_498 : decode cL_law 498 = .ok (.aload_n 0, 1) := by decide +kernel
theorem dL_law_499 : decode cL_law 499 = .ok (.iload_n 3, 1) := by decide +kernel
theorem dL_law_500 : decode cL_law 500 = .ok (.iconst 3, 1) := by decide +kernel
theorem dL_law_501 : decode cL_law 501 = .ok (.iadd, 1) := by decide +kernel
theorem dL_law_502 : decode cL_law 502 = .ok (.iaload, 1) := by decide +kernel
theorem dL_law_503 : decode cL_law 503 = .ok (.invokevirtual 45, 3) := by decide +kernel
theorem dL_law_506 : decode cL_law 506 = .ok (.if_icmp .eq 229, 3) := by decide +kernel
theorem dL_law_509 : decode cL_law 509 = .ok (.iconst 0, 1) := by decide +kernel
theorem dL_law_510 : decode cL_law 510 = .ok (.ireturn, 1) := by decide +kernel
theorem dL_law_511 : decode cL_law 511 = .ok (.aload_n 1, 1) := by decide +kernel
theorem dL_law_512 : decode cL_law 512 = .ok (.aload_n 0, 1) := by decide +kernel
theorem dL_law_513 : decode cL_law 513 = .ok (.iload_n 3, 1) := by decide +kernel
theorem dL_law_514 : decode cL_law 514 = .ok (.iconst 1, 1) := by decide +kernel
theorem dL_law_515 : decode cL_law 515 = .ok (.iadd, 1) := by decide +kernel
theorem dL_law_516 : decode cL_law 516 = .ok (.iaload, 1) := by decide +kernel
theorem dL_law_517 : decode cL_law 517 = .ok (.invokevirtual 46, 3) := by decide +kernel
theorem dL_law_520 : decode cL_law 520 = .ok (.aload_n 2, 1) := by decide +kernel
theorem dL_law_521 : decode cL_law 521 = .ok (.aload_n 0, 1) := by decide +kernel
theorem dL_law_522 : decode cL_law 522 = .ok (.iload_n 3, 1) := by decide +kernel
theorem dL_law_523 : decode cL_law 523 = .ok (.iconst 1, 1) := by decide +kernel
theorem dL_law_524 : decode cL_law 524 = .ok (.iadd, 1) := by decide +kernel
theorem dL_law_525 : decode cL_law 525 = .ok (.iaload, 1) := by decide +kernel
theorem dL_law_526 : decode cL_law 526 = .ok (.invokevirtual 50, 3) := by decide +kernel
theorem dL_law_529 : decode cL_law 529 = .ok (.if_icmp .eq 206, 3) := by decide +kernel
theorem dL_law_532 : decode cL_law 532 = .ok (.iconst 0, 1) := by decide +kernel
theorem dL_law_533 : decode cL_law 533 = .ok (.ireturn, 1) := by decide +kernel
theorem dL_law_534 : decode cL_law 534 = .ok (.aload_n 1, 1) := by decide +kernel
theorem dL_law_535 : decode cL_law 535 = .ok (.aload_n 0, 1) := by decide +kernel
theorem dL_law_536 : decode cL_law 536 = .ok (.iload_n 3, 1) := by decide +kernel
theorem dL_law_537 : decode cL_law 537 = .ok (.iconst 1, 1) := by decide +kernel
theorem dL_law_538 : decode cL_law 538 = .ok (.iadd, 1) := by decide +kernel
theorem dL_law_539 : decode cL_law 539 = .ok (.iaload, 1) := by decide +kernel
theorem dL_law_540 : decode cL_law 540 = .ok (.aload_n 0, 1) := by decide +kernel
theorem dL_law_541 : decode cL_law 541 = .ok (.iload_n 3, 1) := by decide +kernel
theorem dL_law_542 : decode cL_law 542 = .ok (.iconst 2, 1) := by decide +kernel
theorem dL_law_543 : decode cL_law 543 = .ok (.iadd, 1) := by decide +kernel
theorem dL_law_544 : decode cL_law 544 = .ok (.iaload, 1) := by decide +kernel
theorem dL_law_545 : decode cL_law 545 = .ok (.aload_n 0, 1) := by decide +kernel
theorem dL_law_546 : decode cL_law 546 = .ok (.iload_n 3, 1) := by decide +kernel
theorem dL_law_547 : decode cL_law 547 = .ok (.iconst 3, 1) := by decide +kernel
theorem dL_law_548 : decode cL_law 548 = .ok (.iadd, 1) := by decide +kernel
theorem dL_law_549 : decode cL_law 549 = .ok (.iaload, 1) := by decide +kernel
theorem dL_law_550 : decode cL_law 550 = .ok (.invokevirtual 51, 3) := by decide +kernel
theorem dL_law_553 : decode cL_law 553 = .ok (.aload_n 2, 1) := by decide +kernel
theorem dL_law_554 : decode cL_law 554 = .ok (.aload_n 0, 1) := by decide +kernel
theorem dL_law_555 : decode cL_law 555 = .ok (.iload_n 3, 1) := by decide +kernel
theorem dL_law_556 : decode cL_law 556 = .ok (.iconst 1, 1) := by decide +kernel
theorem dL_law_557 : decode cL_law 557 = .ok (.iadd, 1) := by decide +kernel
theorem dL_law_558 : decode cL_law 558 = .ok (.iaload, 1) := by decide +kernel
theorem dL_law_559 : decode cL_law 559 = .ok (.aload_n 0, 1) := by decide +kernel
theorem dL_law_560 : decode cL_law 560 = .ok (.iload_n 3, 1) := by decide +kernel
theorem dL_law_561 : decode cL_law 561 = .ok (.iconst 2, 1) := by decide +kernel
theorem dL_law_562 : decode cL_law 562 = .ok (.iadd, 1) := by decide +kernel
theorem dL_law_563 : decode cL_law 563 = .ok (.iaload, 1) := by decide +kernel
theorem dL_law_564 : decode cL_law 564 = .ok (.aload_n 0, 1) := by decide +kernel
theorem dL_law_565 : decode cL_law 565 = .ok (.iload_n 3, 1) := by decide +kernel
theorem dL_law_566 : decode cL_law 566 = .ok (.iconst 3, 1) := by decide +kernel
theorem dL_law_567 : decode cL_law 567 = .ok (.iadd, 1) := by decide +kernel
theorem dL_law_568 : decode cL_law 568 = .ok (.iaload, 1) := by decide +kernel
theorem dL_law_569 : decode cL_law 569 = .ok (.invokevirtual 54, 3) := by decide +kernel
theorem dL_law_572 : decode cL_law 572 = .ok (.if_icmp .eq 163, 3) := by decide +kernel
theorem dL_law_575 : decode cL_law 575 = .ok (.iconst 0, 1) := by decide +kernel
theorem dL_law_576 : decode cL_law 576 = .ok (.ireturn, 1) := by decide +kernel
theorem dL_law_577 : decode cL_law 577 = .ok (.aload_n 1, 1) := by decide +kernel
theorem dL_law_578 : decode cL_law 578 = .ok (.invokevirtual 55, 3) := by decide +kernel
theorem dL_law_581 : decode cL_law 581 = .ok (.aload_n 2, 1) := by decide +kernel
theorem dL_law_582 : decode cL_law 582 = .ok (.invokevirtual 59, 3) := by decide +kernel
theorem dL_law_585 : decode cL_law 585 = .ok (.if_icmp .eq 150, 3) := by decide +kernel
theorem dL_law_588 : decode cL_law 588 = .ok (.iconst 0, 1) := by decide +kernel
theorem dL_law_589 : decode cL_law 589 = .ok (.ireturn, 1) := by decide +kernel
theorem dL_law_590 : decode cL_law 590 = .ok (.aload_n 1, 1) := by decide +kernel
theorem dL_law_591 : decode cL_law 591 = .ok (.aload_n 0, 1) := by decide +kernel
theorem dL_law_592 : decode cL_law 592 = .ok (.iload_n 3, 1) := by decide +kernel
theorem dL_law_593 : decode cL_law 593 = .ok (.iconst 1, 1) := by decide +kernel
theorem dL_law_594 : decode cL_law 594 = .ok (.iadd, 1) := by decide +kernel
theorem dL_law_595 : decode cL_law 595 = .ok (.iaload, 1) := by decide +kernel
theorem dL_law_596 : decode cL_law 596 = .ok (.aload_n 0, 1) := by decide +kernel
theorem dL_law_597 : decode cL_law 597 = .ok (.iload_n 3, 1) := by decide +kernel
theorem dL_law_598 : decode cL_law 598 = .ok (.iconst 2, 1) := by decide +kernel
theorem dL_law_599 : decode cL_law 599 = .ok (.iadd, 1) := by decide +kernel
theorem dL_law_600 : decode cL_law 600 = .ok (.iaload, 1) := by decide +kernel
theorem dL_law_601 : decode cL_law 601 = .ok (.invokevirtual 60, 3) := by decide +kernel
theorem dL_law_604 : decode cL_law 604 = .ok (.aload_n 2, 1) := by decide +kernel
theorem dL_law_605 : decode cL_law 605 = .ok (.aload_n 0, 1) := by decide +kernel
theorem dL_law_606 : decode cL_law 606 = .ok (.iload_n 3, 1) := by decide +kernel
theorem dL_law_607 : decode cL_law 607 = .ok (.iconst 1, 1) := by decide +kernel
theorem dL_law_608 : decode cL_law 608 = .ok (.iadd, 1) := by decide +kernel
theorem dL_law_609 : decode cL_law 609 = .ok (.iaload, 1) := by decide +kernel
theorem dL_law_610 : decode cL_law 610 = .ok (.aload_n 0, 1) := by decide +kernel
theorem dL_law_611 : decode cL_law 611 = .ok (.iload_n 3, 1) := by decide +kernel
theorem dL_law_612 : decode cL_law 612 = .ok (.iconst 2, 1) := by decide +kernel
theorem dL_law_613 : decode cL_law 613 = .ok (.iadd, 1) := by decide +kernel
theorem dL_law_614 : decode cL_law 614 = .ok (.iaload, 1) := by decide +kernel
theorem dL_law_615 : decode cL_law 615 = .ok (.invokevirtual 63, 3) := by decide +kernel
theorem dL_law_618 : decode cL_law 618 = .ok (.if_icmp .eq 117, 3) := by decide +kernel
theorem dL_law_621 : decode cL_law 621 = .ok (.iconst 0, 1) := by decide +kernel
theorem dL_law_622 : decode cL_law 622 = .ok (.ireturn, 1) := by decide +kernel
theorem dL_law_623 : decode cL_law 623 = .ok (.aload_n 1, 1) := by decide +kernel
theorem dL_law_624 : decode cL_law 624 = .ok (.aload_n 0, 1) := by decide +kernel
theorem dL_law_625 : decode cL_law 625 = .ok (.iload_n 3, 1) := by decide +kernel
theorem dL_law_626 : decode cL_law 626 = .ok (.iconst 1, 1) := by decide +kernel
theorem dL_law_627 : decode cL_law 627 = .ok (.iadd, 1) := by decide +kernel
theorem dL_law_628 : decode cL_law 628 = .ok (.iaload, 1) := by decide +kernel
theorem dL_law_629 : decode cL_law 629 = .ok (.invokevirtual 64, 3) := by decide +kernel
theorem dL_law_632 : decode cL_law 632 = .ok (.aload_n 2, 1) := by decide +kernel
theorem dL_law_633 : decode cL_law 633 = .ok (.aload_n 0, 1) := by decide +kernel
theorem dL_law_634 : decode cL_law 634 = .ok (.iload_n 3, 1) := by decide +kernel
theorem dL_law_635 : decode cL_law 635 = .ok (.iconst 1, 1) := by decide +kernel
theorem dL_law_636 : decode cL_law 636 = .ok (.iadd, 1) := by decide +kernel
theorem dL_law_637 : decode cL_law 637 = .ok (.iaload, 1) := by decide +kernel
theorem dL_law_638 : decode cL_law 638 = .ok (.invokevirtual 67, 3) := by decide +kernel
theorem dL_law_641 : decode cL_law 641 = .ok (.if_icmp .eq 94, 3) := by decide +kernel
theorem dL_law_644 : decode cL_law 644 = .ok (.iconst 0, 1) := by decide +kernel
theorem dL_law_645 : decode cL_law 645 = .ok (.ireturn, 1) := by decide +kernel
theorem dL_law_646 : decode cL_law 646 = .ok (.aload_n 1, 1) := by decide +kernel
theorem dL_law_647 : decode cL_law 647 = .ok (.aload_n 0, 1) := by decide +kernel
theorem dL_law_648 : decode cL_law 648 = .ok (.iload_n 3, 1) := by decide +kernel
theorem dL_law_649 : decode cL_law 649 = .ok (.iconst 1, 1) := by decide +kernel
theorem dL_law_650 : decode cL_law 650 = .ok (.iadd, 1) := by decide +kernel
theorem dL_law_651 : decode cL_law 651 = .ok (.iaload, 1) := by decide +kernel
theorem dL_law_652 : decode cL_law 652 = .ok (.aload_n 0, 1) := by decide +kernel
theorem dL_law_653 : decode cL_law 653 = .ok (.iload_n 3, 1) := by decide +kernel
theorem dL_law_654 : decode cL_law 654 = .ok (.iconst 2, 1) := by decide +kernel
theorem dL_law_655 : decode cL_law 655 = .ok (.iadd, 1) := by decide +kernel
theorem dL_law_656 : decode cL_law 656 = .ok (.iaload, 1) := by decide +kernel
theorem dL_law_657 : decode cL_law 657 = .ok (.aload_n 0, 1) := by decide +kernel
theorem dL_law_658 : decode cL_law 658 = .ok (.iload_n 3, 1) := by decide +kernel
theorem dL_law_659 : decode cL_law 659 = .ok (.iconst 3, 1) := by decide +kernel
theorem dL_law_660 : decode cL_law 660 = .ok (.iadd, 1) := by decide +kernel
theorem dL_law_661 : decode cL_law 661 = .ok (.iaload, 1) := by decide +kernel
theorem dL_law_662 : decode cL_law 662 = .ok (.invokevirtual 68, 3) := by decide +kernel
theorem dL_law_665 : decode cL_law 665 = .ok (.aload_n 2, 1) := by decide +kernel
theorem dL_law_666 : decode cL_law 666 = .ok (.aload_n 0, 1) := by decide +kernel
theorem dL_law_667 : decode cL_law 667 = .ok (.iload_n 3, 1) := by decide +kernel
theorem dL_law_668 : decode cL_law 668 = .ok (.iconst 1, 1) := by decide +kernel
theorem dL_law_669 : decode cL_law 669 = .ok (.iadd, 1) := by decide +kernel
theorem dL_law_670 : decode cL_law 670 = .ok (.iaload, 1) := by decide +kernel
theorem dL_law_671 : decode cL_law 671 = .ok (.aload_n 0, 1) := by decide +kernel
theorem dL_law_672 : decode cL_law 672 = .ok (.iload_n 3, 1) := by decide +kernel
theorem dL_law_673 : decode cL_law 673 = .ok (.iconst 2, 1) := by decide +kernel
theorem dL_law_674 : decode cL_law 674 = .ok (.iadd, 1) := by decide +kernel
theorem dL_law_675 : decode cL_law 675 = .ok (.iaload, 1) := by decide +kernel
theorem dL_law_676 : decode cL_law 676 = .ok (.aload_n 0, 1) := by decide +kernel
theorem dL_law_677 : decode cL_law 677 = .ok (.iload_n 3, 1) := by decide +kernel
theorem dL_law_678 : decode cL_law 678 = .ok (.iconst 3, 1) := by decide +kernel
theorem dL_law_679 : decode cL_law 679 = .ok (.iadd, 1) := by decide +kernel
theorem dL_law_680 : decode cL_law 680 = .ok (.iaload, 1) := by decide +kernel
theorem dL_law_681 : decode cL_law 681 = .ok (.invokevirtual 71, 3) := by decide +kernel
theorem dL_law_684 : decode cL_law 684 = .ok (.if_icmp .eq 51, 3) := by decide +kernel
theorem dL_law_687 : decode cL_law 687 = .ok (.iconst 0, 1) := by decide +kernel
theorem dL_law_688 : decode cL_law 688 = .ok (.ireturn, 1) := by decide +kernel
theorem dL_law_689 : decode cL_law 689 = .ok (.aload_n 1, 1) := by decide +kernel
theorem dL_law_690 : decode cL_law 690 = .ok (.aload_n 0, 1) := by decide +kernel
theorem dL_law_691 : decode cL_law 691 = .ok (.iload_n 3, 1) := by decide +kernel
theorem dL_law_692 : decode cL_law 692 = .ok (.iconst 1, 1) := by decide +kernel
theorem dL_law_693 : decode cL_law 693 = .ok (.iadd, 1) := by decide +kernel
theorem dL_law_694 : decode cL_law 694 = .ok (.iaload, 1) := by decide +kernel
theorem dL_law_695 : decode cL_law 695 = .ok (.aload_n 0, 1) := by decide +kernel
theorem dL_law_696 : decode cL_law 696 = .ok (.iload_n 3, 1) := by decide +kernel
theorem dL_law_697 : decode cL_law 697 = .ok (.iconst 2, 1) := by decide +kernel
theorem dL_law_698 : decode cL_law 698 = .ok (.iadd, 1) := by decide +kernel
theorem dL_law_699 : decode cL_law 699 = .ok (.iaload, 1) := by decide +kernel
theorem dL_law_700 : decode cL_law 700 = .ok (.invokevirtual 72, 3) := by decide +kernel
theorem dL_law_703 : decode cL_law 703 = .ok (.aload_n 2, 1) := by decide +kernel
theorem dL_law_704 : decode cL_law 704 = .ok (.aload_n 0, 1) := by decide +kernel
theorem dL_law_705 : decode cL_law 705 = .ok (.iload_n 3, 1) := by decide +kernel
theorem dL_law_706 : decode cL_law 706 = .ok (.iconst 1, 1) := by decide +kernel
theorem dL_law_707 : decode cL_law 707 = .ok (.iadd, 1) := by decide +kernel
theorem dL_law_708 : decode cL_law 708 = .ok (.iaload, 1) := by decide +kernel
theorem dL_law_709 : decode cL_law 709 = .ok (.aload_n 0, 1) := by decide +kernel
theorem dL_law_710 : decode cL_law 710 = .ok (.iload_n 3, 1) := by decide +kernel
theorem dL_law_711 : decode cL_law 711 = .ok (.iconst 2, 1) := by decide +kernel
theorem dL_law_712 : decode cL_law 712 = .ok (.iadd, 1) := by decide +kernel
theorem dL_law_713 : decode cL_law 713 = .ok (.iaload, 1) := by decide +kernel
theorem dL_law_714 : decode cL_law 714 = .ok (.invokevirtual 75, 3) := by decide +kernel
theorem dL_law_717 : decode cL_law 717 = .ok (.if_icmp .eq 18, 3) := by decide +kernel
theorem dL_law_720 : decode cL_law 720 = .ok (.iconst 0, 1) := by decide +kernel
theorem dL_law_721 : decode cL_law 721 = .ok (.ireturn, 1) := by decide +kernel
theorem dL_law_722 : decode cL_law 722 = .ok (.aload_n 1, 1) := by decide +kernel
theorem dL_law_723 : decode cL_law 723 = .ok (.invokevirtual 76, 3) := by decide +kernel
theorem dL_law_726 : decode cL_law 726 = .ok (.aload_n 2, 1) := by decide +kernel
theorem dL_law_727 : decode cL_law 727 = .ok (.invokevirtual 79, 3) := by decide +kernel
theorem dL_law_730 : decode cL_law 730 = .ok (.if_icmp .eq 5, 3) := by decide +kernel
theorem dL_law_733 : decode cL_law 733 = .ok (.iconst 0, 1) := by decide +kernel
theorem dL_law_734 : decode cL_law 734 = .ok (.ireturn, 1) := by decide +kernel
theorem dL_law_735 : decode cL_law 735 = .ok (.iinc 3 8, 3) := by decide +kernel
theorem dL_law_738 : decode cL_law 738 = .ok (.goto (-720), 3) := by decide +kernel
theorem dL_law_741 : decode cL_law 741 = .ok (.iconst 1, 1) := by decide +kernel
theorem dL_law_742 : decode cL_law 742 = .ok (.ireturn, 1) := by decide +kernel
end
