-- ===== PART A: goes FIRST, ahead of the names: the tables' words, and 'selects' of the private methods out of them =====
/-- a private method of a class that the tables say can be made, by its rows of tables_1 -/
def lw_okq (q : MethodName × Nat) : Prop := (q.1.cls ≠ "java/lang/invoke/MethodHandle" ∧ q.1.cls ≠ "java/lang/invoke/VarHandle") ∧ Cond.instantiable q.1.cls q.2 ∈ tables_1 ∧ Cond.privateMethod q.1 ∈ tables_1 ∧ Cond.instanceMethod q.1 ∈ tables_1
theorem lw_p0 : lw_okq (⟨"EtchBath", "finding", "(I)I"⟩, 10) := ⟨⟨by decide +kernel, by decide +kernel⟩, List.mem_of_getElem? (i := 9) (by decide +kernel), List.mem_of_getElem? (i := 162) (by decide +kernel), List.mem_of_getElem? (i := 163) (by decide +kernel)⟩
theorem lw_p1 : lw_okq (⟨"EtchBath", "bite", "()I"⟩, 10) := ⟨⟨by decide +kernel, by decide +kernel⟩, List.mem_of_getElem? (i := 9) (by decide +kernel), List.mem_of_getElem? (i := 205) (by decide +kernel), List.mem_of_getElem? (i := 206) (by decide +kernel)⟩
theorem lw_p2 : lw_okq (⟨"EtchBath$Plates", "batheCell", "(III)V"⟩, 4) := ⟨⟨by decide +kernel, by decide +kernel⟩, List.mem_of_getElem? (i := 17) (by decide +kernel), List.mem_of_getElem? (i := 220) (by decide +kernel), List.mem_of_getElem? (i := 221) (by decide +kernel)⟩
theorem lw_p3 : lw_okq (⟨"EtchBath$Plates", "bitingMinutes", "(II)I"⟩, 4) := ⟨⟨by decide +kernel, by decide +kernel⟩, List.mem_of_getElem? (i := 17) (by decide +kernel), List.mem_of_getElem? (i := 224) (by decide +kernel), List.mem_of_getElem? (i := 225) (by decide +kernel)⟩
theorem lw_p4 : lw_okq (⟨"EtchBath$Plates", "minuteOfDepth", "(III)I"⟩, 4) := ⟨⟨by decide +kernel, by decide +kernel⟩, List.mem_of_getElem? (i := 17) (by decide +kernel), List.mem_of_getElem? (i := 269) (by decide +kernel), List.mem_of_getElem? (i := 270) (by decide +kernel)⟩
theorem lw_p5 : lw_okq (⟨"EtchBath$Wishes", "findSpans", "(LEtchBath$Plates;I)Z"⟩, 7) := ⟨⟨by decide +kernel, by decide +kernel⟩, List.mem_of_getElem? (i := 46) (by decide +kernel), List.mem_of_getElem? (i := 307) (by decide +kernel), List.mem_of_getElem? (i := 308) (by decide +kernel)⟩
theorem lw_p6 : lw_okq (⟨"EtchBath$Wishes", "fewestBehind", "(I)I"⟩, 7) := ⟨⟨by decide +kernel, by decide +kernel⟩, List.mem_of_getElem? (i := 46) (by decide +kernel), List.mem_of_getElem? (i := 313) (by decide +kernel), List.mem_of_getElem? (i := 314) (by decide +kernel)⟩
theorem lw_p7 : lw_okq (⟨"EtchBath$Wishes", "earliestLastBehind", "(I)I"⟩, 7) := ⟨⟨by decide +kernel, by decide +kernel⟩, List.mem_of_getElem? (i := 46) (by decide +kernel), List.mem_of_getElem? (i := 317) (by decide +kernel), List.mem_of_getElem? (i := 318) (by decide +kernel)⟩
theorem lw_p8 : lw_okq (⟨"EtchBath$Wishes", "leastMinuteBehind", "(II)I"⟩, 7) := ⟨⟨by decide +kernel, by decide +kernel⟩, List.mem_of_getElem? (i := 46) (by decide +kernel), List.mem_of_getElem? (i := 321) (by decide +kernel), List.mem_of_getElem? (i := 322) (by decide +kernel)⟩
theorem lw_p9 : lw_okq (⟨"EtchBath$Wishes", "stopDue", "(LEtchBath$Plates;I)V"⟩, 7) := ⟨⟨by decide +kernel, by decide +kernel⟩, List.mem_of_getElem? (i := 46) (by decide +kernel), List.mem_of_getElem? (i := 338) (by decide +kernel), List.mem_of_getElem? (i := 339) (by decide +kernel)⟩
theorem lw_p10 : lw_okq (⟨"EtchBath$Press", "ink", "(LEtchBath$Plates;II)I"⟩, 4) := ⟨⟨by decide +kernel, by decide +kernel⟩, List.mem_of_getElem? (i := 77) (by decide +kernel), List.mem_of_getElem? (i := 377) (by decide +kernel), List.mem_of_getElem? (i := 378) (by decide +kernel)⟩
theorem lw_p11 : lw_okq (⟨"EtchBath$Guards", "pullsHeldBy", "(III)I"⟩, 4) := ⟨⟨by decide +kernel, by decide +kernel⟩, List.mem_of_getElem? (i := 100) (by decide +kernel), List.mem_of_getElem? (i := 426) (by decide +kernel), List.mem_of_getElem? (i := 427) (by decide +kernel)⟩
theorem lw_p12 : lw_okq (⟨"EtchBath", "statesKept", "()I"⟩, 10) := ⟨⟨by decide +kernel, by decide +kernel⟩, List.mem_of_getElem? (i := 9) (by decide +kernel), List.mem_of_getElem? (i := 445) (by decide +kernel), List.mem_of_getElem? (i := 446) (by decide +kernel)⟩
theorem lw_p13 : lw_okq (⟨"EtchBathModel", "finds", "(I)I"⟩, 29) := ⟨⟨by decide +kernel, by decide +kernel⟩, List.mem_of_getElem? (i := 457) (by decide +kernel), List.mem_of_getElem? (i := 561) (by decide +kernel), List.mem_of_getElem? (i := 562) (by decide +kernel)⟩
theorem lw_p14 : lw_okq (⟨"EtchBathModel", "times", "(I)I"⟩, 29) := ⟨⟨by decide +kernel, by decide +kernel⟩, List.mem_of_getElem? (i := 457) (by decide +kernel), List.mem_of_getElem? (i := 573) (by decide +kernel), List.mem_of_getElem? (i := 574) (by decide +kernel)⟩
theorem lw_p15 : lw_okq (⟨"EtchBathModel", "bite", "()I"⟩, 29) := ⟨⟨by decide +kernel, by decide +kernel⟩, List.mem_of_getElem? (i := 457) (by decide +kernel), List.mem_of_getElem? (i := 592) (by decide +kernel), List.mem_of_getElem? (i := 593) (by decide +kernel)⟩
def lw_privs_1 : List (MethodName × Nat) := [(⟨"EtchBath", "finding", "(I)I"⟩, 10), (⟨"EtchBath", "bite", "()I"⟩, 10), (⟨"EtchBath$Plates", "batheCell", "(III)V"⟩, 4), (⟨"EtchBath$Plates", "bitingMinutes", "(II)I"⟩, 4), (⟨"EtchBath$Plates", "minuteOfDepth", "(III)I"⟩, 4), (⟨"EtchBath$Wishes", "findSpans", "(LEtchBath$Plates;I)Z"⟩, 7), (⟨"EtchBath$Wishes", "fewestBehind", "(I)I"⟩, 7), (⟨"EtchBath$Wishes", "earliestLastBehind", "(I)I"⟩, 7), (⟨"EtchBath$Wishes", "leastMinuteBehind", "(II)I"⟩, 7), (⟨"EtchBath$Wishes", "stopDue", "(LEtchBath$Plates;I)V"⟩, 7), (⟨"EtchBath$Press", "ink", "(LEtchBath$Plates;II)I"⟩, 4), (⟨"EtchBath$Guards", "pullsHeldBy", "(III)I"⟩, 4), (⟨"EtchBath", "statesKept", "()I"⟩, 10), (⟨"EtchBathModel", "finds", "(I)I"⟩, 29), (⟨"EtchBathModel", "times", "(I)I"⟩, 29), (⟨"EtchBathModel", "bite", "()I"⟩, 29)]
theorem lw_r1 : ∀ q ∈ lw_privs_1, lw_okq q := List.forall_mem_cons.mpr ⟨lw_p0, List.forall_mem_cons.mpr ⟨lw_p1, List.forall_mem_cons.mpr ⟨lw_p2, List.forall_mem_cons.mpr ⟨lw_p3, List.forall_mem_cons.mpr ⟨lw_p4, List.forall_mem_cons.mpr ⟨lw_p5, List.forall_mem_cons.mpr ⟨lw_p6, List.forall_mem_cons.mpr ⟨lw_p7, List.forall_mem_cons.mpr ⟨lw_p8, List.forall_mem_cons.mpr ⟨lw_p9, List.forall_mem_cons.mpr ⟨lw_p10, List.forall_mem_cons.mpr ⟨lw_p11, List.forall_mem_cons.mpr ⟨lw_p12, List.forall_mem_cons.mpr ⟨lw_p13, List.forall_mem_cons.mpr ⟨lw_p14, List.forall_mem_cons.mpr ⟨lw_p15, fun _ h => absurd h List.not_mem_nil⟩⟩⟩⟩⟩⟩⟩⟩⟩⟩⟩⟩⟩⟩⟩⟩
theorem lw_p16 : lw_okq (⟨"EtchBathModel", "bathes", "(II)V"⟩, 29) := ⟨⟨by decide +kernel, by decide +kernel⟩, List.mem_of_getElem? (i := 457) (by decide +kernel), List.mem_of_getElem? (i := 600) (by decide +kernel), List.mem_of_getElem? (i := 601) (by decide +kernel)⟩
theorem lw_p17 : lw_okq (⟨"EtchBathModel", "bites", "(I)V"⟩, 29) := ⟨⟨by decide +kernel, by decide +kernel⟩, List.mem_of_getElem? (i := 457) (by decide +kernel), List.mem_of_getElem? (i := 604) (by decide +kernel), List.mem_of_getElem? (i := 605) (by decide +kernel)⟩
theorem lw_p18 : lw_okq (⟨"EtchBathModel", "looks", "(II)Z"⟩, 29) := ⟨⟨by decide +kernel, by decide +kernel⟩, List.mem_of_getElem? (i := 457) (by decide +kernel), List.mem_of_getElem? (i := 623) (by decide +kernel), List.mem_of_getElem? (i := 624) (by decide +kernel)⟩
theorem lw_p19 : lw_okq (⟨"EtchBathModel", "plans", "()Z"⟩, 29) := ⟨⟨by decide +kernel, by decide +kernel⟩, List.mem_of_getElem? (i := 457) (by decide +kernel), List.mem_of_getElem? (i := 639) (by decide +kernel), List.mem_of_getElem? (i := 640) (by decide +kernel)⟩
theorem lw_p20 : lw_okq (⟨"EtchBathModel", "fewest", "(I[Z)I"⟩, 29) := ⟨⟨by decide +kernel, by decide +kernel⟩, List.mem_of_getElem? (i := 457) (by decide +kernel), List.mem_of_getElem? (i := 643) (by decide +kernel), List.mem_of_getElem? (i := 644) (by decide +kernel)⟩
theorem lw_p21 : lw_okq (⟨"EtchBathModel", "canBe", "(II)Z"⟩, 29) := ⟨⟨by decide +kernel, by decide +kernel⟩, List.mem_of_getElem? (i := 457) (by decide +kernel), List.mem_of_getElem? (i := 647) (by decide +kernel), List.mem_of_getElem? (i := 648) (by decide +kernel)⟩
theorem lw_p22 : lw_okq (⟨"EtchBathModel", "copies", "(II)V"⟩, 29) := ⟨⟨by decide +kernel, by decide +kernel⟩, List.mem_of_getElem? (i := 457) (by decide +kernel), List.mem_of_getElem? (i := 666) (by decide +kernel), List.mem_of_getElem? (i := 667) (by decide +kernel)⟩
theorem lw_p23 : lw_okq (⟨"EtchBathModel", "differ", "(II)I"⟩, 29) := ⟨⟨by decide +kernel, by decide +kernel⟩, List.mem_of_getElem? (i := 457) (by decide +kernel), List.mem_of_getElem? (i := 674) (by decide +kernel), List.mem_of_getElem? (i := 675) (by decide +kernel)⟩
theorem lw_p24 : lw_okq (⟨"EtchBathModel", "colourAt", "(I)I"⟩, 29) := ⟨⟨by decide +kernel, by decide +kernel⟩, List.mem_of_getElem? (i := 457) (by decide +kernel), List.mem_of_getElem? (i := 690) (by decide +kernel), List.mem_of_getElem? (i := 691) (by decide +kernel)⟩
theorem lw_p25 : lw_okq (⟨"EtchBathModel", "ink", "(II)I"⟩, 29) := ⟨⟨by decide +kernel, by decide +kernel⟩, List.mem_of_getElem? (i := 457) (by decide +kernel), List.mem_of_getElem? (i := 694) (by decide +kernel), List.mem_of_getElem? (i := 695) (by decide +kernel)⟩
theorem lw_p26 : lw_okq (⟨"EtchBathModel", "wears", "(I)V"⟩, 29) := ⟨⟨by decide +kernel, by decide +kernel⟩, List.mem_of_getElem? (i := 457) (by decide +kernel), List.mem_of_getElem? (i := 706) (by decide +kernel), List.mem_of_getElem? (i := 707) (by decide +kernel)⟩
theorem lw_p27 : lw_okq (⟨"EtchBathModel", "allHold", "()Z"⟩, 29) := ⟨⟨by decide +kernel, by decide +kernel⟩, List.mem_of_getElem? (i := 457) (by decide +kernel), List.mem_of_getElem? (i := 718) (by decide +kernel), List.mem_of_getElem? (i := 719) (by decide +kernel)⟩
def lw_privs_2 : List (MethodName × Nat) := [(⟨"EtchBathModel", "bathes", "(II)V"⟩, 29), (⟨"EtchBathModel", "bites", "(I)V"⟩, 29), (⟨"EtchBathModel", "looks", "(II)Z"⟩, 29), (⟨"EtchBathModel", "plans", "()Z"⟩, 29), (⟨"EtchBathModel", "fewest", "(I[Z)I"⟩, 29), (⟨"EtchBathModel", "canBe", "(II)Z"⟩, 29), (⟨"EtchBathModel", "copies", "(II)V"⟩, 29), (⟨"EtchBathModel", "differ", "(II)I"⟩, 29), (⟨"EtchBathModel", "colourAt", "(I)I"⟩, 29), (⟨"EtchBathModel", "ink", "(II)I"⟩, 29), (⟨"EtchBathModel", "wears", "(I)V"⟩, 29), (⟨"EtchBathModel", "allHold", "()Z"⟩, 29)]
theorem lw_r2 : ∀ q ∈ lw_privs_2, lw_okq q := List.forall_mem_cons.mpr ⟨lw_p16, List.forall_mem_cons.mpr ⟨lw_p17, List.forall_mem_cons.mpr ⟨lw_p18, List.forall_mem_cons.mpr ⟨lw_p19, List.forall_mem_cons.mpr ⟨lw_p20, List.forall_mem_cons.mpr ⟨lw_p21, List.forall_mem_cons.mpr ⟨lw_p22, List.forall_mem_cons.mpr ⟨lw_p23, List.forall_mem_cons.mpr ⟨lw_p24, List.forall_mem_cons.mpr ⟨lw_p25, List.forall_mem_cons.mpr ⟨lw_p26, List.forall_mem_cons.mpr ⟨lw_p27, fun _ h => absurd h List.not_mem_nil⟩⟩⟩⟩⟩⟩⟩⟩⟩⟩⟩⟩
def lw_privs : List (MethodName × Nat) := lw_privs_1 ++ (lw_privs_2)
def lw_tbl : List Cond := k2_sels lw_privs ++ tables_1
theorem lw_privs_ok : ∀ q ∈ lw_privs, lw_okq q := by
  show ∀ q ∈ lw_privs_1 ++ (lw_privs_2), lw_okq q
  exact List.forall_mem_append.mpr ⟨lw_r1, lw_r2⟩
def RX0 : String := "EtchBath$Guards"
def TX0 : u_T := fun k => match k with
  | 0 => ("EtchBath$Guards", "spots", "[I", true)
  | 1 => ("EtchBath$Guards", "lows", "[I", true)
  | 2 => ("EtchBath$Guards", "highs", "[I", true)
  | _ => ("EtchBath$Guards", "size", "I", false)
def tyX0 : Nat → FieldType := fun k => match k with
  | 0 => .array .int
  | 1 => .array .int
  | 2 => .array .int
  | _ => .int
theorem nmX0 : ∀ a, a < 4 → ∀ b, b < 4 → a ≠ b → (TX0 a).2.1 ≠ (TX0 b).2.1 := by decide +kernel
theorem tyX0_ok : ∀ k, k < 4 → parseFieldDescriptor (TX0 k).2.2.1 = some (tyX0 k) := by decide +kernel
abbrev cX0_init : ByteArray := prog_2_method_1_code
def yX0_init : MethodName := ⟨RX0, "<init>", "()V"⟩
abbrev cX0_plateOfAll : ByteArray := prog_2_method_2_code
def yX0_plateOfAll : MethodName := ⟨RX0, "plateOfAll", "()I"⟩
abbrev cX0_addGuard : ByteArray := prog_2_method_3_code
def yX0_addGuard : MethodName := ⟨RX0, "addGuard", "(III)V"⟩
abbrev cX0_pullsHeld : ByteArray := prog_2_method_4_code
def yX0_pullsHeld : MethodName := ⟨RX0, "pullsHeld", "(LEtchBath$Plates;I)I"⟩
abbrev cX0_pullsHeldBy : ByteArray := prog_2_method_5_code
def yX0_pullsHeldBy : MethodName := ⟨RX0, "pullsHeldBy", "(III)I"⟩
def RX1 : String := "EtchBath$Plates"
def TX1 : u_T := fun k => match k with
  | 0 => ("EtchBath$Plates", "kinds", "[I", true)
  | 1 => ("EtchBath$Plates", "depths", "[I", true)
  | 2 => ("EtchBath$Plates", "lives", "[I", true)
  | _ => ("EtchBath$Plates", "stops", "[Z", true)
def tyX1 : Nat → FieldType := fun k => match k with
  | 0 => .array .int
  | 1 => .array .int
  | 2 => .array .int
  | _ => .array .boolean
theorem nmX1 : ∀ a, a < 4 → ∀ b, b < 4 → a ≠ b → (TX1 a).2.1 ≠ (TX1 b).2.1 := by decide +kernel
theorem tyX1_ok : ∀ k, k < 4 → parseFieldDescriptor (TX1 k).2.2.1 = some (tyX1 k) := by decide +kernel
abbrev cX1_init : ByteArray := prog_3_method_1_code
def yX1_init : MethodName := ⟨RX1, "<init>", "()V"⟩
abbrev cX1_layGround : ByteArray := prog_3_method_2_code
def yX1_layGround : MethodName := ⟨RX1, "layGround", "(II)V"⟩
abbrev cX1_toneAt : ByteArray := prog_3_method_3_code
def yX1_toneAt : MethodName := ⟨RX1, "toneAt", "(I)I"⟩
abbrev cX1_timesBite : ByteArray := prog_3_method_4_code
def yX1_timesBite : MethodName := ⟨RX1, "timesBite", "(I)I"⟩
abbrev cX1_cleanPlate : ByteArray := prog_3_method_5_code
def yX1_cleanPlate : MethodName := ⟨RX1, "cleanPlate", "(I)I"⟩
abbrev cX1_bathePlate : ByteArray := prog_3_method_6_code
def yX1_bathePlate : MethodName := ⟨RX1, "bathePlate", "(III)V"⟩
abbrev cX1_batheCell : ByteArray := prog_3_method_7_code
def yX1_batheCell : MethodName := ⟨RX1, "batheCell", "(III)V"⟩
abbrev cX1_bitingMinutes : ByteArray := prog_3_method_8_code
def yX1_bitingMinutes : MethodName := ⟨RX1, "bitingMinutes", "(II)I"⟩
abbrev cX1_depthOfPlate : ByteArray := prog_3_method_9_code
def yX1_depthOfPlate : MethodName := ⟨RX1, "depthOfPlate", "(I)I"⟩
abbrev cX1_scrapeCell : ByteArray := prog_3_method_10_code
def yX1_scrapeCell : MethodName := ⟨RX1, "scrapeCell", "(II)V"⟩
abbrev cX1_firstMinute : ByteArray := prog_3_method_11_code
def yX1_firstMinute : MethodName := ⟨RX1, "firstMinute", "(III)I"⟩
abbrev cX1_lastMinute : ByteArray := prog_3_method_12_code
def yX1_lastMinute : MethodName := ⟨RX1, "lastMinute", "(III)I"⟩
abbrev cX1_minuteOfDepth : ByteArray := prog_3_method_13_code
def yX1_minuteOfDepth : MethodName := ⟨RX1, "minuteOfDepth", "(III)I"⟩
abbrev cX1_differences : ByteArray := prog_3_method_14_code
def yX1_differences : MethodName := ⟨RX1, "differences", "(LEtchBath$Plates;I)I"⟩
abbrev cX1_copyPlate : ByteArray := prog_3_method_15_code
def yX1_copyPlate : MethodName := ⟨RX1, "copyPlate", "(LEtchBath$Plates;I)V"⟩
abbrev cX1_stoppedOfAll : ByteArray := prog_3_method_16_code
def yX1_stoppedOfAll : MethodName := ⟨RX1, "stoppedOfAll", "()I"⟩
def RX2 : String := "EtchBath$Press"
def TX2 : u_T := fun k => match k with
  | 0 => ("EtchBath$Press", "downs", "[I", true)
  | 1 => ("EtchBath$Press", "rights", "[I", true)
  | 2 => ("EtchBath$Press", "steels", "[I", true)
  | _ => ("EtchBath$Press", "pulls", "I", false)
def tyX2 : Nat → FieldType := fun k => match k with
  | 0 => .array .int
  | 1 => .array .int
  | 2 => .array .int
  | _ => .int
theorem nmX2 : ∀ a, a < 4 → ∀ b, b < 4 → a ≠ b → (TX2 a).2.1 ≠ (TX2 b).2.1 := by decide +kernel
theorem tyX2_ok : ∀ k, k < 4 → parseFieldDescriptor (TX2 k).2.2.1 = some (tyX2 k) := by decide +kernel
abbrev cX2_init : ByteArray := prog_4_method_1_code
def yX2_init : MethodName := ⟨RX2, "<init>", "()V"⟩
abbrev cX2_colourAt : ByteArray := prog_4_method_2_code
def yX2_colourAt : MethodName := ⟨RX2, "colourAt", "(LEtchBath$Plates;I)I"⟩
abbrev cX2_colourOfAll : ByteArray := prog_4_method_3_code
def yX2_colourOfAll : MethodName := ⟨RX2, "colourOfAll", "(LEtchBath$Plates;)I"⟩
abbrev cX2_ink : ByteArray := prog_4_method_4_code
def yX2_ink : MethodName := ⟨RX2, "ink", "(LEtchBath$Plates;II)I"⟩
abbrev cX2_pullAll : ByteArray := prog_4_method_5_code
def yX2_pullAll : MethodName := ⟨RX2, "pullAll", "(LEtchBath$Plates;I)V"⟩
abbrev cX2_wearPlate : ByteArray := prog_4_method_6_code
def yX2_wearPlate : MethodName := ⟨RX2, "wearPlate", "(LEtchBath$Plates;II)V"⟩
def RX3 : String := "EtchBath$Wishes"
def TX3 : u_T := fun k => match k with
  | 0 => ("EtchBath$Wishes", "spots", "[I", true)
  | 1 => ("EtchBath$Wishes", "tones", "[I", true)
  | 2 => ("EtchBath$Wishes", "firsts", "[I", true)
  | 3 => ("EtchBath$Wishes", "lasts", "[I", true)
  | 4 => ("EtchBath$Wishes", "minutes", "[I", true)
  | 5 => ("EtchBath$Wishes", "size", "I", false)
  | _ => ("EtchBath$Wishes", "planned", "I", false)
def tyX3 : Nat → FieldType := fun k => match k with
  | 0 => .array .int
  | 1 => .array .int
  | 2 => .array .int
  | 3 => .array .int
  | 4 => .array .int
  | 5 => .int
  | _ => .int
theorem nmX3 : ∀ a, a < 7 → ∀ b, b < 7 → a ≠ b → (TX3 a).2.1 ≠ (TX3 b).2.1 := by decide +kernel
theorem tyX3_ok : ∀ k, k < 7 → parseFieldDescriptor (TX3 k).2.2.1 = some (tyX3 k) := by decide +kernel
abbrev cX3_init : ByteArray := prog_5_method_1_code
def yX3_init : MethodName := ⟨RX3, "<init>", "()V"⟩
abbrev cX3_isOfSamePlate : ByteArray := prog_5_method_2_code
def yX3_isOfSamePlate : MethodName := ⟨RX3, "isOfSamePlate", "(I)Z"⟩
abbrev cX3_hasSpot : ByteArray := prog_5_method_3_code
def yX3_hasSpot : MethodName := ⟨RX3, "hasSpot", "(I)Z"⟩
abbrev cX3_addWish : ByteArray := prog_5_method_4_code
def yX3_addWish : MethodName := ⟨RX3, "addWish", "(II)V"⟩
abbrev cX3_plan : ByteArray := prog_5_method_5_code
def yX3_plan : MethodName := ⟨RX3, "plan", "(LEtchBath$Plates;I)Z"⟩
abbrev cX3_findSpans : ByteArray := prog_5_method_6_code
def yX3_findSpans : MethodName := ⟨RX3, "findSpans", "(LEtchBath$Plates;I)Z"⟩
abbrev cX3_fewestBehind : ByteArray := prog_5_method_7_code
def yX3_fewestBehind : MethodName := ⟨RX3, "fewestBehind", "(I)I"⟩
abbrev cX3_earliestLastBehind : ByteArray := prog_5_method_8_code
def yX3_earliestLastBehind : MethodName := ⟨RX3, "earliestLastBehind", "(I)I"⟩
abbrev cX3_leastMinuteBehind : ByteArray := prog_5_method_9_code
def yX3_leastMinuteBehind : MethodName := ⟨RX3, "leastMinuteBehind", "(II)I"⟩
abbrev cX3_fulfil : ByteArray := prog_5_method_10_code
def yX3_fulfil : MethodName := ⟨RX3, "fulfil", "(LEtchBath$Plates;I)V"⟩
abbrev cX3_stopDue : ByteArray := prog_5_method_11_code
def yX3_stopDue : MethodName := ⟨RX3, "stopDue", "(LEtchBath$Plates;I)V"⟩
def RX4 : String := "EtchBath"
def TX4 : u_T := fun k => match k with
  | 0 => ("EtchBath", "plates", "LEtchBath$Plates;", true)
  | 1 => ("EtchBath", "states", "[LEtchBath$Plates;", true)
  | 2 => ("EtchBath", "wishes", "LEtchBath$Wishes;", true)
  | 3 => ("EtchBath", "press", "LEtchBath$Press;", true)
  | 4 => ("EtchBath", "guards", "LEtchBath$Guards;", true)
  | 5 => ("EtchBath", "numbers", "[I", true)
  | 6 => ("EtchBath", "findings", "[I", true)
  | 7 => ("EtchBath", "waiting", "I", false)
  | 8 => ("EtchBath", "strength", "I", false)
  | _ => ("EtchBath", "heat", "I", false)
def tyX4 : Nat → FieldType := fun k => match k with
  | 0 => .object "EtchBath$Plates"
  | 1 => .array (.object "EtchBath$Plates")
  | 2 => .object "EtchBath$Wishes"
  | 3 => .object "EtchBath$Press"
  | 4 => .object "EtchBath$Guards"
  | 5 => .array .int
  | 6 => .array .int
  | 7 => .int
  | 8 => .int
  | _ => .int
theorem nmX4 : ∀ a, a < 10 → ∀ b, b < 10 → a ≠ b → (TX4 a).2.1 ≠ (TX4 b).2.1 := by decide +kernel
theorem tyX4_ok : ∀ k, k < 10 → parseFieldDescriptor (TX4 k).2.2.1 = some (tyX4 k) := by decide +kernel
abbrev cX4_init : ByteArray := prog_1_method_1_code
def yX4_init : MethodName := ⟨RX4, "<init>", "()V"⟩
abbrev cX4_ground : ByteArray := prog_1_method_2_code
def yX4_ground : MethodName := ⟨RX4, "ground", "(II)I"⟩
abbrev cX4_as : ByteArray := prog_1_method_3_code
def yX4_as : MethodName := ⟨RX4, "as", "(II)I"⟩
abbrev cX4_stop : ByteArray := prog_1_method_4_code
def yX4_stop : MethodName := ⟨RX4, "stop", "(II)I"⟩
abbrev cX4_clean : ByteArray := prog_1_method_5_code
def yX4_clean : MethodName := ⟨RX4, "clean", "(I)I"⟩
abbrev cX4_bath : ByteArray := prog_1_method_6_code
def yX4_bath : MethodName := ⟨RX4, "bath", "(II)I"⟩
abbrev cX4_bathe : ByteArray := prog_1_method_7_code
def yX4_bathe : MethodName := ⟨RX4, "bathe", "(II)I"⟩
abbrev cX4_scrape : ByteArray := prog_1_method_8_code
def yX4_scrape : MethodName := ⟨RX4, "scrape", "(II)I"⟩
abbrev cX4_about : ByteArray := prog_1_method_9_code
def yX4_about : MethodName := ⟨RX4, "about", "(II)I"⟩
abbrev cX4_span : ByteArray := prog_1_method_10_code
def yX4_span : MethodName := ⟨RX4, "span", "(IIZ)I"⟩
abbrev cX4_wish : ByteArray := prog_1_method_11_code
def yX4_wish : MethodName := ⟨RX4, "wish", "(II)I"⟩
abbrev cX4_clear : ByteArray := prog_1_method_12_code
def yX4_clear : MethodName := ⟨RX4, "clear", "()I"⟩
abbrev cX4_baths : ByteArray := prog_1_method_13_code
def yX4_baths : MethodName := ⟨RX4, "baths", "()I"⟩
abbrev cX4_minute : ByteArray := prog_1_method_14_code
def yX4_minute : MethodName := ⟨RX4, "minute", "(I)I"⟩
abbrev cX4_work : ByteArray := prog_1_method_15_code
def yX4_work : MethodName := ⟨RX4, "work", "()I"⟩
abbrev cX4_keep : ByteArray := prog_1_method_16_code
def yX4_keep : MethodName := ⟨RX4, "keep", "(I)I"⟩
abbrev cX4_changed : ByteArray := prog_1_method_17_code
def yX4_changed : MethodName := ⟨RX4, "changed", "(II)I"⟩
abbrev cX4_back : ByteArray := prog_1_method_18_code
def yX4_back : MethodName := ⟨RX4, "back", "(II)I"⟩
abbrev cX4_offset : ByteArray := prog_1_method_19_code
def yX4_offset : MethodName := ⟨RX4, "offset", "(III)I"⟩
abbrev cX4_colour : ByteArray := prog_1_method_20_code
def yX4_colour : MethodName := ⟨RX4, "colour", "(I)I"⟩
abbrev cX4_steel : ByteArray := prog_1_method_21_code
def yX4_steel : MethodName := ⟨RX4, "steel", "(II)I"⟩
abbrev cX4_pull : ByteArray := prog_1_method_22_code
def yX4_pull : MethodName := ⟨RX4, "pull", "(I)I"⟩
abbrev cX4_guard : ByteArray := prog_1_method_23_code
def yX4_guard : MethodName := ⟨RX4, "guard", "(III)I"⟩
abbrev cX4_edition : ByteArray := prog_1_method_24_code
def yX4_edition : MethodName := ⟨RX4, "edition", "()I"⟩
abbrev cX4_tell : ByteArray := prog_1_method_25_code
def yX4_tell : MethodName := ⟨RX4, "tell", "(I)I"⟩
abbrev cX4_check : ByteArray := prog_1_method_26_code
def yX4_check : MethodName := ⟨RX4, "check", "(I)I"⟩
abbrev cX4_count : ByteArray := prog_1_method_27_code
def yX4_count : MethodName := ⟨RX4, "count", "(I)I"⟩
abbrev cX4_found : ByteArray := prog_1_method_28_code
def yX4_found : MethodName := ⟨RX4, "found", "(I)I"⟩
abbrev cX4_finding : ByteArray := prog_1_method_29_code
def yX4_finding : MethodName := ⟨RX4, "finding", "(I)I"⟩
abbrev cX4_bite : ByteArray := prog_1_method_30_code
def yX4_bite : MethodName := ⟨RX4, "bite", "()I"⟩
abbrev cX4_statesKept : ByteArray := prog_1_method_31_code
def yX4_statesKept : MethodName := ⟨RX4, "statesKept", "()I"⟩
abbrev cX4_spotOf : ByteArray := prog_1_method_32_code
def yX4_spotOf : MethodName := ⟨RX4, "spotOf", "(I)I"⟩
abbrev cX4_isPlate : ByteArray := prog_1_method_33_code
def yX4_isPlate : MethodName := ⟨RX4, "isPlate", "(I)Z"⟩
abbrev cX4_isKind : ByteArray := prog_1_method_34_code
def yX4_isKind : MethodName := ⟨RX4, "isKind", "(I)Z"⟩
abbrev cX4_isUnder : ByteArray := prog_1_method_35_code
def yX4_isUnder : MethodName := ⟨RX4, "isUnder", "(II)Z"⟩
abbrev cX4_isTone : ByteArray := prog_1_method_36_code
def yX4_isTone : MethodName := ⟨RX4, "isTone", "(I)Z"⟩
abbrev cX4_isState : ByteArray := prog_1_method_37_code
def yX4_isState : MethodName := ⟨RX4, "isState", "(I)Z"⟩
abbrev cX4_isSwitch : ByteArray := prog_1_method_38_code
def yX4_isSwitch : MethodName := ⟨RX4, "isSwitch", "(I)Z"⟩
abbrev cX4_toneOf : ByteArray := prog_1_method_39_code
def yX4_toneOf : MethodName := ⟨RX4, "toneOf", "(I)I"⟩
abbrev cX4_worn : ByteArray := prog_1_method_40_code
def yX4_worn : MethodName := ⟨RX4, "worn", "(I)I"⟩
def RX5 : String := "EtchBathModel"
def TX5 : u_T := fun k => match k with
  | 0 => ("EtchBathModel", "ground", "[I", true)
  | 1 => ("EtchBathModel", "depth", "[I", true)
  | 2 => ("EtchBathModel", "life", "[I", true)
  | 3 => ("EtchBathModel", "isStopped", "[Z", true)
  | 4 => ("EtchBathModel", "isKept", "[Z", true)
  | 5 => ("EtchBathModel", "strength", "I", false)
  | 6 => ("EtchBathModel", "heat", "I", false)
  | 7 => ("EtchBathModel", "wishes", "I", false)
  | 8 => ("EtchBathModel", "wishCell", "[I", true)
  | 9 => ("EtchBathModel", "wishTone", "[I", true)
  | 10 => ("EtchBathModel", "first", "[I", true)
  | 11 => ("EtchBathModel", "last", "[I", true)
  | 12 => ("EtchBathModel", "baths", "I", false)
  | 13 => ("EtchBathModel", "minute", "[I", true)
  | 14 => ("EtchBathModel", "down", "[I", true)
  | 15 => ("EtchBathModel", "right", "[I", true)
  | 16 => ("EtchBathModel", "steel", "[I", true)
  | 17 => ("EtchBathModel", "pulls", "I", false)
  | 18 => ("EtchBathModel", "guards", "I", false)
  | 19 => ("EtchBathModel", "guardCell", "[I", true)
  | 20 => ("EtchBathModel", "guardLow", "[I", true)
  | 21 => ("EtchBathModel", "guardHigh", "[I", true)
  | 22 => ("EtchBathModel", "waiting", "I", false)
  | 23 => ("EtchBathModel", "told", "[I", true)
  | 24 => ("EtchBathModel", "found", "[I", true)
  | 25 => ("EtchBathModel", "begin", "I", false)
  | 26 => ("EtchBathModel", "end", "I", false)
  | 27 => ("EtchBathModel", "isMet", "[Z", true)
  | _ => ("EtchBathModel", "isTried", "[Z", true)
def tyX5 : Nat → FieldType := fun k => match k with
  | 0 => .array .int
  | 1 => .array .int
  | 2 => .array .int
  | 3 => .array .boolean
  | 4 => .array .boolean
  | 5 => .int
  | 6 => .int
  | 7 => .int
  | 8 => .array .int
  | 9 => .array .int
  | 10 => .array .int
  | 11 => .array .int
  | 12 => .int
  | 13 => .array .int
  | 14 => .array .int
  | 15 => .array .int
  | 16 => .array .int
  | 17 => .int
  | 18 => .int
  | 19 => .array .int
  | 20 => .array .int
  | 21 => .array .int
  | 22 => .int
  | 23 => .array .int
  | 24 => .array .int
  | 25 => .int
  | 26 => .int
  | 27 => .array .boolean
  | _ => .array .boolean
theorem nmX5 : ∀ a, a < 29 → ∀ b, b < 29 → a ≠ b → (TX5 a).2.1 ≠ (TX5 b).2.1 := by decide +kernel
theorem tyX5_ok : ∀ k, k < 29 → parseFieldDescriptor (TX5 k).2.2.1 = some (tyX5 k) := by decide +kernel
abbrev cX5_init : ByteArray := prog_7_method_1_code
def yX5_init : MethodName := ⟨RX5, "<init>", "()V"⟩
abbrev cX5_in : ByteArray := prog_7_method_2_code
def yX5_in : MethodName := ⟨RX5, "in", "(III)Z"⟩
abbrev cX5_finds : ByteArray := prog_7_method_3_code
def yX5_finds : MethodName := ⟨RX5, "finds", "(I)I"⟩
abbrev cX5_isPlate : ByteArray := prog_7_method_4_code
def yX5_isPlate : MethodName := ⟨RX5, "isPlate", "(I)Z"⟩
abbrev cX5_isCell : ByteArray := prog_7_method_5_code
def yX5_isCell : MethodName := ⟨RX5, "isCell", "(I)Z"⟩
abbrev cX5_spot : ByteArray := prog_7_method_6_code
def yX5_spot : MethodName := ⟨RX5, "spot", "(I)I"⟩
abbrev cX5_bite : ByteArray := prog_7_method_7_code
def yX5_bite : MethodName := ⟨RX5, "bite", "()I"⟩
abbrev cX5_times : ByteArray := prog_7_method_8_code
def yX5_times : MethodName := ⟨RX5, "times", "(I)I"⟩
abbrev cX5_toneOf : ByteArray := prog_7_method_9_code
def yX5_toneOf : MethodName := ⟨RX5, "toneOf", "(I)I"⟩
abbrev cX5_ground : ByteArray := prog_7_method_10_code
def yX5_ground : MethodName := ⟨RX5, "ground", "(II)I"⟩
abbrev cX5_as : ByteArray := prog_7_method_11_code
def yX5_as : MethodName := ⟨RX5, "as", "(II)I"⟩
abbrev cX5_stop : ByteArray := prog_7_method_12_code
def yX5_stop : MethodName := ⟨RX5, "stop", "(II)I"⟩
abbrev cX5_clean : ByteArray := prog_7_method_13_code
def yX5_clean : MethodName := ⟨RX5, "clean", "(I)I"⟩
abbrev cX5_bath : ByteArray := prog_7_method_14_code
def yX5_bath : MethodName := ⟨RX5, "bath", "(II)I"⟩
abbrev cX5_bites : ByteArray := prog_7_method_15_code
def yX5_bites : MethodName := ⟨RX5, "bites", "(I)V"⟩
abbrev cX5_bathes : ByteArray := prog_7_method_16_code
def yX5_bathes : MethodName := ⟨RX5, "bathes", "(II)V"⟩
abbrev cX5_bathe : ByteArray := prog_7_method_17_code
def yX5_bathe : MethodName := ⟨RX5, "bathe", "(II)I"⟩
abbrev cX5_scrape : ByteArray := prog_7_method_18_code
def yX5_scrape : MethodName := ⟨RX5, "scrape", "(II)I"⟩
abbrev cX5_about : ByteArray := prog_7_method_19_code
def yX5_about : MethodName := ⟨RX5, "about", "(II)I"⟩
abbrev cX5_looks : ByteArray := prog_7_method_20_code
def yX5_looks : MethodName := ⟨RX5, "looks", "(II)Z"⟩
abbrev cX5_span : ByteArray := prog_7_method_21_code
def yX5_span : MethodName := ⟨RX5, "span", "(IIZ)I"⟩
abbrev cX5_wish : ByteArray := prog_7_method_22_code
def yX5_wish : MethodName := ⟨RX5, "wish", "(II)I"⟩
abbrev cX5_clear : ByteArray := prog_7_method_23_code
def yX5_clear : MethodName := ⟨RX5, "clear", "()I"⟩
abbrev cX5_fewest : ByteArray := prog_7_method_24_code
def yX5_fewest : MethodName := ⟨RX5, "fewest", "(I[Z)I"⟩
abbrev cX5_canBe : ByteArray := prog_7_method_25_code
def yX5_canBe : MethodName := ⟨RX5, "canBe", "(II)Z"⟩
abbrev cX5_plans : ByteArray := prog_7_method_26_code
def yX5_plans : MethodName := ⟨RX5, "plans", "()Z"⟩
abbrev cX5_baths : ByteArray := prog_7_method_27_code
def yX5_baths : MethodName := ⟨RX5, "baths", "()I"⟩
abbrev cX5_minute : ByteArray := prog_7_method_28_code
def yX5_minute : MethodName := ⟨RX5, "minute", "(I)I"⟩
abbrev cX5_work : ByteArray := prog_7_method_29_code
def yX5_work : MethodName := ⟨RX5, "work", "()I"⟩
abbrev cX5_copies : ByteArray := prog_7_method_30_code
def yX5_copies : MethodName := ⟨RX5, "copies", "(II)V"⟩
abbrev cX5_state : ByteArray := prog_7_method_31_code
def yX5_state : MethodName := ⟨RX5, "state", "(I)I"⟩
abbrev cX5_keep : ByteArray := prog_7_method_32_code
def yX5_keep : MethodName := ⟨RX5, "keep", "(I)I"⟩
abbrev cX5_differ : ByteArray := prog_7_method_33_code
def yX5_differ : MethodName := ⟨RX5, "differ", "(II)I"⟩
abbrev cX5_changed : ByteArray := prog_7_method_34_code
def yX5_changed : MethodName := ⟨RX5, "changed", "(II)I"⟩
abbrev cX5_back : ByteArray := prog_7_method_35_code
def yX5_back : MethodName := ⟨RX5, "back", "(II)I"⟩
abbrev cX5_offset : ByteArray := prog_7_method_36_code
def yX5_offset : MethodName := ⟨RX5, "offset", "(III)I"⟩
abbrev cX5_ink : ByteArray := prog_7_method_37_code
def yX5_ink : MethodName := ⟨RX5, "ink", "(II)I"⟩
abbrev cX5_colourAt : ByteArray := prog_7_method_38_code
def yX5_colourAt : MethodName := ⟨RX5, "colourAt", "(I)I"⟩
abbrev cX5_colour : ByteArray := prog_7_method_39_code
def yX5_colour : MethodName := ⟨RX5, "colour", "(I)I"⟩
abbrev cX5_steel : ByteArray := prog_7_method_40_code
def yX5_steel : MethodName := ⟨RX5, "steel", "(II)I"⟩
abbrev cX5_wears : ByteArray := prog_7_method_41_code
def yX5_wears : MethodName := ⟨RX5, "wears", "(I)V"⟩
abbrev cX5_pull : ByteArray := prog_7_method_42_code
def yX5_pull : MethodName := ⟨RX5, "pull", "(I)I"⟩
abbrev cX5_guard : ByteArray := prog_7_method_43_code
def yX5_guard : MethodName := ⟨RX5, "guard", "(III)I"⟩
abbrev cX5_allHold : ByteArray := prog_7_method_44_code
def yX5_allHold : MethodName := ⟨RX5, "allHold", "()Z"⟩
abbrev cX5_edition : ByteArray := prog_7_method_45_code
def yX5_edition : MethodName := ⟨RX5, "edition", "()I"⟩
abbrev cX5_tell : ByteArray := prog_7_method_46_code
def yX5_tell : MethodName := ⟨RX5, "tell", "(I)I"⟩
abbrev cX5_check : ByteArray := prog_7_method_47_code
def yX5_check : MethodName := ⟨RX5, "check", "(I)I"⟩
abbrev cX5_count : ByteArray := prog_7_method_48_code
def yX5_count : MethodName := ⟨RX5, "count", "(I)I"⟩
abbrev cX5_found : ByteArray := prog_7_method_49_code
def yX5_found : MethodName := ⟨RX5, "found", "(I)I"⟩
def RL : String := "EtchBathLaw"
abbrev cL_law : ByteArray := code
def yL_law : MethodName := ⟨RL, "law", "([I)Z"⟩
abbrev vwCl : List vw_C := [(RX0, TX0, 4), (RX1, TX1, 4), (RX2, TX2, 4), (RX3, TX3, 7), (RX4, TX4, 10), (RX5, TX5, 29)]
/-! the words that every method of the class may need of its nest mates; a method's world; contracts of one form -/
abbrev zE : Type := va_G × ClassId × ClassId × ClassId
/-- a word of the tables that stays when classes are warmed -/
def zW (w : Cond) : Prop := w ∈ lw_tbl ∧ (((w.onTables && w.keeps) = true ∨ ∃ ty, w = .arrayClass ty) ∨ (∃ a i b n d h, w = .fieldLinkNest a i b n d h) ∨ (∃ a i x h, w = .methodLinkNest a i x h) ∨ ∃ C, w = .arrayOver (.object C))
def zT (U : State) : Prop := ∀ w, zW w → ∀ a : Array Value, w.before a U = true
theorem zT.warm {s U : State} (hW : s.WarmedH U.vm) (h : zT s) : zT U := by
  intro w hw a
  have h0 := h w hw #[]
  rcases hw.2 with g | ⟨a1, i, b, n, d, ho, rfl⟩ | ⟨a1, i, x, ho, rfl⟩ | ⟨C, rfl⟩
  · exact word_at hW g h0
  · exact va_Nw.use rfl (va_Nw.warmF hW h0)
  · exact va_Nw.use rfl (va_Nw.warmM hW h0)
  · exact va_AO.use (va_AO.moved hW.alike h0)
theorem zT.calling {U : State} {g : JFrame} {mk : MethodId} {a : Array Value} (h : zT U) : zT (U.calling g mk a) := zT.warm (s := U) (U := U.calling g mk a) (State.WarmedH.refl U) h
theorem zT.start {s : State} {args : Array Value} (h : ∀ w ∈ lw_tbl, w.before args s = true) : zT s := by
  intro w hw a
  have h0 := h w hw.1
  rcases hw.2 with g | ⟨a1, i, b, n, d, ho, rfl⟩ | ⟨a1, i, x, ho, rfl⟩ | ⟨C, rfl⟩
  · exact word_at (State.WarmedH.refl s) g h0
  · exact va_Nw.use rfl (va_Nw.of rfl h0)
  · exact va_Nw.use rfl (va_Nw.of rfl h0)
  · exact va_AO.use (va_AO.of h0)
def zK (E : zE) (U : State) : Prop := va_K E.1 vwCl [(E.2.1, .int), (E.2.2.1, .boolean), (E.2.2.2, .object RX1)] U ∧ zT U
theorem zK.warm {E : zE} {s U : State} (hW : s.WarmedH U.vm) (h : zK E s) : zK E U := ⟨va_K.moved hW.alike h.1, zT.warm hW h.2⟩
theorem zK.calling {E : zE} {U : State} {g : JFrame} {mk : MethodId} {a : Array Value} (h : zK E U) : zK E (U.calling g mk a) := ⟨va_K.moved (u := U) (U := U.calling g mk a) (Vm.Alike.refl U.vm) h.1, zT.calling h.2⟩
/-- a method's start -/
def zPre (E : zE) (as : List Value) (ws : va_W) (sz : Nat) : Array Value → State → Prop := va_Pc as (fun U => U.heap.size = sz ∧ va_P E.1 vwCl ws U.heap ∧ zK E U ∧ va_D (fun _ => True) ws)
/-- its end -/
def zQ (E : zE) (o : Option Int32) (ws' : va_W) (A : Nat → Prop) : Array Value → State → Outcome → State → Prop := fun _ st oc t => oc = .returned (o.map Value.int) ∧ va_P E.1 vwCl ws' t.heap ∧ va_D A ws' ∧ va_F A st t
/-- a method's contract: from the cells ws it comes to the cells ws', and answers o -/
def zM (E : zE) (l : Launch) (y : MethodName) (wd : List Cond) (rm : Room) (as : List Value) (ws : va_W) (o : Option Int32) (ws' : va_W) : Prop := ∀ sz : Nat, Met l y wd rm (zPre E as ws sz) (zQ E o ws' (va_A ws sz)) 0 0 (va_A ws sz)
theorem zPre.blind {E : zE} {as : List Value} {ws : va_W} {sz : Nat} : FrameBlind (zPre E as ws sz) := fun a U g mk q => by
  obtain ⟨q0, q1, qP, qK, qD⟩ := q
  exact ⟨q0, q1, qP, zK.calling qK, qD⟩
section ZI
variable {E : zE} {l : Launch} {y : MethodName} {rm : Room} {as : List Value} {ws ws' : va_W} {cc : ByteArray} {nL : Nat}
/-- what a walk has at its beginning -/
theorem zM_int {r : Int32} {ty : FieldType} (hy : plainName y.cls = true) (hlen : (lg_sl as).length ≤ nL)
    (body : ∀ (p : Program) (e : Env) (R : Room) (s : State) (m : MethodId) (args : Array Value) (below : List Frame) (meth : Method) (c : Code) (A : Nat → Prop) (Q : State → Prop) (ls : Array Slot),
      rm.frames ≤ R.frames → rm.locals ≤ R.locals → p.tables.exec = Jvm.exec → c.code = cc → c.maxLocals = nL → s.vm.findClass y.cls = some m.cls → zK E s →
      (∀ q, s.heap.size ≤ q → A q) → va_P E.1 vwCl ws s.heap → va_D A ws → va_S A s.heap s.heap [] → lv_has ls nL (lv_args 0 as) →
      (∀ (H : Heap) (locs : List Loc) (pc : Nat) (ls : Array Slot), narrow ty (.int r) = .int r → decode cc pc = .ok (.ireturn, 1) → va_P E.1 vwCl ws' H → va_D A ws' → va_S A s.heap H locs → W p l e R s m args below meth c H locs 0 0 Q (F0 m pc ls [.int r])) →
      W p l e R s m args below meth c s.heap [] 0 0 Q (F0 m 0 ls [])) : zM E l y [.code y cc nL (some ty)] rm as ws (some r) ws' := by
  intro sz
  refine Met.ofW (cc := cc) (maxL := nL) (ret := some ty) hy rfl ?_
  intro p e s m args below meth c s₁ B hml hv
  obtain ⟨rfl, hsz, hP, hK, hD0⟩ := hv
  have hown : s.vm.findClass y.cls = some m.cls := findClass_of_methodNamed B.named
  have hlocks := B.notSynchronized
  subst hsz
  have hD := hD0.self (sz := s.heap.size)
  have hl := lv_entry as (n := nL) hlen
  rw [lg_entry_eq]
  refine body p e (headSpec _ rm).room s m as.toArray below meth c (va_A ws s.heap.size) _ _ (Nat.le_refl _) (Nat.le_refl _) B.exec B.bytes hml hown hK (fun q h => Or.inr h) hP hD va_S.rf hl ?_
  intro H locs pc ls hn hd hP1 hD1 hS1
  exact W.zret (v := r) B.exec B.bytes B.returns hn (fun t ht hW => ⟨rfl, by rw [ht]; exact hP1, hD1, hS1.F ht⟩) hS1.2.2 hd hlocks
theorem zM_void (hy : plainName y.cls = true) (hlen : (lg_sl as).length ≤ nL)
    (body : ∀ (p : Program) (e : Env) (R : Room) (s : State) (m : MethodId) (args : Array Value) (below : List Frame) (meth : Method) (c : Code) (A : Nat → Prop) (Q : State → Prop) (ls : Array Slot),
      rm.frames ≤ R.frames → rm.locals ≤ R.locals → p.tables.exec = Jvm.exec → c.code = cc → c.maxLocals = nL → s.vm.findClass y.cls = some m.cls → zK E s →
      (∀ q, s.heap.size ≤ q → A q) → va_P E.1 vwCl ws s.heap → va_D A ws → va_S A s.heap s.heap [] → lv_has ls nL (lv_args 0 as) →
      (∀ (H : Heap) (locs : List Loc) (pc : Nat) (ls : Array Slot), decode cc pc = .ok (.return_, 1) → va_P E.1 vwCl ws' H → va_D A ws' → va_S A s.heap H locs → W p l e R s m args below meth c H locs 0 0 Q (F0 m pc ls [])) →
      W p l e R s m args below meth c s.heap [] 0 0 Q (F0 m 0 ls [])) : zM E l y [.code y cc nL none] rm as ws none ws' := by
  intro sz
  refine Met.ofW (cc := cc) (maxL := nL) (ret := none) hy rfl ?_
  intro p e s m args below meth c s₁ B hml hv
  obtain ⟨rfl, hsz, hP, hK, hD0⟩ := hv
  have hown : s.vm.findClass y.cls = some m.cls := findClass_of_methodNamed B.named
  have hlocks := B.notSynchronized
  subst hsz
  have hD := hD0.self (sz := s.heap.size)
  have hl := lv_entry as (n := nL) hlen
  rw [lg_entry_eq]
  refine body p e (headSpec _ rm).room s m as.toArray below meth c (va_A ws s.heap.size) _ _ (Nat.le_refl _) (Nat.le_refl _) B.exec B.bytes hml hown hK (fun q h => Or.inr h) hP hD va_S.rf hl ?_
  intro H locs pc ls hd hP1 hD1 hS1
  exact W.vret B.exec B.bytes B.returns (fun t ht hW => ⟨rfl, by rw [ht]; exact hP1, hD1, hS1.F ht⟩) hS1.2.2 hd hlocks
end ZI
theorem z_nd : ∀ (is : List Nat), is.Nodup → va_nd is = true
  | [], _ => rfl
  | a :: l, h => by
    have h1 := List.nodup_cons.mp h
    simp only [va_nd, Bool.and_eq_true, decide_eq_true_eq]
    exact ⟨h1.1, z_nd l h1.2⟩
section ZG
variable {own C : String} {index maxL : Nat} {y : MethodName} {bytes : ByteArray} {ret : Option FieldType} {s : State} {args : Array Value}
theorem z_g1 : GoodIn [.code y bytes maxL ret] [.code y bytes maxL ret] := fun w h => ⟨h, by
  obtain rfl := List.mem_singleton.mp h
  exact Or.inl (by first | rfl | simp [Cond.onTables, Cond.keeps, Cond.steady])⟩
theorem z_w1 (hT : zT s) (h5 : zW (.code y bytes maxL ret)) : ∀ w ∈ ([.code y bytes maxL ret] : List Cond), w.before args s = true := fun w h => by
  obtain rfl := List.mem_singleton.mp h
  exact hT _ h5 _
theorem z_gV : GoodIn (wsV own index C y [.code y bytes maxL ret]) (wsV own index C y [.code y bytes maxL ret]) := fun w h => ⟨h, by
  simp only [wsV, List.cons_append, List.nil_append, List.mem_cons, List.not_mem_nil, or_false] at h
  rcases h with rfl | rfl | rfl | rfl | rfl <;> exact Or.inl (by first | rfl | simp [Cond.onTables, Cond.keeps, Cond.steady])⟩
theorem z_wV (hT : zT s) (h1 : zW (.methodLink own index y)) (h2 : zW (.instanceMethod y)) (h3 : zW (.selects C y y)) (h4 : zW (.initialized C)) (h5 : zW (.code y bytes maxL ret)) : ∀ w ∈ wsV own index C y [.code y bytes maxL ret], w.before args s = true := fun w h => by
  simp only [wsV, List.cons_append, List.nil_append, List.mem_cons, List.not_mem_nil, or_false] at h
  rcases h with rfl | rfl | rfl | rfl | rfl
  · exact hT _ h1 _
  · exact hT _ h2 _
  · exact hT _ h3 _
  · exact hT _ h4 _
  · exact hT _ h5 _
theorem z_gS : GoodIn (va_wsS own index y [.code y bytes maxL ret]) (va_wsS own index y [.code y bytes maxL ret]) := fun w h => ⟨h, by
  simp only [va_wsS, List.cons_append, List.nil_append, List.mem_cons, List.not_mem_nil, or_false] at h
  rcases h with rfl | rfl | rfl | rfl <;> exact Or.inl (by first | rfl | simp [Cond.onTables, Cond.keeps, Cond.steady])⟩
theorem z_wS (hT : zT s) (h1 : zW (.methodLink own index y)) (h2 : zW (.static y)) (h4 : zW (.initialized y.cls)) (h5 : zW (.code y bytes maxL ret)) : ∀ w ∈ va_wsS own index y [.code y bytes maxL ret], w.before args s = true := fun w h => by
  simp only [va_wsS, List.cons_append, List.nil_append, List.mem_cons, List.not_mem_nil, or_false] at h
  rcases h with rfl | rfl | rfl | rfl
  · exact hT _ h1 _
  · exact hT _ h2 _
  · exact hT _ h4 _
  · exact hT _ h5 _
end ZG
section ZC
variable {E : zE} {p : Program} {l : Launch} {e : Env} {R : Room} {s : State} {m : MethodId} {args : Array Value} {below : List Frame} {meth : Method} {c : Code} {H : Heap} {locs : List Loc} {cells slots : Nat} {Q : State → Prop}
variable {pc : Nat} {ls : Array Slot} {rest st0 As : List Value} {a : Array Value} {A : Nat → Prop} {o : Option Int32} {ws wc wc' wr : va_W}
/-- behind a call -/
theorem z_goes (hr : va_Run p l e R s m args below meth c H locs cells slots 0 0 (F0 m pc ls st0) rest (zQ E o wc' (va_A wc H.size) a) (va_A wc H.size)) (hP : va_P E.1 vwCl ws H) (hD : va_D A ws) (hS : va_S A s.heap H locs) (hA : ∀ q, s.heap.size ≤ q → A q)
    (isC isR : List Nat) (hC : isC.map (fun i => ws[i]?) = wc.map some) (hR : isR.map (fun i => ws[i]?) = wr.map some) (hn : va_nd isR = true) (hdis : ∀ i ∈ isR, i ∉ isC)
    (kk : ∀ (H1 : Heap) (locs1 : List Loc), va_P E.1 vwCl (wr ++ wc') H1 → va_D A (wr ++ wc') → va_S A s.heap H1 locs1 → W p l e R s m args below meth c H1 locs1 cells slots Q (F0 m (pc + 3) ls ((o.map Value.int).toList ++ rest))) : W p l e R s m args below meth c H locs cells slots Q (F0 m pc ls st0) := by
  have hF := va_free (wc := wc) hD hS hA isC hC
  intro T hT X
  obtain ⟨v, st₀, t, T', L, h0, X', hL, e1, e2, ⟨hv, hp, hd, hz, hk⟩, st⟩ := hr T hT X
  cases hv
  rw [h0] at hz hk
  obtain ⟨hP2, hD2⟩ := va_join (wr := wr) (w1 := wc') (H1 := T'.heap) hP hD isC isR hC hR hn hdis (fun q h1 h2 => by rw [e1]; exact hk q h1 h2) hF (by rw [e1]; exact hp) hd
  obtain ⟨t2, a1, b1⟩ := kk T'.heap (locs ++ L) hP2 hD2 ⟨Nat.le_trans hS.1 (by rw [e1]; exact hz), fun q h1 h2 => by rw [e1, hk q (Nat.lt_of_lt_of_le h1 hS.1) (fun z => h2 (hF q z))]; exact hS.2.1 q h1 h2, fun q hq => by
      rcases List.mem_append.mp hq with h | h
      · exact hS.2.2 q h
      · exact hF _ (hL q h)⟩ T' rfl X'
  exact ⟨t2, st t2 a1, b1⟩
variable {y : MethodName} {bytes cc : ByteArray} {maxL nL n index ci q0 b : Nat} {ret : Option FieldType} {rm : Room} {own C host : String} {T0 : u_T} {N : Nat} {fs : List Value}
theorem z_callV (hx : p.tables.exec = Jvm.exec) (hb : c.code = cc) (hml : c.maxLocals = nL) (hown : s.vm.findClass own = some m.cls) (hK : zK E s) (hA : ∀ q, s.heap.size ≤ q → A q) (hP : va_P E.1 vwCl ws H) (hD : va_D A ws) (hS : va_S A s.heap H locs) (hl : ls.size = nL) (hcs : cells ≤ R.cells ∧ slots ≤ R.slots)
    (hM : zM E l y [.code y bytes maxL ret] rm (.ref b :: As) wc o wc') (h1 : zW (.methodLink own index y)) (h2 : zW (.instanceMethod y)) (h3 : zW (.selects C y y)) (h4 : zW (.initialized C)) (h5 : zW (.code y bytes maxL ret)) (hd : y.cls = C ∧ y.cls ≠ "java/lang/invoke/MethodHandle" ∧ y.cls ≠ "java/lang/invoke/VarHandle" ∧ (parseMethodDescriptor y.desc).map (fun d => d.parameters.length) = some n) (hn : As.length = n)
    (hRm : rm.cells = 0 ∧ rm.slots = 0 ∧ rm.frames + 1 ≤ R.frames ∧ 8 + (maxL + 11) + rm.locals ≤ R.locals)
    (isC isR : List Nat) (hnc : va_nd isC = true) (hC : isC.map (fun i => ws[i]?) = wc.map some) (hR : isR.map (fun i => ws[i]?) = wr.map some) (hnr : va_nd isR = true) (hdis : ∀ i ∈ isR, i ∉ isC)
    (hcl : vwCl[ci]? = some (C, T0, N)) (hq : wc[q0]? = some (b, .inr (ci, fs))) (hst : st0 = As.reverse ++ .ref b :: rest) (hW : (rest.map fun v => v.category).sum ≤ 8) (hdg : decode cc pc = .ok (.invokevirtual index, 3))
    (kk : ∀ (H1 : Heap) (locs1 : List Loc), va_P E.1 vwCl (wr ++ wc') H1 → va_D A (wr ++ wc') → va_S A s.heap H1 locs1 → W p l e R s m args below meth c H1 locs1 cells slots Q (F0 m (pc + 3) ls ((o.map Value.int).toList ++ rest))) : W p l e R s m args below meth c H locs cells slots Q (F0 m pc ls st0) := by
  have hDc : va_D A wc := hD.sub isC hnc hC
  have hPc : va_P E.1 vwCl wc H := by
    refine hP.sub isC ?_
    have h1 : ∀ (is : List Nat) (w : va_W), is.map (fun i => ws[i]?) = w.map some → is.filterMap (fun i => ws[i]?) = w := by
      intro is
      induction is with
      | nil => intro w hw; cases w with
        | nil => rfl
        | cons x w => cases hw
      | cons i is ih => intro w hw; cases w with
        | nil => cases hw
        | cons x w =>
          have hw : (ws[i]? :: is.map (fun i => ws[i]?)) = (some x :: w.map some) := hw
          have h2 := List.cons.inj hw
          show (i :: is).filterMap (fun i => ws[i]?) = x :: w
          rw [List.filterMap_cons, h2.1]
          exact congrArg (fun z => x :: z) (ih w h2.2)
    exact h1 isC wc hC
  refine z_goes (a := (Value.ref b :: As).toArray) (va_runV (As := As) (rest := rest) (Ts := wsV own index C y [.code y bytes maxL ret]) (nL := nL) ⟨hx, hb, hml, hown, z_wV hK.2 h1 h2 h3 h4 h5⟩ (hM H.size) (cwV n (z_wV hK.2 h1 h2 h3 h4 h5) z_gV rfl hRm.1 hRm.2.1 hd hRm.2.2) ⟨zPre.blind, va_recv hK.1 hPc hcl hq, fun U hU hW => ⟨rfl, by rw [hU], by rw [hU]; exact hPc, zK.warm hW hK, hDc.weaken (fun _ _ _ _ => trivial)⟩⟩ rfl hn hl hst (lv_room hW) hdg hcs) hP hD hS hA isC isR hC hR hnr hdis kk
theorem z_callS (hx : p.tables.exec = Jvm.exec) (hb : c.code = cc) (hml : c.maxLocals = nL) (hown : s.vm.findClass own = some m.cls) (hK : zK E s) (hA : ∀ q, s.heap.size ≤ q → A q) (hP : va_P E.1 vwCl ws H) (hD : va_D A ws) (hS : va_S A s.heap H locs) (hl : ls.size = nL) (hcs : cells ≤ R.cells ∧ slots ≤ R.slots)
    (hM : zM E l y [.code y bytes maxL ret] rm As [] o []) (h1 : zW (.methodLink own index y)) (h2 : zW (.static y)) (h4 : zW (.initialized y.cls)) (h5 : zW (.code y bytes maxL ret)) (hd : y.cls ≠ "java/lang/invoke/MethodHandle" ∧ y.cls ≠ "java/lang/invoke/VarHandle" ∧ (parseMethodDescriptor y.desc).map (fun d => d.parameters.length) = some n) (hn : As.length = n)
    (hRm : rm.cells = 0 ∧ rm.slots = 0 ∧ rm.frames + 1 ≤ R.frames ∧ 8 + (maxL + 11) + rm.locals ≤ R.locals)
    (hst : st0 = As.reverse ++ rest) (hW : (rest.map fun v => v.category).sum ≤ 8) (hdg : decode cc pc = .ok (.invokestatic index, 3))
    (kk : ∀ (H1 : Heap) (locs1 : List Loc), va_P E.1 vwCl ws H1 → va_D A ws → va_S A s.heap H1 locs1 → W p l e R s m args below meth c H1 locs1 cells slots Q (F0 m (pc + 3) ls ((o.map Value.int).toList ++ rest))) : W p l e R s m args below meth c H locs cells slots Q (F0 m pc ls st0) := by
  have hn0 : va_P E.1 vwCl [] H := fun k q h => by simp at h
  have hd0 : va_D (fun _ => True) [] := ⟨fun i j p q h => by simp at h, fun k q h => by simp at h⟩
  have hid : ∀ (w : va_W), (List.range w.length).map (fun i => w[i]?) = w.map some := fun w => by
    apply List.ext_getElem?
    intro i
    simp only [List.getElem?_map, List.getElem?_range]
    by_cases h : i < w.length
    · simp [h]
    · simp [h]
  refine z_goes (wc := []) (wc' := []) (wr := ws) (a := As.toArray) (va_runS (As := As) (rest := rest) (Ts := va_wsS own index y [.code y bytes maxL ret]) (nL := nL) ⟨hx, hb, hml, hown, z_wS hK.2 h1 h2 h4 h5⟩ (hM H.size) (va_cwS n (z_wS hK.2 h1 h2 h4 h5) z_gS rfl hRm.1 hRm.2.1 hd hRm.2.2) ⟨zPre.blind, fun U hU hW => ⟨rfl, by rw [hU], by rw [hU]; exact hn0, zK.warm hW hK, hd0⟩⟩ rfl hn hl hst (lv_room hW) hdg hcs) hP hD hS hA [] (List.range ws.length) rfl (hid ws) (z_nd _ List.nodup_range) (fun _ _ h => by simp at h) (fun H1 locs1 h1 h2 h3 => kk H1 locs1 (by simpa using h1) (by simpa using h2) h3)
theorem z_callSW (hx : p.tables.exec = Jvm.exec) (hb : c.code = cc) (hml : c.maxLocals = nL) (hown : s.vm.findClass own = some m.cls) (hK : zK E s) (hA : ∀ q, s.heap.size ≤ q → A q) (hP : va_P E.1 vwCl ws H) (hD : va_D A ws) (hS : va_S A s.heap H locs) (hl : ls.size = nL) (hcs : cells ≤ R.cells ∧ slots ≤ R.slots)
    (hM : zM E l y [.code y bytes maxL ret] rm As wc o wc') (h1 : zW (.methodLink own index y)) (h2 : zW (.static y)) (h4 : zW (.initialized y.cls)) (h5 : zW (.code y bytes maxL ret)) (hd : y.cls ≠ "java/lang/invoke/MethodHandle" ∧ y.cls ≠ "java/lang/invoke/VarHandle" ∧ (parseMethodDescriptor y.desc).map (fun d => d.parameters.length) = some n) (hn : As.length = n)
    (hRm : rm.cells = 0 ∧ rm.slots = 0 ∧ rm.frames + 1 ≤ R.frames ∧ 8 + (maxL + 11) + rm.locals ≤ R.locals)
    (isC isR : List Nat) (hnc : va_nd isC = true) (hC : isC.map (fun i => ws[i]?) = wc.map some) (hC2 : isC.filterMap (fun i => ws[i]?) = wc) (hR : isR.map (fun i => ws[i]?) = wr.map some) (hnr : va_nd isR = true) (hdis : ∀ i ∈ isR, i ∉ isC)
    (hst : st0 = As.reverse ++ rest) (hW : (rest.map fun v => v.category).sum ≤ 8) (hdg : decode cc pc = .ok (.invokestatic index, 3))
    (kk : ∀ (H1 : Heap) (locs1 : List Loc), va_P E.1 vwCl (wr ++ wc') H1 → va_D A (wr ++ wc') → va_S A s.heap H1 locs1 → W p l e R s m args below meth c H1 locs1 cells slots Q (F0 m (pc + 3) ls ((o.map Value.int).toList ++ rest))) : W p l e R s m args below meth c H locs cells slots Q (F0 m pc ls st0) := by
  have hDc : va_D A wc := hD.sub isC hnc hC
  have hPc : va_P E.1 vwCl wc H := hP.sub isC hC2
  exact z_goes (a := As.toArray) (va_runS (As := As) (rest := rest) (Ts := va_wsS own index y [.code y bytes maxL ret]) (nL := nL) ⟨hx, hb, hml, hown, z_wS hK.2 h1 h2 h4 h5⟩ (hM H.size) (va_cwS n (z_wS hK.2 h1 h2 h4 h5) z_gS rfl hRm.1 hRm.2.1 hd hRm.2.2) ⟨zPre.blind, fun U hU hW => ⟨rfl, by rw [hU], by rw [hU]; exact hPc, zK.warm hW hK, hDc.weaken (fun _ _ _ _ => trivial)⟩⟩ rfl hn hl hst (lv_room hW) hdg hcs) hP hD hS hA isC isR hC hR hnr hdis kk
theorem z_callSN (hx : p.tables.exec = Jvm.exec) (hb : c.code = cc) (hml : c.maxLocals = nL) (hown : s.vm.findClass own = some m.cls) (hK : zK E s) (hA : ∀ q, s.heap.size ≤ q → A q) (hP : va_P E.1 vwCl ws H) (hD : va_D A ws) (hS : va_S A s.heap H locs) (hl : ls.size = nL) (hcs : cells ≤ R.cells ∧ slots ≤ R.slots)
    (hM : zM E l y [.code y bytes maxL ret] rm As [] o []) (h1 : zW (.methodLinkNest own index y host)) (h2 : zW (.static y)) (h4 : zW (.initialized y.cls)) (h5 : zW (.code y bytes maxL ret)) (hd : y.cls ≠ "java/lang/invoke/MethodHandle" ∧ y.cls ≠ "java/lang/invoke/VarHandle" ∧ (parseMethodDescriptor y.desc).map (fun d => d.parameters.length) = some n) (hn : As.length = n)
    (hRm : rm.cells = 0 ∧ rm.slots = 0 ∧ rm.frames + 1 ≤ R.frames ∧ 8 + (maxL + 11) + rm.locals ≤ R.locals)
    (hst : st0 = As.reverse ++ rest) (hW : (rest.map fun v => v.category).sum ≤ 8) (hdg : decode cc pc = .ok (.invokestatic index, 3))
    (kk : ∀ (H1 : Heap) (locs1 : List Loc), va_P E.1 vwCl ws H1 → va_D A ws → va_S A s.heap H1 locs1 → W p l e R s m args below meth c H1 locs1 cells slots Q (F0 m (pc + 3) ls ((o.map Value.int).toList ++ rest))) : W p l e R s m args below meth c H locs cells slots Q (F0 m pc ls st0) := by
  have hn0 : va_P E.1 vwCl [] H := fun k q h => by simp at h
  have hd0 : va_D (fun _ => True) [] := ⟨fun i j p q h => by simp at h, fun k q h => by simp at h⟩
  have hid : ∀ (w : va_W), (List.range w.length).map (fun i => w[i]?) = w.map some := fun w => by
    apply List.ext_getElem?
    intro i
    simp only [List.getElem?_map, List.getElem?_range]
    by_cases h : i < w.length
    · simp [h]
    · simp [h]
  refine z_goes (wc := []) (wc' := []) (wr := ws) (a := As.toArray) (va_runSN (As := As) (rest := rest) (Ts := [.code y bytes maxL ret]) (nL := nL) ⟨hx, hb, hml, hown, z_w1 hK.2 h5⟩ (hM H.size) ⟨va_cnB n (z_w1 hK.2 h5) z_g1 rfl hRm.1 hRm.2.1 (hK.2 _ h1 _) (hK.2 _ h4 _) hd hRm.2.2, hK.2 _ h2 _, trivial⟩ ⟨zPre.blind, fun U hU hW => ⟨rfl, by rw [hU], by rw [hU]; exact hn0, zK.warm hW hK, hd0⟩⟩ rfl hn hl hst (lv_room hW) hdg hcs) hP hD hS hA [] (List.range ws.length) rfl (hid ws) (z_nd _ List.nodup_range) (fun _ _ h => by simp at h) (fun H1 locs1 h1 h2 h3 => kk H1 locs1 (by simpa using h1) (by simpa using h2) h3)
end ZC
/-! contracts of methods that make cells: the new addresses are told -/
def zQx (E : zE) (o : Option Int32) (ws' : (Nat → Nat) → va_W) (A : Nat → Prop) : Array Value → State → Outcome → State → Prop := fun _ st oc t => oc = .returned (o.map Value.int) ∧ (∃ q : Nat → Nat, va_P E.1 vwCl (ws' q) t.heap ∧ va_D A (ws' q)) ∧ va_F A st t
def zMx (E : zE) (l : Launch) (y : MethodName) (wd : List Cond) (rm : Room) (as : List Value) (ws : va_W) (o : Option Int32) (ws' : (Nat → Nat) → va_W) (mc ms : Nat) : Prop := ∀ sz : Nat, Met l y wd rm (zPre E as ws sz) (zQx E o ws' (va_A ws sz)) mc ms (va_A ws sz)
def z_ix (l : List Nat) : Nat → Nat := fun k => l.getD k 0
section ZIX
variable {E : zE} {l : Launch} {y : MethodName} {rm : Room} {as : List Value} {ws : va_W} {ws' : (Nat → Nat) → va_W} {cc : ByteArray} {nL mc ms : Nat}
theorem zMx_void (hy : plainName y.cls = true) (hlen : (lg_sl as).length ≤ nL)
    (body : ∀ (p : Program) (e : Env) (R : Room) (s : State) (m : MethodId) (args : Array Value) (below : List Frame) (meth : Method) (c : Code) (A : Nat → Prop) (Q : State → Prop) (ls : Array Slot),
      rm.frames ≤ R.frames → rm.locals ≤ R.locals → rm.cells ≤ R.cells → rm.slots ≤ R.slots → meth.name = y.name → p.tables.exec = Jvm.exec → c.code = cc → c.maxLocals = nL → s.vm.findClass y.cls = some m.cls → zK E s →
      (∀ q, s.heap.size ≤ q → A q) → va_P E.1 vwCl ws s.heap → va_D A ws → va_S A s.heap s.heap [] → lv_has ls nL (lv_args 0 as) →
      (∀ (q : Nat → Nat) (H : Heap) (locs : List Loc) (pc : Nat) (ls : Array Slot), decode cc pc = .ok (.return_, 1) → va_P E.1 vwCl (ws' q) H → va_D A (ws' q) → va_S A s.heap H locs → W p l e R s m args below meth c H locs mc ms Q (F0 m pc ls [])) →
      W p l e R s m args below meth c s.heap [] 0 0 Q (F0 m 0 ls [])) : zMx E l y [.code y cc nL none] rm as ws none ws' mc ms := by
  intro sz
  refine Met.ofW (cc := cc) (maxL := nL) (ret := none) hy rfl ?_
  intro p e s m args below meth c s₁ B hml hv
  obtain ⟨rfl, hsz, hP, hK, hD0⟩ := hv
  have hown : s.vm.findClass y.cls = some m.cls := findClass_of_methodNamed B.named
  have hlocks := B.notSynchronized
  subst hsz
  have hD := hD0.self (sz := s.heap.size)
  have hl := lv_entry as (n := nL) hlen
  rw [lg_entry_eq]
  refine body p e (headSpec _ rm).room s m as.toArray below meth c (va_A ws s.heap.size) _ _ (Nat.le_refl _) (Nat.le_refl _) (Nat.le_refl _) (Nat.le_refl _) (name_of_methodNamed B.named B.method).1 B.exec B.bytes hml hown hK (fun q h => Or.inr h) hP hD va_S.rf hl ?_
  intro q H locs pc ls hd hP1 hD1 hS1
  exact W.vret B.exec B.bytes B.returns (fun t ht hW => ⟨rfl, ⟨q, by rw [ht]; exact hP1, hD1⟩, hS1.F ht⟩) hS1.2.2 hd hlocks
theorem zMx_int {r : Int32} (hy : plainName y.cls = true) (hlen : (lg_sl as).length ≤ nL)
    (body : ∀ (p : Program) (e : Env) (R : Room) (s : State) (m : MethodId) (args : Array Value) (below : List Frame) (meth : Method) (c : Code) (A : Nat → Prop) (Q : State → Prop) (ls : Array Slot),
      rm.frames ≤ R.frames → rm.locals ≤ R.locals → rm.cells ≤ R.cells → rm.slots ≤ R.slots → p.tables.exec = Jvm.exec → c.code = cc → c.maxLocals = nL → s.vm.findClass y.cls = some m.cls → zK E s →
      (∀ q, s.heap.size ≤ q → A q) → va_P E.1 vwCl ws s.heap → va_D A ws → va_S A s.heap s.heap [] → lv_has ls nL (lv_args 0 as) →
      (∀ (q : Nat → Nat) (H : Heap) (locs : List Loc) (pc : Nat) (ls : Array Slot), decode cc pc = .ok (.ireturn, 1) → va_P E.1 vwCl (ws' q) H → va_D A (ws' q) → va_S A s.heap H locs → W p l e R s m args below meth c H locs mc ms Q (F0 m pc ls [.int r])) →
      W p l e R s m args below meth c s.heap [] 0 0 Q (F0 m 0 ls [])) : zMx E l y [.code y cc nL (some .int)] rm as ws (some r) ws' mc ms := by
  intro sz
  refine Met.ofW (cc := cc) (maxL := nL) (ret := some .int) hy rfl ?_
  intro p e s m args below meth c s₁ B hml hv
  obtain ⟨rfl, hsz, hP, hK, hD0⟩ := hv
  have hown : s.vm.findClass y.cls = some m.cls := findClass_of_methodNamed B.named
  have hlocks := B.notSynchronized
  subst hsz
  have hD := hD0.self (sz := s.heap.size)
  have hl := lv_entry as (n := nL) hlen
  rw [lg_entry_eq]
  refine body p e (headSpec _ rm).room s m as.toArray below meth c (va_A ws s.heap.size) _ _ (Nat.le_refl _) (Nat.le_refl _) (Nat.le_refl _) (Nat.le_refl _) B.exec B.bytes hml hown hK (fun q h => Or.inr h) hP hD va_S.rf hl ?_
  intro q H locs pc ls hd hP1 hD1 hS1
  exact W.iret (v := r) B.exec B.bytes B.returns (fun t ht hW => ⟨rfl, ⟨q, by rw [ht]; exact hP1, hD1⟩, hS1.F ht⟩) hS1.2.2 hd hlocks
end ZIX
section ZCX
variable {E : zE} {p : Program} {l : Launch} {e : Env} {R : Room} {s : State} {m : MethodId} {args : Array Value} {below : List Frame} {meth : Method} {c : Code} {H : Heap} {locs : List Loc} {cells slots mc ms : Nat} {Q : State → Prop}
variable {pc : Nat} {ls : Array Slot} {rest st0 As : List Value} {a : Array Value} {A : Nat → Prop} {o : Option Int32} {ws wc wr : va_W} {wc' : (Nat → Nat) → va_W}
theorem z_goesx (hr : va_Run p l e R s m args below meth c H locs cells slots mc ms (F0 m pc ls st0) rest (zQx E o wc' (va_A wc H.size) a) (va_A wc H.size)) (hP : va_P E.1 vwCl ws H) (hD : va_D A ws) (hS : va_S A s.heap H locs) (hA : ∀ q, s.heap.size ≤ q → A q)
    (isC isR : List Nat) (hC : isC.map (fun i => ws[i]?) = wc.map some) (hR : isR.map (fun i => ws[i]?) = wr.map some) (hn : va_nd isR = true) (hdis : ∀ i ∈ isR, i ∉ isC)
    (kk : ∀ (q : Nat → Nat) (H1 : Heap) (locs1 : List Loc), va_P E.1 vwCl (wr ++ wc' q) H1 → va_D A (wr ++ wc' q) → va_S A s.heap H1 locs1 → W p l e R s m args below meth c H1 locs1 (cells + mc) (slots + ms) Q (F0 m (pc + 3) ls ((o.map Value.int).toList ++ rest))) : W p l e R s m args below meth c H locs cells slots Q (F0 m pc ls st0) := by
  have hF := va_free (wc := wc) hD hS hA isC hC
  intro T hT X
  obtain ⟨v, st₀, t, T', L, h0, X', hL, e1, e2, ⟨hv, ⟨q, hp, hd⟩, hz, hk⟩, st⟩ := hr T hT X
  cases hv
  rw [h0] at hz hk
  obtain ⟨hP2, hD2⟩ := va_join (wr := wr) (w1 := wc' q) (H1 := T'.heap) hP hD isC isR hC hR hn hdis (fun q h1 h2 => by rw [e1]; exact hk q h1 h2) hF (by rw [e1]; exact hp) hd
  obtain ⟨t2, a1, b1⟩ := kk q T'.heap (locs ++ L) hP2 hD2 ⟨Nat.le_trans hS.1 (by rw [e1]; exact hz), fun q h1 h2 => by rw [e1, hk q (Nat.lt_of_lt_of_le h1 hS.1) (fun z => h2 (hF q z))]; exact hS.2.1 q h1 h2, fun q hq => by
      rcases List.mem_append.mp hq with h | h
      · exact hS.2.2 q h
      · exact hF _ (hL q h)⟩ T' rfl X'
  exact ⟨t2, st t2 a1, b1⟩
variable {y : MethodName} {bytes cc : ByteArray} {maxL nL n index ci q0 b : Nat} {ret : Option FieldType} {rm : Room} {own C host : String} {T0 : u_T} {N : Nat} {fs : List Value}
theorem z_callVx (hx : p.tables.exec = Jvm.exec) (hb : c.code = cc) (hml : c.maxLocals = nL) (hown : s.vm.findClass own = some m.cls) (hK : zK E s) (hA : ∀ q, s.heap.size ≤ q → A q) (hP : va_P E.1 vwCl ws H) (hD : va_D A ws) (hS : va_S A s.heap H locs) (hl : ls.size = nL) (hcs : cells + mc ≤ R.cells ∧ slots + ms ≤ R.slots)
    (hM : zMx E l y [.code y bytes maxL ret] rm (.ref b :: As) wc o wc' mc ms) (h1 : zW (.methodLink own index y)) (h2 : zW (.instanceMethod y)) (h3 : zW (.selects C y y)) (h4 : zW (.initialized C)) (h5 : zW (.code y bytes maxL ret)) (hd : y.cls = C ∧ y.cls ≠ "java/lang/invoke/MethodHandle" ∧ y.cls ≠ "java/lang/invoke/VarHandle" ∧ (parseMethodDescriptor y.desc).map (fun d => d.parameters.length) = some n) (hn : As.length = n)
    (hRm : rm.cells = mc ∧ rm.slots = ms ∧ rm.frames + 1 ≤ R.frames ∧ 8 + (maxL + 11) + rm.locals ≤ R.locals)
    (isC isR : List Nat) (hnc : va_nd isC = true) (hC : isC.map (fun i => ws[i]?) = wc.map some) (hC2 : isC.filterMap (fun i => ws[i]?) = wc) (hR : isR.map (fun i => ws[i]?) = wr.map some) (hnr : va_nd isR = true) (hdis : ∀ i ∈ isR, i ∉ isC)
    (hcl : vwCl[ci]? = some (C, T0, N)) (hq : wc[q0]? = some (b, .inr (ci, fs))) (hst : st0 = As.reverse ++ .ref b :: rest) (hW : (rest.map fun v => v.category).sum ≤ 8) (hdg : decode cc pc = .ok (.invokevirtual index, 3))
    (kk : ∀ (q : Nat → Nat) (H1 : Heap) (locs1 : List Loc), va_P E.1 vwCl (wr ++ wc' q) H1 → va_D A (wr ++ wc' q) → va_S A s.heap H1 locs1 → W p l e R s m args below meth c H1 locs1 (cells + mc) (slots + ms) Q (F0 m (pc + 3) ls ((o.map Value.int).toList ++ rest))) : W p l e R s m args below meth c H locs cells slots Q (F0 m pc ls st0) := by
  have hDc : va_D A wc := hD.sub isC hnc hC
  have hPc : va_P E.1 vwCl wc H := hP.sub isC hC2
  exact z_goesx (a := (Value.ref b :: As).toArray) (va_runV (As := As) (rest := rest) (Ts := wsV own index C y [.code y bytes maxL ret]) (nL := nL) ⟨hx, hb, hml, hown, z_wV hK.2 h1 h2 h3 h4 h5⟩ (hM H.size) (cwV n (z_wV hK.2 h1 h2 h3 h4 h5) z_gV rfl hRm.1 hRm.2.1 hd hRm.2.2) ⟨zPre.blind, va_recv hK.1 hPc hcl hq, fun U hU hW => ⟨rfl, by rw [hU], by rw [hU]; exact hPc, zK.warm hW hK, hDc.weaken (fun _ _ _ _ => trivial)⟩⟩ rfl hn hl hst (lv_room hW) hdg hcs) hP hD hS hA isC isR hC hR hnr hdis kk
theorem z_callIx (hx : p.tables.exec = Jvm.exec) (hb : c.code = cc) (hml : c.maxLocals = nL) (hown : s.vm.findClass own = some m.cls) (hK : zK E s) (hA : ∀ q, s.heap.size ≤ q → A q) (hP : va_P E.1 vwCl ws H) (hD : va_D A ws) (hS : va_S A s.heap H locs) (hl : ls.size = nL) (hcs : cells + mc ≤ R.cells ∧ slots + ms ≤ R.slots)
    (hM : zMx E l y [.code y bytes maxL none] rm (.ref b :: As) wc o wc' mc ms) (h1 : zW (.methodLink own index y)) (h2 : zW (.instanceMethod y)) (h4 : zW (.initialized y.cls)) (h5 : zW (.code y bytes maxL none)) (hy1 : y.name = "<init>") (hd : y.cls ≠ "java/lang/invoke/MethodHandle" ∧ y.cls ≠ "java/lang/invoke/VarHandle" ∧ (parseMethodDescriptor y.desc).map (fun d => d.parameters.length) = some n) (hn : As.length = n)
    (hRm : rm.cells = mc ∧ rm.slots = ms ∧ rm.frames + 1 ≤ R.frames ∧ 8 + (maxL + 11) + rm.locals ≤ R.locals)
    (isC isR : List Nat) (hnc : va_nd isC = true) (hC : isC.map (fun i => ws[i]?) = wc.map some) (hC2 : isC.filterMap (fun i => ws[i]?) = wc) (hR : isR.map (fun i => ws[i]?) = wr.map some) (hnr : va_nd isR = true) (hdis : ∀ i ∈ isR, i ∉ isC)
    (hst : st0 = As.reverse ++ .ref b :: rest) (hW : (rest.map fun v => v.category).sum ≤ 8) (hdg : decode cc pc = .ok (.invokespecial index, 3))
    (kk : ∀ (q : Nat → Nat) (H1 : Heap) (locs1 : List Loc), va_P E.1 vwCl (wr ++ wc' q) H1 → va_D A (wr ++ wc' q) → va_S A s.heap H1 locs1 → W p l e R s m args below meth c H1 locs1 (cells + mc) (slots + ms) Q (F0 m (pc + 3) ls ((o.map Value.int).toList ++ rest))) : W p l e R s m args below meth c H locs cells slots Q (F0 m pc ls st0) := by
  have hDc : va_D A wc := hD.sub isC hnc hC
  have hPc : va_P E.1 vwCl wc H := hP.sub isC hC2
  exact z_goesx (a := (Value.ref b :: As).toArray) (va_runI (As := As) (rest := rest) (Ts := [.code y bytes maxL none]) (nL := nL) ⟨hx, hb, hml, hown, z_w1 hK.2 h5⟩ (hM H.size) (cwI n (z_w1 hK.2 h5) z_g1 rfl hRm.1 hRm.2.1 (hK.2 _ h4 _) (hK.2 _ h1 _) (hK.2 _ h2 _) hy1 hd hRm.2.2) ⟨zPre.blind, fun U hU hW => ⟨rfl, by rw [hU], by rw [hU]; exact hPc, zK.warm hW hK, hDc.weaken (fun _ _ _ _ => trivial)⟩⟩ rfl hn hl hst (lv_room hW) hdg hcs) hP hD hS hA isC isR hC hR hnr hdis kk
theorem z_callINx (hx : p.tables.exec = Jvm.exec) (hb : c.code = cc) (hml : c.maxLocals = nL) (hown : s.vm.findClass own = some m.cls) (hK : zK E s) (hA : ∀ q, s.heap.size ≤ q → A q) (hP : va_P E.1 vwCl ws H) (hD : va_D A ws) (hS : va_S A s.heap H locs) (hl : ls.size = nL) (hcs : cells + mc ≤ R.cells ∧ slots + ms ≤ R.slots)
    (hM : zMx E l y [.code y bytes maxL none] rm (.ref b :: As) wc o wc' mc ms) (h1 : zW (.methodLinkNest own index y host)) (h2 : zW (.instanceMethod y)) (h4 : zW (.initialized y.cls)) (h5 : zW (.code y bytes maxL none)) (hy1 : y.name = "<init>") (hd : y.cls ≠ "java/lang/invoke/MethodHandle" ∧ y.cls ≠ "java/lang/invoke/VarHandle" ∧ (parseMethodDescriptor y.desc).map (fun d => d.parameters.length) = some n) (hn : As.length = n)
    (hRm : rm.cells = mc ∧ rm.slots = ms ∧ rm.frames + 1 ≤ R.frames ∧ 8 + (maxL + 11) + rm.locals ≤ R.locals)
    (isC isR : List Nat) (hnc : va_nd isC = true) (hC : isC.map (fun i => ws[i]?) = wc.map some) (hC2 : isC.filterMap (fun i => ws[i]?) = wc) (hR : isR.map (fun i => ws[i]?) = wr.map some) (hnr : va_nd isR = true) (hdis : ∀ i ∈ isR, i ∉ isC)
    (hst : st0 = As.reverse ++ .ref b :: rest) (hW : (rest.map fun v => v.category).sum ≤ 8) (hdg : decode cc pc = .ok (.invokespecial index, 3))
    (kk : ∀ (q : Nat → Nat) (H1 : Heap) (locs1 : List Loc), va_P E.1 vwCl (wr ++ wc' q) H1 → va_D A (wr ++ wc' q) → va_S A s.heap H1 locs1 → W p l e R s m args below meth c H1 locs1 (cells + mc) (slots + ms) Q (F0 m (pc + 3) ls ((o.map Value.int).toList ++ rest))) : W p l e R s m args below meth c H locs cells slots Q (F0 m pc ls st0) := by
  have hDc : va_D A wc := hD.sub isC hnc hC
  have hPc : va_P E.1 vwCl wc H := hP.sub isC hC2
  exact z_goesx (a := (Value.ref b :: As).toArray) (va_runIN (As := As) (rest := rest) (Ts := [.code y bytes maxL none]) (nL := nL) ⟨hx, hb, hml, hown, z_w1 hK.2 h5⟩ (hM H.size) ⟨va_cnB n (z_w1 hK.2 h5) z_g1 rfl hRm.1 hRm.2.1 (hK.2 _ h1 _) (hK.2 _ h4 _) hd hRm.2.2, hy1, hK.2 _ h2 _⟩ ⟨zPre.blind, fun U hU hW => ⟨rfl, by rw [hU], by rw [hU]; exact hPc, zK.warm hW hK, hDc.weaken (fun _ _ _ _ => trivial)⟩⟩ rfl hn hl hst (lv_room hW) hdg hcs) hP hD hS hA isC isR hC hR hnr hdis kk
end ZCX
theorem z_cA {E : zE} {s : State} {cA : ClassId} (hK : zK E s) (h : va_K E.1 vwCl ([(E.2.1, .int), (E.2.2.1, .boolean), (E.2.2.2, .object RX1)] ++ [(cA, .int)]) s) : cA = E.2.1 := by
  have h1 : s.vm.findClass ("[" ++ FieldType.int.toString) = some cA := (h.2 3 _ rfl).2
  have h2 : s.vm.findClass ("[" ++ FieldType.int.toString) = some E.2.1 := (hK.1.2 0 _ rfl).2
  exact Option.some.inj (h1.symm.trans h2)
theorem z_cZ {E : zE} {s : State} {cA : ClassId} (hK : zK E s) (h : va_K E.1 vwCl ([(E.2.1, .int), (E.2.2.1, .boolean), (E.2.2.2, .object RX1)] ++ [(cA, .boolean)]) s) : cA = E.2.2.1 := by
  have h1 : s.vm.findClass ("[" ++ FieldType.boolean.toString) = some cA := (h.2 3 _ rfl).2
  have h2 : s.vm.findClass ("[" ++ FieldType.boolean.toString) = some E.2.2.1 := (hK.1.2 1 _ rfl).2
  exact Option.some.inj (h1.symm.trans h2)
theorem z_cP {E : zE} {s : State} {cA : ClassId} (hK : zK E s) (h : va_K E.1 vwCl ([(E.2.1, .int), (E.2.2.1, .boolean), (E.2.2.2, .object RX1)] ++ [(cA, .object RX1)]) s) : cA = E.2.2.2 := by
  obtain ⟨kA, comp, -, -, -, h1⟩ := (h.2 3 _ rfl).2
  obtain ⟨kA, comp, -, -, -, h2⟩ := (hK.1.2 2 _ rfl).2
  exact Option.some.inj (h1.symm.trans h2)
/-! the pure side: what a value of Option tells -/
theorem r_pos {α : Type} {c : Prop} [Decidable c] {a b r : α} (h : (if c then a else b) = r) (hc : c) : a = r := by rw [if_pos hc] at h; exact h
theorem r_neg {α : Type} {c : Prop} [Decidable c] {a b r : α} (h : (if c then a else b) = r) (hc : ¬ c) : b = r := by rw [if_neg hc] at h; exact h
def inb (i : Int32) (n : Nat) : Bool := decide (0 ≤ i.toInt ∧ i.toInt < n)
theorem r_in {α : Type} {i : Int32} {n : Nat} {a : Option α} {r : α} (h : (if inb i n = true then a else none) = some r) : vp_in i n ∧ a = some r := by
  by_cases hc : inb i n = true
  · rw [if_pos hc] at h
    exact ⟨vp_in_iff.mpr (of_decide_eq_true hc), h⟩
  · rw [if_neg hc] at h
    cases h
theorem r_nz {α : Type} {y : Int32} {a : Option α} {r : α} (h : (if y = 0 then none else a) = some r) : ¬ y = 0 ∧ a = some r := by
  by_cases hc : y = 0
  · rw [if_pos hc] at h
    cases h
  · rw [if_neg hc] at h
    exact ⟨hc, h⟩
theorem r_bo {α : Type} {y : Int32} {a : Option α} {r : α} (h : (if y &&& 1 = y then a else none) = some r) : narrow .boolean (.int y) = .int y ∧ a = some r := by
  by_cases hc : y &&& 1 = y
  · rw [if_pos hc] at h
    exact ⟨congrArg Value.int hc, h⟩
  · rw [if_neg hc] at h
    cases h
theorem r_bind {α β : Type} {o : Option α} {k : α → Option β} {r : β} (h : o.bind k = some r) : ∃ u, o = some u ∧ k u = some r := by
  cases o with
  | none => cases h
  | some u => exact ⟨u, rfl, h⟩
theorem zt_ne {x k : Int32} {z : Int} (hk : k.toInt = z) (h : ¬ x = k) : x.toInt ≠ z := fun e => h (Int32.toInt_inj.mp (e.trans hk.symm))
